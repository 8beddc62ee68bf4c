/-! arrive, idle, read -/
section
theorem i_vc_arrive {k : Nat} {u : SX} {v : SY} (I : i_Rel k u v) (hk : k + 3 ≤ 1540) (v1 : Int32) (v2 : Int32) : wpX_arrive (fun r u' => wpY_arrive (fun r' v' => r' = r ∧ i_Rel (k + 3) u' v') v v1 v2) u v1 v2 := by
  have I0 := I
  obtain ⟨kd, wd, wn, la, mq, lc, xo, xq, km, kl, ko, kq, ek, et, ev, ar, tk, ie, oc, rc, kt, ki, kc⟩ := u
  obtain ⟨kd', dd, pp, la', sz, co, va, b, cp⟩ := v
  obtain ⟨g1, g2, g3, g4, g5, dn, W, ln, an, n, r, n2, r2, e1, e2, e3, e4, e5, hr2, hS, hN, hK⟩ := I
  subst g1 g2 g3 g4 g5 e1 e2 e3 e4 e5
  unfold wpX_arrive wpY_arrive
  dsimp only
  by_cases a : v1 < 0
  · exact br_t a (br_t a ⟨rfl, I0⟩)
  · obtain ⟨cc, hcc, rfl⟩ := nI_of a
    by_cases c : cc < 768
    · have x1 : ¬ (768 : Int32) ≤ nI cc := nI_ge (b := 768) c (by decide)
      have x2 : ¬ (767 : Int32) < nI cc := nI_nlt (a := 767) (by omega) (by decide)
      by_cases d : v2 < (-50)
      · exact br_f a (br_f x1 (br_t d (br_f a (br_f x2 (br_t d ⟨rfl, I0⟩)))))
      · by_cases e : v2 ≤ 50
        · refine br_f a (br_f x1 (br_f d (br_t e ?_)))
          have q256 : nI cc / 256 = nI (cc / 256) := pk_div (d := 256) (by omega) (by omega) (by omega)
          have q64 : nI cc / 64 = nI (cc / 64) := pk_div (d := 64) (by omega) (by omega) (by omega)
          have r4 : nI (cc / 64) - nI (cc / 64) / 4 * 4 = nI (cc / 64 % 4) := pk_rem (d := 4) (by omega) (by omega) (by omega)
          have r64 : nI cc - nI (cc / 64) * 64 = nI (cc % 64) := by
            rw [← q64]
            exact pk_rem (d := 64) (by omega) (by omega) (by omega)
          have r256 : nI cc - nI (cc / 256) * 256 = nI (cc % 256) := by
            rw [← q256]
            exact pk_rem (d := 256) (by omega) (by omega) (by omega)
          have hs : cc / 256 < 3 := by omega
          have hS2 := hS
          obtain ⟨s1, s2, s3, s4, s5, s6, s7, s8, s9, s10, s11, s12⟩ := hS2
          generalize hsd : cc / 256 = s at *
          obtain ⟨has, has2⟩ := s11 s hs
          by_cases f : an s < 20
          · have y1 : nI (an s) < 20 := nI_lt (b := 20) f (by decide)
            have y2 : ¬ nI (an s) = 20 := fun z => by
              have := (nI_eq (b := 20) (by omega) (by decide)).mp z
              omega
            simp (disch := omega) only [forall_eq, vp_in_nI, nI_clamp, pk_us, pk_un, true_and, ix_a0, ix_a1, ix_a2, ix_a3, ix_a4, ix_a5, ix_a6, ix_n7, ix_m7, ix_p1104, ix_p1524, nI_add, ix_n20, ix_m20, q256, q64, r4, r64, r256, has]
            refine ⟨by decide, br_t y1 ⟨by decide, by decide, by decide, ?_⟩⟩
            refine br_f a (br_f x2 (br_f d (br_t e ?_)))
            refine ⟨by decide, br_f y2 ⟨by decide, ?_⟩⟩
            rw [Nat.mul_comm 20 s]
            refine ⟨rfl, rfl, rfl, rfl, rfl, dn, W, ln, fun x => if x = s then an s + 1 else an x, n, r, n2, r2, rfl, rfl, rfl, rfl, rfl, hr2, ⟨s1, s2, s3, s4, s5, s6, s7, s8, s9, s10, ?_, ?_⟩, ?_, ?_⟩
            · intro x hx
              dsimp only
              by_cases z : x = s
              · subst z
                rw [pk_us, if_pos rfl]
                exact ⟨rfl, by omega⟩
              · rw [pk_un z, if_neg z]
                exact s11 x hx
            · intro j
              by_cases z : j = s * 20 + an s
              · subst z
                rw [pk_us, pk_us, pk_us]
                exact ⟨cc % 256, by omega, rfl, congrArg nI (by omega), congrArg nI (by omega)⟩
              · rw [pk_un z, pk_un z, pk_un z]
                exact s12 j
            · refine rl_Na hN (fun x hx => ?_) (fun x hx i hi => pk_un ?_)
              · split
                · rename_i z
                  rw [z]
                  omega
                · omega
              · have := (s11 x hx).2
                intro z
                have : x = s := by omega
                subst this
                omega
            · refine rl_Na hK (fun x hx => ?_) (fun x hx i hi => pk_un ?_)
              · split
                · rename_i z
                  rw [z]
                  omega
                · omega
              · have := (s11 x hx).2
                intro z
                have : x = s := by omega
                subst this
                omega
          · have h20 : an s = 20 := by omega
            have y1 : ¬ nI (an s) < 20 := by rw [h20]; decide
            have y2 : nI (an s) = 20 := by rw [h20]; rfl
            simp (disch := omega) only [forall_eq, vp_in_nI, nI_clamp, pk_us, pk_un, true_and, ix_a0, ix_a1, ix_a2, ix_a3, ix_a4, ix_a5, ix_a6, ix_n7, ix_m7, ix_p1104, ix_p1524, nI_add, q256, has]
            refine ⟨by decide, br_f y1 ?_⟩
            refine br_f a (br_f x2 (br_f d (br_t e ?_)))
            exact ⟨by decide, br_t y2 I0⟩
        · exact br_f a (br_f x1 (br_f d (br_f e (br_f a (br_f x2 (br_f d (br_f e ⟨rfl, I0⟩)))))))
    · have x1 : (768 : Int32) ≤ nI cc := nI_le (a := 768) (by omega) hcc
      have x2 : (767 : Int32) < nI cc := nI_lt (a := 767) (by omega) hcc
      exact br_f a (br_t x1 (br_f a (br_t x2 ⟨rfl, I0⟩)))
theorem i_vc_read {k : Nat} {u : SX} {v : SY} (I : i_Rel k u v) (hk : k + 3 ≤ 1540) (v1 : Int32) : wpX_read (fun r u' => wpY_read (fun r' v' => r' = r ∧ i_Rel (k + 3) u' v') v v1) u v1 := by
  have I0 := I
  obtain ⟨kd, wd, wn, la, mq, lc, xo, xq, km, kl, ko, kq, ek, et, ev, ar, tk, ie, oc, rc, kt, ki, kc⟩ := u
  obtain ⟨kd', dd, pp, la', sz, co, va, b, cp⟩ := v
  obtain ⟨g1, g2, g3, g4, g5, dn, W, ln, an, n, r, n2, r2, e1, e2, e3, e4, e5, hr2, hS, hN, hK⟩ := I
  subst g1 g2 g3 g4 g5 e1 e2 e3 e4 e5
  rcases so_3 v1 with h | ⟨s, hs, rfl⟩
  · unfold wpX_read wpY_read
    dsimp only
    refine so_xb h ?_
    refine br_t rfl ?_
    refine so_yb h ?_
    exact br_f (by decide) ⟨rfl, I0⟩
  · have hN2 := hN
    obtain ⟨tn, sn, t1, _⟩ := hN2
    obtain ⟨f1, f2, f3, _⟩ := t1 s hs
    obtain ⟨has, has2⟩ := hS.2.2.2.2.2.2.2.2.2.2.1 s hs
    have hun : ar s - tk s = nI (an s - tn s) := by rw [has, f1, pk_sub f2]
    by_cases z : tk s = ar s
    · have ez : tn s = an s := by
        rw [f1, has] at z
        exact (nI_eq (by omega) (by omega)).mp z
      unfold wpX_read wpX_unread wpY_read
      dsimp only
      refine so_xg hs ?_
      refine br_f (by decide) ?_
      simp (disch := omega) only [forall_eq, vp_in_nI, nI_clamp, pk_us, pk_un, true_and, ix_a0, ix_a1, ix_a2, ix_a3, ix_a4, ix_a5, ix_a6, ix_n7, ix_m7, ix_p1104, ix_p1524, nI_add, hun]
      refine br_t (by rw [ez, Nat.sub_self]; rfl) ?_
      refine so_yg hs ?_
      refine br_t rfl ?_
      exact br_t (by rw [f3, has, ez]) I0
    · have ez : ¬ tn s = an s := by
        intro y
        exact z (by rw [f1, has, y])
      obtain ⟨oc', rc', b', mq', lc', n', r', q1, q2, q3, q4, q5⟩ := bo_read (km := km) (kl := kl) (ko := nI n2) (kq := nI r2) (ev := ev) (kt := kt) (ki := ki) (kc := kc) (cp := cp) hS hN hs z
      unfold wpX_read wpX_unread
      dsimp only
      refine so_xg hs ?_
      refine br_f (by decide) ?_
      simp (disch := omega) only [forall_eq, vp_in_nI, nI_clamp, pk_us, pk_un, true_and, ix_a0, ix_a1, ix_a2, ix_a3, ix_a4, ix_a5, ix_a6, ix_n7, ix_m7, ix_p1104, ix_p1524, nI_add, hun]
      refine br_f (nI_ne0 (by omega) (by omega)) (q4 _ ?_)
      dsimp only
      refine q5 _ ⟨rfl, ?_⟩
      exact ⟨rfl, rfl, rfl, rfl, rfl, dn, W, ln, an, n', r', n2, r2, rfl, rfl, rfl, rfl, rfl, by omega, hS, q1, rl_Nr hK hr2 q3⟩
theorem i_vc_idle {k : Nat} {u : SX} {v : SY} (I : i_Rel k u v) (hk : k + 3 ≤ 1540) (v1 : Int32) (v2 : Int32) : wpX_idle (fun r u' => wpY_idle (fun r' v' => r' = r ∧ i_Rel (k + 3) u' v') v v1 (lw_bz v2)) u v1 (lw_bz v2) := by
  have I0 := I
  obtain ⟨kd, wd, wn, la, mq, lc, xo, xq, km, kl, ko, kq, ek, et, ev, ar, tk, ie, oc, rc, kt, ki, kc⟩ := u
  obtain ⟨kd', dd, pp, la', sz, co, va, b, cp⟩ := v
  obtain ⟨g1, g2, g3, g4, g5, dn, W, ln, an, n, r, n2, r2, e1, e2, e3, e4, e5, hr2, hS, hN, hK⟩ := I
  subst g1 g2 g3 g4 g5 e1 e2 e3 e4 e5
  unfold wpX_idle wpY_idle
  dsimp only
  rcases so_3 v1 with h | ⟨s, hs, rfl⟩
  · refine so_xb h ?_
    refine br_t rfl ?_
    refine so_yb h ?_
    exact br_f (by decide) ⟨rfl, I0⟩
  · have h01 := lw_bz_01 v2
    generalize lw_bz v2 = w at *
    have hN2 : rl_N kd wd pp W et an tk (upd ie s w) oc rc mq lc n r (upd b (3 + s) w) := by
      have hN0 := hN
      obtain ⟨tn, sn, t1, ⟨t2, t3, t4, t5, t6⟩, t7, t8, t9, t10⟩ := hN0
      have hT := rl_T hS (fun s hs => (t1 s hs).2.1)
      have hsn := bo_sn t7 hS.2.1 t8 hT.1
      refine ⟨tn, sn, ?_, ⟨?_, t3, ?_, ?_, ?_⟩, rl_Bc t7 (by omega) (fun j h1 h2 => pk_un (by omega)), t8, t9, ?_⟩
      · intro x hx
        obtain ⟨f1, f2, f3, f4, f5, f6⟩ := t1 x hx
        refine ⟨f1, f2, ?_, ?_, ?_, ?_⟩
        · rw [pk_un (by omega)]; exact f3
        · by_cases z : x = s
          · subst z
            rw [pk_us, pk_us]
          · rw [pk_un (by omega), pk_un z]; exact f4
        · by_cases z : x = s
          · subst z
            rw [pk_us]; exact h01
          · rw [pk_un z]; exact f5
        · rw [pk_un (by omega)]; exact f6
      · rw [pk_un (by omega)]; exact t2
      · rw [pk_un (by omega)]; exact t4
      · rw [pk_un (by omega)]; exact t5
      · rw [pk_un (by omega)]; exact t6
      · rw [t10]
        exact (yr_c (fun j h1 h2 => pk_un (by omega))).symm
    obtain ⟨oc', rc', b', mq', n', r', z1, z2, z3, z4, z5, z6⟩ := bo_settle (wn := nI W) (km := km) (kl := kl) (ko := nI n2) (kq := nI r2) (ev := ev) (kt := kt) (ki := ki) (kc := kc) (cp := cp) hS hN2
    have hR : i_Rel (k + 3) (kd, wd, nI W, la, mq', lc, nI n', nI r', km, kl, nI n2, nI r2, ek, et, ev, ar, tk, upd ie s w, oc', rc', kt, ki, kc) (kd, wd, pp, la, ar, co, ev, b', cp) :=
      ⟨rfl, rfl, rfl, rfl, rfl, dn, W, ln, an, n', r', n2, r2, rfl, rfl, rfl, rfl, rfl, by omega, hS, z1, rl_Nr hK hr2 z3⟩
    refine so_xg hs ?_
    refine br_f (by decide) ?_
    simp (disch := omega) only [forall_eq, vp_in_nI, nI_clamp, pk_us, pk_un, true_and, ix_a0, ix_a1, ix_a2, ix_a3, ix_a4, ix_a5, ix_a6, ix_n7, ix_m7, ix_p1104, ix_p1524, nI_add]
    rw [kp_vb h01]
    refine z4 _ ?_
    dsimp only
    refine z5 _ ?_
    dsimp only
    refine so_yg hs ?_
    refine br_t rfl ?_
    rcases h01 with rfl | rfl
    · refine br_t rfl ?_
      unfold wY_idle_28
      simp (disch := omega) only [forall_eq, vp_in_nI, nI_clamp, pk_us, pk_un, true_and, ix_a0, ix_a1, ix_a2, ix_a3, ix_a4, ix_a5, ix_a6, ix_n7, ix_m7, ix_p1104, ix_p1524, nI_add, ix_p3]
      exact z6 _ ⟨rfl, hR⟩
    · refine br_f (by decide) ?_
      unfold wY_idle_28
      simp (disch := omega) only [forall_eq, vp_in_nI, nI_clamp, pk_us, pk_un, true_and, ix_a0, ix_a1, ix_a2, ix_a3, ix_a4, ix_a5, ix_a6, ix_n7, ix_m7, ix_p1104, ix_p1524, nI_add, ix_p3]
      exact z6 _ ⟨rfl, hR⟩
end
