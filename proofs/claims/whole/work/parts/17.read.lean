/-! both sides read an event -/
section
variable {kd wd wn la mq lc xo xq km kl ko kq : Int32} {ek et ev ar tk ie oc rc kt ki kc : Nat → Int32}
variable {pp : Int32} {co b cp : Nat → Int32} {dn W ln n r : Nat} {an : Nat → Nat}
theorem bo_read {s : Nat} (hS : rl_S kd wd pp la dn W ln an ek et ar co) (hN : rl_N kd wd pp W et an tk ie oc rc mq lc n r b) (hs : s < 3) (hne : ¬ tk s = ar s) :
    ∃ (oc' rc' b' : Nat → Int32) (mq' lc' : Int32) (n' r' : Nat), rl_N kd wd pp W et an (upd tk s (tk s + 1)) ie oc' rc' mq' lc' n' r' b' ∧ r ≤ r' ∧ (∀ j, j < r * 7 → rc' j = rc j) ∧
      (∀ post : SX → Prop, post (kd, wd, nI W, la, mq', lc', nI n', nI r', km, kl, ko, kq, ek, et, ev, ar, upd tk s (tk s + 1), ie, oc', rc', kt, ki, kc) → wpX_readNext post (kd, wd, nI W, la, mq, lc, nI n, nI r, km, kl, ko, kq, ek, et, ev, ar, tk, ie, oc, rc, kt, ki, kc) (nI s)) ∧
      (∀ post : Int32 → SY → Prop, post (nI r' - nI r) (kd, wd, pp, la, ar, co, ev, b', cp) → wpY_read post (kd, wd, pp, la, ar, co, ev, b, cp) (nI s)) := by
  have hS2 := hS
  obtain ⟨s1, s2, s3, s4, s5, s6, s7, s8, s9, s10, s11, s12⟩ := hS
  obtain ⟨tn, sn, t1, ⟨t2, t3, t4, t5, t6⟩, t7, t8, t9, t10⟩ := hN
  have hts := t1 s hs
  have has := s11 s hs
  have hlt : tn s < an s := by
    refine Nat.lt_of_le_of_ne hts.2.1 (fun z => hne ?_)
    rw [hts.1, has.1, z]
  have hT : tn 0 + tn 1 + tn 2 ≤ 59 := by
    have a0 := (t1 0 (by omega)).2.1
    have a1 := (t1 1 (by omega)).2.1
    have a2 := (t1 2 (by omega)).2.1
    have b0 := (s11 0 (by omega)).2
    have b1 := (s11 1 (by omega)).2
    have b2 := (s11 2 (by omega)).2
    have hs3 : s = 0 ∨ s = 1 ∨ s = 2 := by omega
    rcases hs3 with rfl | rfl | rfl <;> omega
  have hWT : W * (tn 0 + tn 1 + tn 2) ≤ 4 * 59 := Nat.mul_le_mul s7 hT
  have hsn := bo_sn t7 s2 t8 (by omega)
  have hwi : wd.toInt = (dn : Int) := by rw [s3, nI_toInt (by omega)]
  have hds := rl_ds (by omega) (by omega) t7
  obtain ⟨c, k1, k2, k3, k4⟩ := s12 (s * 20 + tn s)
  -- the new counts of what is read
  have htn : ∃ tn' : Nat → Nat, tn' s = tn s + 1 ∧ (∀ x, x ≠ s → tn' x = tn x) ∧ tn' 0 + tn' 1 + tn' 2 = tn 0 + tn 1 + tn 2 + 1 := by
    refine ⟨fun x => if x = s then tn s + 1 else tn x, if_pos rfl, fun x hx => if_neg hx, ?_⟩
    have hs3 : s = 0 ∨ s = 1 ∨ s = 2 := by omega
    rcases hs3 with rfl | rfl | rfl
    · show tn 0 + 1 + tn 1 + tn 2 = _
      omega
    · show tn 0 + (tn 1 + 1) + tn 2 = _
      omega
    · show tn 0 + tn 1 + (tn 2 + 1) = _
      omega
  obtain ⟨tn', n1, n2, n3⟩ := htn
  have hW1 : W * (tn' 0 + tn' 1 + tn' 2) = W * (tn 0 + tn 1 + tn 2) + W := by rw [n3, Nat.mul_add, Nat.mul_one]
  -- the component counts
  have hx : ∃ (oc1 : Nat → Int32) (n1 : Nat), (xr_L oc1 n1).Perm (rd_L kd wd pp mq (ev (s * 20 + tn s)) W (c / 64) (c % 64) dn (xr_L oc n)) ∧
      (∀ post : SX → Prop, (∀ u : SX, u = (kd, wd, nI W, la, mq, rd_t kd wd pp mq lc W (c / 64) (c % 64) dn (xr_L oc n), nI n1, nI r, km, kl, ko, kq, ek, et, ev, ar, upd tk s (tk s + 1), ie, oc1, rc, kt, ki, kc) → wX_readNext_77 post kd wd (nI W) la mq (rd_t kd wd pp mq lc W (c / 64) (c % 64) dn (xr_L oc n)) (nI n1) (nI r) km kl ko kq ek et ev ar (upd tk s (tk s + 1)) ie (oc1) rc kt ki kc) → wpX_readNext post (kd, wd, nI W, la, mq, lc, nI n, nI r, km, kl, ko, kq, ek, et, ev, ar, tk, ie, oc, rc, kt, ki, kc) (nI s)) := by
    have hgo : ∀ post : SX → Prop, ((kd = 2 → wpX_countForSession (fun u => match u with | (kd, wd, wn, la, mq, lc, xo, xq, km, kl, ko, kq, ek, et, ev, ar, tk, ie, oc, rc, kt, ki, kc) => wX_readNext_77 post kd wd wn la mq lc xo xq km kl ko kq ek et ev ar tk ie oc rc kt ki kc) (kd, wd, nI W, la, mq, lc, nI n, nI r, km, kl, ko, kq, ek, et, ev, ar, upd tk s (tk s + 1), ie, oc, rc, kt, ki, kc) (nI (c / 64)) (nI (c % 64)) (ev (s * 20 + tn s))) ∧ (¬ kd = 2 → wpX_countForWindows (fun u => match u with | (kd, wd, wn, la, mq, lc, xo, xq, km, kl, ko, kq, ek, et, ev, ar, tk, ie, oc, rc, kt, ki, kc) => wX_readNext_77 post kd wd wn la mq lc xo xq km kl ko kq ek et ev ar tk ie oc rc kt ki kc) (kd, wd, nI W, la, mq, lc, nI n, nI r, km, kl, ko, kq, ek, et, ev, ar, upd tk s (tk s + 1), ie, oc, rc, kt, ki, kc) (nI (c / 64)) (nI (c % 64)) (ev (s * 20 + tn s)))) → wpX_readNext post (kd, wd, nI W, la, mq, lc, nI n, nI r, km, kl, ko, kq, ek, et, ev, ar, tk, ie, oc, rc, kt, ki, kc) (nI s) := by
      intro post hp
      unfold wpX_readNext
      dsimp only
      have h20 : s * 20 + tn s < 60 := by omega
      simp (disch := omega) only [forall_eq, vp_in_nI, nI_clamp, pk_us, pk_un, true_and, ix_a0, ix_a1, ix_a2, ix_a3, ix_a4, ix_a5, ix_a6, ix_n7, ix_m7, ix_p1104, ix_p1524, nI_add, ix_n20, hts.1, k3, k4]
      rw [hts.1, nI_1] at hp
      exact hp
    by_cases z : kd = 2
    · obtain ⟨oc1, m1, q1, q2⟩ := xs_all (kd := kd) (wd := wd) (wn := nI W) (la := la) (mq := mq) (lc := lc) (xq := nI r) (km := km) (kl := kl) (ko := ko) (kq := kq) (ek := ek) (et := et) (ev := ev) (ar := ar) (tk := upd tk s (tk s + 1)) (ie := ie) (oc := oc) (rc := rc) (kt := kt) (ki := ki) (kc := kc) (n := n) (by omega) (nI (c / 64)) (nI (c % 64)) (ev (s * 20 + tn s))
      refine ⟨oc1, m1, ?_, fun post hp => hgo post (br_t z (q2 _ ?_))⟩
      · unfold rd_L
        rw [if_pos z]
        exact q1
      · have := hp _ rfl
        unfold rd_t at this
        rw [if_pos z] at this
        exact this
    · have hgo2 : ∀ (d p : Int32), d = nI dn → p = nI dn * nI W → ∃ (oc' : Nat → Int32) (n' : Nat), (xr_L oc' n').Perm (zl_L d p mq (ev (s * 20 + tn s)) (c % 64 / dn) W (c / 64) (xr_L oc n) W) ∧ ∀ post : SX → Prop, post (kd, d, nI W, la, mq, if zl_c d p mq (c % 64 / dn) W (c / 64) W = 0 then lc + 1 else lc, nI n', nI r, km, kl, ko, kq, ek, et, ev, ar, upd tk s (tk s + 1), ie, oc', rc, kt, ki, kc) → wpX_countForWindows post (kd, d, nI W, la, mq, lc, nI n, nI r, km, kl, ko, kq, ek, et, ev, ar, upd tk s (tk s + 1), ie, oc, rc, kt, ki, kc) (nI (c / 64)) (nI (c % 64)) (ev (s * 20 + tn s)) := by
        intro d p e1 e2
        subst e1 e2
        exact xw_all (tn := c % 64) s4 s5 s6 s7 (by omega) (by omega) (by omega) hds t7.1 (by omega)
      obtain ⟨oc1, m1, q1, q2⟩ := hgo2 wd pp s3 s8
      refine ⟨oc1, m1, ?_, fun post hp => hgo post (br_f z (q2 _ ?_))⟩
      · unfold rd_L
        rw [if_neg z]
        exact q1
      · have := hp _ rfl
        unfold rd_t at this
        rw [if_neg z] at this
        exact this
  obtain ⟨oc1, m1, x1, x2⟩ := hx
  -- the reference counts
  have hB0 : rl_B kd wd pp (upd b s (nI (tn s + 1))) sn (xr_L oc n) := rl_Bc t7 (by omega) (fun j h1 h2 => pk_un (by omega))
  have hy : ∃ (b1 : Nat → Int32) (sn' : Nat), (kd = 2 → (ys_L wd b1 sn').Perm (rd_L kd wd pp mq (ev (s * 20 + tn s)) W (c / 64) (c % 64) dn (ys_L wd (upd b s (nI (tn s + 1))) sn)) ∧ ∀ q, q < 272 → b1 (wy_a q) = 0) ∧ (¬ kd = 2 → (wy_L wd pp b1 272).Perm (rd_L kd wd pp mq (ev (s * 20 + tn s)) W (c / 64) (c % 64) dn (wy_L wd pp (upd b s (nI (tn s + 1))) 272)) ∧ sn' = 0 ∧ ∀ q, q < 272 → 0 ≤ b1 (wy_a q)) ∧ b1 12 = nI sn' ∧ b1 10 = rd_t kd wd pp mq lc W (c / 64) (c % 64) dn (xr_L oc n) ∧ (∀ j, j ≠ 10 → j ≠ 12 → (j < 16 ∨ 1524 ≤ j) → b1 j = upd b s (nI (tn s + 1)) j) ∧
      ∀ post : Int32 → SY → Prop, wY_read_111 post (nI s) (nI (c % 64)) kd (wd) pp la (ar) co (ev) (b1) cp → wpY_read post (kd, wd, pp, la, ar, co, ev, b, cp) (nI s) := by
    have hgo : ∀ post : Int32 → SY → Prop, ((kd = 2 → wpY_readIntoSessions (fun u => match u with | (kd, wd, pp, la, ar, co, ev, b, cp) => wY_read_111 post (nI s) (nI (c % 64)) kd (wd) pp la (ar) co (ev) b cp) (kd, wd, pp, la, ar, co, ev, upd b s (nI (tn s + 1)), cp) (nI (c % 64)) (nI (c / 64)) (ev (s * 20 + tn s))) ∧ (¬ kd = 2 → wpY_readIntoWindows (fun u => match u with | (kd, wd, pp, la, ar, co, ev, b, cp) => wY_read_111 post (nI s) (nI (c % 64)) kd (wd) pp la (ar) co (ev) b cp) (kd, wd, pp, la, ar, co, ev, upd b s (nI (tn s + 1)), cp) (nI (c % 64)) (nI (c / 64)) (ev (s * 20 + tn s)))) → wpY_read post (kd, wd, pp, la, ar, co, ev, b, cp) (nI s) := by
      intro post hp
      unfold wpY_read wpY_badSource
      dsimp only
      have h20 : 20 * s + tn s < 60 := by omega
      have hne2 : ¬ nI (tn s) = ar s := by rw [← hts.1]; exact hne
      refine br_f (nI_pos (by omega)) (br_t (nI_le (b := 2) (by omega) (by decide)) (br_t rfl ?_))
      have e64 : (64 : Int32) = nI 64 := rfl
      have ec : co (20 * s + tn s) = nI c := by rw [Nat.mul_comm 20 s]; exact k2
      have ed : nI c / 64 = nI (c / 64) := pk_div (d := 64) (by omega) (by omega) (by omega)
      have er : nI c - nI (c / 64) * 64 = nI (c % 64) := by
        rw [← ed]
        exact pk_rem (d := 64) (by omega) (by omega) (by omega)
      simp (disch := omega) only [forall_eq, vp_in_nI, nI_clamp, pk_us, pk_un, true_and, ix_a0, ix_a1, ix_a2, ix_a3, ix_a4, ix_a5, ix_a6, ix_n7, ix_m7, ix_p1104, ix_p1524, nI_add, ix_m20, hts.2.2.1, ec, ed, er]
      refine br_f hne2 ⟨by decide, by decide, ?_⟩
      rw [show 20 * s + tn s = s * 20 + tn s from by omega]
      exact hp
    have e9 : upd b s (nI (tn s + 1)) 9 = mq := by rw [pk_un (by omega)]; exact t2
    have e10 : upd b s (nI (tn s + 1)) 10 = lc := by rw [pk_un (by omega)]; exact t4
    have e12 : upd b s (nI (tn s + 1)) 12 = nI sn := by rw [pk_un (by omega)]; exact t6
    by_cases z : kd = 2
    · obtain ⟨c1, c2, c3, c4⟩ := hB0.2.1 z
      obtain ⟨b1, sn', y1, y2, y3, y4, y5⟩ := ys_all (kd := kd) (dd := wd) (pp := pp) (la := la) (sz := ar) (co := co) (va := ev) (cp := cp) (b := upd b s (nI (tn s + 1))) (n := sn) (k := nI (c / 64)) (t := nI (c % 64)) (v := ev (s * 20 + tn s)) (by rw [nI_toInt (by omega)]; omega) (by rw [nI_toInt (by omega)]; omega) (by omega) (by omega) (by omega) (by rw [nI_toInt (by omega)]; omega) (by rw [nI_toInt (by omega)]; omega) e12 (fun q hq => c4 q (c1.mem_iff.mpr hq)) (fun q hq => hB0.1 q (c1.mem_iff.mpr hq)) (by rw [← ro_cs_p c1]; omega)
      rw [e9] at y2 y3
      rw [e10] at y3
      refine ⟨b1, sn', fun _ => ⟨?_, fun q hq => ?_⟩, fun y => absurd z y, y1, ?_, fun j h1 h2 h3 => y4 j h1 h2 (by omega), fun post hp => hgo post (br_t z (y5 _ hp))⟩
      · unfold rd_L
        rw [if_pos z]
        exact y2
      · have := wy_lt hq
        rw [y4 _ (by omega) (by omega) (by omega)]
        exact c2 q hq
      · rw [rd_tp c1, y3]
        unfold rd_t
        rw [if_pos z]
    · obtain ⟨c1, c2, c3⟩ := hB0.2.2 z
      have hgo2 : ∀ (d p : Int32), d = nI dn → p = nI dn * nI W → ro_cs (wy_L d p (upd b s (nI (tn s + 1))) 272) ≤ 240 → ∃ b' : Nat → Int32, (wy_L d p b' 272).Perm (zl_L d p (upd b s (nI (tn s + 1)) 9) (ev (s * 20 + tn s)) (c % 64 / dn) W (c / 64) (wy_L d p (upd b s (nI (tn s + 1))) 272) W) ∧ (∀ q, q < 272 → 0 ≤ b' (wy_a q)) ∧ b' 10 = (if zl_c d p (upd b s (nI (tn s + 1)) 9) (c % 64 / dn) W (c / 64) W = 0 then upd b s (nI (tn s + 1)) 10 + 1 else upd b s (nI (tn s + 1)) 10) ∧ (∀ j, j ≠ 10 → (j < 16 ∨ 1104 ≤ j) → b' j = upd b s (nI (tn s + 1)) j) ∧ ∀ post : SY → Prop, post (kd, d, p, la, ar, co, ev, b', cp) → wpY_readIntoWindows post (kd, d, p, la, ar, co, ev, upd b s (nI (tn s + 1)), cp) (nI (c % 64)) (nI (c / 64)) (ev (s * 20 + tn s)) := by
        intro d p q1 q2
        subst q1 q2
        exact fun hq => yw_all (tn := c % 64) s4 s5 s6 s7 (by omega) (by omega) c3 hq
      obtain ⟨b1, y1, y2, y3, y4, y5⟩ := hgo2 wd pp s3 s8 (by rw [← ro_cs_p c1]; omega)
      rw [e9] at y1 y3
      rw [e10] at y3
      refine ⟨b1, sn, fun y => absurd y z, fun _ => ⟨?_, c2, y2⟩, ?_, ?_, fun j h1 h2 h3 => y4 j h1 (by omega), fun post hp => hgo post (br_f z (y5 _ hp))⟩
      · unfold rd_L
        rw [if_neg z]
        exact y1
      · rw [y4 12 (by omega) (by omega)]
        exact e12
      · rw [y3]
        unfold rd_t
        rw [if_neg z]
  obtain ⟨b1, sn', y1, y2, y3, y4, y5, y6⟩ := hy
  obtain ⟨v1, v2, v3⟩ := rl_rd (by omega) (by omega) s6 s7 (by omega) (by omega) hB0 (by omega) x1 y1 y2
  have hlen : n = (xr_L oc n).length := by unfold xr_L; rw [li_len]
  have hlen1 : m1 = (xr_L oc1 m1).length := by unfold xr_L; rw [li_len]
  have hsn' := bo_sn v1 s2 (T := tn' 0 + tn' 1 + tn' 2) (by omega) (by omega)
  -- the greatest time of the source
  have etp : mk_tp (fun i => et (s * 20 + i)) (tn s + 1) = if mk_tp (fun i => et (s * 20 + i)) (tn s) < nI (c % 64) then nI (c % 64) else mk_tp (fun i => et (s * 20 + i)) (tn s) := by
    rw [← k4]
    rfl
  have hb6 : b1 (6 + s) = mk_tp (fun i => et (s * 20 + i)) (tn s) := by
    rw [y5 _ (by omega) (by omega) (by omega), pk_un (by omega)]
    exact hts.2.2.2.2.2
  have htop : ∃ b2 : Nat → Int32, b2 (6 + s) = mk_tp (fun i => et (s * 20 + i)) (tn s + 1) ∧ (∀ j, j ≠ 6 + s → b2 j = b1 j) ∧ ∀ post : Int32 → SY → Prop, wpY_settle post (kd, wd, pp, la, ar, co, ev, b2, cp) → wY_read_111 post (nI s) (nI (c % 64)) kd (wd) pp la (ar) co (ev) (b1) cp := by
    by_cases z : mk_tp (fun i => et (s * 20 + i)) (tn s) < nI (c % 64)
    · rw [if_pos z] at etp
      refine ⟨upd b1 (6 + s) (nI (c % 64)), by rw [pk_us, etp], fun j hj => pk_un hj, fun post hp => ?_⟩
      unfold wY_read_111 wY_read_134
      simp (disch := omega) only [forall_eq, vp_in_nI, nI_clamp, pk_us, pk_un, true_and, ix_a0, ix_a1, ix_a2, ix_a3, ix_a4, ix_a5, ix_a6, ix_n7, ix_m7, ix_p1104, ix_p1524, nI_add, ix_p6]
      rw [hb6]
      exact br_f (Int32.not_le.mpr z) hp
    · rw [if_neg z] at etp
      refine ⟨b1, by rw [hb6, etp], fun j hj => rfl, fun post hp => ?_⟩
      unfold wY_read_111 wY_read_134
      simp (disch := omega) only [forall_eq, vp_in_nI, nI_clamp, pk_us, pk_un, true_and, ix_a0, ix_a1, ix_a2, ix_a3, ix_a4, ix_a5, ix_a6, ix_n7, ix_m7, ix_p1104, ix_p1524, nI_add, ix_p6]
      rw [hb6]
      exact br_t (Int32.not_lt.mp z) hp
  obtain ⟨b2, w1, w2, w3⟩ := htop
  have hB2 : rl_B kd wd pp b2 sn' (xr_L oc1 m1) := rl_Bc v1 (by omega) (fun j h1 h2 => w2 j (by omega))
  have hN2 : rl_N kd wd pp W et an (upd tk s (tk s + 1)) ie oc1 rc mq (rd_t kd wd pp mq lc W (c / 64) (c % 64) dn (xr_L oc n)) m1 r b2 := by
    refine ⟨tn', sn', ?_, ⟨?_, t3, ?_, ?_, ?_⟩, hB2, by omega, by omega, ?_⟩
    · intro x hx
      by_cases z : x = s
      · subst z
        refine ⟨?_, by omega, ?_, ?_, hts.2.2.2.2.1, ?_⟩
        · rw [pk_us, hts.1, nI_1, n1]
        · rw [w2 _ (by omega), y5 _ (by omega) (by omega) (by omega), pk_us, n1]
        · rw [w2 _ (by omega), y5 _ (by omega) (by omega) (by omega), pk_un (by omega)]
          exact hts.2.2.2.1
        · rw [w1, n1]
      · obtain ⟨f1, f2, f3, f4, f5, f6⟩ := t1 x hx
        refine ⟨?_, ?_, ?_, ?_, f5, ?_⟩
        · rw [pk_un z, n2 x z]; exact f1
        · rw [n2 x z]; exact f2
        · rw [w2 _ (by omega), y5 _ (by omega) (by omega) (by omega), pk_un z, n2 x z]; exact f3
        · rw [w2 _ (by omega), y5 _ (by omega) (by omega) (by omega), pk_un (by omega)]; exact f4
        · rw [w2 _ (by omega), y5 _ (by omega) (by omega) (by omega), pk_un (by omega), n2 x z]; exact f6
    · rw [w2 _ (by omega), y5 _ (by omega) (by omega) (by omega), pk_un (by omega)]; exact t2
    · rw [w2 _ (by omega)]; exact y4
    · rw [w2 _ (by omega), y5 _ (by omega) (by omega) (by omega), pk_un (by omega)]; exact t5
    · rw [w2 _ (by omega)]; exact y3
    · rw [t10]
      exact (yr_c (fun j h1 h2 => by rw [w2 _ (by omega), y5 _ (by omega) (by omega) (by omega), pk_un (by omega)])).symm
  obtain ⟨oc', rc', b', mq', n', r', z1, z2, z3, z4, z5, z6⟩ := bo_settle (wn := nI W) (km := km) (kl := kl) (ko := ko) (kq := kq) (ev := ev) (kt := kt) (ki := ki) (kc := kc) (cp := cp) hS2 hN2
  refine ⟨oc', rc', b', mq', _, n', r', z1, z2, z3, fun post hp => x2 post (fun u _ => ?_), fun post hp => y6 post (w3 post (z6 post hp))⟩
  unfold wX_readNext_77
  refine z4 _ ?_
  dsimp only
  refine z5 _ ?_
  dsimp only
  exact hp
end
