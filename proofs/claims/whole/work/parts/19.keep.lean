/-! keeping, crashing, arriving -/
section
theorem kp_vb {x : Int32} (h : x = 0 ∨ x = 1) : vp_nar .boolean x = x := by
  rcases h with rfl | rfl <;> decide
theorem kp_y {kd dd pp la : Int32} {sz co va b cp : Nat → Int32} : ∃ cp' : Nat → Int32, (∀ j, j < 3316 → cp' j = b j) ∧ ∀ post : Int32 → SY → Prop, post (b 11) (kd, dd, pp, la, sz, co, va, b, cp') → wpY_keep post (kd, dd, pp, la, sz, co, va, b, cp) := by
  have key := lo_ex (ρ := Int32 × SY) (σ := Nat × (Nat → Int32))
    (fun post f s => wY_keep_2 (fun r u => post (r, u)) kd dd pp la f (nI s.1) sz co va b (s.2))
    (fun m s => m + s.1 = 3316 ∧ ∀ j, j < s.1 → s.2 j = b j)
    (fun r => ∃ c : Nat → Int32, r = (b 11, (kd, dd, pp, la, sz, co, va, b, c)) ∧ ∀ j, j < 3316 → c j = b j)
    (by
      rintro m ⟨x, c⟩ ⟨h1, h2⟩
      dsimp only at *
      by_cases hx : x = 3316
      · subst hx
        refine Or.inl ⟨_, ⟨c, rfl, h2⟩, fun post f hp => ?_⟩
        rw [wY_keep_2]
        exact br_t (nI_le (a := 3316) (b := 3316) (Nat.le_refl _) (by decide)) hp
      · refine Or.inr ⟨m - 1, (x + 1, upd c x (b x)), by omega, ⟨by dsimp only; omega, ?_⟩, fun post f hp => ?_⟩
        · intro j hj
          dsimp only at *
          by_cases z : j = x
          · rw [z, pk_us]
          · rw [pk_un z]
            exact h2 j (by omega)
        · rw [wY_keep_2]
          refine br_f (nI_ge (a := x) (b := 3316) (by omega) (by decide)) ?_
          simp (disch := omega) only [forall_eq, vp_in_nI, nI_clamp, pk_us, pk_un, true_and, ix_a0, ix_a1, ix_a2, ix_a3, ix_a4, ix_a5, ix_a6, ix_n7, ix_m7, ix_p1104, ix_p1524, nI_add]
          exact hp)
    3316 (0, cp) ⟨rfl, fun j hj => absurd hj (Nat.not_lt_zero j)⟩
  obtain ⟨_, ⟨c, rfl, h1⟩, h2⟩ := key
  exact ⟨c, h1, fun post hp => ⟨3317, h2 (fun x => post x.1 x.2) 3317 (by omega) hp⟩⟩
theorem kp_yc {kd dd pp la : Int32} {sz co va b cp : Nat → Int32} : ∃ b' : Nat → Int32, (∀ j, j < 3316 → b' j = cp j) ∧ ∀ post : Int32 → SY → Prop, post (b' 11) (kd, dd, pp, la, sz, co, va, b', cp) → wpY_crash post (kd, dd, pp, la, sz, co, va, b, cp) := by
  have key := lo_ex (ρ := Int32 × SY) (σ := Nat × (Nat → Int32))
    (fun post f s => wY_crash_2 (fun r u => post (r, u)) kd dd pp la f (nI s.1) sz co va (s.2) cp)
    (fun m s => m + s.1 = 3316 ∧ ∀ j, j < s.1 → s.2 j = cp j)
    (fun r => ∃ c : Nat → Int32, r = (c 11, (kd, dd, pp, la, sz, co, va, c, cp)) ∧ ∀ j, j < 3316 → c j = cp j)
    (by
      rintro m ⟨x, c⟩ ⟨h1, h2⟩
      dsimp only at *
      by_cases hx : x = 3316
      · subst hx
        refine Or.inl ⟨_, ⟨c, rfl, h2⟩, fun post f hp => ?_⟩
        rw [wY_crash_2]
        exact br_t (nI_le (a := 3316) (b := 3316) (Nat.le_refl _) (by decide)) hp
      · refine Or.inr ⟨m - 1, (x + 1, upd c x (cp x)), by omega, ⟨by dsimp only; omega, ?_⟩, fun post f hp => ?_⟩
        · intro j hj
          dsimp only at *
          by_cases z : j = x
          · rw [z, pk_us]
          · rw [pk_un z]
            exact h2 j (by omega)
        · rw [wY_crash_2]
          refine br_f (nI_ge (a := x) (b := 3316) (by omega) (by decide)) ?_
          simp (disch := omega) only [forall_eq, vp_in_nI, nI_clamp, pk_us, pk_un, true_and, ix_a0, ix_a1, ix_a2, ix_a3, ix_a4, ix_a5, ix_a6, ix_n7, ix_m7, ix_p1104, ix_p1524, nI_add]
          exact hp)
    3316 (0, b) ⟨rfl, fun j hj => absurd hj (Nat.not_lt_zero j)⟩
  obtain ⟨_, ⟨c, rfl, h1⟩, h2⟩ := key
  exact ⟨c, h1, fun post hp => ⟨3317, h2 (fun x => post x.1 x.2) 3317 (by omega) hp⟩⟩
section
variable {kd wd wn la mq lc xo xq km kl ko kq : Int32} {ek et ev ar tk ie oc rc kt ki kc : Nat → Int32}
theorem kp_x (hie : ∀ s, s < 3 → ie s = 0 ∨ ie s = 1) : ∃ kt' ki' kc' : Nat → Int32, (∀ s, s < 3 → kt' s = tk s ∧ ki' s = ie s) ∧ (∀ j, j < 1680 → kc' j = oc j) ∧ ∀ post : Int32 → SX → Prop, post xq (kd, wd, wn, la, mq, lc, xo, xq, mq, lc, xo, xq, ek, et, ev, ar, tk, ie, oc, rc, kt', ki', kc') → wpX_keep post (kd, wd, wn, la, mq, lc, xo, xq, km, kl, ko, kq, ek, et, ev, ar, tk, ie, oc, rc, kt, ki, kc) := by
  have key1 := fun (kt' ki' : Nat → Int32) => lo_ex (ρ := Int32 × SX) (σ := Nat × (Nat → Int32))
    (fun post f s => wX_keep_39 (fun r u => post (r, u)) kd wd wn la mq lc xo xq km kl ko kq f (nI s.1) ek et ev ar tk ie oc rc (kt') (ki') (s.2))
    (fun m s => m + s.1 = 1680 ∧ ∀ j, j < s.1 → s.2 j = oc j)
    (fun r => ∃ c : Nat → Int32, r = (xq, (kd, wd, wn, la, mq, lc, xo, xq, mq, lc, xo, xq, ek, et, ev, ar, tk, ie, oc, rc, kt', ki', c)) ∧ ∀ j, j < 1680 → c j = oc j)
    (by
      rintro m ⟨x, c⟩ ⟨h1, h2⟩
      dsimp only at *
      by_cases hx : x = 1680
      · subst hx
        refine Or.inl ⟨_, ⟨c, rfl, h2⟩, fun post f hp => ?_⟩
        rw [wX_keep_39]
        exact br_t (nI_le (a := 1680) (b := 1680) (Nat.le_refl _) (by decide)) hp
      · refine Or.inr ⟨m - 1, (x + 1, upd c x (oc x)), by omega, ⟨by dsimp only; omega, ?_⟩, fun post f hp => ?_⟩
        · intro j hj
          dsimp only at *
          by_cases z : j = x
          · rw [z, pk_us]
          · rw [pk_un z]
            exact h2 j (by omega)
        · rw [wX_keep_39]
          refine br_f (nI_ge (a := x) (b := 1680) (by omega) (by decide)) ?_
          simp (disch := omega) only [forall_eq, vp_in_nI, nI_clamp, pk_us, pk_un, true_and, ix_a0, ix_a1, ix_a2, ix_a3, ix_a4, ix_a5, ix_a6, ix_n7, ix_m7, ix_p1104, ix_p1524, nI_add]
          exact hp)
    1680 (0, kc) ⟨rfl, fun j hj => absurd hj (Nat.not_lt_zero j)⟩
  have key2 := lo_ex (ρ := Int32 × SX) (σ := Nat × (Nat → Int32) × (Nat → Int32))
    (fun post f s => wX_keep_2 (fun r u => post (r, u)) kd wd wn la mq lc xo xq km kl ko kq f (nI s.1) ek et ev ar tk ie oc rc (s.2.1) (s.2.2) kc)
    (fun m s => m + s.1 = 3 ∧ ∀ j, j < s.1 → s.2.1 j = tk j ∧ s.2.2 j = ie j)
    (fun r => ∃ kt' ki' kc' : Nat → Int32, r = (xq, (kd, wd, wn, la, mq, lc, xo, xq, mq, lc, xo, xq, ek, et, ev, ar, tk, ie, oc, rc, kt', ki', kc')) ∧ (∀ s, s < 3 → kt' s = tk s ∧ ki' s = ie s) ∧ ∀ j, j < 1680 → kc' j = oc j)
    (by
      rintro m ⟨x, c, e⟩ ⟨h1, h2⟩
      dsimp only at *
      by_cases hx : x = 3
      · subst hx
        obtain ⟨_, ⟨c2, rfl, q1⟩, q2⟩ := key1 c e
        refine Or.inl ⟨_, ⟨c, e, c2, rfl, h2, q1⟩, fun post f hp => ?_⟩
        rw [wX_keep_2]
        exact br_t (nI_le (a := 3) (b := 3) (Nat.le_refl _) (by decide)) ⟨1681, q2 post 1681 (by omega) hp⟩
      · refine Or.inr ⟨m - 1, (x + 1, upd c x (tk x), upd e x (ie x)), by omega, ⟨by dsimp only; omega, ?_⟩, fun post f hp => ?_⟩
        · intro j hj
          dsimp only at *
          by_cases z : j = x
          · rw [z, pk_us, pk_us]
            exact ⟨rfl, rfl⟩
          · rw [pk_un z, pk_un z]
            exact h2 j (by omega)
        · rw [wX_keep_2]
          refine br_f (nI_ge (a := x) (b := 3) (by omega) (by decide)) ?_
          simp (disch := omega) only [forall_eq, vp_in_nI, nI_clamp, pk_us, pk_un, true_and, ix_a0, ix_a1, ix_a2, ix_a3, ix_a4, ix_a5, ix_a6, ix_n7, ix_m7, ix_p1104, ix_p1524, nI_add]
          rw [kp_vb (hie x (by omega))]
          exact hp)
    3 (0, kt, ki) ⟨rfl, fun j hj => absurd hj (Nat.not_lt_zero j)⟩
  obtain ⟨_, ⟨kt', ki', kc', rfl, h1, h2⟩, h3⟩ := key2
  exact ⟨kt', ki', kc', h1, h2, fun post hp => ⟨4, h3 (fun x => post x.1 x.2) 4 (by omega) hp⟩⟩
theorem kp_xc (hie : ∀ s, s < 3 → ki s = 0 ∨ ki s = 1) : ∃ tk' ie' oc' : Nat → Int32, (∀ s, s < 3 → tk' s = kt s ∧ ie' s = ki s) ∧ (∀ j, j < 1680 → oc' j = kc j) ∧ ∀ post : Int32 → SX → Prop, post kq (kd, wd, wn, la, km, kl, ko, kq, km, kl, ko, kq, ek, et, ev, ar, tk', ie', oc', rc, kt, ki, kc) → wpX_crash post (kd, wd, wn, la, mq, lc, xo, xq, km, kl, ko, kq, ek, et, ev, ar, tk, ie, oc, rc, kt, ki, kc) := by
  have key1 := fun (tk' ie' : Nat → Int32) => lo_ex (ρ := Int32 × SX) (σ := Nat × (Nat → Int32))
    (fun post f s => wX_crash_39 (fun r u => post (r, u)) kd wd wn la mq lc xo xq km kl ko kq f (nI s.1) ek et ev ar (tk') (ie') (s.2) rc kt ki kc)
    (fun m s => m + s.1 = 1680 ∧ ∀ j, j < s.1 → s.2 j = kc j)
    (fun r => ∃ c : Nat → Int32, r = (kq, (kd, wd, wn, la, km, kl, ko, kq, km, kl, ko, kq, ek, et, ev, ar, tk', ie', c, rc, kt, ki, kc)) ∧ ∀ j, j < 1680 → c j = kc j)
    (by
      rintro m ⟨x, c⟩ ⟨h1, h2⟩
      dsimp only at *
      by_cases hx : x = 1680
      · subst hx
        refine Or.inl ⟨_, ⟨c, rfl, h2⟩, fun post f hp => ?_⟩
        rw [wX_crash_39]
        exact br_t (nI_le (a := 1680) (b := 1680) (Nat.le_refl _) (by decide)) hp
      · refine Or.inr ⟨m - 1, (x + 1, upd c x (kc x)), by omega, ⟨by dsimp only; omega, ?_⟩, fun post f hp => ?_⟩
        · intro j hj
          dsimp only at *
          by_cases z : j = x
          · rw [z, pk_us]
          · rw [pk_un z]
            exact h2 j (by omega)
        · rw [wX_crash_39]
          refine br_f (nI_ge (a := x) (b := 1680) (by omega) (by decide)) ?_
          simp (disch := omega) only [forall_eq, vp_in_nI, nI_clamp, pk_us, pk_un, true_and, ix_a0, ix_a1, ix_a2, ix_a3, ix_a4, ix_a5, ix_a6, ix_n7, ix_m7, ix_p1104, ix_p1524, nI_add]
          exact hp)
    1680 (0, oc) ⟨rfl, fun j hj => absurd hj (Nat.not_lt_zero j)⟩
  have key2 := lo_ex (ρ := Int32 × SX) (σ := Nat × (Nat → Int32) × (Nat → Int32))
    (fun post f s => wX_crash_2 (fun r u => post (r, u)) kd wd wn la mq lc xo xq km kl ko kq f (nI s.1) ek et ev ar (s.2.1) (s.2.2) oc rc kt ki kc)
    (fun m s => m + s.1 = 3 ∧ ∀ j, j < s.1 → s.2.1 j = kt j ∧ s.2.2 j = ki j)
    (fun r => ∃ tk' ie' oc' : Nat → Int32, r = (kq, (kd, wd, wn, la, km, kl, ko, kq, km, kl, ko, kq, ek, et, ev, ar, tk', ie', oc', rc, kt, ki, kc)) ∧ (∀ s, s < 3 → tk' s = kt s ∧ ie' s = ki s) ∧ ∀ j, j < 1680 → oc' j = kc j)
    (by
      rintro m ⟨x, c, e⟩ ⟨h1, h2⟩
      dsimp only at *
      by_cases hx : x = 3
      · subst hx
        obtain ⟨_, ⟨c2, rfl, q1⟩, q2⟩ := key1 c e
        refine Or.inl ⟨_, ⟨c, e, c2, rfl, h2, q1⟩, fun post f hp => ?_⟩
        rw [wX_crash_2]
        exact br_t (nI_le (a := 3) (b := 3) (Nat.le_refl _) (by decide)) ⟨1681, q2 post 1681 (by omega) hp⟩
      · refine Or.inr ⟨m - 1, (x + 1, upd c x (kt x), upd e x (ki x)), by omega, ⟨by dsimp only; omega, ?_⟩, fun post f hp => ?_⟩
        · intro j hj
          dsimp only at *
          by_cases z : j = x
          · rw [z, pk_us, pk_us]
            exact ⟨rfl, rfl⟩
          · rw [pk_un z, pk_un z]
            exact h2 j (by omega)
        · rw [wX_crash_2]
          refine br_f (nI_ge (a := x) (b := 3) (by omega) (by decide)) ?_
          simp (disch := omega) only [forall_eq, vp_in_nI, nI_clamp, pk_us, pk_un, true_and, ix_a0, ix_a1, ix_a2, ix_a3, ix_a4, ix_a5, ix_a6, ix_n7, ix_m7, ix_p1104, ix_p1524, nI_add]
          rw [kp_vb (hie x (by omega))]
          exact hp)
    3 (0, tk, ie) ⟨rfl, fun j hj => absurd hj (Nat.not_lt_zero j)⟩
  obtain ⟨_, ⟨tk', ie', oc', rfl, h1, h2⟩, h3⟩ := key2
  exact ⟨tk', ie', oc', h1, h2, fun post hp => ⟨4, h3 (fun x => post x.1 x.2) 4 (by omega) hp⟩⟩
end
theorem i_vc_keep {k : Nat} {u : SX} {v : SY} (I : i_Rel k u v) (hk : k + 3 ≤ 1540) : wpX_keep (fun r u' => wpY_keep (fun r' v' => r' = r ∧ i_Rel (k + 3) u' v') v) u := by
  obtain ⟨kd, wd, wn, la, mq, lc, xo, xq, km, kl, ko, kq, ek, et, ev, ar, tk, ie, oc, rc, kt, ki, kc⟩ := u
  obtain ⟨kd', dd, pp, la', sz, co, va, b, cp⟩ := v
  obtain ⟨g1, g2, g3, g4, g5, dn, W, ln, an, n, r, n2, r2, e1, e2, e3, e4, e5, hr2, hS, hN, hK⟩ := I
  subst g1 g2 g3 g4 g5 e1 e2 e3 e4 e5
  have hie : ∀ s, s < 3 → ie s = 0 ∨ ie s = 1 := by
    obtain ⟨tn, sn, t1, _⟩ := hN
    exact fun s hs => (t1 s hs).2.2.2.2.1
  have h11 : b 11 = nI r := by
    obtain ⟨tn, sn, t1, ⟨t2, t3, t4, t5, t6⟩, _⟩ := hN
    exact t5
  obtain ⟨kt', ki', kc', q1, q2, q3⟩ := kp_x (kd := kd) (wd := wd) (wn := nI W) (la := la) (mq := mq) (lc := lc) (xo := nI n) (xq := nI r) (km := km) (kl := kl) (ko := nI n2) (kq := nI r2) (ek := ek) (et := et) (ev := ev) (ar := ar) (tk := tk) (ie := ie) (oc := oc) (rc := rc) (kt := kt) (ki := ki) (kc := kc) hie
  obtain ⟨cp', w1, w2⟩ := kp_y (kd := kd) (dd := wd) (pp := pp) (la := la) (sz := ar) (co := co) (va := ev) (b := b) (cp := cp)
  refine q3 _ (w2 _ ⟨h11, ?_⟩)
  exact ⟨rfl, rfl, rfl, rfl, rfl, dn, W, ln, an, n, r, n, r, rfl, rfl, rfl, rfl, rfl, Nat.le_refl _, hS, hN, rl_Nc hS (rl_Nx hS hN q1 q2) w1⟩
theorem i_vc_crash {k : Nat} {u : SX} {v : SY} (I : i_Rel k u v) (hk : k + 3 ≤ 1540) : wpX_crash (fun r u' => wpY_crash (fun r' v' => r' = r ∧ i_Rel (k + 3) u' v') v) u := by
  obtain ⟨kd, wd, wn, la, mq, lc, xo, xq, km, kl, ko, kq, ek, et, ev, ar, tk, ie, oc, rc, kt, ki, kc⟩ := u
  obtain ⟨kd', dd, pp, la', sz, co, va, b, cp⟩ := v
  obtain ⟨g1, g2, g3, g4, g5, dn, W, ln, an, n, r, n2, r2, e1, e2, e3, e4, e5, hr2, hS, hN, hK⟩ := I
  subst g1 g2 g3 g4 g5 e1 e2 e3 e4 e5
  have hie : ∀ s, s < 3 → ki s = 0 ∨ ki s = 1 := by
    obtain ⟨tn, sn, t1, _⟩ := hK
    exact fun s hs => (t1 s hs).2.2.2.2.1
  have h11 : cp 11 = nI r2 := by
    obtain ⟨tn, sn, t1, ⟨t2, t3, t4, t5, t6⟩, _⟩ := hK
    exact t5
  obtain ⟨tk', ie', oc', q1, q2, q3⟩ := kp_xc (kd := kd) (wd := wd) (wn := nI W) (la := la) (mq := mq) (lc := lc) (xo := nI n) (xq := nI r) (km := km) (kl := kl) (ko := nI n2) (kq := nI r2) (ek := ek) (et := et) (ev := ev) (ar := ar) (tk := tk) (ie := ie) (oc := oc) (rc := rc) (kt := kt) (ki := ki) (kc := kc) hie
  obtain ⟨b', w1, w2⟩ := kp_yc (kd := kd) (dd := wd) (pp := pp) (la := la) (sz := ar) (co := co) (va := ev) (b := b) (cp := cp)
  refine q3 _ (w2 _ ⟨by rw [w1 11 (by omega)]; exact h11, ?_⟩)
  exact ⟨rfl, rfl, rfl, rfl, rfl, dn, W, ln, an, n2, r2, n2, r2, rfl, rfl, rfl, rfl, rfl, Nat.le_refl _, hS, rl_Nc hS (rl_Nx hS hK q1 q2) w1, hK⟩
end
