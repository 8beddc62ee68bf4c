/-! the reference reads into sessions -/
section
variable {kd dd pp la : Int32} {sz co va b cp : Nat → Int32}
theorem ys_raw {d : Int32} {c : Nat → Int32} {i : Nat} (hd : 0 ≤ d.toInt) (hd8 : d.toInt ≤ 8) (h : ss_ok d (ys_r d c i)) : 0 ≤ (c (1104 + 7 * i + 2)).toInt ∧ (c (1104 + 7 * i + 2)).toInt ≤ 80 := by
  unfold ss_ok ys_r at h
  dsimp only at h
  have e : c (1104 + 7 * i + 2) = c (1104 + 7 * i + 2) + d - d := (Int32.add_sub_cancel _ _).symm
  have e2 : (c (1104 + 7 * i + 2) + d - d).toInt = (c (1104 + 7 * i + 2) + d).toInt - d.toInt := ii_sub (by omega) (by omega)
  rw [e, e2]
  omega
theorem yj_m {m i : Nat} {t k : Int32} (hi : i < m + 1) (hm : m + 1 < 60) (h12 : b 12 = nI (m + 2)) (hne : ¬ b (1104 + 7 * (m + 1) + 3) = 0) (hd : 0 ≤ dd.toInt) (hd8 : dd.toInt ≤ 8) (hr1 : 0 ≤ (b (1104 + 7 * i + 2)).toInt ∧ (b (1104 + 7 * i + 2)).toInt ≤ 80) (hr2 : 0 ≤ (b (1104 + 7 * (m + 1) + 2)).toInt ∧ (b (1104 + 7 * (m + 1) + 2)).toInt ≤ 80) :
    ∃ b' : Nat → Int32, b' 12 = nI (m + 1) ∧ ys_r dd b' m = ro_mg (ys_r dd b (m + 1)) (ys_r dd b i) ∧ (∀ j, j < m → j ≠ i → ys_r dd b' j = ys_r dd b j) ∧ (i < m → ys_r dd b' i = ys_r dd b m) ∧ (∀ j, j ≠ 12 → (j < 1104 ∨ 1524 ≤ j) → b' j = b j) ∧
      ∀ (post : SY → Prop) (J : Int32 → Int32 → Int32 → Int32 → Int32 → (Nat → Int32) → (Nat → Int32) → (Nat → Int32) → (Nat → Int32) → (Nat → Int32) → Prop) (x3 : Int32), J (x3 + (-1)) kd dd pp la sz co va (b') cp → ∀ z0 : Int32, z0 = ro_mn (b (1104 + 7 * i + 1)) (b (1104 + 7 * (m + 1) + 1)) → wY_join_104 post J t k x3 (nI (1104 + 7 * i)) (nI (1104 + 7 * (m + 1))) z0 (nI (1104 + 7 * (m + 1) + 1)) kd dd pp la sz co va b cp := by
  obtain ⟨b3, a0, a1, a2, a3, a4, a5⟩ := ya_cnt (kd := kd) (dd := dd) (pp := pp) (la := la) (sz := sz) (co := co) (va := va) (cp := cp)
    (b := upd (upd b (1104 + 7 * (m + 1) + 1) (ro_mn (b (1104 + 7 * i + 1)) (b (1104 + 7 * (m + 1) + 1)))) (1104 + 7 * (m + 1) + 2) (ro_mx (b (1104 + 7 * i + 2)) (b (1104 + 7 * (m + 1) + 2))))
    (o := 1104 + 7 * (m + 1) + 3) (by omega) (b (1104 + 7 * i + 3)) (b (1104 + 7 * i + 4)) (b (1104 + 7 * i + 5)) (b (1104 + 7 * i + 6))
  have n1 : ∀ j, j ≠ 1104 + 7 * (m + 1) + 1 → j ≠ 1104 + 7 * (m + 1) + 2 → upd (upd b (1104 + 7 * (m + 1) + 1) (ro_mn (b (1104 + 7 * i + 1)) (b (1104 + 7 * (m + 1) + 1)))) (1104 + 7 * (m + 1) + 2) (ro_mx (b (1104 + 7 * i + 2)) (b (1104 + 7 * (m + 1) + 2))) j = b j := by
    intro j h1 h2
    rw [pk_un h2, pk_un h1]
  rw [n1 _ (by omega) (by omega)] at a0 a1 a2 a3
  rw [if_neg hne, n1 _ (by omega) (by omega)] at a1 a2 a3
  have f3 : ∀ j, (j < 1104 + 7 * (m + 1) ∨ 1104 + 7 * (m + 1) + 7 ≤ j) → b3 j = b j := by
    intro j hj
    rw [a4 j (by omega), n1 j (by omega) (by omega)]
  obtain ⟨b4, c0, c1, c2, c3⟩ := ya_drop (kd := kd) (dd := dd) (pp := pp) (la := la) (sz := sz) (co := co) (va := va) (cp := cp) (b := b3) (m := m + 1) (i := i) hm (by omega) (by rw [f3 12 (by omega)]; exact h12)
  obtain ⟨b5, d1, d2, d3⟩ := ya_swap (kd := kd) (dd := dd) (pp := pp) (la := la) (sz := sz) (co := co) (va := va) (cp := cp) (b := b4) (m := m) (i := i) (by omega) hi c0
  refine ⟨b5, ?_, ?_, ?_, ?_, ?_, ?_⟩
  · rw [d2 12 (by omega) (by omega)]
    exact c0
  · have e1 : ys_r dd b5 m = ys_r dd b3 (m + 1) := ys_cg (fun j hj => by rw [(d1 j hj).2, c1 j hj])
    rw [e1]
    unfold ys_r ro_mg ro_st ro_ad
    dsimp only
    rw [a0, show 1104 + 7 * (m + 1) + 4 = 1104 + 7 * (m + 1) + 3 + 1 from rfl, a1, show 1104 + 7 * (m + 1) + 5 = 1104 + 7 * (m + 1) + 3 + 2 from rfl, a2, show 1104 + 7 * (m + 1) + 6 = 1104 + 7 * (m + 1) + 3 + 3 from rfl, a3, a4 _ (by omega), a4 (1104 + 7 * (m + 1) + 1) (by omega), a4 (1104 + 7 * (m + 1) + 2) (by omega)]
    simp (disch := omega) only [pk_us, pk_un]
    rw [ro_mxd (by omega) (by omega) (by omega) (by omega) (by omega) (by omega)]
  · intro j hj hne2
    refine ys_cg (fun x hx => ?_)
    rw [d2 _ (by omega) (by omega), c2 _ (by omega) (by omega), f3 _ (by omega)]
  · intro him
    refine ys_cg (fun x hx => ?_)
    rw [(d1 x hx).1, c2 _ (by omega) (by omega), f3 _ (by omega)]
  · intro j hj hj2
    rw [d2 _ (by omega) (by omega), c2 _ hj (by omega), f3 _ (by omega)]
  · intro post J x3 hJ z0 hz
    subst hz
    have fin : wY_join_155 post J t k x3 (nI (1104 + 7 * i)) (nI (1104 + 7 * (m + 1))) (ro_mx (b (1104 + 7 * i + 2)) (b (1104 + 7 * (m + 1) + 2))) (nI (1104 + 7 * (m + 1) + 2)) kd dd pp la sz co va (upd b (1104 + 7 * (m + 1) + 1) (ro_mn (b (1104 + 7 * i + 1)) (b (1104 + 7 * (m + 1) + 1)))) cp := by
      unfold wY_join_155
      simp (disch := omega) only [forall_eq, vp_in_nI, nI_clamp, pk_us, pk_un, true_and, ix_a0, ix_a1, ix_a2, ix_a3, ix_a4, ix_a5, ix_a6, ix_n7, ix_m7, ix_p1104, ix_p1524, nI_add]
      refine a5 _ ?_
      dsimp only
      refine c3 _ ?_
      dsimp only
      refine d3 _ ?_
      dsimp only
      exact hJ
    unfold wY_join_104
    simp (disch := omega) only [forall_eq, vp_in_nI, nI_clamp, pk_us, pk_un, true_and, ix_a0, ix_a1, ix_a2, ix_a3, ix_a4, ix_a5, ix_a6, ix_n7, ix_m7, ix_p1104, ix_p1524, nI_add]
    by_cases a : b (1104 + 7 * i + 2) ≤ b (1104 + 7 * (m + 1) + 2)
    · have e : ro_mx (b (1104 + 7 * i + 2)) (b (1104 + 7 * (m + 1) + 2)) = b (1104 + 7 * (m + 1) + 2) := if_neg (Int32.not_lt.mpr a)
      rw [e] at fin
      exact br_t a fin
    · have e : ro_mx (b (1104 + 7 * i + 2)) (b (1104 + 7 * (m + 1) + 2)) = b (1104 + 7 * i + 2) := if_pos (Int32.not_le.mp a)
      rw [e] at fin
      exact br_f a fin
theorem ys_jn {n : Nat} {k t v : Int32} (hk0 : 0 ≤ k.toInt) (hk3 : k.toInt ≤ 3) (hn : n < 60) (hd : 0 ≤ dd.toInt) (hd8 : dd.toInt ≤ 8) (ht : 0 ≤ t.toInt) (ht2 : t.toInt ≤ 63) (h12 : b 12 = nI (n + 1)) (hev : ys_r dd b n = ro_nw k t (t + dd) v) (hok : ∀ r, r ∈ ys_L dd b n → ss_ok dd r) (hcn : ∀ r, r ∈ ys_L dd b n → 0 < ro_cn r) (hcs : ro_cs (ys_L dd b n) < 900) :
    ∃ (b' : Nat → Int32) (m : Nat), m ≤ n ∧ b' 12 = nI (m + 1) ∧ jy_I k t dd (ys_L dd b n) (ro_nw k t (t + dd) v) 0 m (ys_r dd b') ∧ (∀ j, j ≠ 12 → (j < 1104 ∨ 1524 ≤ j) → b' j = b j) ∧ ∀ post : SY → Prop, post (kd, dd, pp, la, sz, co, va, b', cp) → wpY_join post (kd, dd, pp, la, sz, co, va, b, cp) t k := by
  have key := lo_ex (ρ := SY) (σ := Nat × Nat × (Nat → Int32))
    (fun post f s => wY_join_10 post t k f (nI s.1 - 1) kd dd pp la sz co va (s.2.2) cp)
    (fun x s => x = s.1 ∧ s.2.1 ≤ n ∧ s.2.2 12 = nI (s.2.1 + 1) ∧ jy_I k t dd (ys_L dd b n) (ro_nw k t (t + dd) v) s.1 s.2.1 (ys_r dd s.2.2) ∧ (∀ j, j ≠ 12 → (j < 1104 ∨ 1524 ≤ j) → s.2.2 j = b j))
    (fun r => ∃ (b' : Nat → Int32) (m : Nat), r = (kd, dd, pp, la, sz, co, va, b', cp) ∧ m ≤ n ∧ b' 12 = nI (m + 1) ∧ jy_I k t dd (ys_L dd b n) (ro_nw k t (t + dd) v) 0 m (ys_r dd b') ∧ (∀ j, j ≠ 12 → (j < 1104 ∨ 1524 ≤ j) → b' j = b j))
    (by
      rintro x ⟨p, m, c⟩ ⟨h1, h2, h3, h4, h5⟩
      dsimp only at *
      cases p with
      | zero =>
        refine Or.inl ⟨_, ⟨c, m, rfl, h2, h3, h4, h5⟩, fun post f hp => ?_⟩
        rw [wY_join_10]
        exact br_t (by decide) hp
      | succ i =>
        have hjm : i + 1 ≤ m := h4.choose_spec.1
        have e3 : nI (i + 1) - 1 = nI i := nI_pred i
        have hmem : ∀ j, j < m → ys_r dd c j ∈ ys_L dd b n := by
          obtain ⟨M, _, q2, _⟩ := h4
          intro j hj
          exact q2.mem_iff.mpr (List.mem_append.mpr (Or.inr (li_mem.mpr ⟨j, hj, rfl⟩)))
        cases hu : ss_tc k t dd (ys_r dd c i) with
        | false =>
          refine Or.inr ⟨x - 1, (i, m, c), by omega, ⟨by dsimp only; omega, h2, h3, jy_n h4 hu, h5⟩, fun post f hp => ?_⟩
          rw [e3, wY_join_10]
          refine br_f (nI_pos (by omega)) ?_
          rw [h3]
          simp (disch := omega) only [forall_eq, vp_in_nI, nI_clamp, pk_us, pk_un, true_and, ix_a0, ix_a1, ix_a2, ix_a3, ix_a4, ix_a5, ix_a6, ix_n7, ix_m7, ix_p1104, ix_p1524, nI_add]
          refine ya_tc (by omega) ?_
          rw [hu]
          refine br_t rfl ?_
          dsimp only at hp
          rw [show nI i + -1 = nI i - 1 from (Int32.sub_eq_add_neg _ _).symm]
          exact hp
        | true =>
          obtain ⟨m', rfl⟩ : ∃ r, m = r + 1 := ⟨m - 1, by omega⟩
          have hok2 : ss_ok dd (ys_r dd c (m' + 1)) ∧ 0 < ro_cn (ys_r dd c (m' + 1)) := by
            obtain ⟨M, _, q2, q3, _⟩ := h4
            have hM : ∀ r, r ∈ M → r ∈ ys_L dd b n := fun r hr => q2.mem_iff.mpr (List.mem_append.mpr (Or.inl hr))
            rw [q3]
            refine ⟨ss_f3 dd M _ (ss_ev hk0 hk3 hd hd8 ht ht2) (fun r hr => hok r (hM r hr)), ?_⟩
            have hcM : ro_cs M ≤ ro_cs (ys_L dd b n) := by
              rw [ro_cs_p q2, ro_cs_a]
              omega
            rw [ss_f5 M _ (by rw [ro_cn_1]; omega) (fun r hr => hcn r (hM r hr)) (by rw [ro_cn_1]; omega), ro_cn_1]
            omega
          have hne : ¬ c (1104 + 7 * (m' + 1) + 3) = 0 := by
            intro z
            have := hok2.2
            have e0 : ro_cn (ys_r dd c (m' + 1)) = (c (1104 + 7 * (m' + 1) + 3)).toNatClampNeg := rfl
            rw [e0, z] at this
            exact absurd this (by decide)
          obtain ⟨b', a1, a2, a3, a4, a5, a6⟩ := yj_m (kd := kd) (dd := dd) (pp := pp) (la := la) (sz := sz) (co := co) (va := va) (cp := cp) (b := c) (m := m') (i := i) (t := t) (k := k) (by omega) (by omega) h3 hne hd hd8 (ys_raw hd hd8 (hok _ (hmem i (by omega)))) (ys_raw hd hd8 hok2.1)
          refine Or.inr ⟨x - 1, (i, m', b'), by omega, ⟨by dsimp only; omega, by dsimp only; omega, a1, jy_t h4 hu a2 a3 a4, fun j hj hj2 => (a5 j hj hj2).trans (h5 j hj hj2)⟩, fun post f hp => ?_⟩
          have hq : ∀ z0 : Int32, z0 = ro_mn (c (1104 + 7 * i + 1)) (c (1104 + 7 * (m' + 1) + 1)) → wY_join_104 post (wY_join_10 post t k f) t k (nI i) (nI (1104 + 7 * i)) (nI (1104 + 7 * (m' + 1))) z0 (nI (1104 + 7 * (m' + 1) + 1)) kd dd pp la sz co va (c) cp := by
            refine a6 post (wY_join_10 post t k f) (nI i) ?_
            dsimp only at hp
            rw [show nI i + (-1) = nI i - 1 from (Int32.sub_eq_add_neg _ _).symm]
            exact hp
          have e5 : 1104 + 7 * nI (m' + 1 + 1) - 7 = nI (1104 + 7 * (m' + 1)) := by
            rw [ix_m7, ix_p1104, ix_s7 (by omega)]
            exact congrArg nI (by omega)
          rw [e3, wY_join_10]
          refine br_f (nI_pos (by omega)) ?_
          rw [h3, e5]
          simp (disch := omega) only [forall_eq, vp_in_nI, nI_clamp, pk_us, pk_un, true_and, ix_a0, ix_a1, ix_a2, ix_a3, ix_a4, ix_a5, ix_a6, ix_n7, ix_m7, ix_p1104, ix_p1524, nI_add]
          refine ya_tc (by omega) ?_
          rw [hu]
          refine br_f (by decide) ?_
          by_cases a : c (1104 + 7 * (m' + 1) + 1) ≤ c (1104 + 7 * i + 1)
          · exact br_t a (hq _ (if_neg (Int32.not_lt.mpr a)).symm)
          · exact br_f a (hq _ (if_pos (Int32.not_le.mp a)).symm))
    n (n, n, b) ⟨rfl, Nat.le_refl _, h12, by dsimp only; rw [← hev]; exact jy_0, fun _ _ _ => rfl⟩
  obtain ⟨_, ⟨b', m, rfl, h1, h2, h3, h4⟩, h5⟩ := key
  refine ⟨b', m, h1, h2, h3, h4, fun post hp => ?_⟩
  unfold wpY_join
  dsimp only
  have e : b 12 - 2 = nI n - 1 := by
    rw [h12, ← nI_1]
    generalize nI n = x
    grind
  exact nm_r e ⟨n + 1, h5 post (n + 1) (by omega) hp⟩
theorem ys_all {n : Nat} {k t v : Int32} (hk0 : 0 ≤ k.toInt) (hk3 : k.toInt ≤ 3) (hn : n < 60) (hd : 0 ≤ dd.toInt) (hd8 : dd.toInt ≤ 8) (ht : 0 ≤ t.toInt) (ht2 : t.toInt ≤ 63) (h12 : b 12 = nI n) (hok : ∀ r, r ∈ ys_L dd b n → ss_ok dd r) (hcn : ∀ r, r ∈ ys_L dd b n → 0 < ro_cn r) (hcs : ro_cs (ys_L dd b n) < 900) :
    ∃ (b' : Nat → Int32) (n' : Nat), b' 12 = nI n' ∧ (ys_L dd b' n').Perm (ss_L (ys_L dd b n) (b 9) dd k t v) ∧ b' 10 = (if ss_lt (ys_L dd b n) (b 9) dd k t then b 10 + 1 else b 10) ∧ (∀ j, j ≠ 10 → j ≠ 12 → (j < 1104 ∨ 1524 ≤ j) → b' j = b j) ∧ ∀ post : SY → Prop, post (kd, dd, pp, la, sz, co, va, b', cp) → wpY_readIntoSessions post (kd, dd, pp, la, sz, co, va, b, cp) t k v := by
  -- the making of the new session, and the join if any is touched
  have mk1 : ((ys_L dd b n).any (ss_tc k t dd) = true ∨ ¬ t + dd ≤ b 9) → ∃ (b' : Nat → Int32) (n' : Nat), b' 12 = nI n' ∧ (ys_L dd b' n').Perm (ss_L (ys_L dd b n) (b 9) dd k t v) ∧ b' 10 = (if ss_lt (ys_L dd b n) (b 9) dd k t then b 10 + 1 else b 10) ∧ (∀ j, j ≠ 10 → j ≠ 12 → (j < 1104 ∨ 1524 ≤ j) → b' j = b j) ∧ ∀ post : SY → Prop, post (kd, dd, pp, la, sz, co, va, b', cp) → wY_readIntoSessions_87 post t k v (if (ys_L dd b n).any (ss_tc k t dd) = true then 1 else 0) kd dd pp la sz co va b cp := by
    intro hor
    obtain ⟨b1, a0, a1, a2, a3, a4, a5⟩ := ya_cnt (kd := kd) (dd := dd) (pp := pp) (la := la) (sz := sz) (co := co) (va := va) (cp := cp)
      (b := upd (upd (upd (upd b (1104 + 7 * n) k) (1104 + 7 * n + 1) t) (1104 + 7 * n + 2) t) (1104 + 7 * n + 3) 0)
      (o := 1104 + 7 * n + 3) (by omega) 1 v v v
    simp (disch := omega) only [pk_us, pk_un, if_true] at a0 a1 a2 a3
    have f1 : ∀ j, (j < 1104 + 7 * n ∨ 1104 + 7 * n + 7 ≤ j) → b1 j = b j := by
      intro j hj
      rw [a4 j (by omega)]
      simp (disch := omega) only [pk_un]
    have hrow : ys_r dd (upd b1 12 (nI (n + 1))) n = ro_nw k t (t + dd) v := by
      unfold ys_r ro_nw
      rw [pk_un (by omega), pk_un (by omega), pk_un (by omega), pk_un (by omega), pk_un (by omega), pk_un (by omega), pk_un (by omega), a0, show 1104 + 7 * n + 4 = 1104 + 7 * n + 3 + 1 from rfl, a1, show 1104 + 7 * n + 5 = 1104 + 7 * n + 3 + 2 from rfl, a2, show 1104 + 7 * n + 6 = 1104 + 7 * n + 3 + 3 from rfl, a3, a4 _ (by omega), a4 (1104 + 7 * n + 1) (by omega), a4 (1104 + 7 * n + 2) (by omega)]
      simp (disch := omega) only [pk_us, pk_un]
      rfl
    have hL : ys_L dd (upd b1 12 (nI (n + 1))) n = ys_L dd b n := by
      refine li_cg (fun i hi => ys_cg (fun j hj => ?_))
      rw [pk_un (by omega), f1 _ (by omega)]
    have hw : ∀ (post : SY → Prop) (x4 : Int32), (((x4 = 0 → post (kd, dd, pp, la, sz, co, va, upd b1 12 (nI (n + 1)), cp)) ∧ (¬ x4 = 0 → wpY_join (fun u => post u) (kd, dd, pp, la, sz, co, va, upd b1 12 (nI (n + 1)), cp) t k))) → wY_readIntoSessions_87 post t k v x4 kd dd pp la sz co va b cp := by
      intro post x4 hp
      unfold wY_readIntoSessions_87
      rw [h12]
      simp (disch := omega) only [forall_eq, vp_in_nI, nI_clamp, pk_us, pk_un, true_and, ix_a0, ix_a1, ix_a2, ix_a3, ix_a4, ix_a5, ix_a6, ix_n7, ix_m7, ix_p1104, ix_p1524, nI_add]
      refine a5 _ ?_
      dsimp only
      rw [f1 12 (by omega), h12, nI_1]
      exact hp
    by_cases ha : (ys_L dd b n).any (ss_tc k t dd) = true
    · obtain ⟨b', m, q1, q2, q3, q4, q5⟩ := ys_jn (kd := kd) (dd := dd) (pp := pp) (la := la) (sz := sz) (co := co) (va := va) (cp := cp) (b := upd b1 12 (nI (n + 1))) (n := n) (k := k) (t := t) (v := v) hk0 hk3 hn hd hd8 ht ht2 pk_us hrow (by rw [hL]; exact hok) (by rw [hL]; exact hcn) (by rw [hL]; exact hcs)
      rw [hL] at q3
      obtain ⟨w1, w2⟩ := jy_e (m0 := b 9) q3 ha
      refine ⟨b', m + 1, q2, w1, ?_, ?_, fun post hp => ?_⟩
      · rw [if_neg w2, q4 10 (by omega) (by omega), pk_un (by omega), f1 10 (by omega)]
      · intro j h1 h2 h3
        rw [q4 j h2 h3, pk_un h2, f1 j (by omega)]
      · rw [if_pos ha]
        exact hw post 1 (br_f (by decide) (q5 _ hp))
    · have hm : ¬ t + dd ≤ b 9 := by
        rcases hor with h | h
        · exact absurd h ha
        · exact h
      refine ⟨upd b1 12 (nI (n + 1)), n + 1, pk_us, ?_, ?_, ?_, fun post hp => ?_⟩
      · unfold ss_L
        rw [if_neg ha, if_neg hm]
        unfold ys_L
        rw [li_s, hrow]
        unfold ys_L at hL
        rw [hL]
        exact List.perm_append_singleton _ _
      · rw [if_neg (fun z => hm z.2), pk_un (by omega), f1 10 (by omega)]
      · intro j h1 h2 h3
        rw [pk_un h2, f1 j (by omega)]
      · rw [if_neg ha]
        exact hw post 0 (br_t rfl hp)
  have key := lo_ex (ρ := SY) (σ := Nat)
    (fun post f i => wY_readIntoSessions_6 post t k v kd dd pp la sz co va b cp f (if (ys_L dd b i).any (ss_tc k t dd) = true then 1 else 0) (nI i))
    (fun m i => m + i = n)
    (fun r => ∃ (b' : Nat → Int32) (n' : Nat), r = (kd, dd, pp, la, sz, co, va, b', cp) ∧ b' 12 = nI n' ∧ (ys_L dd b' n').Perm (ss_L (ys_L dd b n) (b 9) dd k t v) ∧ b' 10 = (if ss_lt (ys_L dd b n) (b 9) dd k t then b 10 + 1 else b 10) ∧ (∀ j, j ≠ 10 → j ≠ 12 → (j < 1104 ∨ 1524 ≤ j) → b' j = b j))
    (by
      rintro m i h1
      by_cases hi : i = n
      · subst hi
        left
        by_cases ha : (ys_L dd b i).any (ss_tc k t dd) = true
        · obtain ⟨b', n', q1, q2, q3, q4, q5⟩ := mk1 (Or.inl ha)
          refine ⟨_, ⟨b', n', rfl, q1, q2, q3, q4⟩, fun post f hp => ?_⟩
          have h5 := q5 post hp
          rw [wY_readIntoSessions_6, h12]
          refine br_t (nI_le (Nat.le_refl _) (by omega)) ?_
          rw [if_pos ha] at h5 ⊢
          exact br_f (by decide) h5
        · by_cases hm : b 9 < t + dd
          · obtain ⟨b', n', q1, q2, q3, q4, q5⟩ := mk1 (Or.inr (Int32.not_le.mpr hm))
            refine ⟨_, ⟨b', n', rfl, q1, q2, q3, q4⟩, fun post f hp => ?_⟩
            have h5 := q5 post hp
            rw [wY_readIntoSessions_6, h12]
            refine br_t (nI_le (Nat.le_refl _) (by omega)) ?_
            rw [if_neg ha] at h5 ⊢
            exact br_t rfl (br_t hm h5)
          · have hlt : ss_lt (ys_L dd b i) (b 9) dd k t := ⟨Bool.eq_false_iff.mpr ha, Int32.not_lt.mp hm⟩
            refine ⟨_, ⟨upd b 10 (b 10 + 1), i, rfl, ?_, ?_, ?_, ?_⟩, fun post f hp => ?_⟩
            · rw [pk_un (by omega)]
              exact h12
            · rw [ys_Lc (by omega) (fun j h3 h4 => pk_un (by omega))]
              unfold ss_L
              rw [if_neg ha, if_pos (Int32.not_lt.mp hm)]
            · rw [if_pos hlt, pk_us]
            · intro j h3 h4 _
              exact pk_un h3
            · rw [wY_readIntoSessions_6, h12]
              refine br_t (nI_le (Nat.le_refl _) (by omega)) ?_
              rw [if_neg ha]
              exact br_t rfl (br_f hm (nm_e hp))
      · have hlt : i < n := by omega
        have es : (ys_L dd b (i + 1)).any (ss_tc k t dd) = ((ys_L dd b i).any (ss_tc k t dd) || ss_tc k t dd (ys_r dd b i)) := by
          unfold ys_L
          rw [li_s, List.any_append, List.any_cons, List.any_nil, Bool.or_false]
        refine Or.inr ⟨m - 1, i + 1, by omega, by omega, fun post f hp => ?_⟩
        rw [es] at hp
        rw [wY_readIntoSessions_6, h12]
        refine br_f (nI_ge hlt (by omega)) ?_
        by_cases ha : (ys_L dd b i).any (ss_tc k t dd) = true
        · rw [ha, Bool.true_or, if_pos rfl] at hp
          rw [if_pos ha]
          exact br_f (by decide) (nm_r (nI_1 i) hp)
        · rw [Bool.eq_false_iff.mpr ha, Bool.false_or] at hp
          rw [if_neg ha]
          refine br_t rfl ?_
          rw [ix_m7, ix_p1104]
          refine ya_tc (by omega) ?_
          cases hu : ss_tc k t dd (ys_r dd b i) with
          | false =>
            rw [hu] at hp
            exact br_t rfl (nm_r (nI_1 i) hp)
          | true =>
            rw [hu] at hp
            exact br_f (by decide) (nm_r (nI_1 i) hp))
    n 0 (by omega)
  obtain ⟨_, ⟨b', n', rfl, h1, h2, h3, h4⟩, h5⟩ := key
  exact ⟨b', n', h1, h2, h3, h4, fun post hp => ⟨n + 1, h5 post (n + 1) (by omega) hp⟩⟩
end
