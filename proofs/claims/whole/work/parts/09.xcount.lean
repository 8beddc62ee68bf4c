/-! the component counts an event -/
section
variable {kd wd wn la mq lc xo xq km kl ko kq : Int32} {ek et ev ar tk ie oc rc kt ki kc : Nat → Int32}
theorem xw_one {n : Nat} (hn : n < 240) (k s e v : Int32) (hd : ro_ds (xr_L oc n)) : ∃ (oc' : Nat → Int32) (n' : Nat), (xr_L oc' n').Perm (ro_ws (xr_L oc n) k s e v) ∧ n' ≤ n + 1 ∧ ∀ post : SX → Prop, post (kd, wd, wn, la, mq, lc, nI n', xq, km, kl, ko, kq, ek, et, ev, ar, tk, ie, oc', rc, kt, ki, kc) → wpX_countForWindow post (kd, wd, wn, la, mq, lc, nI n, xq, km, kl, ko, kq, ek, et, ev, ar, tk, ie, oc, rc, kt, ki, kc) k s e v := by
  have key := lo_ex (ρ := SX) (σ := Nat)
    (fun post f i => wX_countForWindow_3 post k s e v kd wd wn la mq lc (nI n) xq km kl ko kq ek et ev ar tk ie oc rc kt ki kc f (nI i))
    (fun m i => m + i = n ∧ ∀ j, j < i → ro_is k s (xr_r oc j) = false)
    (fun r => ∃ (oc' : Nat → Int32) (n' : Nat), r = (kd, wd, wn, la, mq, lc, nI n', xq, km, kl, ko, kq, ek, et, ev, ar, tk, ie, oc', rc, kt, ki, kc) ∧ (xr_L oc' n').Perm (ro_ws (xr_L oc n) k s e v) ∧ n' ≤ n + 1)
    (by
      rintro m i ⟨h1, h2⟩
      by_cases hi : i = n
      · subst hi
        obtain ⟨oc', a1, a2, a3⟩ := xa_opn (oc := oc) hn k s e v
        refine Or.inl ⟨_, ⟨oc', i + 1, rfl, ?_, Nat.le_refl _⟩, fun post f hp => ?_⟩
        · have hm : ∀ q, q ∈ xr_L oc i → ro_is k s q = false := by
            intro q hq
            obtain ⟨j, hj, rfl⟩ := li_mem.mp hq
            exact h2 j hj
          rw [ws_miss hm]
          unfold xr_L
          rw [li_s, a1, li_cg (f := xr_r oc') (g := xr_r oc) (fun j hj => xr_f a2 j (by omega))]
          exact List.perm_append_singleton _ _
        · rw [wX_countForWindow_3]
          exact br_t (nI_le (Nat.le_refl _) (by omega)) (a3 _ hp)
      · have hlt : i < n := by omega
        have hne : ¬ nI n ≤ nI i := nI_ge hlt (by omega)
        by_cases hk : oc (i * 7) = k
        · by_cases hs : oc (i * 7 + 1) = s
          · obtain ⟨oc', a1, a2, a3⟩ := xa_add (oc := oc) (xo := nI n) (i := i) (by omega) 1 v v v
            refine Or.inl ⟨_, ⟨oc', n, rfl, ?_, by omega⟩, fun post f hp => ?_⟩
            · obtain ⟨R, p1, _, p2⟩ := li_set (f := xr_r oc) hlt
              have p3 := p2 (xr_r oc') (fun j _ hj => xr_f a2 j hj)
              rw [a1] at p3
              exact p3.trans (ws_hit p1 hd (decide_eq_true ⟨hk, hs⟩) e v).symm
            · rw [wX_countForWindow_3]
              refine br_f hne ?_
              simp (disch := omega) only [forall_eq, vp_in_nI, nI_clamp, pk_us, pk_un, true_and, ix_a0, ix_a1, ix_a2, ix_a3, ix_a4, ix_a5, ix_a6, ix_n7, ix_m7, ix_p1104, ix_p1524, nI_add]
              exact br_t hk (br_t hs (a3 _ hp))
          · refine Or.inr ⟨m - 1, i + 1, by omega, ⟨by omega, lt_s h2 (decide_eq_false (fun z => hs z.2))⟩, fun post f hp => ?_⟩
            rw [wX_countForWindow_3]
            refine br_f hne ?_
            simp (disch := omega) only [forall_eq, vp_in_nI, nI_clamp, pk_us, pk_un, true_and, ix_a0, ix_a1, ix_a2, ix_a3, ix_a4, ix_a5, ix_a6, ix_n7, ix_m7, ix_p1104, ix_p1524, nI_add]
            exact br_t hk (br_f hs hp)
        · refine Or.inr ⟨m - 1, i + 1, by omega, ⟨by omega, lt_s h2 (decide_eq_false (fun z => hk z.1))⟩, fun post f hp => ?_⟩
          rw [wX_countForWindow_3]
          refine br_f hne ?_
          simp (disch := omega) only [forall_eq, vp_in_nI, nI_clamp, pk_us, pk_un, true_and, ix_a0, ix_a1, ix_a2, ix_a3, ix_a4, ix_a5, ix_a6, ix_n7, ix_m7, ix_p1104, ix_p1524, nI_add]
          exact br_f hk hp)
    n 0 ⟨rfl, lt_0⟩
  obtain ⟨_, ⟨oc', n', rfl, h1, h2⟩, h3⟩ := key
  exact ⟨oc', n', h1, h2, fun post hp => ⟨n + 1, h3 post (n + 1) (by omega) hp⟩⟩
theorem xw_bk (W j : Nat) (h : j < W) : nI (W - j) - 1 + (-1) = nI (W - (j + 1)) - 1 := by
  rw [show W - j = W - (j + 1) + 1 from by omega, ← nI_1]
  generalize nI (W - (j + 1)) = x
  grind
theorem xw_all {n dn W kk tn : Nat} {v : Int32} (hd1 : 1 ≤ dn) (hd8 : dn ≤ 8) (hW1 : 1 ≤ W) (hW : W ≤ 4) (hk : kk < 4) (ht : tn ≤ 63) (hn : n + W ≤ 240) (hd : ro_ds (xr_L oc n)) (hp : ∀ r, r ∈ xr_L oc n → 0 < ro_cn r) (hb : ro_cs (xr_L oc n) ≤ 240) : ∃ (oc' : Nat → Int32) (n' : Nat), (xr_L oc' n').Perm (zl_L (nI dn) (nI dn * nI W) mq v (tn / dn) W kk (xr_L oc n) W) ∧ ∀ post : SX → Prop, post (kd, nI dn, nI W, la, mq, if zl_c (nI dn) (nI dn * nI W) mq (tn / dn) W kk W = 0 then lc + 1 else lc, nI n', xq, km, kl, ko, kq, ek, et, ev, ar, tk, ie, oc', rc, kt, ki, kc) → wpX_countForWindows post (kd, nI dn, nI W, la, mq, lc, nI n, xq, km, kl, ko, kq, ek, et, ev, ar, tk, ie, oc, rc, kt, ki, kc) (nI kk) (nI tn) v := by
  have key := lo_ex (ρ := SX) (σ := Nat × Nat × (Nat → Int32))
    (fun post f s => wX_countForWindows_21 post (nI kk) v (nI (dn * (tn / dn))) f (zl_c (nI dn) (nI dn * nI W) mq (tn / dn) W kk s.1) (nI (W - s.1) - 1) kd (nI dn) (nI W) la mq lc (nI s.2.1) xq km kl ko kq ek et ev ar tk ie (s.2.2) rc kt ki kc)
    (fun m s => m + s.1 = W ∧ (xr_L s.2.2 s.2.1).Perm (zl_L (nI dn) (nI dn * nI W) mq v (tn / dn) W kk (xr_L oc n) s.1) ∧ s.2.1 ≤ n + s.1)
    (fun r => ∃ (oc' : Nat → Int32) (n' : Nat), r = (kd, nI dn, nI W, la, mq, if zl_c (nI dn) (nI dn * nI W) mq (tn / dn) W kk W = 0 then lc + 1 else lc, nI n', xq, km, kl, ko, kq, ek, et, ev, ar, tk, ie, oc', rc, kt, ki, kc) ∧ (xr_L oc' n').Perm (zl_L (nI dn) (nI dn * nI W) mq v (tn / dn) W kk (xr_L oc n) W))
    (by
      rintro m ⟨j, n', c⟩ ⟨h1, h2, h3⟩
      dsimp only at *
      by_cases hj : j = W
      · subst hj
        refine Or.inl ⟨_, ⟨c, n', rfl, h2⟩, fun post f hp => ?_⟩
        have hneg : nI (j - j) - 1 < 0 := by
          rw [Nat.sub_self]
          decide
        rw [wX_countForWindows_21]
        refine br_t hneg ?_
        by_cases z : zl_c (nI dn) (nI dn * nI j) mq (tn / dn) j kk j = 0
        · rw [if_pos z] at hp
          exact br_t z (nm_e hp)
        · rw [if_neg z] at hp
          exact br_f z hp
      · have hlt : j < W := by omega
        have e6 : nI (W - j) - 1 = nI (W - 1 - j) := by
          rw [show W - j = W - 1 - j + 1 from by omega]
          exact nI_pred _
        have hneg : ¬ nI (W - j) - 1 < 0 := by
          rw [e6]
          exact nI_pos (by omega)
        have es : nI (dn * (tn / dn)) - (nI (W - j) - 1) * nI dn = wy_s (nI dn) (zl_q (tn / dn) W kk j) := by
          rw [e6]
          exact zl_st hlt hW kk hk ht hd1
        by_cases hm : wy_s (nI dn) (zl_q (tn / dn) W kk j) + nI dn * nI W ≤ mq
        · have hm2 : ¬ mq < wy_s (nI dn) (zl_q (tn / dn) W kk j) + nI dn * nI W := Int32.not_lt.mpr hm
          have e1 : zl_L (nI dn) (nI dn * nI W) mq v (tn / dn) W kk (xr_L oc n) (j + 1) = zl_L (nI dn) (nI dn * nI W) mq v (tn / dn) W kk (xr_L oc n) j := if_neg hm2
          have e2 : zl_c (nI dn) (nI dn * nI W) mq (tn / dn) W kk (j + 1) = zl_c (nI dn) (nI dn * nI W) mq (tn / dn) W kk j := if_neg hm2
          refine Or.inr ⟨m - 1, (j + 1, n', c), by omega, ⟨by dsimp only; omega, by rw [e1]; exact h2, by dsimp only; omega⟩, fun post f hp => ?_⟩
          dsimp only at hp
          rw [e2] at hp
          rw [wX_countForWindows_21]
          exact br_f hneg (nm_r es (nm_e (br_t hm (nm_r (xw_bk W j hlt) hp))))
        · have hm2 : mq < wy_s (nI dn) (zl_q (tn / dn) W kk j) + nI dn * nI W := Int32.not_le.mp hm
          have e1 : zl_L (nI dn) (nI dn * nI W) mq v (tn / dn) W kk (xr_L oc n) (j + 1) = ro_ws (zl_L (nI dn) (nI dn * nI W) mq v (tn / dn) W kk (xr_L oc n) j) (nI kk) (wy_s (nI dn) (zl_q (tn / dn) W kk j)) (wy_s (nI dn) (zl_q (tn / dn) W kk j) + nI dn * nI W) v := if_pos hm2
          have e2 : zl_c (nI dn) (nI dn * nI W) mq (tn / dn) W kk (j + 1) = 1 := if_pos hm2
          have hz := zl_i (d := nI dn) (p := nI dn * nI W) (m := mq) (v := v) (a := tn / dn) (W := W) (k := kk) hd hp (by omega) j (by omega)
          obtain ⟨oc', n2, q1, q2, q3⟩ := xw_one (kd := kd) (wd := nI dn) (wn := nI W) (la := la) (mq := mq) (lc := lc) (xq := xq) (km := km) (kl := kl) (ko := ko) (kq := kq) (ek := ek) (et := et) (ev := ev) (ar := ar) (tk := tk) (ie := ie) (oc := c) (rc := rc) (kt := kt) (ki := ki) (kc := kc) (n := n') (by omega) (nI kk) (wy_s (nI dn) (zl_q (tn / dn) W kk j)) (wy_s (nI dn) (zl_q (tn / dn) W kk j) + nI dn * nI W) v (ro_ds_p h2.symm hz.1)
          refine Or.inr ⟨m - 1, (j + 1, n2, oc'), by omega, ⟨by dsimp only; omega, ?_, by dsimp only; omega⟩, fun post f hp => ?_⟩
          · dsimp only
            rw [e1]
            exact q1.trans (ws_p h2 _ _ _ _)
          · dsimp only at hp
            rw [e2] at hp
            rw [wX_countForWindows_21]
            exact br_f hneg (nm_r es (nm_e (br_f hm (q3 _ (nm_r (xw_bk W j hlt) hp)))))
      )
    W (0, n, oc) ⟨rfl, List.Perm.refl _, Nat.le_refl _⟩
  obtain ⟨_, ⟨oc', n', rfl, h1⟩, h3⟩ := key
  refine ⟨oc', n', h1, fun post hp => ?_⟩
  unfold wpX_countForWindows
  dsimp only
  have e0 : ¬ nI dn = 0 := nI_ne0 (by omega) (by omega)
  have e1 : nI tn - (nI tn - nI tn / nI dn * nI dn) = nI (dn * (tn / dn)) := by
    rw [pk_rem (by omega) (by omega) (by omega), pk_sub (Nat.mod_le _ _)]
    refine congrArg nI ?_
    have := Nat.div_add_mod tn dn
    omega
  exact ⟨e0, nm_r e1 (nm_e ⟨W + 1, h3 post (W + 1) (by omega) hp⟩)⟩
/-! sessions -/
theorem xs_ft {n : Nat} (hn : n ≤ 240) (k t : Int32) : ∃ r : Int32, ((∃ i, i < n ∧ r = nI i ∧ ss_tc k t wd (xr_r oc i) = true ∧ ∀ j, j < i → ss_tc k t wd (xr_r oc j) = false) ∨ (r = -1 ∧ ∀ j, j < n → ss_tc k t wd (xr_r oc j) = false)) ∧ ∀ post : Int32 → Prop, post r → wpX_firstTouched post (kd, wd, wn, la, mq, lc, nI n, xq, km, kl, ko, kq, ek, et, ev, ar, tk, ie, oc, rc, kt, ki, kc) k t := by
  have key := lo_ex (ρ := Int32) (σ := Nat)
    (fun post f i => wX_firstTouched_2 post k t kd wd wn la mq lc (nI n) xq km kl ko kq ek et ev ar tk ie oc rc kt ki kc f (nI i))
    (fun m i => m + i = n ∧ ∀ j, j < i → ss_tc k t wd (xr_r oc j) = false)
    (fun r => (∃ i, i < n ∧ r = nI i ∧ ss_tc k t wd (xr_r oc i) = true ∧ ∀ j, j < i → ss_tc k t wd (xr_r oc j) = false) ∨ (r = -1 ∧ ∀ j, j < n → ss_tc k t wd (xr_r oc j) = false))
    (by
      rintro m i ⟨h1, h2⟩
      by_cases hi : i = n
      · subst hi
        refine Or.inl ⟨-1, Or.inr ⟨rfl, h2⟩, fun post f hp => ?_⟩
        rw [wX_firstTouched_2]
        exact br_t (nI_le (Nat.le_refl _) (by omega)) hp
      · have hlt : i < n := by omega
        have hne : ¬ nI n ≤ nI i := nI_ge hlt (by omega)
        cases ht : ss_tc k t wd (xr_r oc i) with
        | false =>
          refine Or.inr ⟨m - 1, i + 1, by omega, ⟨by omega, lt_s h2 ht⟩, fun post f hp => ?_⟩
          rw [wX_firstTouched_2]
          refine br_f hne (xa_tc (by omega) ?_)
          rw [ht]
          exact br_t rfl (nm_r (nI_1 i) hp)
        | true =>
          refine Or.inl ⟨nI i, Or.inl ⟨i, hlt, rfl, ht, h2⟩, fun post f hp => ?_⟩
          rw [wX_firstTouched_2]
          refine br_f hne (xa_tc (by omega) ?_)
          rw [ht]
          exact br_f (by decide) hp)
    n 0 ⟨rfl, lt_0⟩
  obtain ⟨r, h1, h3⟩ := key
  exact ⟨r, h1, fun post hp => ⟨n + 1, h3 post (n + 1) (by omega) hp⟩⟩
theorem xs_jn {n home : Nat} (hn : n ≤ 240) (hh : home < n) (k t : Int32) (hl : ∀ j, j < home → ss_tc k t wd (xr_r oc j) = false) : ∃ (oc' : Nat → Int32) (n' : Nat), n' ≤ n ∧ jx_I k t wd (xr_L oc n) (xr_r oc home) home (home + 1) n' (xr_r oc') ∧ ∀ post : SX → Prop, post (kd, wd, wn, la, mq, lc, nI n', xq, km, kl, ko, kq, ek, et, ev, ar, tk, ie, oc', rc, kt, ki, kc) → wpX_joinTouched post (kd, wd, wn, la, mq, lc, nI n, xq, km, kl, ko, kq, ek, et, ev, ar, tk, ie, oc, rc, kt, ki, kc) (nI home) k t := by
  have key := lo_ex (ρ := SX) (σ := Nat × Nat × (Nat → Int32))
    (fun post f s => wX_joinTouched_8 post (nI home) k t f (nI s.1) kd wd wn la mq lc (nI s.2.1) xq km kl ko kq ek et ev ar tk ie (s.2.2) rc kt ki kc)
    (fun m s => m + home = s.1 ∧ s.2.1 ≤ n ∧ jx_I k t wd (xr_L oc n) (xr_r oc home) home (s.1 + 1) s.2.1 (xr_r s.2.2))
    (fun r => ∃ (oc' : Nat → Int32) (n' : Nat), r = (kd, wd, wn, la, mq, lc, nI n', xq, km, kl, ko, kq, ek, et, ev, ar, tk, ie, oc', rc, kt, ki, kc) ∧ n' ≤ n ∧ jx_I k t wd (xr_L oc n) (xr_r oc home) home (home + 1) n' (xr_r oc'))
    (by
      rintro m ⟨row, n', c⟩ ⟨h1, h2, h3⟩
      dsimp only at *
      have hp1 : row + 1 ≤ n' := by
        obtain ⟨M, R, a1, a2, _⟩ := h3
        exact a2
      by_cases hr : row = home
      · subst hr
        refine Or.inl ⟨_, ⟨c, n', rfl, h2, h3⟩, fun post f hp => ?_⟩
        rw [wX_joinTouched_8]
        exact br_t (nI_le (Nat.le_refl _) (by omega)) hp
      · have hlt : home < row := by omega
        have hne : ¬ nI row ≤ nI home := nI_ge hlt (by omega)
        obtain ⟨row', rfl⟩ : ∃ r, row = r + 1 := ⟨row - 1, by omega⟩
        cases ht : ss_tc k t wd (xr_r c (row' + 1)) with
        | false =>
          refine Or.inr ⟨m - 1, (row', n', c), by omega, ⟨by dsimp only; omega, h2, jx_n h3 (by omega) ht⟩, fun post f hp => ?_⟩
          rw [wX_joinTouched_8]
          refine br_f hne (xa_tc (by omega) ?_)
          rw [ht]
          exact br_t rfl (nm_r (pk_m1 row') hp)
        | true =>
          obtain ⟨n2, rfl⟩ : ∃ r, n' = r + 1 := ⟨n' - 1, by omega⟩
          obtain ⟨c1, a1, a2, a3⟩ := xa_add (kd := kd) (wd := wd) (wn := wn) (la := la) (mq := mq) (lc := lc) (xo := nI (n2 + 1)) (xq := xq) (km := km) (kl := kl) (ko := ko) (kq := kq) (ek := ek) (et := et) (ev := ev) (ar := ar) (tk := tk) (ie := ie) (oc := c) (rc := rc) (kt := kt) (ki := ki) (kc := kc) (i := home) (by omega) (c ((row' + 1) * 7 + 3)) (c ((row' + 1) * 7 + 4)) (c ((row' + 1) * 7 + 5)) (c ((row' + 1) * 7 + 6))
          obtain ⟨c2, b1, b2, b3⟩ := xa_str (kd := kd) (wd := wd) (wn := wn) (la := la) (mq := mq) (lc := lc) (xo := nI (n2 + 1)) (xq := xq) (km := km) (kl := kl) (ko := ko) (kq := kq) (ek := ek) (et := et) (ev := ev) (ar := ar) (tk := tk) (ie := ie) (oc := c1) (rc := rc) (kt := kt) (ki := ki) (kc := kc) (i := home) (by omega) (c1 ((row' + 1) * 7 + 1)) (c1 ((row' + 1) * 7 + 2))
          obtain ⟨c3, d1, d2, d3⟩ := xa_rm (kd := kd) (wd := wd) (wn := wn) (la := la) (mq := mq) (lc := lc) (xq := xq) (km := km) (kl := kl) (ko := ko) (kq := kq) (ek := ek) (et := et) (ev := ev) (ar := ar) (tk := tk) (ie := ie) (oc := c2) (rc := rc) (kt := kt) (ki := ki) (kc := kc) (n := n2) (i := row' + 1) (by omega) (by omega)
          have e1 : xr_r c2 home = ro_mg (xr_r c home) (xr_r c (row' + 1)) := by
            rw [b1, a1, a2 _ (by omega), a2 _ (by omega)]
            rfl
          refine Or.inr ⟨m - 1, (row', n2, c3), by omega, ⟨by dsimp only; omega, by dsimp only; omega, ?_⟩, fun post f hp => ?_⟩
          · refine jx_t (f' := xr_r c2) h3 hlt ht e1 (fun j _ hj => (xr_f b2 j hj).trans (xr_f a2 j hj)) (fun j _ hj => xr_f d2 j hj) (fun _ => d1)
          · rw [wX_joinTouched_8]
            refine br_f hne (xa_tc (by omega) ?_)
            rw [ht]
            refine br_f (by decide) ?_
            simp (disch := omega) only [forall_eq, vp_in_nI, nI_clamp, pk_us, pk_un, true_and, ix_a0, ix_a1, ix_a2, ix_a3, ix_a4, ix_a5, ix_a6, ix_n7, ix_m7, ix_p1104, ix_p1524, nI_add]
            refine a3 _ ?_
            dsimp only
            refine b3 _ ?_
            dsimp only
            refine d3 _ ?_
            dsimp only at hp ⊢
            rw [← pk_m1 row'] at hp
            exact hp)
    (n - 1 - home) (n - 1, n, oc) ⟨by dsimp only; omega, Nat.le_refl _, by
      dsimp only
      rw [show n - 1 + 1 = n from by omega]
      exact jx_0 hh hl⟩
  obtain ⟨_, ⟨oc', n', rfl, h1, h2⟩, h3⟩ := key
  refine ⟨oc', n', h1, h2, fun post hp => ?_⟩
  unfold wpX_joinTouched
  dsimp only
  exact nm_r (e' := nI (n - 1)) (ix_s1 (by omega)) ⟨_, h3 post (n - 1 - home + 1) (by omega) hp⟩
theorem xs_all {n : Nat} (hn : n < 240) (k t v : Int32) : ∃ (oc' : Nat → Int32) (n' : Nat), (xr_L oc' n').Perm (ss_L (xr_L oc n) mq wd k t v) ∧ ∀ post : SX → Prop, post (kd, wd, wn, la, mq, if ss_lt (xr_L oc n) mq wd k t then lc + 1 else lc, nI n', xq, km, kl, ko, kq, ek, et, ev, ar, tk, ie, oc', rc, kt, ki, kc) → wpX_countForSession post (kd, wd, wn, la, mq, lc, nI n, xq, km, kl, ko, kq, ek, et, ev, ar, tk, ie, oc, rc, kt, ki, kc) k t v := by
  obtain ⟨r, hr, h3⟩ := xs_ft (kd := kd) (wd := wd) (wn := wn) (la := la) (mq := mq) (lc := lc) (xq := xq) (km := km) (kl := kl) (ko := ko) (kq := kq) (ek := ek) (et := et) (ev := ev) (ar := ar) (tk := tk) (ie := ie) (oc := oc) (rc := rc) (kt := kt) (ki := ki) (kc := kc) (n := n) (by omega) k t
  rcases hr with ⟨i, hi, rfl, ht, hl⟩ | ⟨rfl, hl⟩
  · obtain ⟨c, n', q1, q2, q3⟩ := xs_jn (kd := kd) (wd := wd) (wn := wn) (la := la) (mq := mq) (lc := lc) (xq := xq) (km := km) (kl := kl) (ko := ko) (kq := kq) (ek := ek) (et := et) (ev := ev) (ar := ar) (tk := tk) (ie := ie) (oc := oc) (rc := rc) (kt := kt) (ki := ki) (kc := kc) (n := n) (by omega) hi k t hl
    have hin : i < n' := by
      obtain ⟨M, R, a1, a2, _⟩ := q2
      omega
    obtain ⟨c1, a1, a2, a3⟩ := xa_add (kd := kd) (wd := wd) (wn := wn) (la := la) (mq := mq) (lc := lc) (xo := nI n') (xq := xq) (km := km) (kl := kl) (ko := ko) (kq := kq) (ek := ek) (et := et) (ev := ev) (ar := ar) (tk := tk) (ie := ie) (oc := c) (rc := rc) (kt := kt) (ki := ki) (kc := kc) (i := i) (by omega) 1 v v v
    obtain ⟨c2, b1, b2, b3⟩ := xa_str (kd := kd) (wd := wd) (wn := wn) (la := la) (mq := mq) (lc := lc) (xo := nI n') (xq := xq) (km := km) (kl := kl) (ko := ko) (kq := kq) (ek := ek) (et := et) (ev := ev) (ar := ar) (tk := tk) (ie := ie) (oc := c1) (rc := rc) (kt := kt) (ki := ki) (kc := kc) (i := i) (by omega) t (t + wd)
    have e1 : xr_r c2 i = ro_mg (xr_r c i) (ro_nw k t (t + wd) v) := by
      rw [b1, a1]
      rfl
    obtain ⟨w1, w2⟩ := jx_e (m := mq) q2 ht e1 (fun j _ hj => (xr_f b2 j hj).trans (xr_f a2 j hj))
    refine ⟨c2, n', w1, fun post hp => ?_⟩
    rw [if_neg w2] at hp
    unfold wpX_countForSession
    dsimp only
    refine h3 _ (br_f (nI_pos (by omega)) (q3 _ ?_))
    dsimp only
    refine a3 _ ?_
    dsimp only
    refine b3 _ ?_
    dsimp only
    exact hp
  · have hno : (xr_L oc n).any (ss_tc k t wd) = false := by
      rw [List.any_eq_false]
      intro x hx
      obtain ⟨j, hj, rfl⟩ := li_mem.mp hx
      rw [hl j hj]
      exact Bool.false_ne_true
    by_cases hm : mq < t + wd
    · obtain ⟨oc', a1, a2, a3⟩ := xa_opn (kd := kd) (wd := wd) (wn := wn) (la := la) (mq := mq) (lc := lc) (xq := xq) (km := km) (kl := kl) (ko := ko) (kq := kq) (ek := ek) (et := et) (ev := ev) (ar := ar) (tk := tk) (ie := ie) (oc := oc) (rc := rc) (kt := kt) (ki := ki) (kc := kc) (n := n) hn k t (t + wd) v
      refine ⟨oc', n + 1, ?_, fun post hp => ?_⟩
      · unfold ss_L
        rw [if_neg (by rw [hno]; exact Bool.false_ne_true), if_neg (Int32.not_le.mpr hm)]
        unfold xr_L
        rw [li_s, a1, li_cg (f := xr_r oc') (g := xr_r oc) (fun j hj => xr_f a2 j (by omega))]
        exact List.perm_append_singleton _ _
      · rw [if_neg (fun z => absurd z.2 (Int32.not_le.mpr hm))] at hp
        unfold wpX_countForSession
        dsimp only
        exact h3 _ (br_t (by decide) (br_t hm (a3 _ hp)))
    · refine ⟨oc, n, ?_, fun post hp => ?_⟩
      · unfold ss_L
        rw [if_neg (by rw [hno]; exact Bool.false_ne_true), if_pos (Int32.not_lt.mp hm)]
      · rw [if_pos ⟨hno, Int32.not_lt.mp hm⟩] at hp
        unfold wpX_countForSession
        dsimp only
        exact h3 _ (br_t (by decide) (br_f hm (nm_e hp)))
end
