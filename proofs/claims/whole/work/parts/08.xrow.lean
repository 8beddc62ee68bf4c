/-! the component's rows, one method after the other -/
section
variable {kd wd wn la mq lc xo xq km kl ko kq : Int32} {ek et ev ar tk ie oc rc kt ki kc : Nat → Int32}
theorem xr_f {c c' : Nat → Int32} {i : Nat} (h : ∀ j, (j < i * 7 ∨ i * 7 + 7 ≤ j) → c' j = c j) : ∀ j, j ≠ i → xr_r c' j = xr_r c j := by
  intro j hj
  exact ro_at_cg (fun x h1 h2 => h x (by omega))
theorem xa_tc {post : Int32 → Prop} {i : Nat} {k t : Int32} (hi : i < 240) (h : post (if ss_tc k t wd (xr_r oc i) = true then 1 else 0)) : wpX_touches post (kd, wd, wn, la, mq, lc, xo, xq, km, kl, ko, kq, ek, et, ev, ar, tk, ie, oc, rc, kt, ki, kc) (nI i) k t := by
  unfold wpX_touches
  dsimp only
  simp (disch := omega) only [forall_eq, vp_in_nI, nI_clamp, pk_us, pk_un, true_and, ix_a0, ix_a1, ix_a2, ix_a3, ix_a4, ix_a5, ix_a6, ix_n7, ix_m7, ix_p1104, ix_p1524, nI_add]
  have e : ss_tc k t wd (xr_r oc i) = decide (oc (i * 7) = k ∧ oc (i * 7 + 1) - wd ≤ t ∧ t ≤ oc (i * 7 + 2)) := rfl
  rw [e] at h
  simp only [decide_eq_true_eq] at h
  by_cases h1 : oc (i * 7) = k
  · refine br_t h1 ?_
    by_cases h2 : t < oc (i * 7 + 1) - wd
    · refine br_t h2 ?_
      rw [if_neg (fun z => absurd z.2.1 (Int32.not_le.mpr h2))] at h
      exact h
    · refine br_f h2 ?_
      by_cases h3 : oc (i * 7 + 2) < t
      · refine br_t h3 ?_
        rw [if_neg (fun z => absurd z.2.2 (Int32.not_le.mpr h3))] at h
        exact h
      · refine br_f h3 ?_
        rw [if_pos ⟨h1, Int32.not_lt.mp h2, Int32.not_lt.mp h3⟩] at h
        exact h
  · refine br_f h1 ?_
    rw [if_neg (fun z => h1 z.1)] at h
    exact h
theorem xa_add {i : Nat} (hi : i < 240) (c u l g : Int32) : ∃ oc' : Nat → Int32, xr_r oc' i = ro_ad (xr_r oc i) c u l g ∧ (∀ j, (j < i * 7 ∨ i * 7 + 7 ≤ j) → oc' j = oc j) ∧ ∀ post : SX → Prop, post (kd, wd, wn, la, mq, lc, xo, xq, km, kl, ko, kq, ek, et, ev, ar, tk, ie, oc', rc, kt, ki, kc) → wpX_addToRow post (kd, wd, wn, la, mq, lc, xo, xq, km, kl, ko, kq, ek, et, ev, ar, tk, ie, oc, rc, kt, ki, kc) (nI i) c u l g := by
  by_cases a : oc (i * 7 + 5) ≤ l
  · have a2 : ¬ l < oc (i * 7 + 5) := Int32.not_lt.mpr a
    by_cases e : g ≤ oc (i * 7 + 6)
    · have e2 : ¬ oc (i * 7 + 6) < g := Int32.not_lt.mpr e
      refine ⟨upd (upd oc (i * 7 + 3) (oc (i * 7 + 3) + c)) (i * 7 + 4) (oc (i * 7 + 4) + u), ?_, ?_, fun post hp => ?_⟩
      · unfold xr_r ro_at ro_ad ro_mn ro_mx
        simp (disch := omega) only [pk_us, pk_un, if_neg a2, if_neg e2]
      · intro j hj
        simp (disch := omega) only [pk_un]
      · unfold wpX_addToRow wX_addToRow_57
        dsimp only
        simp (disch := omega) only [forall_eq, vp_in_nI, nI_clamp, pk_us, pk_un, true_and, ix_a0, ix_a1, ix_a2, ix_a3, ix_a4, ix_a5, ix_a6, ix_n7, ix_m7, ix_p1104, ix_p1524, nI_add]
        exact br_t a (br_t e hp)
    · have e2 : oc (i * 7 + 6) < g := Int32.not_le.mp e
      refine ⟨upd (upd (upd oc (i * 7 + 3) (oc (i * 7 + 3) + c)) (i * 7 + 4) (oc (i * 7 + 4) + u)) (i * 7 + 6) g, ?_, ?_, fun post hp => ?_⟩
      · unfold xr_r ro_at ro_ad ro_mn ro_mx
        simp (disch := omega) only [pk_us, pk_un, if_neg a2, if_pos e2]
      · intro j hj
        simp (disch := omega) only [pk_un]
      · unfold wpX_addToRow wX_addToRow_57
        dsimp only
        simp (disch := omega) only [forall_eq, vp_in_nI, nI_clamp, pk_us, pk_un, true_and, ix_a0, ix_a1, ix_a2, ix_a3, ix_a4, ix_a5, ix_a6, ix_n7, ix_m7, ix_p1104, ix_p1524, nI_add]
        exact br_t a (br_f e hp)
  · have a2 : l < oc (i * 7 + 5) := Int32.not_le.mp a
    by_cases e : g ≤ oc (i * 7 + 6)
    · have e2 : ¬ oc (i * 7 + 6) < g := Int32.not_lt.mpr e
      refine ⟨upd (upd (upd oc (i * 7 + 3) (oc (i * 7 + 3) + c)) (i * 7 + 4) (oc (i * 7 + 4) + u)) (i * 7 + 5) l, ?_, ?_, fun post hp => ?_⟩
      · unfold xr_r ro_at ro_ad ro_mn ro_mx
        simp (disch := omega) only [pk_us, pk_un, if_pos a2, if_neg e2]
      · intro j hj
        simp (disch := omega) only [pk_un]
      · unfold wpX_addToRow wX_addToRow_57
        dsimp only
        simp (disch := omega) only [forall_eq, vp_in_nI, nI_clamp, pk_us, pk_un, true_and, ix_a0, ix_a1, ix_a2, ix_a3, ix_a4, ix_a5, ix_a6, ix_n7, ix_m7, ix_p1104, ix_p1524, nI_add]
        exact br_f a (br_t e hp)
    · have e2 : oc (i * 7 + 6) < g := Int32.not_le.mp e
      refine ⟨upd (upd (upd (upd oc (i * 7 + 3) (oc (i * 7 + 3) + c)) (i * 7 + 4) (oc (i * 7 + 4) + u)) (i * 7 + 5) l) (i * 7 + 6) g, ?_, ?_, fun post hp => ?_⟩
      · unfold xr_r ro_at ro_ad ro_mn ro_mx
        simp (disch := omega) only [pk_us, pk_un, if_pos a2, if_pos e2]
      · intro j hj
        simp (disch := omega) only [pk_un]
      · unfold wpX_addToRow wX_addToRow_57
        dsimp only
        simp (disch := omega) only [forall_eq, vp_in_nI, nI_clamp, pk_us, pk_un, true_and, ix_a0, ix_a1, ix_a2, ix_a3, ix_a4, ix_a5, ix_a6, ix_n7, ix_m7, ix_p1104, ix_p1524, nI_add]
        exact br_f a (br_f e hp)
theorem xa_str {i : Nat} (hi : i < 240) (s e : Int32) : ∃ oc' : Nat → Int32, xr_r oc' i = ro_st (xr_r oc i) s e ∧ (∀ j, (j < i * 7 ∨ i * 7 + 7 ≤ j) → oc' j = oc j) ∧ ∀ post : SX → Prop, post (kd, wd, wn, la, mq, lc, xo, xq, km, kl, ko, kq, ek, et, ev, ar, tk, ie, oc', rc, kt, ki, kc) → wpX_stretchRow post (kd, wd, wn, la, mq, lc, xo, xq, km, kl, ko, kq, ek, et, ev, ar, tk, ie, oc, rc, kt, ki, kc) (nI i) s e := by
  by_cases a : oc (i * 7 + 1) ≤ s
  · have a2 : ¬ s < oc (i * 7 + 1) := Int32.not_lt.mpr a
    by_cases f : e ≤ oc (i * 7 + 2)
    · have f2 : ¬ oc (i * 7 + 2) < e := Int32.not_lt.mpr f
      refine ⟨oc, ?_, fun _ _ => rfl, fun post hp => ?_⟩
      · unfold xr_r ro_at ro_st ro_mn ro_mx
        simp (disch := omega) only [if_neg a2, if_neg f2]
      · unfold wpX_stretchRow wX_stretchRow_29
        dsimp only
        simp (disch := omega) only [forall_eq, vp_in_nI, nI_clamp, pk_us, pk_un, true_and, ix_a0, ix_a1, ix_a2, ix_a3, ix_a4, ix_a5, ix_a6, ix_n7, ix_m7, ix_p1104, ix_p1524, nI_add]
        exact br_t a (br_t f hp)
    · have f2 : oc (i * 7 + 2) < e := Int32.not_le.mp f
      refine ⟨upd oc (i * 7 + 2) e, ?_, ?_, fun post hp => ?_⟩
      · unfold xr_r ro_at ro_st ro_mn ro_mx
        simp (disch := omega) only [pk_us, pk_un, if_neg a2, if_pos f2]
      · intro j hj
        simp (disch := omega) only [pk_un]
      · unfold wpX_stretchRow wX_stretchRow_29
        dsimp only
        simp (disch := omega) only [forall_eq, vp_in_nI, nI_clamp, pk_us, pk_un, true_and, ix_a0, ix_a1, ix_a2, ix_a3, ix_a4, ix_a5, ix_a6, ix_n7, ix_m7, ix_p1104, ix_p1524, nI_add]
        exact br_t a (br_f f hp)
  · have a2 : s < oc (i * 7 + 1) := Int32.not_le.mp a
    by_cases f : e ≤ oc (i * 7 + 2)
    · have f2 : ¬ oc (i * 7 + 2) < e := Int32.not_lt.mpr f
      refine ⟨upd oc (i * 7 + 1) s, ?_, ?_, fun post hp => ?_⟩
      · unfold xr_r ro_at ro_st ro_mn ro_mx
        simp (disch := omega) only [pk_us, pk_un, if_pos a2, if_neg f2]
      · intro j hj
        simp (disch := omega) only [pk_un]
      · unfold wpX_stretchRow wX_stretchRow_29
        dsimp only
        simp (disch := omega) only [forall_eq, vp_in_nI, nI_clamp, pk_us, pk_un, true_and, ix_a0, ix_a1, ix_a2, ix_a3, ix_a4, ix_a5, ix_a6, ix_n7, ix_m7, ix_p1104, ix_p1524, nI_add]
        exact br_f a (br_t f hp)
    · have f2 : oc (i * 7 + 2) < e := Int32.not_le.mp f
      refine ⟨upd (upd oc (i * 7 + 1) s) (i * 7 + 2) e, ?_, ?_, fun post hp => ?_⟩
      · unfold xr_r ro_at ro_st ro_mn ro_mx
        simp (disch := omega) only [pk_us, pk_un, if_pos a2, if_pos f2]
      · intro j hj
        simp (disch := omega) only [pk_un]
      · unfold wpX_stretchRow wX_stretchRow_29
        dsimp only
        simp (disch := omega) only [forall_eq, vp_in_nI, nI_clamp, pk_us, pk_un, true_and, ix_a0, ix_a1, ix_a2, ix_a3, ix_a4, ix_a5, ix_a6, ix_n7, ix_m7, ix_p1104, ix_p1524, nI_add]
        exact br_f a (br_f f hp)
theorem xa_opn {n : Nat} (hn : n < 240) (k s e v : Int32) : ∃ oc' : Nat → Int32, xr_r oc' n = ro_nw k s e v ∧ (∀ j, (j < n * 7 ∨ n * 7 + 7 ≤ j) → oc' j = oc j) ∧ ∀ post : SX → Prop, post (kd, wd, wn, la, mq, lc, nI (n + 1), xq, km, kl, ko, kq, ek, et, ev, ar, tk, ie, oc', rc, kt, ki, kc) → wpX_openRow post (kd, wd, wn, la, mq, lc, nI n, xq, km, kl, ko, kq, ek, et, ev, ar, tk, ie, oc, rc, kt, ki, kc) k s e v := by
  refine ⟨upd (upd (upd (upd (upd (upd (upd oc (n * 7) k) (n * 7 + 1) s) (n * 7 + 2) e) (n * 7 + 3) 1) (n * 7 + 4) v) (n * 7 + 5) v) (n * 7 + 6) v, ?_, ?_, fun post hp => ?_⟩
  · unfold xr_r ro_at ro_nw
    simp (disch := omega) only [pk_us, pk_un]
  · intro j hj
    simp (disch := omega) only [pk_un]
  · unfold wpX_openRow
    dsimp only
    have h : nI n < 240 := nI_lt (b := 240) hn (by decide)
    simp (disch := omega) only [forall_eq, vp_in_nI, nI_clamp, pk_us, pk_un, true_and, ix_a0, ix_a1, ix_a2, ix_a3, ix_a4, ix_a5, ix_a6, ix_n7, ix_m7, ix_p1104, ix_p1524, nI_add]
    exact br_t h hp
/-- the last row moves into row i -/
theorem xa_rm {n i : Nat} (hn : n < 240) (hi : i < n + 1) : ∃ oc' : Nat → Int32, xr_r oc' i = xr_r oc n ∧ (∀ j, (j < i * 7 ∨ i * 7 + 7 ≤ j) → oc' j = oc j) ∧ ∀ post : SX → Prop, post (kd, wd, wn, la, mq, lc, nI n, xq, km, kl, ko, kq, ek, et, ev, ar, tk, ie, oc', rc, kt, ki, kc) → wpX_removeRow post (kd, wd, wn, la, mq, lc, nI (n + 1), xq, km, kl, ko, kq, ek, et, ev, ar, tk, ie, oc, rc, kt, ki, kc) (nI i) := by
  have key := lo_ex (ρ := SX) (σ := Nat × (Nat → Int32))
    (fun post f s => wX_removeRow_9 post (nI i) (nI n) kd wd wn la mq lc (nI (n + 1)) xq km kl ko kq f (nI s.1) ek et ev ar tk ie s.2 rc kt ki kc)
    (fun m s => m + s.1 = 7 ∧ (∀ j, j < s.1 → s.2 (i * 7 + j) = oc (n * 7 + j)) ∧ (∀ j, (j < i * 7 ∨ i * 7 + s.1 ≤ j) → s.2 j = oc j))
    (fun r => ∃ c : Nat → Int32, r = (kd, wd, wn, la, mq, lc, nI n, xq, km, kl, ko, kq, ek, et, ev, ar, tk, ie, c, rc, kt, ki, kc) ∧ (∀ j, j < 7 → c (i * 7 + j) = oc (n * 7 + j)) ∧ (∀ j, (j < i * 7 ∨ i * 7 + 7 ≤ j) → c j = oc j))
    (by
      rintro m ⟨x, c⟩ ⟨h1, h2, h3⟩
      dsimp only at *
      by_cases hx : x = 7
      · subst hx
        refine Or.inl ⟨_, ⟨c, rfl, h2, h3⟩, fun post f hp => ?_⟩
        exact br_t (nI_le (a := 7) (b := 7) (Nat.le_refl _) (by decide)) hp
      · refine Or.inr ⟨m - 1, (x + 1, upd c (i * 7 + x) (oc (n * 7 + x))), by omega, ⟨by dsimp only; omega, ?_, ?_⟩, fun post f hp => ?_⟩
        · intro j hj
          dsimp only at *
          by_cases z : j = x
          · rw [z, pk_us]
          · rw [pk_un (by omega)]
            exact h2 j (by omega)
        · intro j hj
          dsimp only at *
          rw [pk_un (by omega)]
          exact h3 j (by omega)
        · have e : c (n * 7 + x) = oc (n * 7 + x) := by
            by_cases z : n = i
            · rw [z]
              exact h3 _ (by omega)
            · exact h3 _ (by omega)
          rw [wX_removeRow_9]
          refine br_f (nI_ge (a := x) (b := 7) (by omega) (by decide)) ?_
          simp (disch := omega) only [forall_eq, vp_in_nI, nI_clamp, pk_us, pk_un, true_and, ix_a0, ix_a1, ix_a2, ix_a3, ix_a4, ix_a5, ix_a6, ix_n7, ix_m7, ix_p1104, ix_p1524, nI_add, e]
          exact hp)
    7 (0, oc) ⟨rfl, (fun j hj => absurd hj (Nat.not_lt_zero j)), fun _ _ => rfl⟩
  obtain ⟨_, ⟨c, rfl, h1, h2⟩, h3⟩ := key
  refine ⟨c, ro_at_o h1, h2, fun post hp => ?_⟩
  unfold wpX_removeRow
  dsimp only
  exact nm_r (e' := nI n) (nI_pred n) ⟨8, h3 post 8 (by omega) hp⟩
end
