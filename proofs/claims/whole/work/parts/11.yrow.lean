/-! the reference's rows -/
section
variable {kd dd pp la : Int32} {sz co va b cp : Nat → Int32}
theorem ya_tc {post : Int32 → Prop} {i : Nat} {k t : Int32} (hi : i < 60) (h : post (if ss_tc k t dd (ys_r dd b i) = true then 1 else 0)) : wpY_touches post (kd, dd, pp, la, sz, co, va, b, cp) (nI (1104 + 7 * i)) t k := by
  unfold wpY_touches
  dsimp only
  simp (disch := omega) only [forall_eq, vp_in_nI, nI_clamp, pk_us, pk_un, true_and, ix_a0, ix_a1, ix_a2, ix_a3, ix_a4, ix_a5, ix_a6, ix_n7, ix_m7, ix_p1104, ix_p1524, nI_add]
  have e : ss_tc k t dd (ys_r dd b i) = decide (b (1104 + 7 * i) = k ∧ b (1104 + 7 * i + 1) - dd ≤ t ∧ t ≤ b (1104 + 7 * i + 2) + dd) := rfl
  rw [e] at h
  simp only [decide_eq_true_eq] at h
  by_cases h1 : b (1104 + 7 * i) = k
  · refine br_t h1 ?_
    by_cases h2 : t < b (1104 + 7 * i + 1) - dd
    · refine br_t h2 ?_
      rw [if_neg (fun z => absurd z.2.1 (Int32.not_le.mpr h2))] at h
      exact h
    · refine br_f h2 ?_
      by_cases h3 : b (1104 + 7 * i + 2) + dd < t
      · refine br_t h3 ?_
        rw [if_neg (fun z => absurd z.2.2 (Int32.not_le.mpr h3))] at h
        exact h
      · refine br_f h3 ?_
        rw [if_pos ⟨h1, Int32.not_lt.mp h2, Int32.not_lt.mp h3⟩] at h
        exact h
  · refine br_f h1 ?_
    rw [if_neg (fun z => h1 z.1)] at h
    exact h
theorem ya_cnt {o : Nat} (ho : o + 4 ≤ 3316) (c u l g : Int32) : ∃ b' : Nat → Int32, b' o = b o + c ∧ b' (o + 1) = (if b o = 0 then u else b (o + 1) + u) ∧ b' (o + 2) = (if b o = 0 then l else ro_mn l (b (o + 2))) ∧ b' (o + 3) = (if b o = 0 then g else ro_mx g (b (o + 3))) ∧ (∀ j, (j < o ∨ o + 4 ≤ j) → b' j = b j) ∧ ∀ post : SY → Prop, post (kd, dd, pp, la, sz, co, va, b', cp) → wpY_count post (kd, dd, pp, la, sz, co, va, b, cp) (nI o) c u l g := by
  by_cases z : b o = 0
  · refine ⟨upd (upd (upd (upd b (o + 2) l) (o + 3) g) (o + 1) u) o (b o + c), ?_, ?_, ?_, ?_, ?_, fun post hp => ?_⟩
    · simp (disch := omega) only [pk_us]
    · simp (disch := omega) only [pk_us, pk_un, if_pos z]
    · simp (disch := omega) only [pk_us, pk_un, if_pos z]
    · simp (disch := omega) only [pk_us, pk_un, if_pos z]
    · intro j hj
      simp (disch := omega) only [pk_un]
    · unfold wpY_count wY_count_14 wY_count_34 wY_count_44 wY_count_62 wY_count_72 wY_count_98
      dsimp only
      simp (disch := omega) only [forall_eq, vp_in_nI, nI_clamp, pk_us, pk_un, true_and, ix_a0, ix_a1, ix_a2, ix_a3, ix_a4, ix_a5, ix_a6, ix_n7, ix_m7, ix_p1104, ix_p1524, nI_add]
      exact br_t z (br_f (by decide) (br_f (by decide) (br_f (by decide) hp)))
  · by_cases a : b (o + 2) ≤ l
    · have a2 : ¬ l < b (o + 2) := Int32.not_lt.mpr a
      by_cases e : g ≤ b (o + 3)
      · have e2 : ¬ b (o + 3) < g := Int32.not_lt.mpr e
        refine ⟨upd (upd b (o + 1) (b (o + 1) + u)) o (b o + c), ?_, ?_, ?_, ?_, ?_, fun post hp => ?_⟩
        · simp (disch := omega) only [pk_us]
        · simp (disch := omega) only [pk_us, pk_un, if_neg z]
        · simp (disch := omega) only [pk_us, pk_un, if_neg z, ro_mn, if_neg a2]
        · simp (disch := omega) only [pk_us, pk_un, if_neg z, ro_mx, if_neg e2]
        · intro j hj
          simp (disch := omega) only [pk_un]
        · unfold wpY_count wY_count_14 wY_count_34 wY_count_44 wY_count_62 wY_count_72 wY_count_98
          dsimp only
          simp (disch := omega) only [forall_eq, vp_in_nI, nI_clamp, pk_us, pk_un, true_and, ix_a0, ix_a1, ix_a2, ix_a3, ix_a4, ix_a5, ix_a6, ix_n7, ix_m7, ix_p1104, ix_p1524, nI_add]
          exact br_f z (br_t trivial (br_t a (br_t trivial (br_t e (br_t trivial hp)))))
      · have e2 : b (o + 3) < g := Int32.not_le.mp e
        refine ⟨upd (upd (upd b (o + 3) g) (o + 1) (b (o + 1) + u)) o (b o + c), ?_, ?_, ?_, ?_, ?_, fun post hp => ?_⟩
        · simp (disch := omega) only [pk_us]
        · simp (disch := omega) only [pk_us, pk_un, if_neg z]
        · simp (disch := omega) only [pk_us, pk_un, if_neg z, ro_mn, if_neg a2]
        · simp (disch := omega) only [pk_us, pk_un, if_neg z, ro_mx, if_pos e2]
        · intro j hj
          simp (disch := omega) only [pk_un]
        · unfold wpY_count wY_count_14 wY_count_34 wY_count_44 wY_count_62 wY_count_72 wY_count_98
          dsimp only
          simp (disch := omega) only [forall_eq, vp_in_nI, nI_clamp, pk_us, pk_un, true_and, ix_a0, ix_a1, ix_a2, ix_a3, ix_a4, ix_a5, ix_a6, ix_n7, ix_m7, ix_p1104, ix_p1524, nI_add]
          exact br_f z (br_t trivial (br_t a (br_t trivial (br_f e (br_t trivial hp)))))
    · have a2 : l < b (o + 2) := Int32.not_le.mp a
      by_cases e : g ≤ b (o + 3)
      · have e2 : ¬ b (o + 3) < g := Int32.not_lt.mpr e
        refine ⟨upd (upd (upd b (o + 2) l) (o + 1) (b (o + 1) + u)) o (b o + c), ?_, ?_, ?_, ?_, ?_, fun post hp => ?_⟩
        · simp (disch := omega) only [pk_us]
        · simp (disch := omega) only [pk_us, pk_un, if_neg z]
        · simp (disch := omega) only [pk_us, pk_un, if_neg z, ro_mn, if_pos a2]
        · simp (disch := omega) only [pk_us, pk_un, if_neg z, ro_mx, if_neg e2]
        · intro j hj
          simp (disch := omega) only [pk_un]
        · unfold wpY_count wY_count_14 wY_count_34 wY_count_44 wY_count_62 wY_count_72 wY_count_98
          dsimp only
          simp (disch := omega) only [forall_eq, vp_in_nI, nI_clamp, pk_us, pk_un, true_and, ix_a0, ix_a1, ix_a2, ix_a3, ix_a4, ix_a5, ix_a6, ix_n7, ix_m7, ix_p1104, ix_p1524, nI_add]
          exact br_f z (br_t trivial (br_f a (br_t trivial (br_t e (br_t trivial hp)))))
      · have e2 : b (o + 3) < g := Int32.not_le.mp e
        refine ⟨upd (upd (upd (upd b (o + 2) l) (o + 3) g) (o + 1) (b (o + 1) + u)) o (b o + c), ?_, ?_, ?_, ?_, ?_, fun post hp => ?_⟩
        · simp (disch := omega) only [pk_us]
        · simp (disch := omega) only [pk_us, pk_un, if_neg z]
        · simp (disch := omega) only [pk_us, pk_un, if_neg z, ro_mn, if_pos a2]
        · simp (disch := omega) only [pk_us, pk_un, if_neg z, ro_mx, if_pos e2]
        · intro j hj
          simp (disch := omega) only [pk_un]
        · unfold wpY_count wY_count_14 wY_count_34 wY_count_44 wY_count_62 wY_count_72 wY_count_98
          dsimp only
          simp (disch := omega) only [forall_eq, vp_in_nI, nI_clamp, pk_us, pk_un, true_and, ix_a0, ix_a1, ix_a2, ix_a3, ix_a4, ix_a5, ix_a6, ix_n7, ix_m7, ix_p1104, ix_p1524, nI_add]
          exact br_f z (br_t trivial (br_f a (br_t trivial (br_f e (br_t trivial hp)))))
/-- the last session moves into session i -/
theorem ya_drop {m i : Nat} (hm : m < 60) (hi : i < m + 1) (h12 : b 12 = nI (m + 1)) : ∃ b' : Nat → Int32, b' 12 = nI m ∧ (∀ j, j < 7 → b' (1104 + 7 * i + j) = b (1104 + 7 * m + j)) ∧ (∀ j, j ≠ 12 → (j < 1104 + 7 * i ∨ 1104 + 7 * i + 7 ≤ j) → b' j = b j) ∧ ∀ post : SY → Prop, post (kd, dd, pp, la, sz, co, va, b', cp) → wpY_dropSession post (kd, dd, pp, la, sz, co, va, b, cp) (nI (1104 + 7 * i)) := by
  have key := lo_ex (ρ := SY) (σ := Nat × (Nat → Int32))
    (fun post f s => wY_dropSession_28 post (nI (1104 + 7 * i)) (nI (1104 + 7 * m)) kd dd pp la f (nI s.1) sz co va (s.2) cp)
    (fun x s => x + s.1 = 7 ∧ s.2 12 = nI m ∧ (∀ j, j < s.1 → s.2 (1104 + 7 * i + j) = b (1104 + 7 * m + j)) ∧ (∀ j, j ≠ 12 → (j < 1104 + 7 * i ∨ 1104 + 7 * i + s.1 ≤ j) → s.2 j = b j))
    (fun r => ∃ c : Nat → Int32, r = (kd, dd, pp, la, sz, co, va, c, cp) ∧ c 12 = nI m ∧ (∀ j, j < 7 → c (1104 + 7 * i + j) = b (1104 + 7 * m + j)) ∧ (∀ j, j ≠ 12 → (j < 1104 + 7 * i ∨ 1104 + 7 * i + 7 ≤ j) → c j = b j))
    (by
      rintro y ⟨x, c⟩ ⟨h1, h0, h2, h3⟩
      dsimp only at *
      by_cases hx : x = 7
      · subst hx
        refine Or.inl ⟨_, ⟨c, rfl, h0, h2, h3⟩, fun post f hp => ?_⟩
        exact br_t (nI_le (a := 7) (b := 7) (Nat.le_refl _) (by decide)) hp
      · refine Or.inr ⟨y - 1, (x + 1, upd c (1104 + 7 * i + x) (b (1104 + 7 * m + x))), by omega, ⟨by dsimp only; omega, ?_, ?_, ?_⟩, fun post f hp => ?_⟩
        · dsimp only
          rw [pk_un (by omega)]
          exact h0
        · intro j hj
          dsimp only at *
          by_cases z : j = x
          · rw [z, pk_us]
          · rw [pk_un (by omega)]
            exact h2 j (by omega)
        · intro j hj12 hj
          dsimp only at *
          rw [pk_un (by omega)]
          exact h3 j hj12 (by omega)
        · have e : c (1104 + 7 * m + x) = b (1104 + 7 * m + x) := by
            by_cases z : m = i
            · rw [z]
              exact h3 _ (by omega) (by omega)
            · exact h3 _ (by omega) (by omega)
          rw [wY_dropSession_28]
          refine br_f (nI_ge (a := x) (b := 7) (by omega) (by decide)) ?_
          simp (disch := omega) only [forall_eq, vp_in_nI, nI_clamp, pk_us, pk_un, true_and, ix_a0, ix_a1, ix_a2, ix_a3, ix_a4, ix_a5, ix_a6, ix_n7, ix_m7, ix_p1104, ix_p1524, nI_add, e]
          exact hp)
    7 (0, upd b 12 (nI m)) ⟨rfl, by dsimp only; exact pk_us, (fun j hj => absurd hj (Nat.not_lt_zero j)), fun j hj _ => by dsimp only; exact pk_un hj⟩
  obtain ⟨_, ⟨c, rfl, h0, h1, h2⟩, h3⟩ := key
  refine ⟨c, h0, h1, h2, fun post hp => ?_⟩
  unfold wpY_dropSession
  dsimp only
  refine nm_r (e' := upd b 12 (nI m)) (by rw [h12, nI_pred]) ?_
  rw [pk_us]
  exact nm_r (e' := nI (1104 + 7 * m)) (by rw [ix_m7, ix_p1104]) ⟨8, h3 post 8 (by omega) hp⟩
/-- session i and the last change places -/
theorem ya_swap {m i : Nat} (hm : m < 60) (hi : i < m + 1) (h12 : b 12 = nI (m + 1)) : ∃ b' : Nat → Int32, (∀ j, j < 7 → b' (1104 + 7 * i + j) = b (1104 + 7 * m + j) ∧ b' (1104 + 7 * m + j) = b (1104 + 7 * i + j)) ∧ (∀ j, (j < 1104 + 7 * i ∨ 1104 + 7 * i + 7 ≤ j) → (j < 1104 + 7 * m ∨ 1104 + 7 * m + 7 ≤ j) → b' j = b j) ∧ ∀ post : SY → Prop, post (kd, dd, pp, la, sz, co, va, b', cp) → wpY_swapWithLast post (kd, dd, pp, la, sz, co, va, b, cp) (nI (1104 + 7 * i)) := by
  have key := lo_ex (ρ := SY) (σ := Nat × (Nat → Int32))
    (fun post f s => wY_swapWithLast_20 post (nI (1104 + 7 * i)) (nI (1104 + 7 * m)) kd dd pp la f (nI s.1) sz co va (s.2) cp)
    (fun x s => x + s.1 = 7 ∧ (∀ j, j < s.1 → s.2 (1104 + 7 * i + j) = b (1104 + 7 * m + j) ∧ s.2 (1104 + 7 * m + j) = b (1104 + 7 * i + j)) ∧ (∀ j, (j < 1104 + 7 * i ∨ 1104 + 7 * i + s.1 ≤ j) → (j < 1104 + 7 * m ∨ 1104 + 7 * m + s.1 ≤ j) → s.2 j = b j))
    (fun r => ∃ c : Nat → Int32, r = (kd, dd, pp, la, sz, co, va, c, cp) ∧ (∀ j, j < 7 → c (1104 + 7 * i + j) = b (1104 + 7 * m + j) ∧ c (1104 + 7 * m + j) = b (1104 + 7 * i + j)) ∧ (∀ j, (j < 1104 + 7 * i ∨ 1104 + 7 * i + 7 ≤ j) → (j < 1104 + 7 * m ∨ 1104 + 7 * m + 7 ≤ j) → c j = b j))
    (by
      rintro y ⟨x, c⟩ ⟨h1, h2, h3⟩
      dsimp only at *
      by_cases hx : x = 7
      · subst hx
        refine Or.inl ⟨_, ⟨c, rfl, h2, h3⟩, fun post f hp => ?_⟩
        exact br_t (nI_le (a := 7) (b := 7) (Nat.le_refl _) (by decide)) hp
      · have ei : c (1104 + 7 * i + x) = b (1104 + 7 * i + x) := by
          by_cases z : m = i
          · rw [z] at h3
            exact h3 _ (by omega) (by omega)
          · exact h3 _ (by omega) (by omega)
        have em : c (1104 + 7 * m + x) = b (1104 + 7 * m + x) := by
          by_cases z : m = i
          · rw [z]
            exact ei
          · exact h3 _ (by omega) (by omega)
        refine Or.inr ⟨y - 1, (x + 1, upd (upd c (1104 + 7 * i + x) (b (1104 + 7 * m + x))) (1104 + 7 * m + x) (b (1104 + 7 * i + x))), by omega, ⟨by dsimp only; omega, ?_, ?_⟩, fun post f hp => ?_⟩
        · intro j hj
          dsimp only at *
          by_cases z : m = i
          · subst z
            by_cases z2 : j = x
            · subst z2
              rw [pk_us]
              exact ⟨rfl, rfl⟩
            · rw [pk_un (by omega), pk_un (by omega)]
              exact h2 j (by omega)
          · by_cases z2 : j = x
            · subst z2
              rw [pk_un (by omega), pk_us, pk_us]
              exact ⟨rfl, rfl⟩
            · rw [pk_un (by omega), pk_un (by omega), pk_un (by omega), pk_un (by omega)]
              exact h2 j (by omega)
        · intro j hj hj2
          dsimp only at *
          rw [pk_un (by omega), pk_un (by omega)]
          exact h3 j (by omega) (by omega)
        · rw [wY_swapWithLast_20]
          refine br_f (nI_ge (a := x) (b := 7) (by omega) (by decide)) ?_
          simp (disch := omega) only [forall_eq, vp_in_nI, nI_clamp, pk_us, pk_un, true_and, ix_a0, ix_a1, ix_a2, ix_a3, ix_a4, ix_a5, ix_a6, ix_n7, ix_m7, ix_p1104, ix_p1524, nI_add, ei, em]
          exact hp)
    7 (0, b) ⟨rfl, (fun j hj => absurd hj (Nat.not_lt_zero j)), fun _ _ _ => rfl⟩
  obtain ⟨_, ⟨c, rfl, h1, h2⟩, h3⟩ := key
  refine ⟨c, h1, h2, fun post hp => ?_⟩
  unfold wpY_swapWithLast
  dsimp only
  exact nm_r (e' := nI (1104 + 7 * m)) (by rw [h12, ix_m7, ix_p1104, ix_s7 (by omega)]; exact congrArg nI (by omega)) ⟨8, h3 post 8 (by omega) hp⟩
end
