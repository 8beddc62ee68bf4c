/-! joins of sessions, as the component does them (jx) and as the reference does (jy) -/
def jx_I (k t d : Int32) (L0 : List ro_T) (h0 : ro_T) (home p n : Nat) (f : Nat → ro_T) : Prop :=
  ∃ M R : List ro_T, home < p ∧ p ≤ n ∧ (li_L f n).Perm (f home :: R) ∧ L0.Perm (h0 :: M ++ R) ∧ f home = M.foldl ro_mg h0 ∧ (∀ x, x ∈ M → ss_tc k t d x = true) ∧ (∀ j, j < n → j ≠ home → (j < home ∨ p ≤ j) → ss_tc k t d (f j) = false)
theorem jx_0 {k t d : Int32} {home n : Nat} {f : Nat → ro_T} (hh : home < n) (hl : ∀ j, j < home → ss_tc k t d (f j) = false) : jx_I k t d (li_L f n) (f home) home n n f := by
  obtain ⟨R, p1, _, _⟩ := li_set (f := f) hh
  refine ⟨[], R, hh, Nat.le_refl _, p1, p1, rfl, (fun x hx => by cases hx), fun j h1 h2 h3 => ?_⟩
  rcases h3 with h3 | h3
  · exact hl j h3
  · omega
theorem jx_n {k t d : Int32} {L0 : List ro_T} {h0 : ro_T} {home i n : Nat} {f : Nat → ro_T} (h : jx_I k t d L0 h0 home (i + 1) n f) (hi : home < i) (hu : ss_tc k t d (f i) = false) : jx_I k t d L0 h0 home i n f := by
  obtain ⟨M, R, a1, a2, a3, a4, a5, a6, a7⟩ := h
  refine ⟨M, R, hi, by omega, a3, a4, a5, a6, fun j h1 h2 h3 => ?_⟩
  by_cases z : j = i
  · rw [z]; exact hu
  · exact a7 j h1 h2 (by omega)
theorem jx_pr {f f' : Nat → ro_T} {n home : Nat} {R : List ro_T} (hh : home < n) (p : (li_L f n).Perm (f home :: R)) (hf : ∀ j, j < n → j ≠ home → f' j = f j) : (li_L f' n).Perm (f' home :: R) := by
  obtain ⟨R', p1, _, p2⟩ := li_set (f := f) hh
  have p3 := (p1.symm.trans p).cons_inv
  exact (p2 f' hf).trans (p3.cons _)
theorem jx_t {k t d : Int32} {L0 : List ro_T} {h0 : ro_T} {home i n : Nat} {f f' g : Nat → ro_T} (h : jx_I k t d L0 h0 home (i + 1) (n + 1) f) (hi : home < i) (hu : ss_tc k t d (f i) = true)
    (e1 : f' home = ro_mg (f home) (f i)) (e2 : ∀ j, j < n + 1 → j ≠ home → f' j = f j) (g1 : ∀ j, j < n → j ≠ i → g j = f' j) (g2 : i < n → g i = f' n) : jx_I k t d L0 h0 home i n g := by
  obtain ⟨M, R, a1, a2, a3, a4, a5, a6, a7⟩ := h
  have q1 := jx_pr (by omega) a3 e2
  have q2 := li_rm (f := f') (g := g) (n := n) (i := i) (by omega) g1 g2
  obtain ⟨R2, q3, _, _⟩ := li_set (f := g) (n := n) (i := home) (by omega)
  have eg : g home = f' home := g1 home (by omega) (by omega)
  have ei : f' i = f i := e2 i (by omega) (by omega)
  rw [eg] at q3
  rw [ei] at q2
  have q4 : R.Perm (f i :: R2) := by
    have := q1.symm.trans (q2.trans (q3.cons _))
    exact (this.trans (List.Perm.swap _ _ _)).cons_inv
  refine ⟨M ++ [f i], R2, hi, by omega, ?_, ?_, ?_, ?_, ?_⟩
  · rw [eg]; exact q3
  · refine a4.trans ?_
    have : (h0 :: M ++ R).Perm (h0 :: M ++ (f i :: R2)) := q4.append_left _
    refine this.trans (List.Perm.of_eq ?_)
    simp
  · rw [eg, e1, a5, List.foldl_append]
    rfl
  · intro x hx
    rcases List.mem_append.mp hx with hx | hx
    · exact a6 x hx
    · rw [List.mem_singleton.mp hx]; exact hu
  · intro j h1 h2 h3
    by_cases z : j = i
    · subst z
      rw [g2 h1, e2 n (by omega) (by omega)]
      exact a7 n (by omega) (by omega) (by omega)
    · rw [g1 j h1 z, e2 j (by omega) h2]
      exact a7 j (by omega) h2 (by omega)
theorem jx_e {k t d m v : Int32} {L0 : List ro_T} {h0 : ro_T} {home n : Nat} {f f' : Nat → ro_T} (h : jx_I k t d L0 h0 home (home + 1) n f) (hh : ss_tc k t d h0 = true) (e1 : f' home = ro_mg (f home) (ro_nw k t (t + d) v)) (e2 : ∀ j, j < n → j ≠ home → f' j = f j) : (li_L f' n).Perm (ss_L L0 m d k t v) ∧ ¬ ss_lt L0 m d k t := by
  obtain ⟨M, R, a1, a2, a3, a4, a5, a6, a7⟩ := h
  have q1 := jx_pr (by omega) a3 e2
  have hR : ∀ x, x ∈ R → ss_tc k t d x = false := by
    obtain ⟨R', p1, hR', _⟩ := li_set (f := f) (n := n) (i := home) (by omega)
    have p3 := (p1.symm.trans a3).cons_inv
    intro x hx
    obtain ⟨j, hj, hne, rfl⟩ := hR' x (p3.mem_iff.mpr hx)
    exact a7 j hj hne (by omega)
  have q2 := ss_join (m := m) (v := v) a4 hh a6 hR
  rw [e1, a5] at q1
  exact ⟨q1.trans q2.1.symm, q2.2.2⟩

def jy_I (k t d : Int32) (L0 : List ro_T) (ev : ro_T) (i m : Nat) (f : Nat → ro_T) : Prop :=
  ∃ M : List ro_T, i ≤ m ∧ L0.Perm (M ++ li_L f m) ∧ f m = M.foldl ro_mg ev ∧ (∀ x, x ∈ M → ss_tc k t d x = true) ∧ (∀ j, i ≤ j → j < m → ss_tc k t d (f j) = false)
theorem jy_0 {k t d : Int32} {n : Nat} {f : Nat → ro_T} : jy_I k t d (li_L f n) (f n) n n f :=
  ⟨[], Nat.le_refl _, List.Perm.refl _, rfl, (fun x hx => by cases hx), fun j h1 h2 => by omega⟩
theorem jy_n {k t d : Int32} {L0 : List ro_T} {ev : ro_T} {i m : Nat} {f : Nat → ro_T} (h : jy_I k t d L0 ev (i + 1) m f) (hu : ss_tc k t d (f i) = false) : jy_I k t d L0 ev i m f := by
  obtain ⟨M, a1, a2, a3, a4, a5⟩ := h
  refine ⟨M, by omega, a2, a3, a4, fun j h1 h2 => ?_⟩
  by_cases z : j = i
  · rw [z]; exact hu
  · exact a5 j (by omega) h2
theorem jy_t {k t d : Int32} {L0 : List ro_T} {ev : ro_T} {i m : Nat} {f g : Nat → ro_T} (h : jy_I k t d L0 ev (i + 1) (m + 1) f) (hu : ss_tc k t d (f i) = true)
    (e1 : g m = ro_mg (f (m + 1)) (f i)) (g1 : ∀ j, j < m → j ≠ i → g j = f j) (g2 : i < m → g i = f m) : jy_I k t d L0 ev i m g := by
  obtain ⟨M, a1, a2, a3, a4, a5⟩ := h
  have q2 := li_rm (f := f) (g := g) (n := m) (i := i) (by omega) g1 g2
  refine ⟨M ++ [f i], by omega, ?_, ?_, ?_, ?_⟩
  · refine a2.trans ((q2.append_left M).trans (List.Perm.of_eq ?_))
    simp
  · rw [e1, a3, List.foldl_append]
    rfl
  · intro x hx
    rcases List.mem_append.mp hx with hx | hx
    · exact a4 x hx
    · rw [List.mem_singleton.mp hx]; exact hu
  · intro j h1 h2
    by_cases z : j = i
    · subst z
      rw [g2 h2]
      exact a5 m (by omega) (by omega)
    · rw [g1 j h2 z]
      exact a5 j (by omega) (by omega)
theorem jy_e {k t d m0 v : Int32} {L0 : List ro_T} {m : Nat} {f : Nat → ro_T} (h : jy_I k t d L0 (ro_nw k t (t + d) v) 0 m f) (hh : L0.any (ss_tc k t d) = true) : (li_L f (m + 1)).Perm (ss_L L0 m0 d k t v) ∧ ¬ ss_lt L0 m0 d k t := by
  obtain ⟨M, a1, a2, a3, a4, a5⟩ := h
  have hR : ∀ x, x ∈ li_L f m → ss_tc k t d x = false := by
    intro x hx
    obtain ⟨j, hj, rfl⟩ := li_mem.mp hx
    exact a5 j (by omega) hj
  cases M with
  | nil =>
    rw [List.nil_append] at a2
    rw [a2.any_eq, List.any_eq_true] at hh
    obtain ⟨x, hx, hy⟩ := hh
    rw [hR x hx] at hy
    cases hy
  | cons h T =>
    have q2 := ss_join (m := m0) (v := v) a2 (a4 h List.mem_cons_self) (fun x hx => a4 x (List.mem_cons_of_mem _ hx)) hR
    refine ⟨?_, q2.2.2⟩
    rw [li_s, a3]
    exact (List.perm_append_singleton _ _).trans q2.2.1.symm
/-- merging with the end held without the width -/
theorem ro_mxd {a b d : Int32} (ha : 0 ≤ a.toInt) (ha2 : a.toInt ≤ 1000) (hb : 0 ≤ b.toInt) (hb2 : b.toInt ≤ 1000) (hd : 0 ≤ d.toInt) (hd2 : d.toInt ≤ 1000) : ro_mx (a + d) (b + d) = ro_mx a b + d := by
  rw [ii_eq, ro_mx_i, ii_add (by omega) (by omega), ii_add (by omega) (by omega)]
  rw [ii_add (by rw [ro_mx_i]; omega) (by rw [ro_mx_i]; omega), ro_mx_i]
  omega
