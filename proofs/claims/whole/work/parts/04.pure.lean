/-! questions over lists: how many rows of a key, the sum of the earliest -/
def op_k (k : Int32) (r : ro_T) : Bool := decide (r.1 = k)
theorem op_s {f : Nat → ro_T} {n : Nat} (k : Int32) : (li_L f (n + 1)).countP (op_k k) = (li_L f n).countP (op_k k) + (if (f n).1 = k then 1 else 0) := by
  rw [li_s, List.countP_append, List.countP_singleton]
  unfold op_k
  simp only [decide_eq_true_eq]
theorem op_o {d p : Int32} {b : Nat → Int32} {w i k : Nat} (hi : i < 4) (hk : k < 4) : (wy_o d p b (4 * w + i)).countP (op_k (nI k)) = if i = k ∧ 0 < b (wy_a (4 * w + i)) then 1 else 0 := by
  unfold wy_o
  by_cases h : 0 < b (wy_a (4 * w + i))
  · rw [if_pos h, List.countP_singleton]
    unfold op_k wy_r
    dsimp only
    rw [show (4 * w + i) % 4 = i from by omega]
    by_cases z : i = k
    · rw [z, if_pos (decide_eq_true rfl), if_pos ⟨rfl, z ▸ h⟩]
    · have n1 : ¬ decide (nI i = nI k) = true := fun y => z ((nI_eq (by omega) (by omega)).mp (of_decide_eq_true y))
      have n2 : ¬ (i = k ∧ 0 < b (wy_a (4 * w + i))) := fun y => z y.1
      rw [if_neg n1, if_neg n2]
  · rw [if_neg h, if_neg (fun y => h y.2)]
    rfl
theorem op_w {d p : Int32} {b : Nat → Int32} {w k : Nat} (hk : k < 4) : (wy_L d p b (4 * (w + 1))).countP (op_k (nI k)) = (wy_L d p b (4 * w)).countP (op_k (nI k)) + (if 0 < b (wy_a (4 * w + k)) then 1 else 0) := by
  rw [show 4 * (w + 1) = 4 * w + 0 + 1 + 1 + 1 + 1 from by omega, wy_Ls, wy_Ls, wy_Ls, wy_Ls]
  simp only [List.countP_append]
  have o0 := op_o (d := d) (p := p) (b := b) (w := w) (i := 0) (by omega) hk
  rw [Nat.add_zero] at o0
  rw [o0, op_o (i := 1) (by omega) hk, op_o (i := 2) (by omega) hk, op_o (i := 3) (by omega) hk]
  have hk4 : k = 0 ∨ k = 1 ∨ k = 2 ∨ k = 3 := by omega
  rcases hk4 with rfl | rfl | rfl | rfl <;> simp
theorem op_le {n : Nat} {f : Nat → ro_T} (k : Int32) : (li_L f n).countP (op_k k) ≤ n := by
  have := List.countP_le_length (p := op_k k) (l := li_L f n)
  rw [li_len] at this
  exact this
theorem op_wl {d p : Int32} {b : Nat → Int32} {w k : Nat} (hk : k < 4) : (wy_L d p b (4 * w)).countP (op_k (nI k)) ≤ w := by
  induction w with
  | zero => exact Nat.le_refl _
  | succ w ih =>
    rw [op_w hk]
    split <;> omega
/-- v is the sum of the earliest row of key k -/
def pd_P (L : List ro_T) (k v : Int32) : Prop :=
  (∃ r, r ∈ L ∧ r.1 = k ∧ (∀ q, q ∈ L → q.1 = k → r.2.1 ≤ q.2.1) ∧ v = r.2.2.2.2.1) ∨ ((∀ q, q ∈ L → ¬ q.1 = k) ∧ v = 0)
theorem ro_de {L : List ro_T} (h : ro_ds L) {r q : ro_T} (hr : r ∈ L) (hq : q ∈ L) (h1 : r.1 = q.1) (h2 : r.2.1 = q.2.1) : r = q := by
  induction L with
  | nil => cases hr
  | cons x L ih =>
    rcases List.mem_cons.mp hr with e1 | hr1
    · rcases List.mem_cons.mp hq with e2 | hq1
      · rw [e1, e2]
      · rw [e1] at h1 h2
        exact absurd ⟨h1, h2⟩ (List.rel_of_pairwise_cons h hq1)
    · rcases List.mem_cons.mp hq with e2 | hq1
      · rw [e2] at h1 h2
        exact absurd ⟨h1.symm, h2.symm⟩ (List.rel_of_pairwise_cons h hr1)
      · exact ih (List.Pairwise.of_cons h) hr1 hq1
theorem pd_u {L L' : List ro_T} {k v v' : Int32} (hd : ro_ds L) (p : L.Perm L') (h : pd_P L k v) (h' : pd_P L' k v') : v' = v := by
  rcases h with ⟨r, hr, hk, hm, rfl⟩ | ⟨hn, rfl⟩
  · rcases h' with ⟨q, hq, hk', hm', rfl⟩ | ⟨hn', rfl⟩
    · have hq2 := p.mem_iff.mpr hq
      have h1 := hm q hq2 hk'
      have h2 := hm' r (p.mem_iff.mp hr) hk
      have e : r.2.1 = q.2.1 := by
        rw [ii_eq]
        rw [ii_le] at h1 h2
        omega
      rw [ro_de hd hr hq2 (hk.trans hk'.symm) e]
    · exact absurd hk (hn' r (p.mem_iff.mp hr))
  · rcases h' with ⟨q, hq, hk', hm', rfl⟩ | ⟨hn', rfl⟩
    · exact absurd hk' (hn q (p.mem_iff.mpr hq))
    · rfl
theorem pd_w {d p : Int32} {b : Nat → Int32} {w k : Nat} (h1 : 1 ≤ d.toInt) (h8 : d.toInt ≤ 8) (hk : k < 4) (hw : w < 68) (hn : ∀ j, j < w → ¬ 0 < b (wy_a (4 * j + k))) (hp : 0 < b (wy_a (4 * w + k))) : pd_P (wy_L d p b 272) (nI k) (b (wy_a (4 * w + k) + 1)) := by
  refine Or.inl ⟨wy_r d p b (4 * w + k), ?_, ?_, ?_, rfl⟩
  · refine List.mem_flatMap.mpr ⟨4 * w + k, List.mem_range.mpr (by omega), ?_⟩
    unfold wy_o
    rw [if_pos hp]
    exact List.mem_singleton.mpr rfl
  · show nI ((4 * w + k) % 4) = nI k
    rw [show (4 * w + k) % 4 = k from by omega]
  · intro q hq hqk
    obtain ⟨j, hj, hb, rfl⟩ := wy_m hq
    have e := (nI_eq (by omega) (by omega)).mp (show nI (j % 4) = nI k from hqk)
    have hjw : w ≤ j / 4 := by
      refine Nat.le_of_not_lt (fun z => hn (j / 4) z ?_)
      rw [show 4 * (j / 4) + k = j from by omega]
      exact hb
    show wy_s d (4 * w + k) ≤ wy_s d j
    rw [ii_le]
    by_cases z : (4 * w + k) / 4 < j / 4
    · have := wy_sl h1 h8 (by omega) hj z
      omega
    · have : j = 4 * w + k := by omega
      rw [this]
      exact Int.le_refl _
theorem pd_0 {d p : Int32} {b : Nat → Int32} {k : Nat} (hk : k < 4) (hn : ∀ j, j < 68 → ¬ 0 < b (wy_a (4 * j + k))) : pd_P (wy_L d p b 272) (nI k) 0 := by
  refine Or.inr ⟨?_, rfl⟩
  intro q hq hqk
  obtain ⟨j, hj, hb, rfl⟩ := wy_m hq
  have e := (nI_eq (by omega) (by omega)).mp (show nI (j % 4) = nI k from hqk)
  refine hn (j / 4) (by omega) ?_
  rw [show 4 * (j / 4) + k = j from by omega]
  exact hb
/-- a scan of rows for the earliest: e is the row found among the first i -/
def pd_I (f : Nat → ro_T) (k : Int32) (i : Nat) (e : Option Nat) : Prop :=
  match e with
  | none => ∀ j, j < i → ¬ (f j).1 = k
  | some x => x < i ∧ (f x).1 = k ∧ ∀ j, j < i → (f j).1 = k → (f x).2.1 ≤ (f j).2.1
theorem pd_Ie {f : Nat → ro_T} {k : Int32} {n : Nat} {e : Option Nat} (h : pd_I f k n e) : pd_P (li_L f n) k (match e with | none => 0 | some x => (f x).2.2.2.2.1) := by
  cases e with
  | none =>
    refine Or.inr ⟨fun q hq => ?_, rfl⟩
    obtain ⟨j, hj, rfl⟩ := li_mem.mp hq
    exact h j hj
  | some x =>
    refine Or.inl ⟨f x, li_mem.mpr ⟨x, h.1, rfl⟩, h.2.1, fun q hq hk => ?_, rfl⟩
    obtain ⟨j, hj, rfl⟩ := li_mem.mp hq
    exact h.2.2 j hj hk
theorem pd_In {f : Nat → ro_T} {k : Int32} {i : Nat} {e : Option Nat} (h : pd_I f k i e) (hn : ¬ (f i).1 = k) : pd_I f k (i + 1) e := by
  cases e with
  | none =>
    intro j hj
    by_cases z : j = i
    · rw [z]; exact hn
    · exact h j (by omega)
  | some x =>
    refine ⟨by have := h.1; omega, h.2.1, fun j hj hk => ?_⟩
    by_cases z : j = i
    · rw [z] at hk; exact absurd hk hn
    · exact h.2.2 j (by omega) hk
theorem pd_I0 {f : Nat → ro_T} {k : Int32} {i : Nat} (h : pd_I f k i none) (hk : (f i).1 = k) : pd_I f k (i + 1) (some i) := by
  refine ⟨by omega, hk, fun j hj hk2 => ?_⟩
  by_cases z : j = i
  · rw [z]; exact Int32.le_refl _
  · exact absurd hk2 (h j (by omega))
theorem pd_I1 {f : Nat → ro_T} {k : Int32} {i x : Nat} (h : pd_I f k i (some x)) (hk : (f i).1 = k) (hl : (f i).2.1 < (f x).2.1) : pd_I f k (i + 1) (some i) := by
  refine ⟨by omega, hk, fun j hj hk2 => ?_⟩
  by_cases z : j = i
  · rw [z]; exact Int32.le_refl _
  · have := h.2.2 j (by omega) hk2
    rw [ii_le] at *
    rw [ii_lt] at hl
    omega
theorem pd_I2 {f : Nat → ro_T} {k : Int32} {i x : Nat} (h : pd_I f k i (some x)) (hl : ¬ (f i).2.1 < (f x).2.1) : pd_I f k (i + 1) (some x) := by
  refine ⟨by have := h.1; omega, h.2.1, fun j hj hk2 => ?_⟩
  by_cases z : j = i
  · rw [z, ii_le]
    rw [ii_lt] at hl
    omega
  · exact h.2.2 j (by omega) hk2
/-- a scan of rows for the first that is due -/
def fd_I (m : Int32) (f : Nat → ro_T) (i : Nat) (e : Option Nat) : Prop :=
  match e with
  | none => ∀ j, j < i → cl_du m (f j) = false
  | some x => x < i ∧ cl_du m (f x) = true ∧ ∀ j, j < i → cl_du m (f j) = true → ¬ cl_bf (f j) (f x)
theorem cl_ir (a : ro_T) : ¬ cl_bf a a := fun h => cl_as h h
theorem fd_In {m : Int32} {f : Nat → ro_T} {i : Nat} {e : Option Nat} (h : fd_I m f i e) (hn : cl_du m (f i) = false) : fd_I m f (i + 1) e := by
  cases e with
  | none =>
    intro j hj
    by_cases z : j = i
    · rw [z]; exact hn
    · exact h j (by omega)
  | some x =>
    refine ⟨by have := h.1; omega, h.2.1, fun j hj hk => ?_⟩
    by_cases z : j = i
    · rw [z, hn] at hk; cases hk
    · exact h.2.2 j (by omega) hk
theorem fd_I0 {m : Int32} {f : Nat → ro_T} {i : Nat} (h : fd_I m f i none) (hk : cl_du m (f i) = true) : fd_I m f (i + 1) (some i) := by
  refine ⟨by omega, hk, fun j hj hk2 => ?_⟩
  by_cases z : j = i
  · rw [z]; exact cl_ir _
  · have := h j (by omega)
    rw [this] at hk2
    cases hk2
theorem fd_I1 {m : Int32} {f : Nat → ro_T} {i x : Nat} (h : fd_I m f i (some x)) (hk : cl_du m (f i) = true) (hl : cl_bf (f i) (f x)) : fd_I m f (i + 1) (some i) := by
  refine ⟨by omega, hk, fun j hj hk2 => ?_⟩
  by_cases z : j = i
  · rw [z]; exact cl_ir _
  · exact fun y => h.2.2 j (by omega) hk2 (cl_tr y hl)
theorem fd_I2 {m : Int32} {f : Nat → ro_T} {i x : Nat} (h : fd_I m f i (some x)) (hl : ¬ cl_bf (f i) (f x)) : fd_I m f (i + 1) (some x) := by
  refine ⟨by have := h.1; omega, h.2.1, fun j hj hk2 => ?_⟩
  by_cases z : j = i
  · rw [z]; exact hl
  · exact h.2.2 j (by omega) hk2
/-- the scan's row, taken out -/
theorem fd_st {m : Int32} {f g : Nat → ro_T} {n x : Nat} {L0 D : List ro_T} (h : cl_I m L0 D (li_L f (n + 1))) (hd : ro_ds (li_L f (n + 1))) (hf : fd_I m f (n + 1) (some x)) (h1 : ∀ j, j < n → j ≠ x → g j = f j) (h2 : x < n → g x = f n) : cl_I m L0 (D ++ [f x]) (li_L g n) ∧ (li_L f (n + 1)).Perm (f x :: li_L g n) := by
  have p := li_rm hf.1 h1 h2
  refine ⟨cl_Is h p hf.2.1 ?_, p⟩
  have d2 := ro_ds_p p hd
  intro y hy hdu
  obtain ⟨j, hj, rfl⟩ := li_mem.mp (p.mem_iff.mpr (List.mem_cons_of_mem _ hy))
  exact cl_to (List.rel_of_pairwise_cons d2 hy) (hf.2.2 j hj hdu)
