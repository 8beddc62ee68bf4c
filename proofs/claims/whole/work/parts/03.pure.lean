/-! rows in arrays -/
def ro_at (c : Nat → Int32) (o : Nat) : ro_T := (c o, c (o + 1), c (o + 2), c (o + 3), c (o + 4), c (o + 5), c (o + 6))
theorem ro_at_cg {c c' : Nat → Int32} {o : Nat} (h : ∀ j, o ≤ j → j < o + 7 → c' j = c j) : ro_at c' o = ro_at c o := by
  unfold ro_at
  rw [h o (by omega) (by omega), h (o + 1) (by omega) (by omega), h (o + 2) (by omega) (by omega), h (o + 3) (by omega) (by omega), h (o + 4) (by omega) (by omega), h (o + 5) (by omega) (by omega), h (o + 6) (by omega) (by omega)]
theorem ro_at_o {c c' : Nat → Int32} {o o' : Nat} (h : ∀ i, i < 7 → c' (o' + i) = c (o + i)) : ro_at c' o' = ro_at c o := by
  unfold ro_at
  rw [h 1 (by omega), h 2 (by omega), h 3 (by omega), h 4 (by omega), h 5 (by omega), h 6 (by omega), show c' o' = c o from h 0 (by omega)]
theorem ro_at_i {c c' : Nat → Int32} {o o' : Nat} (h : ro_at c' o' = ro_at c o) : ∀ i, i < 7 → c' (o' + i) = c (o + i) := by
  intro i hi
  unfold ro_at at h
  simp only [Prod.mk.injEq] at h
  obtain ⟨h0, h1, h2, h3, h4, h5, h6⟩ := h
  match i, hi with
  | 0, _ => exact h0
  | 1, _ => exact h1
  | 2, _ => exact h2
  | 3, _ => exact h3
  | 4, _ => exact h4
  | 5, _ => exact h5
  | 6, _ => exact h6
/-- the component's rows -/
def xr_r (c : Nat → Int32) (i : Nat) : ro_T := ro_at c (i * 7)
def xr_L (c : Nat → Int32) (n : Nat) : List ro_T := li_L (xr_r c) n
/-- the reference's results -/
def yr_r (b : Nat → Int32) (i : Nat) : ro_T := ro_at b (1524 + 7 * i)
def yr_L (b : Nat → Int32) (n : Nat) : List ro_T := li_L (yr_r b) n
/-- the reference's sessions -/
def ys_r (d : Int32) (b : Nat → Int32) (i : Nat) : ro_T := (b (1104 + 7 * i), b (1104 + 7 * i + 1), b (1104 + 7 * i + 2) + d, b (1104 + 7 * i + 3), b (1104 + 7 * i + 4), b (1104 + 7 * i + 5), b (1104 + 7 * i + 6))
def ys_L (d : Int32) (b : Nat → Int32) (n : Nat) : List ro_T := li_L (ys_r d b) n
theorem ys_cg {d : Int32} {b b' : Nat → Int32} {i i' : Nat} (h : ∀ j, j < 7 → b' (1104 + 7 * i' + j) = b (1104 + 7 * i + j)) : ys_r d b' i' = ys_r d b i := by
  unfold ys_r
  rw [h 1 (by omega), h 2 (by omega), h 3 (by omega), h 4 (by omega), h 5 (by omega), h 6 (by omega), show b' (1104 + 7 * i') = b (1104 + 7 * i) from h 0 (by omega)]

/-! the reference's windows: q = 4 * (n + 4) + key -/
def wy_a (q : Nat) : Nat := 16 + 4 * (68 * (q % 4) + q / 4)
def wy_s (d : Int32) (q : Nat) : Int32 := (nI (q / 4) - 4) * d
def wy_r (d p : Int32) (b : Nat → Int32) (q : Nat) : ro_T := (nI (q % 4), wy_s d q, wy_s d q + p, b (wy_a q), b (wy_a q + 1), b (wy_a q + 2), b (wy_a q + 3))
def wy_o (d p : Int32) (b : Nat → Int32) (q : Nat) : List ro_T := if 0 < b (wy_a q) then [wy_r d p b q] else []
def wy_L (d p : Int32) (b : Nat → Int32) (n : Nat) : List ro_T := (List.range n).flatMap (wy_o d p b)
theorem wy_Ls (d p : Int32) (b : Nat → Int32) (n : Nat) : wy_L d p b (n + 1) = wy_L d p b n ++ wy_o d p b n := by
  unfold wy_L
  rw [List.range_succ, List.flatMap_append, List.flatMap_cons, List.flatMap_nil, List.append_nil]
theorem wy_om {d p : Int32} {b : Nat → Int32} {q : Nat} {r : ro_T} (h : r ∈ wy_o d p b q) : 0 < b (wy_a q) ∧ r = wy_r d p b q := by
  unfold wy_o at h
  split at h
  · exact ⟨by assumption, List.mem_singleton.mp h⟩
  · cases h
theorem wy_m {d p : Int32} {b : Nat → Int32} {n : Nat} {r : ro_T} (h : r ∈ wy_L d p b n) : ∃ q, q < n ∧ 0 < b (wy_a q) ∧ r = wy_r d p b q := by
  obtain ⟨q, hq, h2⟩ := List.mem_flatMap.mp h
  exact ⟨q, List.mem_range.mp hq, wy_om h2⟩
theorem wy_cg {d p : Int32} {b b' : Nat → Int32} {q : Nat} (h : ∀ i, i < 4 → b' (wy_a q + i) = b (wy_a q + i)) : wy_o d p b' q = wy_o d p b q := by
  unfold wy_o wy_r
  rw [h 1 (by omega), h 2 (by omega), h 3 (by omega), show b' (wy_a q) = b (wy_a q) from h 0 (by omega)]
theorem wy_lt {q : Nat} (h : q < 272) : 16 ≤ wy_a q ∧ wy_a q + 4 ≤ 1104 := by
  unfold wy_a
  omega
theorem wy_ne {q j : Nat} (hq : q < 272) (hj : j < 272) (h : j ≠ q) : wy_a j + 4 ≤ wy_a q ∨ wy_a q + 4 ≤ wy_a j := by
  unfold wy_a
  omega
theorem wy_k {k w : Nat} (hk : k < 4) : wy_a (4 * w + k) = 16 + 4 * (68 * k + w) := by
  unfold wy_a
  omega
theorem wy_fc {f g : Nat → List ro_T} {l : List Nat} (h : ∀ j, j ∈ l → g j = f j) : l.flatMap g = l.flatMap f := by
  rw [List.flatMap_def, List.flatMap_def, List.map_congr_left h]
theorem wy_set {d p : Int32} {b b' : Nat → Int32} {q : Nat} (hq : q < 272) (h : ∀ j, j < 272 → j ≠ q → wy_o d p b' j = wy_o d p b j) : ∃ R : List ro_T, (wy_L d p b 272).Perm (wy_o d p b q ++ R) ∧ (wy_L d p b' 272).Perm (wy_o d p b' q ++ R) ∧ ∀ r, r ∈ R → ∃ j, j < 272 ∧ j ≠ q ∧ r ∈ wy_o d p b j := by
  have hp : (List.range 272).Perm (q :: (List.range 272).erase q) := List.perm_cons_erase (List.mem_range.mpr hq)
  have h1 := hp.flatMap_right (wy_o d p b)
  have h2 := hp.flatMap_right (wy_o d p b')
  rw [List.flatMap_cons] at h1 h2
  have e : ((List.range 272).erase q).flatMap (wy_o d p b') = ((List.range 272).erase q).flatMap (wy_o d p b) :=
    wy_fc (fun j hj => h j ((li_er _ _ _).mp hj).2 ((li_er _ _ _).mp hj).1)
  rw [e] at h2
  refine ⟨((List.range 272).erase q).flatMap (wy_o d p b), h1, h2, fun r hr => ?_⟩
  obtain ⟨j, hj, h3⟩ := List.mem_flatMap.mp hr
  exact ⟨j, ((li_er _ _ _).mp hj).2, ((li_er _ _ _).mp hj).1, h3⟩
theorem wy_si {d : Int32} (h1 : 1 ≤ d.toInt) (h8 : d.toInt ≤ 8) {q : Nat} (hq : q < 272) : (wy_s d q).toInt = (((q / 4 : Nat) : Int) - 4) * d.toInt := by
  have e4 : (4 : Int32).toInt = 4 := by decide
  have hw : (nI (q / 4)).toInt = ((q / 4 : Nat) : Int) := nI_toInt (by omega)
  have e1 : (nI (q / 4) - 4).toInt = ((q / 4 : Nat) : Int) - 4 := by
    rw [ii_sub (by omega) (by omega), hw, e4]
  have hd : d.toInt = 1 ∨ d.toInt = 2 ∨ d.toInt = 3 ∨ d.toInt = 4 ∨ d.toInt = 5 ∨ d.toInt = 6 ∨ d.toInt = 7 ∨ d.toInt = 8 := by omega
  unfold wy_s
  have hw68 : q / 4 < 68 := by omega
  generalize q / 4 = w at *
  rw [ii_mul, e1]
  · rw [e1]
    rcases hd with h | h | h | h | h | h | h | h <;> rw [h] <;> omega
  · rw [e1]
    rcases hd with h | h | h | h | h | h | h | h <;> rw [h] <;> omega
theorem wy_sb {d : Int32} (h1 : 1 ≤ d.toInt) (h8 : d.toInt ≤ 8) {q : Nat} (hq : q < 272) : -32 ≤ (wy_s d q).toInt ∧ (wy_s d q).toInt ≤ 504 := by
  rw [wy_si h1 h8 hq]
  have hd : d.toInt = 1 ∨ d.toInt = 2 ∨ d.toInt = 3 ∨ d.toInt = 4 ∨ d.toInt = 5 ∨ d.toInt = 6 ∨ d.toInt = 7 ∨ d.toInt = 8 := by omega
  rcases hd with h | h | h | h | h | h | h | h <;> rw [h] <;> omega
theorem wy_sl {d : Int32} (h1 : 1 ≤ d.toInt) (h8 : d.toInt ≤ 8) {q j : Nat} (hq : q < 272) (hj : j < 272) (h : q / 4 < j / 4) : (wy_s d q).toInt < (wy_s d j).toInt := by
  rw [wy_si h1 h8 hq, wy_si h1 h8 hj]
  exact Int.mul_lt_mul_of_pos_right (by omega) (by omega)
theorem wy_inj {d : Int32} (h1 : 1 ≤ d.toInt) (h8 : d.toInt ≤ 8) {q j : Nat} (hq : q < 272) (hj : j < 272) (hk : nI (q % 4) = nI (j % 4)) (hs : wy_s d q = wy_s d j) : q = j := by
  have e1 := (nI_eq (by omega) (by omega)).mp hk
  have e2 := ii_eq.mp hs
  by_cases z : q / 4 < j / 4
  · have := wy_sl h1 h8 hq hj z
    omega
  · by_cases z2 : j / 4 < q / 4
    · have := wy_sl h1 h8 hj hq z2
      omega
    · omega
theorem wy_ds {d p : Int32} (h1 : 1 ≤ d.toInt) (h8 : d.toInt ≤ 8) (b : Nat → Int32) : ro_ds (wy_L d p b 272) := by
  refine List.pairwise_flatMap.mpr ⟨fun q hq => ?_, ?_⟩
  · unfold wy_o
    split
    · exact List.pairwise_singleton _ _
    · exact List.Pairwise.nil
  · refine List.Pairwise.imp_of_mem (fun {a c} ha hc hac x hx y hy z => ?_) List.pairwise_lt_range
    rw [(wy_om hx).2, (wy_om hy).2] at z
    have := wy_inj h1 h8 (List.mem_range.mp ha) (List.mem_range.mp hc) z.1 z.2
    omega
theorem wy_so {d p : Int32} (h1 : 1 ≤ d.toInt) (h8 : d.toInt ≤ 8) (p1 : 1 ≤ p.toInt) (p2 : p.toInt ≤ 32) (b : Nat → Int32) : (wy_L d p b 272).Pairwise cl_bf := by
  refine List.pairwise_flatMap.mpr ⟨fun q hq => ?_, ?_⟩
  · unfold wy_o
    split
    · exact List.pairwise_singleton _ _
    · exact List.Pairwise.nil
  · refine List.Pairwise.imp_of_mem (fun {a c} ha hc hac x hx y hy => ?_) List.pairwise_lt_range
    rw [(wy_om hx).2, (wy_om hy).2]
    have ha2 := List.mem_range.mp ha
    have hc2 := List.mem_range.mp hc
    have sa := wy_sb h1 h8 ha2
    have sc := wy_sb h1 h8 hc2
    unfold cl_bf wy_r
    dsimp only
    by_cases z : a / 4 < c / 4
    · left
      have := wy_sl h1 h8 ha2 hc2 z
      rw [ii_lt, ii_add (by omega) (by omega), ii_add (by omega) (by omega)]
      omega
    · have e : a / 4 = c / 4 := by omega
      right
      refine ⟨?_, Or.inl ?_⟩
      · unfold wy_s
        rw [e]
      · exact nI_lt (by omega) (by omega)
theorem wy_cp {d p : Int32} {b : Nat → Int32} {n : Nat} : ∀ r, r ∈ wy_L d p b n → 0 < ro_cn r := by
  intro r hr
  obtain ⟨q, _, h, rfl⟩ := wy_m hr
  exact ro_cn_pos.mpr h
/-- one event counted into window q -/
theorem wy_ws {d p v : Int32} {b b' : Nat → Int32} {q : Nat} (h1 : 1 ≤ d.toInt) (h8 : d.toInt ≤ 8) (hq : q < 272) (h0 : 0 ≤ b (wy_a q)) (hb : ro_cs (wy_L d p b 272) < 1000)
    (e0 : b' (wy_a q) = b (wy_a q) + 1) (e1 : b' (wy_a q + 1) = if b (wy_a q) = 0 then v else b (wy_a q + 1) + v)
    (e2 : b' (wy_a q + 2) = if b (wy_a q) = 0 then v else ro_mn v (b (wy_a q + 2))) (e3 : b' (wy_a q + 3) = if b (wy_a q) = 0 then v else ro_mx v (b (wy_a q + 3)))
    (ho : ∀ j, j < wy_a q ∨ wy_a q + 4 ≤ j → b' j = b j) : (wy_L d p b' 272).Perm (ro_ws (wy_L d p b 272) (nI (q % 4)) (wy_s d q) (wy_s d q + p) v) := by
  obtain ⟨R, p1, p2, hR⟩ := wy_set (d := d) (p := p) (b := b) (b' := b') hq (fun j hj hne => wy_cg (fun i hi => ho _ (by have := wy_ne hq hj hne; omega)))
  have hR2 : ∀ r, r ∈ R → ro_is (nI (q % 4)) (wy_s d q) r = false := by
    intro r hr
    obtain ⟨j, hj, hne, h3⟩ := hR r hr
    rw [(wy_om h3).2]
    refine decide_eq_false (fun z => hne (wy_inj h1 h8 hj hq z.1 z.2))
  by_cases z : b (wy_a q) = 0
  · have o1 : wy_o d p b q = [] := by
      unfold wy_o
      rw [z]
      exact if_neg (by decide)
    have o2 : wy_o d p b' q = [ro_nw (nI (q % 4)) (wy_s d q) (wy_s d q + p) v] := by
      unfold wy_o wy_r ro_nw
      rw [e0, e1, e2, e3, if_pos z, if_pos z, if_pos z, z]
      exact if_pos (by decide)
    rw [o1] at p1
    rw [o2] at p2
    refine p2.trans ?_
    refine List.Perm.trans ?_ (ws_p p1.symm _ _ _ _)
    rw [List.nil_append, ws_miss hR2]
    exact List.Perm.refl _
  · have hpos : 0 < b (wy_a q) := by
      have h3 := ii_le.mp h0
      rw [ii_lt]
      have : ¬ (b (wy_a q)).toInt = (0 : Int32).toInt := fun y => z (ii_eq.mpr y)
      omega
    have o1 : wy_o d p b q = [wy_r d p b q] := if_pos hpos
    rw [o1] at p1
    have hm : wy_r d p b q ∈ wy_L d p b 272 := p1.mem_iff.mpr List.mem_cons_self
    have hc := ro_cn_le hm
    have hpos2 : 0 < b (wy_a q) + 1 := by
      refine ro_cn_pos.mp ?_
      rw [ro_cn_add (ro_cn_pos.mpr hpos) (by decide) (by show ro_cn (wy_r d p b q) + 1 ≤ 1000; omega)]
      exact Nat.succ_pos _
    have o2 : wy_o d p b' q = [ro_ad (wy_r d p b q) 1 v v v] := by
      unfold wy_o wy_r ro_ad
      rw [e0, e1, e2, e3, if_neg z, if_neg z, if_neg z]
      exact if_pos hpos2
    rw [o2] at p2
    refine p2.trans (ws_hit p1 (wy_ds h1 h8 b) ?_ _ _).symm
    exact decide_eq_true ⟨rfl, rfl⟩
/-- the windows closed up to n -/
def wy_C (d p m : Int32) (b0 b : Nat → Int32) (n : Nat) : Prop :=
  (∀ j, j < n → wy_o d p b j = (wy_o d p b0 j).filter (fun r => !cl_du m r)) ∧ (∀ j, n ≤ j → j < 272 → ∀ i, i < 4 → b (wy_a j + i) = b0 (wy_a j + i)) ∧ (∀ j, j < 272 → 0 ≤ b (wy_a j))
theorem wy_Ce {d p m : Int32} {b0 b : Nat → Int32} (h1 : 1 ≤ d.toInt) (h8 : d.toInt ≤ 8) (p1 : 1 ≤ p.toInt) (p2 : p.toInt ≤ 32) (h : wy_C d p m b0 b 272) : cl_R m (wy_L d p b0 272) ((wy_L d p b0 272).filter (cl_du m)) (wy_L d p b 272) := by
  refine ⟨List.Perm.refl _, List.Pairwise.filter _ (wy_so h1 h8 p1 p2 b0), ?_⟩
  unfold wy_L
  rw [List.filter_flatMap]
  rw [wy_fc (g := wy_o d p b) (fun j hj => h.1 j (List.mem_range.mp hj))]

/-! the mark -/
def mk_tp (f : Nat → Int32) : Nat → Int32
  | 0 => -1
  | n + 1 => if mk_tp f n < f n then f n else mk_tp f n
def mk_ow (l t : Int32) : Int32 := if t < 0 then -1000 else t - l
def mk_le (own idle : Nat → Int32) : Nat → Int32
  | 0 => 100000
  | s + 1 => if idle s = 0 ∧ own s < mk_le own idle s then own s else mk_le own idle s
def mk_nw (m l : Int32) : Int32 := if l < 100000 ∧ m < l then l else m
theorem mk_tpb {f : Nat → Int32} : ∀ n, (∀ i, i < n → 0 ≤ (f i).toInt ∧ (f i).toInt ≤ 63) → -1 ≤ (mk_tp f n).toInt ∧ (mk_tp f n).toInt ≤ 63 := by
  intro n
  induction n with
  | zero => intro _; exact ⟨(by decide : (-1 : Int) ≤ (-1 : Int32).toInt), (by decide : (-1 : Int32).toInt ≤ 63)⟩
  | succ n ih =>
    intro h
    have h1 := ih (fun i hi => h i (by omega))
    have h2 := h n (by omega)
    unfold mk_tp
    split <;> omega
theorem mk_tpg {f g : Nat → Int32} : ∀ n, (∀ i, i < n → f i = g i) → mk_tp f n = mk_tp g n := by
  intro n
  induction n with
  | zero => intro _; rfl
  | succ n ih =>
    intro h
    unfold mk_tp
    rw [ih (fun i hi => h i (by omega)), h n (by omega)]
theorem mk_ows {f : Nat → Int32} {l : Int32} {n : Nat} (hl : 0 ≤ l.toInt) (hl2 : l.toInt ≤ 20) (h : ∀ i, i < n + 1 → 0 ≤ (f i).toInt ∧ (f i).toInt ≤ 63) : mk_ow l (mk_tp f (n + 1)) = if mk_ow l (mk_tp f n) < f n - l then f n - l else mk_ow l (mk_tp f n) := by
  have h1 := mk_tpb n (fun i hi => h i (by omega))
  have h2 := h n (by omega)
  have e0 : (0 : Int32).toInt = 0 := by decide
  have em : (-1000 : Int32).toInt = -1000 := by decide
  have e1 : (f n - l).toInt = (f n).toInt - l.toInt := ii_sub (by omega) (by omega)
  have e2 : (mk_tp f n - l).toInt = (mk_tp f n).toInt - l.toInt := ii_sub (by omega) (by omega)
  unfold mk_ow
  rw [show mk_tp f (n + 1) = if mk_tp f n < f n then f n else mk_tp f n from rfl]
  generalize mk_tp f n = t at *
  by_cases a : t < 0
  · rw [if_pos a]
    rw [ii_lt] at a
    have b : t < f n := by rw [ii_lt]; omega
    have c : ¬ f n < 0 := by rw [ii_lt]; omega
    have g : (-1000 : Int32) < f n - l := by rw [ii_lt]; omega
    rw [if_pos b, if_neg c, if_pos g]
  · rw [if_neg a]
    rw [ii_lt] at a
    by_cases b : t < f n
    · have c : ¬ f n < 0 := by rw [ii_lt]; omega
      have g : t - l < f n - l := by rw [ii_lt] at *; omega
      rw [if_pos b, if_neg c, if_pos g]
    · have c : ¬ t < 0 := by rw [ii_lt]; omega
      have g : ¬ t - l < f n - l := by rw [ii_lt] at *; omega
      rw [if_neg b, if_neg c, if_neg g]
theorem mk_owb {l t : Int32} (hl : 0 ≤ l.toInt) (hl2 : l.toInt ≤ 20) (h : -1 ≤ t.toInt) (h2 : t.toInt ≤ 63) : -1000 ≤ (mk_ow l t).toInt ∧ (mk_ow l t).toInt ≤ 63 := by
  have em : (-1000 : Int32).toInt = -1000 := by decide
  have e2 : (t - l).toInt = t.toInt - l.toInt := ii_sub (by omega) (by omega)
  unfold mk_ow
  split <;> omega
theorem mk_leb {own idle : Nat → Int32} : ∀ n, (∀ i, i < n → -1000 ≤ (own i).toInt ∧ (own i).toInt ≤ 63) → -1000 ≤ (mk_le own idle n).toInt ∧ ((mk_le own idle n).toInt ≤ 63 ∨ mk_le own idle n = 100000) := by
  intro n
  induction n with
  | zero => intro _; exact ⟨(by decide : (-1000 : Int) ≤ (100000 : Int32).toInt), Or.inr rfl⟩
  | succ n ih =>
    intro h
    have h1 := ih (fun i hi => h i (by omega))
    have h2 := h n (by omega)
    unfold mk_le
    split
    · omega
    · exact h1
/-- what the component holds of it: found, least -/
theorem mk_xs {own idle : Nat → Int32} {n : Nat} (h : ∀ i, i < n + 1 → -1000 ≤ (own i).toInt ∧ (own i).toInt ≤ 63) (hi : idle n = 0) :
    (mk_le own idle n = 100000 → mk_le own idle (n + 1) = own n ∧ ¬ own n = 100000) ∧
    (¬ mk_le own idle n = 100000 → ¬ mk_le own idle (n + 1) = 100000 ∧ mk_le own idle (n + 1) = if own n < mk_le own idle n then own n else mk_le own idle n) := by
  have h1 := mk_leb (idle := idle) n (fun i hi => h i (by omega))
  have h2 := h n (by omega)
  have e : (100000 : Int32).toInt = 100000 := by decide
  have hn : ¬ own n = 100000 := by
    intro z
    rw [z] at h2
    omega
  constructor
  · intro z
    have : own n < mk_le own idle n := by
      rw [z, ii_lt]
      omega
    exact ⟨if_pos ⟨hi, this⟩, hn⟩
  · intro z
    have e2 : mk_le own idle (n + 1) = if own n < mk_le own idle n then own n else mk_le own idle n := by
      show (if idle n = 0 ∧ own n < mk_le own idle n then own n else mk_le own idle n) = _
      by_cases a : own n < mk_le own idle n
      · rw [if_pos ⟨hi, a⟩, if_pos a]
      · rw [if_neg (fun y => a y.2), if_neg a]
    refine ⟨?_, e2⟩
    rw [e2]
    split
    · exact hn
    · exact z
theorem mk_skip {own idle : Nat → Int32} {n : Nat} (hi : ¬ idle n = 0) : mk_le own idle (n + 1) = mk_le own idle n := if_neg (fun y => hi y.1)
theorem mk_fin {m l : Int32} (hm : -1000 ≤ m.toInt) (hl : l.toInt ≤ 63 ∨ l = 100000) : mk_nw m l = if m < (if l = 100000 then -1000 else l) then (if l = 100000 then -1000 else l) else m := by
  have e : (100000 : Int32).toInt = 100000 := by decide
  have em : (-1000 : Int32).toInt = -1000 := by decide
  unfold mk_nw
  by_cases z : l = 100000
  · have a : ¬ (l < 100000 ∧ m < l) := by
      rw [z]
      exact fun y => absurd y.1 (by decide)
    rw [if_neg a, if_pos z, if_neg (by rw [ii_lt]; omega)]
  · have a : l < 100000 := by
      rw [ii_lt]
      rcases hl with hl | hl
      · omega
      · exact absurd hl z
    rw [if_neg z]
    by_cases c : m < l
    · rw [if_pos ⟨a, c⟩, if_pos c]
    · rw [if_neg (fun y => c y.2), if_neg c]
theorem mk_nwb {m l : Int32} (hm : -1000 ≤ m.toInt) : -1000 ≤ (mk_nw m l).toInt := by
  unfold mk_nw
  split
  · rename_i h
    have := ii_lt.mp h.2
    omega
  · exact hm

/-! loops: each step ends, or goes on from a state of a smaller measure; there is one end for all posts -/
theorem lo_ex {σ ρ : Type} (W : (ρ → Prop) → Nat → σ → Prop) (I : Nat → σ → Prop) (P : ρ → Prop)
    (step : ∀ i s, I i s → (∃ r, P r ∧ ∀ (post : ρ → Prop) (n : Nat), post r → W post (n + 1) s) ∨ (∃ i' s', i' < i ∧ I i' s' ∧ ∀ (post : ρ → Prop) (n : Nat), W post n s' → W post (n + 1) s)) :
    ∀ i s, I i s → ∃ r, P r ∧ ∀ (post : ρ → Prop) (n : Nat), i < n → post r → W post n s := by
  intro i
  induction i using Nat.strongRecOn with
  | ind i ih =>
    intro s h
    rcases step i s h with ⟨r, hr, hw⟩ | ⟨i', s', hlt, hI, hw⟩
    · refine ⟨r, hr, fun post n hn hp => ?_⟩
      obtain ⟨k, rfl⟩ : ∃ k, n = k + 1 := ⟨n - 1, by omega⟩
      exact hw post k hp
    · obtain ⟨r, hr, h2⟩ := ih i' hlt s' hI
      refine ⟨r, hr, fun post n hn hp => ?_⟩
      obtain ⟨k, rfl⟩ : ∃ k, n = k + 1 := ⟨n - 1, by omega⟩
      exact hw post k (h2 post k (by omega) hp)

/-! the windows of an event -/
theorem wy_wc {w dn W tn : Nat} (hw : w < 68) (hd : 1 ≤ dn) (hd8 : dn ≤ 8) (hW : 1 ≤ W) (hW4 : W ≤ 4) (ht : tn ≤ 63) :
    (((nI w - 4) * nI dn ≤ nI tn) ↔ w ≤ tn / dn + 4) ∧ ((nI tn < (nI w - 4) * nI dn + nI dn * nI W) ↔ tn / dn + 5 ≤ w + W) := by
  have hdi : (nI dn).toInt = (dn : Int) := nI_toInt (by omega)
  have hs : ((nI w - 4) * nI dn).toInt = ((w : Int) - 4) * dn := by
    have := wy_si (d := nI dn) (by omega) (by omega) (q := 4 * w) (by omega)
    unfold wy_s at this
    rw [show 4 * w / 4 = w from by omega, hdi] at this
    exact this
  have hsb := wy_sb (d := nI dn) (by omega) (by omega) (q := 4 * w) (by omega)
  unfold wy_s at hsb
  rw [show 4 * w / 4 = w from by omega] at hsb
  have hWm : dn * W ≤ 8 * 4 := Nat.mul_le_mul hd8 hW4
  have hp : (nI dn * nI W).toInt = ((dn * W : Nat) : Int) := by
    rw [pk_mul, nI_toInt (by omega)]
  have hsp : ((nI w - 4) * nI dn + nI dn * nI W).toInt = ((w : Int) - 4) * dn + ((dn * W : Nat) : Int) := by
    rw [ii_add (by omega) (by omega), hs, hp]
  have hdp : (0 : Int) < dn := by omega
  constructor
  · rw [ii_le, hs, nI_toInt (by omega), ← Int.le_ediv_iff_mul_le hdp]
    have : ((tn : Int) / (dn : Int)) = ((tn / dn : Nat) : Int) := (Int.natCast_ediv tn dn).symm
    omega
  · rw [ii_lt, hsp, nI_toInt (by omega)]
    have e : ((w : Int) - 4) * dn + ((dn * W : Nat) : Int) = ((w : Int) - 4 + W) * dn := by
      rw [Int.add_mul, Int.natCast_mul, Int.mul_comm (dn : Int)]
    rw [e, ← Int.ediv_lt_iff_lt_mul hdp]
    have : ((tn : Int) / (dn : Int)) = ((tn / dn : Nat) : Int) := (Int.natCast_ediv tn dn).symm
    omega
/-- the lists as the windows of an event come, one after the other: a is time / width -/
def zl_q (a W k j : Nat) : Nat := 4 * (a + 5 + j - W) + k
def zl_L (d p m v : Int32) (a W k : Nat) (L : List ro_T) : Nat → List ro_T
  | 0 => L
  | j + 1 => if m < wy_s d (zl_q a W k j) + p then ro_ws (zl_L d p m v a W k L j) (nI k) (wy_s d (zl_q a W k j)) (wy_s d (zl_q a W k j) + p) v else zl_L d p m v a W k L j
def zl_c (d p m : Int32) (a W k : Nat) : Nat → Int32
  | 0 => 0
  | j + 1 => if m < wy_s d (zl_q a W k j) + p then 1 else zl_c d p m a W k j
theorem zl_p {d p m v : Int32} {a W k : Nat} {L L' : List ro_T} (h : L.Perm L') : ∀ j, (zl_L d p m v a W k L j).Perm (zl_L d p m v a W k L' j) := by
  intro j
  induction j with
  | zero => exact h
  | succ j ih =>
    unfold zl_L
    split
    · exact ws_p ih _ _ _ _
    · exact ih
theorem zl_i {d p m v : Int32} {a W k : Nat} {L : List ro_T} (hd : ro_ds L) (hp : ∀ r, r ∈ L → 0 < ro_cn r) (hb : ro_cs L < 900) : ∀ j, j ≤ 4 → ro_ds (zl_L d p m v a W k L j) ∧ (∀ r, r ∈ zl_L d p m v a W k L j → 0 < ro_cn r) ∧ ro_cs (zl_L d p m v a W k L j) ≤ ro_cs L + j ∧ (zl_L d p m v a W k L j).length ≤ L.length + j := by
  intro j
  induction j with
  | zero => exact fun _ => ⟨hd, hp, Nat.le_refl _, Nat.le_refl _⟩
  | succ j ih =>
    intro hj
    obtain ⟨h1, h2, h3, h4⟩ := ih (by omega)
    unfold zl_L
    split
    · have h5 := ws_cn h1 h2 (by omega) (nI k) (wy_s d (zl_q a W k j)) (wy_s d (zl_q a W k j) + p) v
      exact ⟨ws_ds h1 _ _ _ _, h5.2.1, by omega, by omega⟩
    · exact ⟨h1, h2, by omega, by omega⟩
theorem zl_st {dn tn W j : Nat} (hj : j < W) (hW : W ≤ 4) (k : Nat) (hk : k < 4) (htn : tn ≤ 63) (hd : 1 ≤ dn) : nI (dn * (tn / dn)) - nI (W - 1 - j) * nI dn = wy_s (nI dn) (zl_q (tn / dn) W k j) := by
  generalize tn / dn = a
  unfold wy_s zl_q
  rw [show (4 * (a + 5 + j - W) + k) / 4 = a + 5 + j - W from by omega]
  have e : nI (a + 5 + j - W) = nI a + 4 - nI (W - 1 - j) := by
    rw [show (4 : Int32) = nI 4 from rfl, nI_add, pk_sub (by omega)]
    exact congrArg nI (by omega)
  rw [e, ← pk_mul]
  generalize nI (W - 1 - j) = x
  generalize nI a = y
  generalize nI dn = z
  grind
