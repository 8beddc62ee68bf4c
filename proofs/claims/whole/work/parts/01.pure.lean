/-! numbers: pasted from the kit's rows to paste (pk_), and own -/
theorem pk_us {f : Nat → Int32} {k : Nat} {x : Int32} : upd f k x k = x := if_pos rfl
theorem pk_un {f : Nat → Int32} {k j : Nat} {x : Int32} (h : j ≠ k) : upd f k x j = f j := if_neg h
theorem pk_sub {a b : Nat} (h : b ≤ a) : nI a - nI b = nI (a - b) := by
  obtain ⟨c, rfl⟩ : ∃ c, a = c + b := ⟨a - b, by omega⟩
  rw [← nI_add, Int32.add_sub_cancel, Nat.add_sub_cancel]
theorem pk_m1 (n : Nat) : nI (n + 1) + (-1) = nI n := by
  rw [← nI_1, Int32.add_assoc, show (1 : Int32) + (-1) = 0 from rfl, Int32.add_zero]
theorem pk_mul (a b : Nat) : nI a * nI b = nI (a * b) := (Int32.ofNat_mul a b).symm
theorem pk_div {a d : Nat} (ha : a < 2 ^ 31) (h0 : 0 < d) (hd : d < 2 ^ 31) : nI a / nI d = nI (a / d) := by
  apply Int32.toInt_inj.mp
  rw [lg_idiv_nonneg (by rw [nI_toInt ha]; omega) (by rw [nI_toInt hd]; omega), nI_toInt ha, nI_toInt hd, nI_toInt (Nat.lt_of_le_of_lt (Nat.div_le_self a d) ha)]
  first | rfl | exact (Int.natCast_ediv _ _).symm
theorem pk_rem {a d : Nat} (ha : a < 2 ^ 31) (h0 : 0 < d) (hd : d < 2 ^ 31) : nI a - nI a / nI d * nI d = nI (a % d) := by
  rw [pk_div ha h0 hd, pk_mul, pk_sub (Nat.div_mul_le_self a d)]
  exact congrArg nI (by have := Nat.div_add_mod' a d; omega)
theorem ii_add {a b : Int32} (h1 : -2000000000 ≤ a.toInt + b.toInt) (h2 : a.toInt + b.toInt ≤ 2000000000) : (a + b).toInt = a.toInt + b.toInt := by
  rw [Int32.toInt_add]
  exact Int.bmod_eq_of_le (by omega) (by omega)
theorem ii_sub {a b : Int32} (h1 : -2000000000 ≤ a.toInt - b.toInt) (h2 : a.toInt - b.toInt ≤ 2000000000) : (a - b).toInt = a.toInt - b.toInt := by
  rw [Int32.toInt_sub]
  exact Int.bmod_eq_of_le (by omega) (by omega)
theorem ii_mul {a b : Int32} (h1 : -2000000000 ≤ a.toInt * b.toInt) (h2 : a.toInt * b.toInt ≤ 2000000000) : (a * b).toInt = a.toInt * b.toInt := by
  rw [Int32.toInt_mul]
  exact Int.bmod_eq_of_le (by omega) (by omega)
theorem ii_lt {a b : Int32} : a < b ↔ a.toInt < b.toInt := Int32.lt_iff_toInt_lt
theorem ii_le {a b : Int32} : a ≤ b ↔ a.toInt ≤ b.toInt := Int32.le_iff_toInt_le
theorem ii_eq {a b : Int32} : a = b ↔ a.toInt = b.toInt := Int32.toInt_inj.symm

/-! lists of the values of a function -/
def li_L {α : Type} (f : Nat → α) (n : Nat) : List α := (List.range n).map f
theorem li_0 {α : Type} (f : Nat → α) : li_L f 0 = [] := rfl
theorem li_s {α : Type} (f : Nat → α) (n : Nat) : li_L f (n + 1) = li_L f n ++ [f n] := by simp [li_L, List.range_succ]
theorem li_len {α : Type} (f : Nat → α) (n : Nat) : (li_L f n).length = n := by simp [li_L]
theorem li_cg {α : Type} {f g : Nat → α} {n : Nat} (h : ∀ i, i < n → f i = g i) : li_L f n = li_L g n :=
  List.map_congr_left (fun i hi => h i (List.mem_range.mp hi))
theorem li_mem {α : Type} {f : Nat → α} {n : Nat} {r : α} : r ∈ li_L f n ↔ ∃ i, i < n ∧ f i = r := by simp [li_L]
theorem li_get {α : Type} {f : Nat → α} {n i : Nat} (h : i < n) : (li_L f n)[i]? = some (f i) := by
  simp [li_L, List.getElem?_range h]
theorem li_inj {α : Type} {f g : Nat → α} {n i : Nat} (e : li_L f n = li_L g n) (h : i < n) : f i = g i := by
  have h1 := li_get (f := f) h
  rw [e, li_get h] at h1
  exact (Option.some.inj h1).symm
theorem li_er (n i j : Nat) : j ∈ (List.range n).erase i ↔ j ≠ i ∧ j < n := by
  rw [List.Nodup.mem_erase_iff List.nodup_range, List.mem_range]
theorem li_set {α : Type} {f : Nat → α} {n i : Nat} (hi : i < n) : ∃ R : List α, (li_L f n).Perm (f i :: R) ∧ (∀ r, r ∈ R → ∃ j, j < n ∧ j ≠ i ∧ f j = r) ∧ ∀ g : Nat → α, (∀ j, j < n → j ≠ i → g j = f j) → (li_L g n).Perm (g i :: R) := by
  have hp : (List.range n).Perm (i :: (List.range n).erase i) := List.perm_cons_erase (List.mem_range.mpr hi)
  refine ⟨((List.range n).erase i).map f, hp.map f, ?_, ?_⟩
  · intro r hr
    obtain ⟨j, hj, rfl⟩ := List.mem_map.mp hr
    exact ⟨j, ((li_er n i j).mp hj).2, ((li_er n i j).mp hj).1, rfl⟩
  · intro g hg
    have e : ((List.range n).erase i).map g = ((List.range n).erase i).map f :=
      List.map_congr_left (fun j hj => hg j ((li_er n i j).mp hj).2 ((li_er n i j).mp hj).1)
    have h := hp.map g
    rw [List.map_cons, e] at h
    exact h
theorem li_rm {α : Type} {f g : Nat → α} {n i : Nat} (hi : i < n + 1) (h1 : ∀ j, j < n → j ≠ i → g j = f j) (h2 : i < n → g i = f n) : (li_L f (n + 1)).Perm (f i :: li_L g n) := by
  rw [li_s]
  by_cases h : i < n
  · obtain ⟨R, p1, _, p2⟩ := li_set (f := f) h
    have p3 := p2 g h1
    rw [h2 h] at p3
    exact (List.perm_append_singleton _ _).trans ((p1.cons _).trans ((List.Perm.swap _ _ _).trans (p3.symm.cons _)))
  · have hn : i = n := by omega
    subst hn
    rw [li_cg (f := g) (g := f) (fun j hj => h1 j hj (by omega))]
    exact List.perm_append_singleton _ _

/-! rows: key, start, end, events, sum, least, greatest -/
abbrev ro_T : Type := Int32 × Int32 × Int32 × Int32 × Int32 × Int32 × Int32
def ro_mn (a b : Int32) : Int32 := if a < b then a else b
def ro_mx (a b : Int32) : Int32 := if b < a then a else b
def ro_ad (r : ro_T) (c u l g : Int32) : ro_T := (r.1, r.2.1, r.2.2.1, r.2.2.2.1 + c, r.2.2.2.2.1 + u, ro_mn l r.2.2.2.2.2.1, ro_mx g r.2.2.2.2.2.2)
def ro_st (r : ro_T) (s e : Int32) : ro_T := (r.1, ro_mn s r.2.1, ro_mx e r.2.2.1, r.2.2.2)
def ro_mg (r q : ro_T) : ro_T := ro_st (ro_ad r q.2.2.2.1 q.2.2.2.2.1 q.2.2.2.2.2.1 q.2.2.2.2.2.2) q.2.1 q.2.2.1
def ro_nw (k s e v : Int32) : ro_T := (k, s, e, 1, v, v, v)
def ro_cn (r : ro_T) : Nat := r.2.2.2.1.toNatClampNeg
def ro_cs (L : List ro_T) : Nat := (L.map ro_cn).sum
def ro_ds (L : List ro_T) : Prop := L.Pairwise (fun r q => ¬ (r.1 = q.1 ∧ r.2.1 = q.2.1))
def ro_is (k s : Int32) (r : ro_T) : Bool := decide (r.1 = k ∧ r.2.1 = s)
def ro_ws (L : List ro_T) (k s e v : Int32) : List ro_T :=
  if L.any (ro_is k s) then L.map (fun r => if ro_is k s r then ro_ad r 1 v v v else r) else ro_nw k s e v :: L

theorem ro_mn_c (a b : Int32) : ro_mn a b = ro_mn b a := by
  unfold ro_mn
  simp only [ii_lt]
  split <;> split <;> (try rfl) <;> (rw [ii_eq]; omega)
theorem ro_mx_c (a b : Int32) : ro_mx a b = ro_mx b a := by
  unfold ro_mx
  simp only [ii_lt]
  split <;> split <;> (try rfl) <;> (rw [ii_eq]; omega)
theorem ro_mn_i (a b : Int32) : (ro_mn a b).toInt = min a.toInt b.toInt := by
  unfold ro_mn
  simp only [ii_lt]
  split <;> omega
theorem ro_mx_i (a b : Int32) : (ro_mx a b).toInt = max a.toInt b.toInt := by
  unfold ro_mx
  simp only [ii_lt]
  split <;> omega
theorem ro_mn_r (a b z : Int32) : ro_mn b (ro_mn a z) = ro_mn a (ro_mn b z) := by
  rw [ii_eq]; simp only [ro_mn_i]; omega
theorem ro_mx_r (a b z : Int32) : ro_mx b (ro_mx a z) = ro_mx a (ro_mx b z) := by
  rw [ii_eq]; simp only [ro_mx_i]; omega
theorem ii_arc (a b c : Int32) : a + b + c = a + c + b := by rw [Int32.add_assoc, Int32.add_comm b, ← Int32.add_assoc]
theorem ro_mg_r (a b z : ro_T) : ro_mg (ro_mg z a) b = ro_mg (ro_mg z b) a := by
  unfold ro_mg ro_st ro_ad
  dsimp only
  rw [ro_mn_r a.2.1, ro_mx_r a.2.2.1, ro_mn_r a.2.2.2.2.2.1, ro_mx_r a.2.2.2.2.2.2, ii_arc z.2.2.2.1, ii_arc z.2.2.2.2.1]
theorem ro_mg_c {a b : ro_T} (h : a.1 = b.1) : ro_mg a b = ro_mg b a := by
  unfold ro_mg ro_st ro_ad
  dsimp only
  rw [h, ro_mn_c b.2.1, ro_mx_c b.2.2.1, ro_mn_c b.2.2.2.2.2.1, ro_mx_c b.2.2.2.2.2.2, Int32.add_comm a.2.2.2.1, Int32.add_comm a.2.2.2.2.1]
theorem ro_fold {L L' : List ro_T} (h : L.Perm L') (a : ro_T) : L.foldl ro_mg a = L'.foldl ro_mg a :=
  h.foldl_eq' (fun x _ y _ z => ro_mg_r x y z) a

theorem ro_cs_p {L L' : List ro_T} (h : L.Perm L') : ro_cs L = ro_cs L' := (h.map ro_cn).sum_nat
theorem ro_cs_c (r : ro_T) (L : List ro_T) : ro_cs (r :: L) = ro_cn r + ro_cs L := by simp [ro_cs]
theorem ro_cs_a (L L' : List ro_T) : ro_cs (L ++ L') = ro_cs L + ro_cs L' := by simp [ro_cs]
theorem ro_ds_p {L L' : List ro_T} (h : L.Perm L') (d : ro_ds L) : ro_ds L' :=
  d.perm h (fun n z => n ⟨z.1.symm, z.2.symm⟩)
theorem ro_len {L : List ro_T} (h : ∀ r, r ∈ L → 0 < ro_cn r) : L.length ≤ ro_cs L := by
  induction L with
  | nil => exact Nat.zero_le _
  | cons r L ih =>
    have h1 := h r List.mem_cons_self
    have h2 := ih (fun q hq => h q (List.mem_cons_of_mem r hq))
    rw [ro_cs_c, List.length_cons]
    omega
theorem ro_cn_le {L : List ro_T} {r : ro_T} (h : r ∈ L) : ro_cn r ≤ ro_cs L := by
  induction L with
  | nil => cases h
  | cons q L ih =>
    rw [ro_cs_c]
    rcases List.mem_cons.mp h with rfl | h
    · omega
    · have := ih h
      omega
theorem ro_cn_1 (k s e v : Int32) : ro_cn (ro_nw k s e v) = 1 := by
  show (1 : Int32).toNatClampNeg = 1
  decide
theorem ro_cn_i {x : Int32} {n : Nat} (h : x.toNatClampNeg = n) (hn : 0 < n) : x = nI n := by
  by_cases z : x < 0
  · have : x.toInt < 0 := by
      have := ii_lt.mp z
      simpa using this
    have h2 : x.toNatClampNeg = x.toInt.toNat := rfl
    omega
  · obtain ⟨j, hj, rfl⟩ := nI_of z
    rw [nI_clamp hj] at h
    rw [h]
theorem ro_cn_pos {x : Int32} : 0 < x.toNatClampNeg ↔ 0 < x := by
  have h2 : x.toNatClampNeg = x.toInt.toNat := rfl
  rw [ii_lt, h2]
  have : (0 : Int32).toInt = 0 := by decide
  omega
theorem ro_cn_add {x y : Int32} (hx : 0 < x.toNatClampNeg) (hy : 0 < y.toNatClampNeg) (h : x.toNatClampNeg + y.toNatClampNeg ≤ 1000) : (x + y).toNatClampNeg = x.toNatClampNeg + y.toNatClampNeg := by
  have e1 := ro_cn_i (x := x) rfl hx
  have e2 := ro_cn_i (x := y) rfl hy
  generalize x.toNatClampNeg = m at *
  generalize y.toNatClampNeg = n at *
  subst e1 e2
  rw [nI_add, nI_clamp (by omega)]

/-! one window's count -/
theorem ws_p {L L' : List ro_T} (h : L.Perm L') (k s e v : Int32) : (ro_ws L k s e v).Perm (ro_ws L' k s e v) := by
  unfold ro_ws
  rw [h.any_eq]
  split
  · exact h.map _
  · exact h.cons _
theorem ws_miss {L : List ro_T} {k s : Int32} (h : ∀ q, q ∈ L → ro_is k s q = false) (e v : Int32) : ro_ws L k s e v = ro_nw k s e v :: L := by
  have : ¬ (L.any (ro_is k s) = true) := by
    rw [List.any_eq_true]
    rintro ⟨x, hx, hy⟩
    rw [h x hx] at hy
    cases hy
  unfold ro_ws
  rw [if_neg this]
theorem ws_hit {L R : List ro_T} {r : ro_T} {k s : Int32} (p : L.Perm (r :: R)) (d : ro_ds L) (h : ro_is k s r = true) (e v : Int32) : (ro_ws L k s e v).Perm (ro_ad r 1 v v v :: R) := by
  refine (ws_p p k s e v).trans ?_
  have d2 := ro_ds_p p d
  have hR : ∀ q, q ∈ R → ro_is k s q = false := by
    intro q hq
    have h1 := List.rel_of_pairwise_cons d2 hq
    have h2 := of_decide_eq_true h
    refine decide_eq_false (fun z => h1 ⟨h2.1.trans z.1.symm, h2.2.trans z.2.symm⟩)
  have e1 : R.map (fun r => if ro_is k s r then ro_ad r 1 v v v else r) = R := by
    refine (List.map_congr_left (g := id) (fun q hq => ?_)).trans (List.map_id R)
    rw [hR q hq]
    rfl
  unfold ro_ws
  rw [List.any_cons, h, Bool.true_or, if_pos rfl, List.map_cons, e1, h]
  exact List.Perm.refl _
theorem ws_cas (L : List ro_T) (k s : Int32) : (∃ r R, L.Perm (r :: R) ∧ ro_is k s r = true) ∨ (∀ q, q ∈ L → ro_is k s q = false) := by
  by_cases h : ∃ r, r ∈ L ∧ ro_is k s r = true
  · obtain ⟨r, hr, h2⟩ := h
    obtain ⟨A, B, rfl⟩ := List.append_of_mem hr
    exact Or.inl ⟨r, A ++ B, List.perm_middle, h2⟩
  · refine Or.inr (fun q hq => ?_)
    cases z : ro_is k s q
    · rfl
    · exact absurd ⟨q, hq, z⟩ h
theorem ws_ds {L : List ro_T} (d : ro_ds L) (k s e v : Int32) : ro_ds (ro_ws L k s e v) := by
  rcases ws_cas L k s with ⟨r, R, p, h⟩ | h
  · refine ro_ds_p (ws_hit p d h e v).symm ?_
    have d2 := ro_ds_p p d
    exact List.pairwise_cons.mpr ⟨fun q hq => List.rel_of_pairwise_cons d2 hq, List.Pairwise.of_cons d2⟩
  · rw [ws_miss h]
    refine List.pairwise_cons.mpr ⟨fun q hq z => ?_, d⟩
    have := of_decide_eq_false (h q hq)
    exact this ⟨z.1.symm, z.2.symm⟩
theorem ws_cn {L : List ro_T} (d : ro_ds L) (hp : ∀ r, r ∈ L → 0 < ro_cn r) (hb : ro_cs L < 1000) (k s e v : Int32) : ro_cs (ro_ws L k s e v) = ro_cs L + 1 ∧ (∀ r, r ∈ ro_ws L k s e v → 0 < ro_cn r) ∧ (ro_ws L k s e v).length ≤ L.length + 1 := by
  rcases ws_cas L k s with ⟨r, R, p, h⟩ | h
  · have p2 := ws_hit p d h e v
    have hr : 0 < ro_cn r := hp r (p.mem_iff.mpr List.mem_cons_self)
    have h1 := ro_cn_le (p.mem_iff.mpr List.mem_cons_self)
    have hc : ro_cn (ro_ad r 1 v v v) = ro_cn r + 1 :=
      ro_cn_add (x := r.2.2.2.1) (y := 1) hr (by decide) (by show ro_cn r + 1 ≤ 1000; omega)
    refine ⟨?_, ?_, ?_⟩
    · rw [ro_cs_p p2, ro_cs_p p, ro_cs_c, ro_cs_c, hc]
      omega
    · intro q hq
      rcases List.mem_cons.mp (p2.mem_iff.mp hq) with rfl | hq
      · omega
      · exact hp q (p.mem_iff.mpr (List.mem_cons_of_mem r hq))
    · rw [p2.length_eq, p.length_eq, List.length_cons, List.length_cons]
      omega
  · rw [ws_miss h]
    refine ⟨?_, ?_, ?_⟩
    · rw [ro_cs_c, ro_cn_1]
      omega
    · intro q hq
      rcases List.mem_cons.mp hq with rfl | hq
      · rw [ro_cn_1]
        omega
      · exact hp q hq
    · rw [List.length_cons]
      omega
