section
/-! numbers: pasted from the kit's rows to paste (pk_), and own -/
theorem pk_us {f : Nat → Int32} {k : Nat} {x : Int32} : upd f k x k = x := if_pos rfl
theorem pk_un {f : Nat → Int32} {k j : Nat} {x : Int32} (h : j ≠ k) : upd f k x j = f j := if_neg h
theorem pk_sub {a b : Nat} (h : b ≤ a) : nI a - nI b = nI (a - b) := by
  obtain ⟨c, rfl⟩ : ∃ c, a = c + b := ⟨a - b, by omega⟩
  rw [← nI_add, Int32.add_sub_cancel, Nat.add_sub_cancel]
theorem pk_m1 (n : Nat) : nI (n + 1) + (-1) = nI n := by
  rw [← nI_1, Int32.add_assoc, show (1 : Int32) + (-1) = 0 from rfl, Int32.add_zero]
theorem pk_mul (a b : Nat) : nI a * nI b = nI (a * b) := (Int32.ofNat_mul a b).symm
theorem pk_div {a d : Nat} (ha : a < 2 ^ 31) (h0 : 0 < d) (hd : d < 2 ^ 31) : nI a / nI d = nI (a / d) := by
  apply Int32.toInt_inj.mp
  rw [lg_idiv_nonneg (by rw [nI_toInt ha]; omega) (by rw [nI_toInt hd]; omega), nI_toInt ha, nI_toInt hd, nI_toInt (Nat.lt_of_le_of_lt (Nat.div_le_self a d) ha)]
  first | rfl | exact (Int.natCast_ediv _ _).symm
theorem pk_rem {a d : Nat} (ha : a < 2 ^ 31) (h0 : 0 < d) (hd : d < 2 ^ 31) : nI a - nI a / nI d * nI d = nI (a % d) := by
  rw [pk_div ha h0 hd, pk_mul, pk_sub (Nat.div_mul_le_self a d)]
  exact congrArg nI (by have := Nat.div_add_mod' a d; omega)
theorem ii_add {a b : Int32} (h1 : -2000000000 ≤ a.toInt + b.toInt) (h2 : a.toInt + b.toInt ≤ 2000000000) : (a + b).toInt = a.toInt + b.toInt := by
  rw [Int32.toInt_add]
  exact Int.bmod_eq_of_le (by omega) (by omega)
theorem ii_sub {a b : Int32} (h1 : -2000000000 ≤ a.toInt - b.toInt) (h2 : a.toInt - b.toInt ≤ 2000000000) : (a - b).toInt = a.toInt - b.toInt := by
  rw [Int32.toInt_sub]
  exact Int.bmod_eq_of_le (by omega) (by omega)
theorem ii_mul {a b : Int32} (h1 : -2000000000 ≤ a.toInt * b.toInt) (h2 : a.toInt * b.toInt ≤ 2000000000) : (a * b).toInt = a.toInt * b.toInt := by
  rw [Int32.toInt_mul]
  exact Int.bmod_eq_of_le (by omega) (by omega)
theorem ii_lt {a b : Int32} : a < b ↔ a.toInt < b.toInt := Int32.lt_iff_toInt_lt
theorem ii_le {a b : Int32} : a ≤ b ↔ a.toInt ≤ b.toInt := Int32.le_iff_toInt_le
theorem ii_eq {a b : Int32} : a = b ↔ a.toInt = b.toInt := Int32.toInt_inj.symm

/-! lists of the values of a function -/
def li_L {α : Type} (f : Nat → α) (n : Nat) : List α := (List.range n).map f
theorem li_0 {α : Type} (f : Nat → α) : li_L f 0 = [] := rfl
theorem li_s {α : Type} (f : Nat → α) (n : Nat) : li_L f (n + 1) = li_L f n ++ [f n] := by simp [li_L, List.range_succ]
theorem li_len {α : Type} (f : Nat → α) (n : Nat) : (li_L f n).length = n := by simp [li_L]
theorem li_cg {α : Type} {f g : Nat → α} {n : Nat} (h : ∀ i, i < n → f i = g i) : li_L f n = li_L g n :=
  List.map_congr_left (fun i hi => h i (List.mem_range.mp hi))
theorem li_mem {α : Type} {f : Nat → α} {n : Nat} {r : α} : r ∈ li_L f n ↔ ∃ i, i < n ∧ f i = r := by simp [li_L]
theorem li_get {α : Type} {f : Nat → α} {n i : Nat} (h : i < n) : (li_L f n)[i]? = some (f i) := by
  simp [li_L, List.getElem?_range h]
theorem li_inj {α : Type} {f g : Nat → α} {n i : Nat} (e : li_L f n = li_L g n) (h : i < n) : f i = g i := by
  have h1 := li_get (f := f) h
  rw [e, li_get h] at h1
  exact (Option.some.inj h1).symm
theorem li_er (n i j : Nat) : j ∈ (List.range n).erase i ↔ j ≠ i ∧ j < n := by
  rw [List.Nodup.mem_erase_iff List.nodup_range, List.mem_range]
theorem li_set {α : Type} {f : Nat → α} {n i : Nat} (hi : i < n) : ∃ R : List α, (li_L f n).Perm (f i :: R) ∧ (∀ r, r ∈ R → ∃ j, j < n ∧ j ≠ i ∧ f j = r) ∧ ∀ g : Nat → α, (∀ j, j < n → j ≠ i → g j = f j) → (li_L g n).Perm (g i :: R) := by
  have hp : (List.range n).Perm (i :: (List.range n).erase i) := List.perm_cons_erase (List.mem_range.mpr hi)
  refine ⟨((List.range n).erase i).map f, hp.map f, ?_, ?_⟩
  · intro r hr
    obtain ⟨j, hj, rfl⟩ := List.mem_map.mp hr
    exact ⟨j, ((li_er n i j).mp hj).2, ((li_er n i j).mp hj).1, rfl⟩
  · intro g hg
    have e : ((List.range n).erase i).map g = ((List.range n).erase i).map f :=
      List.map_congr_left (fun j hj => hg j ((li_er n i j).mp hj).2 ((li_er n i j).mp hj).1)
    have h := hp.map g
    rw [List.map_cons, e] at h
    exact h
theorem li_rm {α : Type} {f g : Nat → α} {n i : Nat} (hi : i < n + 1) (h1 : ∀ j, j < n → j ≠ i → g j = f j) (h2 : i < n → g i = f n) : (li_L f (n + 1)).Perm (f i :: li_L g n) := by
  rw [li_s]
  by_cases h : i < n
  · obtain ⟨R, p1, _, p2⟩ := li_set (f := f) h
    have p3 := p2 g h1
    rw [h2 h] at p3
    exact (List.perm_append_singleton _ _).trans ((p1.cons _).trans ((List.Perm.swap _ _ _).trans (p3.symm.cons _)))
  · have hn : i = n := by omega
    subst hn
    rw [li_cg (f := g) (g := f) (fun j hj => h1 j hj (by omega))]
    exact List.perm_append_singleton _ _

/-! rows: key, start, end, events, sum, least, greatest -/
abbrev ro_T : Type := Int32 × Int32 × Int32 × Int32 × Int32 × Int32 × Int32
def ro_mn (a b : Int32) : Int32 := if a < b then a else b
def ro_mx (a b : Int32) : Int32 := if b < a then a else b
def ro_ad (r : ro_T) (c u l g : Int32) : ro_T := (r.1, r.2.1, r.2.2.1, r.2.2.2.1 + c, r.2.2.2.2.1 + u, ro_mn l r.2.2.2.2.2.1, ro_mx g r.2.2.2.2.2.2)
def ro_st (r : ro_T) (s e : Int32) : ro_T := (r.1, ro_mn s r.2.1, ro_mx e r.2.2.1, r.2.2.2)
def ro_mg (r q : ro_T) : ro_T := ro_st (ro_ad r q.2.2.2.1 q.2.2.2.2.1 q.2.2.2.2.2.1 q.2.2.2.2.2.2) q.2.1 q.2.2.1
def ro_nw (k s e v : Int32) : ro_T := (k, s, e, 1, v, v, v)
def ro_cn (r : ro_T) : Nat := r.2.2.2.1.toNatClampNeg
def ro_cs (L : List ro_T) : Nat := (L.map ro_cn).sum
def ro_ds (L : List ro_T) : Prop := L.Pairwise (fun r q => ¬ (r.1 = q.1 ∧ r.2.1 = q.2.1))
def ro_is (k s : Int32) (r : ro_T) : Bool := decide (r.1 = k ∧ r.2.1 = s)
def ro_ws (L : List ro_T) (k s e v : Int32) : List ro_T :=
  if L.any (ro_is k s) then L.map (fun r => if ro_is k s r then ro_ad r 1 v v v else r) else ro_nw k s e v :: L

theorem ro_mn_c (a b : Int32) : ro_mn a b = ro_mn b a := by
  unfold ro_mn
  simp only [ii_lt]
  split <;> split <;> (try rfl) <;> (rw [ii_eq]; omega)
theorem ro_mx_c (a b : Int32) : ro_mx a b = ro_mx b a := by
  unfold ro_mx
  simp only [ii_lt]
  split <;> split <;> (try rfl) <;> (rw [ii_eq]; omega)
theorem ro_mn_i (a b : Int32) : (ro_mn a b).toInt = min a.toInt b.toInt := by
  unfold ro_mn
  simp only [ii_lt]
  split <;> omega
theorem ro_mx_i (a b : Int32) : (ro_mx a b).toInt = max a.toInt b.toInt := by
  unfold ro_mx
  simp only [ii_lt]
  split <;> omega
theorem ro_mn_r (a b z : Int32) : ro_mn b (ro_mn a z) = ro_mn a (ro_mn b z) := by
  rw [ii_eq]; simp only [ro_mn_i]; omega
theorem ro_mx_r (a b z : Int32) : ro_mx b (ro_mx a z) = ro_mx a (ro_mx b z) := by
  rw [ii_eq]; simp only [ro_mx_i]; omega
theorem ii_arc (a b c : Int32) : a + b + c = a + c + b := by rw [Int32.add_assoc, Int32.add_comm b, ← Int32.add_assoc]
theorem ro_mg_r (a b z : ro_T) : ro_mg (ro_mg z a) b = ro_mg (ro_mg z b) a := by
  unfold ro_mg ro_st ro_ad
  dsimp only
  rw [ro_mn_r a.2.1, ro_mx_r a.2.2.1, ro_mn_r a.2.2.2.2.2.1, ro_mx_r a.2.2.2.2.2.2, ii_arc z.2.2.2.1, ii_arc z.2.2.2.2.1]
theorem ro_mg_c {a b : ro_T} (h : a.1 = b.1) : ro_mg a b = ro_mg b a := by
  unfold ro_mg ro_st ro_ad
  dsimp only
  rw [h, ro_mn_c b.2.1, ro_mx_c b.2.2.1, ro_mn_c b.2.2.2.2.2.1, ro_mx_c b.2.2.2.2.2.2, Int32.add_comm a.2.2.2.1, Int32.add_comm a.2.2.2.2.1]
theorem ro_fold {L L' : List ro_T} (h : L.Perm L') (a : ro_T) : L.foldl ro_mg a = L'.foldl ro_mg a :=
  h.foldl_eq' (fun x _ y _ z => ro_mg_r x y z) a

theorem ro_cs_p {L L' : List ro_T} (h : L.Perm L') : ro_cs L = ro_cs L' := (h.map ro_cn).sum_nat
theorem ro_cs_c (r : ro_T) (L : List ro_T) : ro_cs (r :: L) = ro_cn r + ro_cs L := by simp [ro_cs]
theorem ro_cs_a (L L' : List ro_T) : ro_cs (L ++ L') = ro_cs L + ro_cs L' := by simp [ro_cs]
theorem ro_ds_p {L L' : List ro_T} (h : L.Perm L') (d : ro_ds L) : ro_ds L' :=
  d.perm h (fun n z => n ⟨z.1.symm, z.2.symm⟩)
theorem ro_len {L : List ro_T} (h : ∀ r, r ∈ L → 0 < ro_cn r) : L.length ≤ ro_cs L := by
  induction L with
  | nil => exact Nat.zero_le _
  | cons r L ih =>
    have h1 := h r List.mem_cons_self
    have h2 := ih (fun q hq => h q (List.mem_cons_of_mem r hq))
    rw [ro_cs_c, List.length_cons]
    omega
theorem ro_cn_le {L : List ro_T} {r : ro_T} (h : r ∈ L) : ro_cn r ≤ ro_cs L := by
  induction L with
  | nil => cases h
  | cons q L ih =>
    rw [ro_cs_c]
    rcases List.mem_cons.mp h with rfl | h
    · omega
    · have := ih h
      omega
theorem ro_cn_1 (k s e v : Int32) : ro_cn (ro_nw k s e v) = 1 := by
  show (1 : Int32).toNatClampNeg = 1
  decide
theorem ro_cn_i {x : Int32} {n : Nat} (h : x.toNatClampNeg = n) (hn : 0 < n) : x = nI n := by
  by_cases z : x < 0
  · have : x.toInt < 0 := by
      have := ii_lt.mp z
      simpa using this
    have h2 : x.toNatClampNeg = x.toInt.toNat := rfl
    omega
  · obtain ⟨j, hj, rfl⟩ := nI_of z
    rw [nI_clamp hj] at h
    rw [h]
theorem ro_cn_pos {x : Int32} : 0 < x.toNatClampNeg ↔ 0 < x := by
  have h2 : x.toNatClampNeg = x.toInt.toNat := rfl
  rw [ii_lt, h2]
  have : (0 : Int32).toInt = 0 := by decide
  omega
theorem ro_cn_add {x y : Int32} (hx : 0 < x.toNatClampNeg) (hy : 0 < y.toNatClampNeg) (h : x.toNatClampNeg + y.toNatClampNeg ≤ 1000) : (x + y).toNatClampNeg = x.toNatClampNeg + y.toNatClampNeg := by
  have e1 := ro_cn_i (x := x) rfl hx
  have e2 := ro_cn_i (x := y) rfl hy
  generalize x.toNatClampNeg = m at *
  generalize y.toNatClampNeg = n at *
  subst e1 e2
  rw [nI_add, nI_clamp (by omega)]

/-! one window's count -/
theorem ws_p {L L' : List ro_T} (h : L.Perm L') (k s e v : Int32) : (ro_ws L k s e v).Perm (ro_ws L' k s e v) := by
  unfold ro_ws
  rw [h.any_eq]
  split
  · exact h.map _
  · exact h.cons _
theorem ws_miss {L : List ro_T} {k s : Int32} (h : ∀ q, q ∈ L → ro_is k s q = false) (e v : Int32) : ro_ws L k s e v = ro_nw k s e v :: L := by
  have : ¬ (L.any (ro_is k s) = true) := by
    rw [List.any_eq_true]
    rintro ⟨x, hx, hy⟩
    rw [h x hx] at hy
    cases hy
  unfold ro_ws
  rw [if_neg this]
theorem ws_hit {L R : List ro_T} {r : ro_T} {k s : Int32} (p : L.Perm (r :: R)) (d : ro_ds L) (h : ro_is k s r = true) (e v : Int32) : (ro_ws L k s e v).Perm (ro_ad r 1 v v v :: R) := by
  refine (ws_p p k s e v).trans ?_
  have d2 := ro_ds_p p d
  have hR : ∀ q, q ∈ R → ro_is k s q = false := by
    intro q hq
    have h1 := List.rel_of_pairwise_cons d2 hq
    have h2 := of_decide_eq_true h
    refine decide_eq_false (fun z => h1 ⟨h2.1.trans z.1.symm, h2.2.trans z.2.symm⟩)
  have e1 : R.map (fun r => if ro_is k s r then ro_ad r 1 v v v else r) = R := by
    refine (List.map_congr_left (g := id) (fun q hq => ?_)).trans (List.map_id R)
    rw [hR q hq]
    rfl
  unfold ro_ws
  rw [List.any_cons, h, Bool.true_or, if_pos rfl, List.map_cons, e1, h]
  exact List.Perm.refl _
theorem ws_cas (L : List ro_T) (k s : Int32) : (∃ r R, L.Perm (r :: R) ∧ ro_is k s r = true) ∨ (∀ q, q ∈ L → ro_is k s q = false) := by
  by_cases h : ∃ r, r ∈ L ∧ ro_is k s r = true
  · obtain ⟨r, hr, h2⟩ := h
    obtain ⟨A, B, rfl⟩ := List.append_of_mem hr
    exact Or.inl ⟨r, A ++ B, List.perm_middle, h2⟩
  · refine Or.inr (fun q hq => ?_)
    cases z : ro_is k s q
    · rfl
    · exact absurd ⟨q, hq, z⟩ h
theorem ws_ds {L : List ro_T} (d : ro_ds L) (k s e v : Int32) : ro_ds (ro_ws L k s e v) := by
  rcases ws_cas L k s with ⟨r, R, p, h⟩ | h
  · refine ro_ds_p (ws_hit p d h e v).symm ?_
    have d2 := ro_ds_p p d
    exact List.pairwise_cons.mpr ⟨fun q hq => List.rel_of_pairwise_cons d2 hq, List.Pairwise.of_cons d2⟩
  · rw [ws_miss h]
    refine List.pairwise_cons.mpr ⟨fun q hq z => ?_, d⟩
    have := of_decide_eq_false (h q hq)
    exact this ⟨z.1.symm, z.2.symm⟩
theorem ws_cn {L : List ro_T} (d : ro_ds L) (hp : ∀ r, r ∈ L → 0 < ro_cn r) (hb : ro_cs L < 1000) (k s e v : Int32) : ro_cs (ro_ws L k s e v) = ro_cs L + 1 ∧ (∀ r, r ∈ ro_ws L k s e v → 0 < ro_cn r) ∧ (ro_ws L k s e v).length ≤ L.length + 1 := by
  rcases ws_cas L k s with ⟨r, R, p, h⟩ | h
  · have p2 := ws_hit p d h e v
    have hr : 0 < ro_cn r := hp r (p.mem_iff.mpr List.mem_cons_self)
    have h1 := ro_cn_le (p.mem_iff.mpr List.mem_cons_self)
    have hc : ro_cn (ro_ad r 1 v v v) = ro_cn r + 1 :=
      ro_cn_add (x := r.2.2.2.1) (y := 1) hr (by decide) (by show ro_cn r + 1 ≤ 1000; omega)
    refine ⟨?_, ?_, ?_⟩
    · rw [ro_cs_p p2, ro_cs_p p, ro_cs_c, ro_cs_c, hc]
      omega
    · intro q hq
      rcases List.mem_cons.mp (p2.mem_iff.mp hq) with rfl | hq
      · omega
      · exact hp q (p.mem_iff.mpr (List.mem_cons_of_mem r hq))
    · rw [p2.length_eq, p.length_eq, List.length_cons, List.length_cons]
      omega
  · rw [ws_miss h]
    refine ⟨?_, ?_, ?_⟩
    · rw [ro_cs_c, ro_cn_1]
      omega
    · intro q hq
      rcases List.mem_cons.mp hq with rfl | hq
      · rw [ro_cn_1]
        omega
      · exact hp q hq
    · rw [List.length_cons]
      omega
end
section
/-! closing: the order of results -/
def cl_bf (r q : ro_T) : Prop := r.2.2.1 < q.2.2.1 ∨ (r.2.2.1 = q.2.2.1 ∧ (r.1 < q.1 ∨ (r.1 = q.1 ∧ r.2.1 < q.2.1)))
def cl_du (m : Int32) (r : ro_T) : Bool := decide (r.2.2.1 ≤ m)
theorem cl_tr {a b c : ro_T} (h1 : cl_bf a b) (h2 : cl_bf b c) : cl_bf a c := by
  unfold cl_bf at *
  simp only [ii_lt, ii_eq] at *
  omega
theorem cl_as {a b : ro_T} (h1 : cl_bf a b) (h2 : cl_bf b a) : False := by
  unfold cl_bf at *
  simp only [ii_lt, ii_eq] at *
  omega
theorem cl_to {a b : ro_T} (h : ¬ (a.1 = b.1 ∧ a.2.1 = b.2.1)) (h1 : ¬ cl_bf b a) : cl_bf a b := by
  unfold cl_bf at *
  simp only [ii_lt, ii_eq] at *
  omega
/-- L closes at mark m: D comes out, L' stays -/
def cl_R (m : Int32) (L D L' : List ro_T) : Prop :=
  D.Perm (L.filter (cl_du m)) ∧ D.Pairwise cl_bf ∧ L'.Perm (L.filter (fun r => !cl_du m r))
theorem cl_uni {m : Int32} {L1 D1 M1 L2 D2 M2 : List ro_T} (h1 : cl_R m L1 D1 M1) (h2 : cl_R m L2 D2 M2) (p : L1.Perm L2) : D1 = D2 ∧ M1.Perm M2 := by
  obtain ⟨a1, b1, c1⟩ := h1
  obtain ⟨a2, b2, c2⟩ := h2
  refine ⟨List.Perm.eq_of_pairwise (le := cl_bf) (fun a b _ _ x y => (cl_as x y).elim) b1 b2 ((a1.trans (p.filter _)).trans a2.symm), (c1.trans (p.filter _)).trans c2.symm⟩
/-- the closing under way: D is out, L is left of L0 -/
def cl_I (m : Int32) (L0 D L : List ro_T) : Prop :=
  (D ++ L).Perm L0 ∧ D.Pairwise cl_bf ∧ (∀ d, d ∈ D → cl_du m d = true) ∧ (∀ d, d ∈ D → ∀ q, q ∈ L → cl_du m q = true → cl_bf d q)
theorem cl_I0 (m : Int32) (L : List ro_T) : cl_I m L [] L :=
  ⟨List.Perm.refl _, List.Pairwise.nil, (fun d hd => by cases hd), (fun d hd => by cases hd)⟩
theorem cl_Is {m : Int32} {L0 D L L' : List ro_T} {x : ro_T} (h : cl_I m L0 D L) (p : L.Perm (x :: L')) (hx : cl_du m x = true) (hm : ∀ y, y ∈ L' → cl_du m y = true → cl_bf x y) : cl_I m L0 (D ++ [x]) L' := by
  obtain ⟨h1, h2, h3, h4⟩ := h
  refine ⟨?_, ?_, ?_, ?_⟩
  · rw [List.append_assoc]
    exact ((p.symm.append_left D).trans h1)
  · refine List.pairwise_append.mpr ⟨h2, List.pairwise_singleton _ _, fun a ha b hb => ?_⟩
    rw [List.mem_singleton.mp hb]
    exact h4 a ha x (p.mem_iff.mpr List.mem_cons_self) hx
  · intro d hd
    rcases List.mem_append.mp hd with hd | hd
    · exact h3 d hd
    · rw [List.mem_singleton.mp hd]
      exact hx
  · intro d hd q hq hq2
    rcases List.mem_append.mp hd with hd | hd
    · exact h4 d hd q (p.mem_iff.mpr (List.mem_cons_of_mem x hq)) hq2
    · rw [List.mem_singleton.mp hd]
      exact hm q hq hq2
theorem cl_fil {m : Int32} {L : List ro_T} (h : ∀ q, q ∈ L → cl_du m q = false) : L.filter (cl_du m) = [] ∧ L.filter (fun r => !cl_du m r) = L := by
  constructor
  · rw [List.filter_eq_nil_iff]
    intro a ha
    rw [h a ha]
    exact Bool.false_ne_true
  · rw [List.filter_eq_self]
    intro a ha
    rw [h a ha]
    rfl
theorem cl_fil2 {m : Int32} {L : List ro_T} (h : ∀ q, q ∈ L → cl_du m q = true) : L.filter (cl_du m) = L ∧ L.filter (fun r => !cl_du m r) = [] := by
  constructor
  · rw [List.filter_eq_self]
    exact h
  · rw [List.filter_eq_nil_iff]
    intro a ha
    rw [h a ha]
    exact Bool.false_ne_true
theorem cl_Ie {m : Int32} {L0 D L : List ro_T} (h : cl_I m L0 D L) (hn : ∀ q, q ∈ L → cl_du m q = false) : cl_R m L0 D L := by
  obtain ⟨h1, h2, h3, h4⟩ := h
  have e1 := h1.filter (cl_du m)
  have e2 := h1.filter (fun r => !cl_du m r)
  rw [List.filter_append, (cl_fil hn).1, (cl_fil2 h3).1, List.append_nil] at e1
  rw [List.filter_append, (cl_fil hn).2, (cl_fil2 h3).2, List.nil_append] at e2
  exact ⟨e1, h2, e2⟩

/-! sessions -/
def ss_tc (k t d : Int32) (r : ro_T) : Bool := decide (r.1 = k ∧ r.2.1 - d ≤ t ∧ t ≤ r.2.2.1)
/-- two sessions of a key stand apart -/
def ss_sp (L : List ro_T) : Prop := L.Pairwise (fun r q => r.1 = q.1 → r.2.2.1 < q.2.1 ∨ q.2.2.1 < r.2.1)
def ss_ok (d : Int32) (r : ro_T) : Prop := 0 ≤ r.2.1.toInt ∧ r.2.1.toInt + d.toInt ≤ r.2.2.1.toInt ∧ r.2.2.1.toInt ≤ 80 ∧ 0 ≤ r.1.toInt ∧ r.1.toInt ≤ 3
theorem ss_sp_p {L L' : List ro_T} (h : L.Perm L') (d : ss_sp L) : ss_sp L' :=
  List.Pairwise.perm d h (fun n z => (n z.symm).symm)
theorem ss_ds {d : Int32} {L : List ro_T} (hd : 0 ≤ d.toInt) (h : ss_sp L) (ho : ∀ r, r ∈ L → ss_ok d r) : ro_ds L := by
  refine List.Pairwise.imp_of_mem (fun {a b} ha hb hab z => ?_) h
  have h1 := hab z.1
  have oa := ho a ha
  have ob := ho b hb
  unfold ss_ok at oa ob
  have e := ii_eq.mp z.2
  simp only [ii_lt] at h1
  omega
/-- the touched ones, merged into the event -/
def ss_fo (d k t v : Int32) (T : List ro_T) : ro_T := T.foldl ro_mg (ro_nw k t (t + d) v)
theorem ss_f1 (z : Int) (T : List ro_T) : ∀ a : ro_T, a.2.2.1.toInt < z → (∀ x, x ∈ T → x.2.2.1.toInt < z) → (T.foldl ro_mg a).2.2.1.toInt < z := by
  induction T with
  | nil => exact fun a h _ => h
  | cons x T ih =>
    intro a h h2
    refine ih _ ?_ (fun y hy => h2 y (List.mem_cons_of_mem x hy))
    show (ro_mx x.2.2.1 a.2.2.1).toInt < z
    have := h2 x List.mem_cons_self
    rw [ro_mx_i]
    omega
theorem ss_f2 (z : Int) (T : List ro_T) : ∀ a : ro_T, z < a.2.1.toInt → (∀ x, x ∈ T → z < x.2.1.toInt) → z < (T.foldl ro_mg a).2.1.toInt := by
  induction T with
  | nil => exact fun a h _ => h
  | cons x T ih =>
    intro a h h2
    refine ih _ ?_ (fun y hy => h2 y (List.mem_cons_of_mem x hy))
    show z < (ro_mn x.2.1 a.2.1).toInt
    have := h2 x List.mem_cons_self
    rw [ro_mn_i]
    omega
theorem ss_f3 (d : Int32) (T : List ro_T) : ∀ a : ro_T, ss_ok d a → (∀ x, x ∈ T → ss_ok d x) → ss_ok d (T.foldl ro_mg a) := by
  induction T with
  | nil => exact fun a h _ => h
  | cons x T ih =>
    intro a h h2
    refine ih _ ?_ (fun y hy => h2 y (List.mem_cons_of_mem x hy))
    have h3 := h2 x List.mem_cons_self
    unfold ss_ok at *
    show 0 ≤ (ro_mn x.2.1 a.2.1).toInt ∧ (ro_mn x.2.1 a.2.1).toInt + d.toInt ≤ (ro_mx x.2.2.1 a.2.2.1).toInt ∧ (ro_mx x.2.2.1 a.2.2.1).toInt ≤ 80 ∧ 0 ≤ a.1.toInt ∧ a.1.toInt ≤ 3
    rw [ro_mn_i, ro_mx_i]
    omega
theorem ss_f4 (T : List ro_T) : ∀ a : ro_T, (T.foldl ro_mg a).1 = a.1 := by
  induction T with
  | nil => exact fun a => rfl
  | cons x T ih =>
    intro a
    exact ih _
theorem ss_f5 (T : List ro_T) : ∀ a : ro_T, 0 < ro_cn a → (∀ x, x ∈ T → 0 < ro_cn x) → ro_cn a + ro_cs T ≤ 1000 → ro_cn (T.foldl ro_mg a) = ro_cn a + ro_cs T := by
  induction T with
  | nil => exact fun a _ _ _ => rfl
  | cons x T ih =>
    intro a h h2 h3
    have h4 := h2 x List.mem_cons_self
    rw [ro_cs_c] at h3 ⊢
    have e : ro_cn (ro_mg a x) = ro_cn a + ro_cn x := ro_cn_add (x := a.2.2.2.1) (y := x.2.2.2.1) h h4 (by show ro_cn a + ro_cn x ≤ 1000; omega)
    have := ih (ro_mg a x) (by omega) (fun y hy => h2 y (List.mem_cons_of_mem x hy)) (by omega)
    rw [e] at this
    show ro_cn (T.foldl ro_mg (ro_mg a x)) = _
    omega
/-- reading an event into sessions: what the list becomes, and whether the event is late -/
def ss_L (L : List ro_T) (m d k t v : Int32) : List ro_T :=
  if L.any (ss_tc k t d) then ss_fo d k t v (L.filter (ss_tc k t d)) :: L.filter (fun r => !ss_tc k t d r)
  else if t + d ≤ m then L else ro_nw k t (t + d) v :: L
abbrev ss_lt (L : List ro_T) (m d k t : Int32) : Prop := L.any (ss_tc k t d) = false ∧ t + d ≤ m
theorem ss_p {L L' : List ro_T} (h : L.Perm L') (m d k t v : Int32) : (ss_L L m d k t v).Perm (ss_L L' m d k t v) := by
  unfold ss_L
  rw [h.any_eq]
  split
  · unfold ss_fo
    rw [ro_fold (h.filter _)]
    exact (h.filter _).cons _
  · split
    · exact h
    · exact h.cons _
theorem ss_lt_p {L L' : List ro_T} (h : L.Perm L') {m d k t : Int32} (z : ss_lt L m d k t) : ss_lt L' m d k t := by
  unfold ss_lt at *
  rw [h.any_eq] at z
  exact z
theorem ss_ev {d k t v : Int32} (hk0 : 0 ≤ k.toInt) (hk3 : k.toInt ≤ 3) (hd : 0 ≤ d.toInt) (hd8 : d.toInt ≤ 8) (ht : 0 ≤ t.toInt) (ht2 : t.toInt ≤ 63) : ss_ok d (ro_nw k t (t + d) v) := by
  unfold ss_ok ro_nw
  dsimp only
  rw [ii_add (by omega) (by omega)]
  omega
theorem ss_inv {L : List ro_T} {m d k t v : Int32} (hk0 : 0 ≤ k.toInt) (hk3 : k.toInt ≤ 3) (hd : 0 ≤ d.toInt) (hd8 : d.toInt ≤ 8) (ht : 0 ≤ t.toInt) (ht2 : t.toInt ≤ 63) (hs : ss_sp L) (ho : ∀ r, r ∈ L → ss_ok d r) (hp : ∀ r, r ∈ L → 0 < ro_cn r) (hb : ro_cs L < 900) : ss_sp (ss_L L m d k t v) ∧ (∀ r, r ∈ ss_L L m d k t v → ss_ok d r) ∧ (∀ r, r ∈ ss_L L m d k t v → 0 < ro_cn r) ∧ ro_cs (ss_L L m d k t v) ≤ ro_cs L + 1 ∧ (ss_L L m d k t v).length ≤ L.length + 1 := by
  have hev := ss_ev (k := k) (v := v) hk0 hk3 hd hd8 ht ht2
  have htd : (t + d).toInt = t.toInt + d.toInt := ii_add (by omega) (by omega)
  have hap : ∀ q, q ∈ L → ss_tc k t d q = false → k = q.1 → (t + d).toInt < q.2.1.toInt ∨ q.2.2.1.toInt < t.toInt := by
    intro q hq hz hk
    have h1 := of_decide_eq_false hz
    have h2 := ho q hq
    unfold ss_ok at h2
    have h3 : (q.2.1 - d).toInt = q.2.1.toInt - d.toInt := ii_sub (by omega) (by omega)
    rw [ii_le, ii_le, h3] at h1
    rw [htd]
    have h4 : ¬ (q.2.1.toInt - d.toInt ≤ t.toInt ∧ t.toInt ≤ q.2.2.1.toInt) := fun z => h1 ⟨hk.symm, z⟩
    omega
  unfold ss_L
  by_cases ha : L.any (ss_tc k t d) = true
  · rw [if_pos ha]
    have hq2 : ∀ q, q ∈ L.filter (fun r => !ss_tc k t d r) → q ∈ L ∧ ss_tc k t d q = false := by
      intro q hq
      have h1 := List.mem_filter.mp hq
      refine ⟨h1.1, ?_⟩
      have h2 := h1.2
      cases z : ss_tc k t d q
      · rfl
      · rw [z] at h2
        cases h2
    have hq1 : ∀ q, q ∈ L.filter (ss_tc k t d) → q ∈ L ∧ ss_tc k t d q = true := fun q hq => List.mem_filter.mp hq
    have hcs : ro_cs L = ro_cs (L.filter (ss_tc k t d)) + ro_cs (L.filter (fun r => !ss_tc k t d r)) := by
      rw [← ro_cs_a]
      exact (ro_cs_p (List.filter_append_perm (ss_tc k t d) L)).symm
    have hcn := ss_f5 (L.filter (ss_tc k t d)) (ro_nw k t (t + d) v) (by rw [ro_cn_1]; omega) (fun x hx => hp x (hq1 x hx).1) (by rw [ro_cn_1]; omega)
    rw [ro_cn_1] at hcn
    refine ⟨List.pairwise_cons.mpr ⟨?_, List.Pairwise.filter _ hs⟩, ?_, ?_, ?_, ?_⟩
    · intro q hq hk
      obtain ⟨hqL, hqt⟩ := hq2 q hq
      have hk2 : k = q.1 := by
        rw [← hk]
        exact (ss_f4 (L.filter (ss_tc k t d)) (ro_nw k t (t + d) v)).symm
      have hqo := ho q hqL
      unfold ss_ok at hqo
      rw [ii_lt, ii_lt]
      have hsym : ∀ x, x ∈ L → ss_tc k t d x = true → x.2.2.1.toInt < q.2.1.toInt ∨ q.2.2.1.toInt < x.2.1.toInt := by
        intro x hx hxt
        have hne : x ≠ q := by
          intro z
          rw [z, hqt] at hxt
          cases hxt
        have hxk := (of_decide_eq_true hxt).1
        have hxq : x.1 = q.1 := hxk.trans hk2
        have hs1 : L.Pairwise (fun r q : ro_T => r ≠ q → r.1 = q.1 → r.2.2.1 < q.2.1 ∨ q.2.2.1 < r.2.1) := by
          refine List.Pairwise.imp ?_ hs
          intro a b h _
          exact h
        have hs2 : L.Pairwise (fun q r : ro_T => r ≠ q → r.1 = q.1 → r.2.2.1 < q.2.1 ∨ q.2.2.1 < r.2.1) := by
          refine List.Pairwise.imp ?_ hs
          intro a b h _ z
          exact (h z.symm).symm
        have h5 := List.Pairwise.forall_of_forall_of_flip (R := fun r q : ro_T => r ≠ q → r.1 = q.1 → r.2.2.1 < q.2.1 ∨ q.2.2.1 < r.2.1) (fun x _ z => absurd rfl z) hs1 hs2 hx hqL hne hxq
        rw [ii_lt, ii_lt] at h5
        exact h5
      have htq : ∀ x, x ∈ L → ss_tc k t d x = true → x.2.1.toInt ≤ t.toInt + d.toInt ∧ t.toInt ≤ x.2.2.1.toInt := by
        intro x hx hxt
        have h1 := (of_decide_eq_true hxt).2
        have h2 := ho x hx
        unfold ss_ok at h2
        rw [ii_le, ii_le, ii_sub (by omega) (by omega)] at h1
        omega
      rcases hap q hqL hqt hk2 with h6 | h6
      · left
        refine ss_f1 _ _ _ h6 (fun x hx => ?_)
        have h7 := hsym x (hq1 x hx).1 (hq1 x hx).2
        have h8 := htq x (hq1 x hx).1 (hq1 x hx).2
        rw [htd] at h6
        omega
      · right
        refine ss_f2 _ _ _ h6 (fun x hx => ?_)
        have h7 := hsym x (hq1 x hx).1 (hq1 x hx).2
        have h8 := htq x (hq1 x hx).1 (hq1 x hx).2
        omega
    · intro r hr
      rcases List.mem_cons.mp hr with rfl | hr
      · exact ss_f3 d _ _ hev (fun x hx => ho x (hq1 x hx).1)
      · exact ho r (hq2 r hr).1
    · intro r hr
      rcases List.mem_cons.mp hr with rfl | hr
      · unfold ss_fo
        omega
      · exact hp r (hq2 r hr).1
    · rw [ro_cs_c]
      unfold ss_fo
      omega
    · rw [List.length_cons]
      exact Nat.succ_le_succ (List.length_filter_le _ _)
  · rw [if_neg ha]
    by_cases hm : t + d ≤ m
    · rw [if_pos hm]
      exact ⟨hs, ho, hp, by omega, by omega⟩
    · rw [if_neg hm]
      have hno : ∀ q, q ∈ L → ss_tc k t d q = false := by
        intro q hq
        cases z : ss_tc k t d q
        · rfl
        · exact absurd (List.any_eq_true.mpr ⟨q, hq, z⟩) ha
      refine ⟨List.pairwise_cons.mpr ⟨?_, hs⟩, ?_, ?_, ?_, ?_⟩
      · intro q hq hk
        rw [ii_lt, ii_lt]
        exact hap q hq (hno q hq) hk
      · intro r hr
        rcases List.mem_cons.mp hr with rfl | hr
        · exact hev
        · exact ho r hr
      · intro r hr
        rcases List.mem_cons.mp hr with rfl | hr
        · rw [ro_cn_1]; omega
        · exact hp r hr
      · rw [ro_cs_c, ro_cn_1]; omega
      · rw [List.length_cons]; omega
/-- a join as either side does it: T merged into a, the rest R -/
theorem ss_join {L T R : List ro_T} {h : ro_T} {m d k t v : Int32} (p : L.Perm (h :: T ++ R)) (hh : ss_tc k t d h = true) (hT : ∀ x, x ∈ T → ss_tc k t d x = true) (hR : ∀ x, x ∈ R → ss_tc k t d x = false) : (ss_L L m d k t v).Perm (ro_mg (T.foldl ro_mg h) (ro_nw k t (t + d) v) :: R) ∧ (ss_L L m d k t v).Perm ((h :: T).foldl ro_mg (ro_nw k t (t + d) v) :: R) ∧ ¬ ss_lt L m d k t := by
  have ha : (h :: T ++ R).any (ss_tc k t d) = true := List.any_eq_true.mpr ⟨h, List.mem_cons_self, hh⟩
  have hTh : ∀ x, x ∈ h :: T → ss_tc k t d x = true := by
    intro x hx
    rcases List.mem_cons.mp hx with rfl | hx
    · exact hh
    · exact hT x hx
  have e1 : (h :: T ++ R).filter (ss_tc k t d) = h :: T := by
    rw [List.filter_append, List.filter_eq_self.mpr hTh, List.filter_eq_nil_iff.mpr (fun a ha => by rw [hR a ha]; exact Bool.false_ne_true), List.append_nil]
  have e2 : (h :: T ++ R).filter (fun r => !ss_tc k t d r) = R := by
    rw [List.filter_append, List.filter_eq_nil_iff.mpr (fun a ha => by rw [hTh a ha]; exact Bool.false_ne_true), List.filter_eq_self.mpr (fun a ha => by rw [hR a ha]; rfl), List.nil_append]
  have p2 : (ss_L L m d k t v).Perm ((h :: T).foldl ro_mg (ro_nw k t (t + d) v) :: R) := by
    refine (ss_p p m d k t v).trans ?_
    unfold ss_L ss_fo
    rw [if_pos ha, e1, e2]
  refine ⟨?_, p2, ?_⟩
  · have e3 : ro_mg (T.foldl ro_mg h) (ro_nw k t (t + d) v) = (h :: T).foldl ro_mg (ro_nw k t (t + d) v) := by
      have hk := (of_decide_eq_true hh).1
      have e4 : ro_mg (T.foldl ro_mg h) (ro_nw k t (t + d) v) = (T ++ [ro_nw k t (t + d) v]).foldl ro_mg h := by
        rw [List.foldl_append]
        rfl
      rw [e4, ro_fold (List.perm_append_singleton _ _), List.foldl_cons, List.foldl_cons, ro_mg_c (show h.1 = (ro_nw k t (t + d) v).1 from hk)]
    rw [e3]
    exact p2
  · intro z
    have := (ss_lt_p p z).1
    rw [ha] at this
    cases this
end
section
/-! rows in arrays -/
def ro_at (c : Nat → Int32) (o : Nat) : ro_T := (c o, c (o + 1), c (o + 2), c (o + 3), c (o + 4), c (o + 5), c (o + 6))
theorem ro_at_cg {c c' : Nat → Int32} {o : Nat} (h : ∀ j, o ≤ j → j < o + 7 → c' j = c j) : ro_at c' o = ro_at c o := by
  unfold ro_at
  rw [h o (by omega) (by omega), h (o + 1) (by omega) (by omega), h (o + 2) (by omega) (by omega), h (o + 3) (by omega) (by omega), h (o + 4) (by omega) (by omega), h (o + 5) (by omega) (by omega), h (o + 6) (by omega) (by omega)]
theorem ro_at_o {c c' : Nat → Int32} {o o' : Nat} (h : ∀ i, i < 7 → c' (o' + i) = c (o + i)) : ro_at c' o' = ro_at c o := by
  unfold ro_at
  rw [h 1 (by omega), h 2 (by omega), h 3 (by omega), h 4 (by omega), h 5 (by omega), h 6 (by omega), show c' o' = c o from h 0 (by omega)]
theorem ro_at_i {c c' : Nat → Int32} {o o' : Nat} (h : ro_at c' o' = ro_at c o) : ∀ i, i < 7 → c' (o' + i) = c (o + i) := by
  intro i hi
  unfold ro_at at h
  simp only [Prod.mk.injEq] at h
  obtain ⟨h0, h1, h2, h3, h4, h5, h6⟩ := h
  match i, hi with
  | 0, _ => exact h0
  | 1, _ => exact h1
  | 2, _ => exact h2
  | 3, _ => exact h3
  | 4, _ => exact h4
  | 5, _ => exact h5
  | 6, _ => exact h6
/-- the component's rows -/
def xr_r (c : Nat → Int32) (i : Nat) : ro_T := ro_at c (i * 7)
def xr_L (c : Nat → Int32) (n : Nat) : List ro_T := li_L (xr_r c) n
/-- the reference's results -/
def yr_r (b : Nat → Int32) (i : Nat) : ro_T := ro_at b (1524 + 7 * i)
def yr_L (b : Nat → Int32) (n : Nat) : List ro_T := li_L (yr_r b) n
/-- the reference's sessions -/
def ys_r (d : Int32) (b : Nat → Int32) (i : Nat) : ro_T := (b (1104 + 7 * i), b (1104 + 7 * i + 1), b (1104 + 7 * i + 2) + d, b (1104 + 7 * i + 3), b (1104 + 7 * i + 4), b (1104 + 7 * i + 5), b (1104 + 7 * i + 6))
def ys_L (d : Int32) (b : Nat → Int32) (n : Nat) : List ro_T := li_L (ys_r d b) n
theorem ys_cg {d : Int32} {b b' : Nat → Int32} {i i' : Nat} (h : ∀ j, j < 7 → b' (1104 + 7 * i' + j) = b (1104 + 7 * i + j)) : ys_r d b' i' = ys_r d b i := by
  unfold ys_r
  rw [h 1 (by omega), h 2 (by omega), h 3 (by omega), h 4 (by omega), h 5 (by omega), h 6 (by omega), show b' (1104 + 7 * i') = b (1104 + 7 * i) from h 0 (by omega)]

/-! the reference's windows: q = 4 * (n + 4) + key -/
def wy_a (q : Nat) : Nat := 16 + 4 * (68 * (q % 4) + q / 4)
def wy_s (d : Int32) (q : Nat) : Int32 := (nI (q / 4) - 4) * d
def wy_r (d p : Int32) (b : Nat → Int32) (q : Nat) : ro_T := (nI (q % 4), wy_s d q, wy_s d q + p, b (wy_a q), b (wy_a q + 1), b (wy_a q + 2), b (wy_a q + 3))
def wy_o (d p : Int32) (b : Nat → Int32) (q : Nat) : List ro_T := if 0 < b (wy_a q) then [wy_r d p b q] else []
def wy_L (d p : Int32) (b : Nat → Int32) (n : Nat) : List ro_T := (List.range n).flatMap (wy_o d p b)
theorem wy_Ls (d p : Int32) (b : Nat → Int32) (n : Nat) : wy_L d p b (n + 1) = wy_L d p b n ++ wy_o d p b n := by
  unfold wy_L
  rw [List.range_succ, List.flatMap_append, List.flatMap_cons, List.flatMap_nil, List.append_nil]
theorem wy_om {d p : Int32} {b : Nat → Int32} {q : Nat} {r : ro_T} (h : r ∈ wy_o d p b q) : 0 < b (wy_a q) ∧ r = wy_r d p b q := by
  unfold wy_o at h
  split at h
  · exact ⟨by assumption, List.mem_singleton.mp h⟩
  · cases h
theorem wy_m {d p : Int32} {b : Nat → Int32} {n : Nat} {r : ro_T} (h : r ∈ wy_L d p b n) : ∃ q, q < n ∧ 0 < b (wy_a q) ∧ r = wy_r d p b q := by
  obtain ⟨q, hq, h2⟩ := List.mem_flatMap.mp h
  exact ⟨q, List.mem_range.mp hq, wy_om h2⟩
theorem wy_cg {d p : Int32} {b b' : Nat → Int32} {q : Nat} (h : ∀ i, i < 4 → b' (wy_a q + i) = b (wy_a q + i)) : wy_o d p b' q = wy_o d p b q := by
  unfold wy_o wy_r
  rw [h 1 (by omega), h 2 (by omega), h 3 (by omega), show b' (wy_a q) = b (wy_a q) from h 0 (by omega)]
theorem wy_lt {q : Nat} (h : q < 272) : 16 ≤ wy_a q ∧ wy_a q + 4 ≤ 1104 := by
  unfold wy_a
  omega
theorem wy_ne {q j : Nat} (hq : q < 272) (hj : j < 272) (h : j ≠ q) : wy_a j + 4 ≤ wy_a q ∨ wy_a q + 4 ≤ wy_a j := by
  unfold wy_a
  omega
theorem wy_k {k w : Nat} (hk : k < 4) : wy_a (4 * w + k) = 16 + 4 * (68 * k + w) := by
  unfold wy_a
  omega
theorem wy_fc {f g : Nat → List ro_T} {l : List Nat} (h : ∀ j, j ∈ l → g j = f j) : l.flatMap g = l.flatMap f := by
  rw [List.flatMap_def, List.flatMap_def, List.map_congr_left h]
theorem wy_set {d p : Int32} {b b' : Nat → Int32} {q : Nat} (hq : q < 272) (h : ∀ j, j < 272 → j ≠ q → wy_o d p b' j = wy_o d p b j) : ∃ R : List ro_T, (wy_L d p b 272).Perm (wy_o d p b q ++ R) ∧ (wy_L d p b' 272).Perm (wy_o d p b' q ++ R) ∧ ∀ r, r ∈ R → ∃ j, j < 272 ∧ j ≠ q ∧ r ∈ wy_o d p b j := by
  have hp : (List.range 272).Perm (q :: (List.range 272).erase q) := List.perm_cons_erase (List.mem_range.mpr hq)
  have h1 := hp.flatMap_right (wy_o d p b)
  have h2 := hp.flatMap_right (wy_o d p b')
  rw [List.flatMap_cons] at h1 h2
  have e : ((List.range 272).erase q).flatMap (wy_o d p b') = ((List.range 272).erase q).flatMap (wy_o d p b) :=
    wy_fc (fun j hj => h j ((li_er _ _ _).mp hj).2 ((li_er _ _ _).mp hj).1)
  rw [e] at h2
  refine ⟨((List.range 272).erase q).flatMap (wy_o d p b), h1, h2, fun r hr => ?_⟩
  obtain ⟨j, hj, h3⟩ := List.mem_flatMap.mp hr
  exact ⟨j, ((li_er _ _ _).mp hj).2, ((li_er _ _ _).mp hj).1, h3⟩
theorem wy_si {d : Int32} (h1 : 1 ≤ d.toInt) (h8 : d.toInt ≤ 8) {q : Nat} (hq : q < 272) : (wy_s d q).toInt = (((q / 4 : Nat) : Int) - 4) * d.toInt := by
  have e4 : (4 : Int32).toInt = 4 := by decide
  have hw : (nI (q / 4)).toInt = ((q / 4 : Nat) : Int) := nI_toInt (by omega)
  have e1 : (nI (q / 4) - 4).toInt = ((q / 4 : Nat) : Int) - 4 := by
    rw [ii_sub (by omega) (by omega), hw, e4]
  have hd : d.toInt = 1 ∨ d.toInt = 2 ∨ d.toInt = 3 ∨ d.toInt = 4 ∨ d.toInt = 5 ∨ d.toInt = 6 ∨ d.toInt = 7 ∨ d.toInt = 8 := by omega
  unfold wy_s
  have hw68 : q / 4 < 68 := by omega
  generalize q / 4 = w at *
  rw [ii_mul, e1]
  · rw [e1]
    rcases hd with h | h | h | h | h | h | h | h <;> rw [h] <;> omega
  · rw [e1]
    rcases hd with h | h | h | h | h | h | h | h <;> rw [h] <;> omega
theorem wy_sb {d : Int32} (h1 : 1 ≤ d.toInt) (h8 : d.toInt ≤ 8) {q : Nat} (hq : q < 272) : -32 ≤ (wy_s d q).toInt ∧ (wy_s d q).toInt ≤ 504 := by
  rw [wy_si h1 h8 hq]
  have hd : d.toInt = 1 ∨ d.toInt = 2 ∨ d.toInt = 3 ∨ d.toInt = 4 ∨ d.toInt = 5 ∨ d.toInt = 6 ∨ d.toInt = 7 ∨ d.toInt = 8 := by omega
  rcases hd with h | h | h | h | h | h | h | h <;> rw [h] <;> omega
theorem wy_sl {d : Int32} (h1 : 1 ≤ d.toInt) (h8 : d.toInt ≤ 8) {q j : Nat} (hq : q < 272) (hj : j < 272) (h : q / 4 < j / 4) : (wy_s d q).toInt < (wy_s d j).toInt := by
  rw [wy_si h1 h8 hq, wy_si h1 h8 hj]
  exact Int.mul_lt_mul_of_pos_right (by omega) (by omega)
theorem wy_inj {d : Int32} (h1 : 1 ≤ d.toInt) (h8 : d.toInt ≤ 8) {q j : Nat} (hq : q < 272) (hj : j < 272) (hk : nI (q % 4) = nI (j % 4)) (hs : wy_s d q = wy_s d j) : q = j := by
  have e1 := (nI_eq (by omega) (by omega)).mp hk
  have e2 := ii_eq.mp hs
  by_cases z : q / 4 < j / 4
  · have := wy_sl h1 h8 hq hj z
    omega
  · by_cases z2 : j / 4 < q / 4
    · have := wy_sl h1 h8 hj hq z2
      omega
    · omega
theorem wy_ds {d p : Int32} (h1 : 1 ≤ d.toInt) (h8 : d.toInt ≤ 8) (b : Nat → Int32) : ro_ds (wy_L d p b 272) := by
  refine List.pairwise_flatMap.mpr ⟨fun q hq => ?_, ?_⟩
  · unfold wy_o
    split
    · exact List.pairwise_singleton _ _
    · exact List.Pairwise.nil
  · refine List.Pairwise.imp_of_mem (fun {a c} ha hc hac x hx y hy z => ?_) List.pairwise_lt_range
    rw [(wy_om hx).2, (wy_om hy).2] at z
    have := wy_inj h1 h8 (List.mem_range.mp ha) (List.mem_range.mp hc) z.1 z.2
    omega
theorem wy_so {d p : Int32} (h1 : 1 ≤ d.toInt) (h8 : d.toInt ≤ 8) (p1 : 1 ≤ p.toInt) (p2 : p.toInt ≤ 32) (b : Nat → Int32) : (wy_L d p b 272).Pairwise cl_bf := by
  refine List.pairwise_flatMap.mpr ⟨fun q hq => ?_, ?_⟩
  · unfold wy_o
    split
    · exact List.pairwise_singleton _ _
    · exact List.Pairwise.nil
  · refine List.Pairwise.imp_of_mem (fun {a c} ha hc hac x hx y hy => ?_) List.pairwise_lt_range
    rw [(wy_om hx).2, (wy_om hy).2]
    have ha2 := List.mem_range.mp ha
    have hc2 := List.mem_range.mp hc
    have sa := wy_sb h1 h8 ha2
    have sc := wy_sb h1 h8 hc2
    unfold cl_bf wy_r
    dsimp only
    by_cases z : a / 4 < c / 4
    · left
      have := wy_sl h1 h8 ha2 hc2 z
      rw [ii_lt, ii_add (by omega) (by omega), ii_add (by omega) (by omega)]
      omega
    · have e : a / 4 = c / 4 := by omega
      right
      refine ⟨?_, Or.inl ?_⟩
      · unfold wy_s
        rw [e]
      · exact nI_lt (by omega) (by omega)
theorem wy_cp {d p : Int32} {b : Nat → Int32} {n : Nat} : ∀ r, r ∈ wy_L d p b n → 0 < ro_cn r := by
  intro r hr
  obtain ⟨q, _, h, rfl⟩ := wy_m hr
  exact ro_cn_pos.mpr h
/-- one event counted into window q -/
theorem wy_ws {d p v : Int32} {b b' : Nat → Int32} {q : Nat} (h1 : 1 ≤ d.toInt) (h8 : d.toInt ≤ 8) (hq : q < 272) (h0 : 0 ≤ b (wy_a q)) (hb : ro_cs (wy_L d p b 272) < 1000)
    (e0 : b' (wy_a q) = b (wy_a q) + 1) (e1 : b' (wy_a q + 1) = if b (wy_a q) = 0 then v else b (wy_a q + 1) + v)
    (e2 : b' (wy_a q + 2) = if b (wy_a q) = 0 then v else ro_mn v (b (wy_a q + 2))) (e3 : b' (wy_a q + 3) = if b (wy_a q) = 0 then v else ro_mx v (b (wy_a q + 3)))
    (ho : ∀ j, j < wy_a q ∨ wy_a q + 4 ≤ j → b' j = b j) : (wy_L d p b' 272).Perm (ro_ws (wy_L d p b 272) (nI (q % 4)) (wy_s d q) (wy_s d q + p) v) := by
  obtain ⟨R, p1, p2, hR⟩ := wy_set (d := d) (p := p) (b := b) (b' := b') hq (fun j hj hne => wy_cg (fun i hi => ho _ (by have := wy_ne hq hj hne; omega)))
  have hR2 : ∀ r, r ∈ R → ro_is (nI (q % 4)) (wy_s d q) r = false := by
    intro r hr
    obtain ⟨j, hj, hne, h3⟩ := hR r hr
    rw [(wy_om h3).2]
    refine decide_eq_false (fun z => hne (wy_inj h1 h8 hj hq z.1 z.2))
  by_cases z : b (wy_a q) = 0
  · have o1 : wy_o d p b q = [] := by
      unfold wy_o
      rw [z]
      exact if_neg (by decide)
    have o2 : wy_o d p b' q = [ro_nw (nI (q % 4)) (wy_s d q) (wy_s d q + p) v] := by
      unfold wy_o wy_r ro_nw
      rw [e0, e1, e2, e3, if_pos z, if_pos z, if_pos z, z]
      exact if_pos (by decide)
    rw [o1] at p1
    rw [o2] at p2
    refine p2.trans ?_
    refine List.Perm.trans ?_ (ws_p p1.symm _ _ _ _)
    rw [List.nil_append, ws_miss hR2]
    exact List.Perm.refl _
  · have hpos : 0 < b (wy_a q) := by
      have h3 := ii_le.mp h0
      rw [ii_lt]
      have : ¬ (b (wy_a q)).toInt = (0 : Int32).toInt := fun y => z (ii_eq.mpr y)
      omega
    have o1 : wy_o d p b q = [wy_r d p b q] := if_pos hpos
    rw [o1] at p1
    have hm : wy_r d p b q ∈ wy_L d p b 272 := p1.mem_iff.mpr List.mem_cons_self
    have hc := ro_cn_le hm
    have hpos2 : 0 < b (wy_a q) + 1 := by
      refine ro_cn_pos.mp ?_
      rw [ro_cn_add (ro_cn_pos.mpr hpos) (by decide) (by show ro_cn (wy_r d p b q) + 1 ≤ 1000; omega)]
      exact Nat.succ_pos _
    have o2 : wy_o d p b' q = [ro_ad (wy_r d p b q) 1 v v v] := by
      unfold wy_o wy_r ro_ad
      rw [e0, e1, e2, e3, if_neg z, if_neg z, if_neg z]
      exact if_pos hpos2
    rw [o2] at p2
    refine p2.trans (ws_hit p1 (wy_ds h1 h8 b) ?_ _ _).symm
    exact decide_eq_true ⟨rfl, rfl⟩
/-- the windows closed up to n -/
def wy_C (d p m : Int32) (b0 b : Nat → Int32) (n : Nat) : Prop :=
  (∀ j, j < n → wy_o d p b j = (wy_o d p b0 j).filter (fun r => !cl_du m r)) ∧ (∀ j, n ≤ j → j < 272 → ∀ i, i < 4 → b (wy_a j + i) = b0 (wy_a j + i)) ∧ (∀ j, j < 272 → 0 ≤ b (wy_a j))
theorem wy_Ce {d p m : Int32} {b0 b : Nat → Int32} (h1 : 1 ≤ d.toInt) (h8 : d.toInt ≤ 8) (p1 : 1 ≤ p.toInt) (p2 : p.toInt ≤ 32) (h : wy_C d p m b0 b 272) : cl_R m (wy_L d p b0 272) ((wy_L d p b0 272).filter (cl_du m)) (wy_L d p b 272) := by
  refine ⟨List.Perm.refl _, List.Pairwise.filter _ (wy_so h1 h8 p1 p2 b0), ?_⟩
  unfold wy_L
  rw [List.filter_flatMap]
  rw [wy_fc (g := wy_o d p b) (fun j hj => h.1 j (List.mem_range.mp hj))]

/-! the mark -/
def mk_tp (f : Nat → Int32) : Nat → Int32
  | 0 => -1
  | n + 1 => if mk_tp f n < f n then f n else mk_tp f n
def mk_ow (l t : Int32) : Int32 := if t < 0 then -1000 else t - l
def mk_le (own idle : Nat → Int32) : Nat → Int32
  | 0 => 100000
  | s + 1 => if idle s = 0 ∧ own s < mk_le own idle s then own s else mk_le own idle s
def mk_nw (m l : Int32) : Int32 := if l < 100000 ∧ m < l then l else m
theorem mk_tpb {f : Nat → Int32} : ∀ n, (∀ i, i < n → 0 ≤ (f i).toInt ∧ (f i).toInt ≤ 63) → -1 ≤ (mk_tp f n).toInt ∧ (mk_tp f n).toInt ≤ 63 := by
  intro n
  induction n with
  | zero => intro _; exact ⟨(by decide : (-1 : Int) ≤ (-1 : Int32).toInt), (by decide : (-1 : Int32).toInt ≤ 63)⟩
  | succ n ih =>
    intro h
    have h1 := ih (fun i hi => h i (by omega))
    have h2 := h n (by omega)
    unfold mk_tp
    split <;> omega
theorem mk_tpg {f g : Nat → Int32} : ∀ n, (∀ i, i < n → f i = g i) → mk_tp f n = mk_tp g n := by
  intro n
  induction n with
  | zero => intro _; rfl
  | succ n ih =>
    intro h
    unfold mk_tp
    rw [ih (fun i hi => h i (by omega)), h n (by omega)]
theorem mk_ows {f : Nat → Int32} {l : Int32} {n : Nat} (hl : 0 ≤ l.toInt) (hl2 : l.toInt ≤ 20) (h : ∀ i, i < n + 1 → 0 ≤ (f i).toInt ∧ (f i).toInt ≤ 63) : mk_ow l (mk_tp f (n + 1)) = if mk_ow l (mk_tp f n) < f n - l then f n - l else mk_ow l (mk_tp f n) := by
  have h1 := mk_tpb n (fun i hi => h i (by omega))
  have h2 := h n (by omega)
  have e0 : (0 : Int32).toInt = 0 := by decide
  have em : (-1000 : Int32).toInt = -1000 := by decide
  have e1 : (f n - l).toInt = (f n).toInt - l.toInt := ii_sub (by omega) (by omega)
  have e2 : (mk_tp f n - l).toInt = (mk_tp f n).toInt - l.toInt := ii_sub (by omega) (by omega)
  unfold mk_ow
  rw [show mk_tp f (n + 1) = if mk_tp f n < f n then f n else mk_tp f n from rfl]
  generalize mk_tp f n = t at *
  by_cases a : t < 0
  · rw [if_pos a]
    rw [ii_lt] at a
    have b : t < f n := by rw [ii_lt]; omega
    have c : ¬ f n < 0 := by rw [ii_lt]; omega
    have g : (-1000 : Int32) < f n - l := by rw [ii_lt]; omega
    rw [if_pos b, if_neg c, if_pos g]
  · rw [if_neg a]
    rw [ii_lt] at a
    by_cases b : t < f n
    · have c : ¬ f n < 0 := by rw [ii_lt]; omega
      have g : t - l < f n - l := by rw [ii_lt] at *; omega
      rw [if_pos b, if_neg c, if_pos g]
    · have c : ¬ t < 0 := by rw [ii_lt]; omega
      have g : ¬ t - l < f n - l := by rw [ii_lt] at *; omega
      rw [if_neg b, if_neg c, if_neg g]
theorem mk_owb {l t : Int32} (hl : 0 ≤ l.toInt) (hl2 : l.toInt ≤ 20) (h : -1 ≤ t.toInt) (h2 : t.toInt ≤ 63) : -1000 ≤ (mk_ow l t).toInt ∧ (mk_ow l t).toInt ≤ 63 := by
  have em : (-1000 : Int32).toInt = -1000 := by decide
  have e2 : (t - l).toInt = t.toInt - l.toInt := ii_sub (by omega) (by omega)
  unfold mk_ow
  split <;> omega
theorem mk_leb {own idle : Nat → Int32} : ∀ n, (∀ i, i < n → -1000 ≤ (own i).toInt ∧ (own i).toInt ≤ 63) → -1000 ≤ (mk_le own idle n).toInt ∧ ((mk_le own idle n).toInt ≤ 63 ∨ mk_le own idle n = 100000) := by
  intro n
  induction n with
  | zero => intro _; exact ⟨(by decide : (-1000 : Int) ≤ (100000 : Int32).toInt), Or.inr rfl⟩
  | succ n ih =>
    intro h
    have h1 := ih (fun i hi => h i (by omega))
    have h2 := h n (by omega)
    unfold mk_le
    split
    · omega
    · exact h1
/-- what the component holds of it: found, least -/
theorem mk_xs {own idle : Nat → Int32} {n : Nat} (h : ∀ i, i < n + 1 → -1000 ≤ (own i).toInt ∧ (own i).toInt ≤ 63) (hi : idle n = 0) :
    (mk_le own idle n = 100000 → mk_le own idle (n + 1) = own n ∧ ¬ own n = 100000) ∧
    (¬ mk_le own idle n = 100000 → ¬ mk_le own idle (n + 1) = 100000 ∧ mk_le own idle (n + 1) = if own n < mk_le own idle n then own n else mk_le own idle n) := by
  have h1 := mk_leb (idle := idle) n (fun i hi => h i (by omega))
  have h2 := h n (by omega)
  have e : (100000 : Int32).toInt = 100000 := by decide
  have hn : ¬ own n = 100000 := by
    intro z
    rw [z] at h2
    omega
  constructor
  · intro z
    have : own n < mk_le own idle n := by
      rw [z, ii_lt]
      omega
    exact ⟨if_pos ⟨hi, this⟩, hn⟩
  · intro z
    have e2 : mk_le own idle (n + 1) = if own n < mk_le own idle n then own n else mk_le own idle n := by
      show (if idle n = 0 ∧ own n < mk_le own idle n then own n else mk_le own idle n) = _
      by_cases a : own n < mk_le own idle n
      · rw [if_pos ⟨hi, a⟩, if_pos a]
      · rw [if_neg (fun y => a y.2), if_neg a]
    refine ⟨?_, e2⟩
    rw [e2]
    split
    · exact hn
    · exact z
theorem mk_skip {own idle : Nat → Int32} {n : Nat} (hi : ¬ idle n = 0) : mk_le own idle (n + 1) = mk_le own idle n := if_neg (fun y => hi y.1)
theorem mk_fin {m l : Int32} (hm : -1000 ≤ m.toInt) (hl : l.toInt ≤ 63 ∨ l = 100000) : mk_nw m l = if m < (if l = 100000 then -1000 else l) then (if l = 100000 then -1000 else l) else m := by
  have e : (100000 : Int32).toInt = 100000 := by decide
  have em : (-1000 : Int32).toInt = -1000 := by decide
  unfold mk_nw
  by_cases z : l = 100000
  · have a : ¬ (l < 100000 ∧ m < l) := by
      rw [z]
      exact fun y => absurd y.1 (by decide)
    rw [if_neg a, if_pos z, if_neg (by rw [ii_lt]; omega)]
  · have a : l < 100000 := by
      rw [ii_lt]
      rcases hl with hl | hl
      · omega
      · exact absurd hl z
    rw [if_neg z]
    by_cases c : m < l
    · rw [if_pos ⟨a, c⟩, if_pos c]
    · rw [if_neg (fun y => c y.2), if_neg c]
theorem mk_nwb {m l : Int32} (hm : -1000 ≤ m.toInt) : -1000 ≤ (mk_nw m l).toInt := by
  unfold mk_nw
  split
  · rename_i h
    have := ii_lt.mp h.2
    omega
  · exact hm

/-! loops: each step ends, or goes on from a state of a smaller measure; there is one end for all posts -/
theorem lo_ex {σ ρ : Type} (W : (ρ → Prop) → Nat → σ → Prop) (I : Nat → σ → Prop) (P : ρ → Prop)
    (step : ∀ i s, I i s → (∃ r, P r ∧ ∀ (post : ρ → Prop) (n : Nat), post r → W post (n + 1) s) ∨ (∃ i' s', i' < i ∧ I i' s' ∧ ∀ (post : ρ → Prop) (n : Nat), W post n s' → W post (n + 1) s)) :
    ∀ i s, I i s → ∃ r, P r ∧ ∀ (post : ρ → Prop) (n : Nat), i < n → post r → W post n s := by
  intro i
  induction i using Nat.strongRecOn with
  | ind i ih =>
    intro s h
    rcases step i s h with ⟨r, hr, hw⟩ | ⟨i', s', hlt, hI, hw⟩
    · refine ⟨r, hr, fun post n hn hp => ?_⟩
      obtain ⟨k, rfl⟩ : ∃ k, n = k + 1 := ⟨n - 1, by omega⟩
      exact hw post k hp
    · obtain ⟨r, hr, h2⟩ := ih i' hlt s' hI
      refine ⟨r, hr, fun post n hn hp => ?_⟩
      obtain ⟨k, rfl⟩ : ∃ k, n = k + 1 := ⟨n - 1, by omega⟩
      exact hw post k (h2 post k (by omega) hp)

/-! the windows of an event -/
theorem wy_wc {w dn W tn : Nat} (hw : w < 68) (hd : 1 ≤ dn) (hd8 : dn ≤ 8) (hW : 1 ≤ W) (hW4 : W ≤ 4) (ht : tn ≤ 63) :
    (((nI w - 4) * nI dn ≤ nI tn) ↔ w ≤ tn / dn + 4) ∧ ((nI tn < (nI w - 4) * nI dn + nI dn * nI W) ↔ tn / dn + 5 ≤ w + W) := by
  have hdi : (nI dn).toInt = (dn : Int) := nI_toInt (by omega)
  have hs : ((nI w - 4) * nI dn).toInt = ((w : Int) - 4) * dn := by
    have := wy_si (d := nI dn) (by omega) (by omega) (q := 4 * w) (by omega)
    unfold wy_s at this
    rw [show 4 * w / 4 = w from by omega, hdi] at this
    exact this
  have hsb := wy_sb (d := nI dn) (by omega) (by omega) (q := 4 * w) (by omega)
  unfold wy_s at hsb
  rw [show 4 * w / 4 = w from by omega] at hsb
  have hWm : dn * W ≤ 8 * 4 := Nat.mul_le_mul hd8 hW4
  have hp : (nI dn * nI W).toInt = ((dn * W : Nat) : Int) := by
    rw [pk_mul, nI_toInt (by omega)]
  have hsp : ((nI w - 4) * nI dn + nI dn * nI W).toInt = ((w : Int) - 4) * dn + ((dn * W : Nat) : Int) := by
    rw [ii_add (by omega) (by omega), hs, hp]
  have hdp : (0 : Int) < dn := by omega
  constructor
  · rw [ii_le, hs, nI_toInt (by omega), ← Int.le_ediv_iff_mul_le hdp]
    have : ((tn : Int) / (dn : Int)) = ((tn / dn : Nat) : Int) := (Int.natCast_ediv tn dn).symm
    omega
  · rw [ii_lt, hsp, nI_toInt (by omega)]
    have e : ((w : Int) - 4) * dn + ((dn * W : Nat) : Int) = ((w : Int) - 4 + W) * dn := by
      rw [Int.add_mul, Int.natCast_mul, Int.mul_comm (dn : Int)]
    rw [e, ← Int.ediv_lt_iff_lt_mul hdp]
    have : ((tn : Int) / (dn : Int)) = ((tn / dn : Nat) : Int) := (Int.natCast_ediv tn dn).symm
    omega
/-- the lists as the windows of an event come, one after the other: a is time / width -/
def zl_q (a W k j : Nat) : Nat := 4 * (a + 5 + j - W) + k
def zl_L (d p m v : Int32) (a W k : Nat) (L : List ro_T) : Nat → List ro_T
  | 0 => L
  | j + 1 => if m < wy_s d (zl_q a W k j) + p then ro_ws (zl_L d p m v a W k L j) (nI k) (wy_s d (zl_q a W k j)) (wy_s d (zl_q a W k j) + p) v else zl_L d p m v a W k L j
def zl_c (d p m : Int32) (a W k : Nat) : Nat → Int32
  | 0 => 0
  | j + 1 => if m < wy_s d (zl_q a W k j) + p then 1 else zl_c d p m a W k j
theorem zl_p {d p m v : Int32} {a W k : Nat} {L L' : List ro_T} (h : L.Perm L') : ∀ j, (zl_L d p m v a W k L j).Perm (zl_L d p m v a W k L' j) := by
  intro j
  induction j with
  | zero => exact h
  | succ j ih =>
    unfold zl_L
    split
    · exact ws_p ih _ _ _ _
    · exact ih
theorem zl_i {d p m v : Int32} {a W k : Nat} {L : List ro_T} (hd : ro_ds L) (hp : ∀ r, r ∈ L → 0 < ro_cn r) (hb : ro_cs L < 900) : ∀ j, j ≤ 4 → ro_ds (zl_L d p m v a W k L j) ∧ (∀ r, r ∈ zl_L d p m v a W k L j → 0 < ro_cn r) ∧ ro_cs (zl_L d p m v a W k L j) ≤ ro_cs L + j ∧ (zl_L d p m v a W k L j).length ≤ L.length + j := by
  intro j
  induction j with
  | zero => exact fun _ => ⟨hd, hp, Nat.le_refl _, Nat.le_refl _⟩
  | succ j ih =>
    intro hj
    obtain ⟨h1, h2, h3, h4⟩ := ih (by omega)
    unfold zl_L
    split
    · have h5 := ws_cn h1 h2 (by omega) (nI k) (wy_s d (zl_q a W k j)) (wy_s d (zl_q a W k j) + p) v
      exact ⟨ws_ds h1 _ _ _ _, h5.2.1, by omega, by omega⟩
    · exact ⟨h1, h2, by omega, by omega⟩
theorem zl_st {dn tn W j : Nat} (hj : j < W) (hW : W ≤ 4) (k : Nat) (hk : k < 4) (htn : tn ≤ 63) (hd : 1 ≤ dn) : nI (dn * (tn / dn)) - nI (W - 1 - j) * nI dn = wy_s (nI dn) (zl_q (tn / dn) W k j) := by
  generalize tn / dn = a
  unfold wy_s zl_q
  rw [show (4 * (a + 5 + j - W) + k) / 4 = a + 5 + j - W from by omega]
  have e : nI (a + 5 + j - W) = nI a + 4 - nI (W - 1 - j) := by
    rw [show (4 : Int32) = nI 4 from rfl, nI_add, pk_sub (by omega)]
    exact congrArg nI (by omega)
  rw [e, ← pk_mul]
  generalize nI (W - 1 - j) = x
  generalize nI a = y
  generalize nI dn = z
  grind
end
section
/-! questions over lists: how many rows of a key, the sum of the earliest -/
def op_k (k : Int32) (r : ro_T) : Bool := decide (r.1 = k)
theorem op_s {f : Nat → ro_T} {n : Nat} (k : Int32) : (li_L f (n + 1)).countP (op_k k) = (li_L f n).countP (op_k k) + (if (f n).1 = k then 1 else 0) := by
  rw [li_s, List.countP_append, List.countP_singleton]
  unfold op_k
  simp only [decide_eq_true_eq]
theorem op_o {d p : Int32} {b : Nat → Int32} {w i k : Nat} (hi : i < 4) (hk : k < 4) : (wy_o d p b (4 * w + i)).countP (op_k (nI k)) = if i = k ∧ 0 < b (wy_a (4 * w + i)) then 1 else 0 := by
  unfold wy_o
  by_cases h : 0 < b (wy_a (4 * w + i))
  · rw [if_pos h, List.countP_singleton]
    unfold op_k wy_r
    dsimp only
    rw [show (4 * w + i) % 4 = i from by omega]
    by_cases z : i = k
    · rw [z, if_pos (decide_eq_true rfl), if_pos ⟨rfl, z ▸ h⟩]
    · have n1 : ¬ decide (nI i = nI k) = true := fun y => z ((nI_eq (by omega) (by omega)).mp (of_decide_eq_true y))
      have n2 : ¬ (i = k ∧ 0 < b (wy_a (4 * w + i))) := fun y => z y.1
      rw [if_neg n1, if_neg n2]
  · rw [if_neg h, if_neg (fun y => h y.2)]
    rfl
theorem op_w {d p : Int32} {b : Nat → Int32} {w k : Nat} (hk : k < 4) : (wy_L d p b (4 * (w + 1))).countP (op_k (nI k)) = (wy_L d p b (4 * w)).countP (op_k (nI k)) + (if 0 < b (wy_a (4 * w + k)) then 1 else 0) := by
  rw [show 4 * (w + 1) = 4 * w + 0 + 1 + 1 + 1 + 1 from by omega, wy_Ls, wy_Ls, wy_Ls, wy_Ls]
  simp only [List.countP_append]
  have o0 := op_o (d := d) (p := p) (b := b) (w := w) (i := 0) (by omega) hk
  rw [Nat.add_zero] at o0
  rw [o0, op_o (i := 1) (by omega) hk, op_o (i := 2) (by omega) hk, op_o (i := 3) (by omega) hk]
  have hk4 : k = 0 ∨ k = 1 ∨ k = 2 ∨ k = 3 := by omega
  rcases hk4 with rfl | rfl | rfl | rfl <;> simp
theorem op_le {n : Nat} {f : Nat → ro_T} (k : Int32) : (li_L f n).countP (op_k k) ≤ n := by
  have := List.countP_le_length (p := op_k k) (l := li_L f n)
  rw [li_len] at this
  exact this
theorem op_wl {d p : Int32} {b : Nat → Int32} {w k : Nat} (hk : k < 4) : (wy_L d p b (4 * w)).countP (op_k (nI k)) ≤ w := by
  induction w with
  | zero => exact Nat.le_refl _
  | succ w ih =>
    rw [op_w hk]
    split <;> omega
/-- v is the sum of the earliest row of key k -/
def pd_P (L : List ro_T) (k v : Int32) : Prop :=
  (∃ r, r ∈ L ∧ r.1 = k ∧ (∀ q, q ∈ L → q.1 = k → r.2.1 ≤ q.2.1) ∧ v = r.2.2.2.2.1) ∨ ((∀ q, q ∈ L → ¬ q.1 = k) ∧ v = 0)
theorem ro_de {L : List ro_T} (h : ro_ds L) {r q : ro_T} (hr : r ∈ L) (hq : q ∈ L) (h1 : r.1 = q.1) (h2 : r.2.1 = q.2.1) : r = q := by
  induction L with
  | nil => cases hr
  | cons x L ih =>
    rcases List.mem_cons.mp hr with e1 | hr1
    · rcases List.mem_cons.mp hq with e2 | hq1
      · rw [e1, e2]
      · rw [e1] at h1 h2
        exact absurd ⟨h1, h2⟩ (List.rel_of_pairwise_cons h hq1)
    · rcases List.mem_cons.mp hq with e2 | hq1
      · rw [e2] at h1 h2
        exact absurd ⟨h1.symm, h2.symm⟩ (List.rel_of_pairwise_cons h hr1)
      · exact ih (List.Pairwise.of_cons h) hr1 hq1
theorem pd_u {L L' : List ro_T} {k v v' : Int32} (hd : ro_ds L) (p : L.Perm L') (h : pd_P L k v) (h' : pd_P L' k v') : v' = v := by
  rcases h with ⟨r, hr, hk, hm, rfl⟩ | ⟨hn, rfl⟩
  · rcases h' with ⟨q, hq, hk', hm', rfl⟩ | ⟨hn', rfl⟩
    · have hq2 := p.mem_iff.mpr hq
      have h1 := hm q hq2 hk'
      have h2 := hm' r (p.mem_iff.mp hr) hk
      have e : r.2.1 = q.2.1 := by
        rw [ii_eq]
        rw [ii_le] at h1 h2
        omega
      rw [ro_de hd hr hq2 (hk.trans hk'.symm) e]
    · exact absurd hk (hn' r (p.mem_iff.mp hr))
  · rcases h' with ⟨q, hq, hk', hm', rfl⟩ | ⟨hn', rfl⟩
    · exact absurd hk' (hn q (p.mem_iff.mpr hq))
    · rfl
theorem pd_w {d p : Int32} {b : Nat → Int32} {w k : Nat} (h1 : 1 ≤ d.toInt) (h8 : d.toInt ≤ 8) (hk : k < 4) (hw : w < 68) (hn : ∀ j, j < w → ¬ 0 < b (wy_a (4 * j + k))) (hp : 0 < b (wy_a (4 * w + k))) : pd_P (wy_L d p b 272) (nI k) (b (wy_a (4 * w + k) + 1)) := by
  refine Or.inl ⟨wy_r d p b (4 * w + k), ?_, ?_, ?_, rfl⟩
  · refine List.mem_flatMap.mpr ⟨4 * w + k, List.mem_range.mpr (by omega), ?_⟩
    unfold wy_o
    rw [if_pos hp]
    exact List.mem_singleton.mpr rfl
  · show nI ((4 * w + k) % 4) = nI k
    rw [show (4 * w + k) % 4 = k from by omega]
  · intro q hq hqk
    obtain ⟨j, hj, hb, rfl⟩ := wy_m hq
    have e := (nI_eq (by omega) (by omega)).mp (show nI (j % 4) = nI k from hqk)
    have hjw : w ≤ j / 4 := by
      refine Nat.le_of_not_lt (fun z => hn (j / 4) z ?_)
      rw [show 4 * (j / 4) + k = j from by omega]
      exact hb
    show wy_s d (4 * w + k) ≤ wy_s d j
    rw [ii_le]
    by_cases z : (4 * w + k) / 4 < j / 4
    · have := wy_sl h1 h8 (by omega) hj z
      omega
    · have : j = 4 * w + k := by omega
      rw [this]
      exact Int.le_refl _
theorem pd_0 {d p : Int32} {b : Nat → Int32} {k : Nat} (hk : k < 4) (hn : ∀ j, j < 68 → ¬ 0 < b (wy_a (4 * j + k))) : pd_P (wy_L d p b 272) (nI k) 0 := by
  refine Or.inr ⟨?_, rfl⟩
  intro q hq hqk
  obtain ⟨j, hj, hb, rfl⟩ := wy_m hq
  have e := (nI_eq (by omega) (by omega)).mp (show nI (j % 4) = nI k from hqk)
  refine hn (j / 4) (by omega) ?_
  rw [show 4 * (j / 4) + k = j from by omega]
  exact hb
/-- a scan of rows for the earliest: e is the row found among the first i -/
def pd_I (f : Nat → ro_T) (k : Int32) (i : Nat) (e : Option Nat) : Prop :=
  match e with
  | none => ∀ j, j < i → ¬ (f j).1 = k
  | some x => x < i ∧ (f x).1 = k ∧ ∀ j, j < i → (f j).1 = k → (f x).2.1 ≤ (f j).2.1
theorem pd_Ie {f : Nat → ro_T} {k : Int32} {n : Nat} {e : Option Nat} (h : pd_I f k n e) : pd_P (li_L f n) k (match e with | none => 0 | some x => (f x).2.2.2.2.1) := by
  cases e with
  | none =>
    refine Or.inr ⟨fun q hq => ?_, rfl⟩
    obtain ⟨j, hj, rfl⟩ := li_mem.mp hq
    exact h j hj
  | some x =>
    refine Or.inl ⟨f x, li_mem.mpr ⟨x, h.1, rfl⟩, h.2.1, fun q hq hk => ?_, rfl⟩
    obtain ⟨j, hj, rfl⟩ := li_mem.mp hq
    exact h.2.2 j hj hk
theorem pd_In {f : Nat → ro_T} {k : Int32} {i : Nat} {e : Option Nat} (h : pd_I f k i e) (hn : ¬ (f i).1 = k) : pd_I f k (i + 1) e := by
  cases e with
  | none =>
    intro j hj
    by_cases z : j = i
    · rw [z]; exact hn
    · exact h j (by omega)
  | some x =>
    refine ⟨by have := h.1; omega, h.2.1, fun j hj hk => ?_⟩
    by_cases z : j = i
    · rw [z] at hk; exact absurd hk hn
    · exact h.2.2 j (by omega) hk
theorem pd_I0 {f : Nat → ro_T} {k : Int32} {i : Nat} (h : pd_I f k i none) (hk : (f i).1 = k) : pd_I f k (i + 1) (some i) := by
  refine ⟨by omega, hk, fun j hj hk2 => ?_⟩
  by_cases z : j = i
  · rw [z]; exact Int32.le_refl _
  · exact absurd hk2 (h j (by omega))
theorem pd_I1 {f : Nat → ro_T} {k : Int32} {i x : Nat} (h : pd_I f k i (some x)) (hk : (f i).1 = k) (hl : (f i).2.1 < (f x).2.1) : pd_I f k (i + 1) (some i) := by
  refine ⟨by omega, hk, fun j hj hk2 => ?_⟩
  by_cases z : j = i
  · rw [z]; exact Int32.le_refl _
  · have := h.2.2 j (by omega) hk2
    rw [ii_le] at *
    rw [ii_lt] at hl
    omega
theorem pd_I2 {f : Nat → ro_T} {k : Int32} {i x : Nat} (h : pd_I f k i (some x)) (hl : ¬ (f i).2.1 < (f x).2.1) : pd_I f k (i + 1) (some x) := by
  refine ⟨by have := h.1; omega, h.2.1, fun j hj hk2 => ?_⟩
  by_cases z : j = i
  · rw [z, ii_le]
    rw [ii_lt] at hl
    omega
  · exact h.2.2 j (by omega) hk2
/-- a scan of rows for the first that is due -/
def fd_I (m : Int32) (f : Nat → ro_T) (i : Nat) (e : Option Nat) : Prop :=
  match e with
  | none => ∀ j, j < i → cl_du m (f j) = false
  | some x => x < i ∧ cl_du m (f x) = true ∧ ∀ j, j < i → cl_du m (f j) = true → ¬ cl_bf (f j) (f x)
theorem cl_ir (a : ro_T) : ¬ cl_bf a a := fun h => cl_as h h
theorem fd_In {m : Int32} {f : Nat → ro_T} {i : Nat} {e : Option Nat} (h : fd_I m f i e) (hn : cl_du m (f i) = false) : fd_I m f (i + 1) e := by
  cases e with
  | none =>
    intro j hj
    by_cases z : j = i
    · rw [z]; exact hn
    · exact h j (by omega)
  | some x =>
    refine ⟨by have := h.1; omega, h.2.1, fun j hj hk => ?_⟩
    by_cases z : j = i
    · rw [z, hn] at hk; cases hk
    · exact h.2.2 j (by omega) hk
theorem fd_I0 {m : Int32} {f : Nat → ro_T} {i : Nat} (h : fd_I m f i none) (hk : cl_du m (f i) = true) : fd_I m f (i + 1) (some i) := by
  refine ⟨by omega, hk, fun j hj hk2 => ?_⟩
  by_cases z : j = i
  · rw [z]; exact cl_ir _
  · have := h j (by omega)
    rw [this] at hk2
    cases hk2
theorem fd_I1 {m : Int32} {f : Nat → ro_T} {i x : Nat} (h : fd_I m f i (some x)) (hk : cl_du m (f i) = true) (hl : cl_bf (f i) (f x)) : fd_I m f (i + 1) (some i) := by
  refine ⟨by omega, hk, fun j hj hk2 => ?_⟩
  by_cases z : j = i
  · rw [z]; exact cl_ir _
  · exact fun y => h.2.2 j (by omega) hk2 (cl_tr y hl)
theorem fd_I2 {m : Int32} {f : Nat → ro_T} {i x : Nat} (h : fd_I m f i (some x)) (hl : ¬ cl_bf (f i) (f x)) : fd_I m f (i + 1) (some x) := by
  refine ⟨by have := h.1; omega, h.2.1, fun j hj hk2 => ?_⟩
  by_cases z : j = i
  · rw [z]; exact hl
  · exact h.2.2 j (by omega) hk2
/-- the scan's row, taken out -/
theorem fd_st {m : Int32} {f g : Nat → ro_T} {n x : Nat} {L0 D : List ro_T} (h : cl_I m L0 D (li_L f (n + 1))) (hd : ro_ds (li_L f (n + 1))) (hf : fd_I m f (n + 1) (some x)) (h1 : ∀ j, j < n → j ≠ x → g j = f j) (h2 : x < n → g x = f n) : cl_I m L0 (D ++ [f x]) (li_L g n) ∧ (li_L f (n + 1)).Perm (f x :: li_L g n) := by
  have p := li_rm hf.1 h1 h2
  refine ⟨cl_Is h p hf.2.1 ?_, p⟩
  have d2 := ro_ds_p p hd
  intro y hy hdu
  obtain ⟨j, hj, rfl⟩ := li_mem.mp (p.mem_iff.mpr (List.mem_cons_of_mem _ hy))
  exact cl_to (List.rel_of_pairwise_cons d2 hy) (hf.2.2 j hj hdu)
end
section
/-! joins of sessions, as the component does them (jx) and as the reference does (jy) -/
def jx_I (k t d : Int32) (L0 : List ro_T) (h0 : ro_T) (home p n : Nat) (f : Nat → ro_T) : Prop :=
  ∃ M R : List ro_T, home < p ∧ p ≤ n ∧ (li_L f n).Perm (f home :: R) ∧ L0.Perm (h0 :: M ++ R) ∧ f home = M.foldl ro_mg h0 ∧ (∀ x, x ∈ M → ss_tc k t d x = true) ∧ (∀ j, j < n → j ≠ home → (j < home ∨ p ≤ j) → ss_tc k t d (f j) = false)
theorem jx_0 {k t d : Int32} {home n : Nat} {f : Nat → ro_T} (hh : home < n) (hl : ∀ j, j < home → ss_tc k t d (f j) = false) : jx_I k t d (li_L f n) (f home) home n n f := by
  obtain ⟨R, p1, _, _⟩ := li_set (f := f) hh
  refine ⟨[], R, hh, Nat.le_refl _, p1, p1, rfl, (fun x hx => by cases hx), fun j h1 h2 h3 => ?_⟩
  rcases h3 with h3 | h3
  · exact hl j h3
  · omega
theorem jx_n {k t d : Int32} {L0 : List ro_T} {h0 : ro_T} {home i n : Nat} {f : Nat → ro_T} (h : jx_I k t d L0 h0 home (i + 1) n f) (hi : home < i) (hu : ss_tc k t d (f i) = false) : jx_I k t d L0 h0 home i n f := by
  obtain ⟨M, R, a1, a2, a3, a4, a5, a6, a7⟩ := h
  refine ⟨M, R, hi, by omega, a3, a4, a5, a6, fun j h1 h2 h3 => ?_⟩
  by_cases z : j = i
  · rw [z]; exact hu
  · exact a7 j h1 h2 (by omega)
theorem jx_pr {f f' : Nat → ro_T} {n home : Nat} {R : List ro_T} (hh : home < n) (p : (li_L f n).Perm (f home :: R)) (hf : ∀ j, j < n → j ≠ home → f' j = f j) : (li_L f' n).Perm (f' home :: R) := by
  obtain ⟨R', p1, _, p2⟩ := li_set (f := f) hh
  have p3 := (p1.symm.trans p).cons_inv
  exact (p2 f' hf).trans (p3.cons _)
theorem jx_t {k t d : Int32} {L0 : List ro_T} {h0 : ro_T} {home i n : Nat} {f f' g : Nat → ro_T} (h : jx_I k t d L0 h0 home (i + 1) (n + 1) f) (hi : home < i) (hu : ss_tc k t d (f i) = true)
    (e1 : f' home = ro_mg (f home) (f i)) (e2 : ∀ j, j < n + 1 → j ≠ home → f' j = f j) (g1 : ∀ j, j < n → j ≠ i → g j = f' j) (g2 : i < n → g i = f' n) : jx_I k t d L0 h0 home i n g := by
  obtain ⟨M, R, a1, a2, a3, a4, a5, a6, a7⟩ := h
  have q1 := jx_pr (by omega) a3 e2
  have q2 := li_rm (f := f') (g := g) (n := n) (i := i) (by omega) g1 g2
  obtain ⟨R2, q3, _, _⟩ := li_set (f := g) (n := n) (i := home) (by omega)
  have eg : g home = f' home := g1 home (by omega) (by omega)
  have ei : f' i = f i := e2 i (by omega) (by omega)
  rw [eg] at q3
  rw [ei] at q2
  have q4 : R.Perm (f i :: R2) := by
    have := q1.symm.trans (q2.trans (q3.cons _))
    exact (this.trans (List.Perm.swap _ _ _)).cons_inv
  refine ⟨M ++ [f i], R2, hi, by omega, ?_, ?_, ?_, ?_, ?_⟩
  · rw [eg]; exact q3
  · refine a4.trans ?_
    have : (h0 :: M ++ R).Perm (h0 :: M ++ (f i :: R2)) := q4.append_left _
    refine this.trans (List.Perm.of_eq ?_)
    simp
  · rw [eg, e1, a5, List.foldl_append]
    rfl
  · intro x hx
    rcases List.mem_append.mp hx with hx | hx
    · exact a6 x hx
    · rw [List.mem_singleton.mp hx]; exact hu
  · intro j h1 h2 h3
    by_cases z : j = i
    · subst z
      rw [g2 h1, e2 n (by omega) (by omega)]
      exact a7 n (by omega) (by omega) (by omega)
    · rw [g1 j h1 z, e2 j (by omega) h2]
      exact a7 j (by omega) h2 (by omega)
theorem jx_e {k t d m v : Int32} {L0 : List ro_T} {h0 : ro_T} {home n : Nat} {f f' : Nat → ro_T} (h : jx_I k t d L0 h0 home (home + 1) n f) (hh : ss_tc k t d h0 = true) (e1 : f' home = ro_mg (f home) (ro_nw k t (t + d) v)) (e2 : ∀ j, j < n → j ≠ home → f' j = f j) : (li_L f' n).Perm (ss_L L0 m d k t v) ∧ ¬ ss_lt L0 m d k t := by
  obtain ⟨M, R, a1, a2, a3, a4, a5, a6, a7⟩ := h
  have q1 := jx_pr (by omega) a3 e2
  have hR : ∀ x, x ∈ R → ss_tc k t d x = false := by
    obtain ⟨R', p1, hR', _⟩ := li_set (f := f) (n := n) (i := home) (by omega)
    have p3 := (p1.symm.trans a3).cons_inv
    intro x hx
    obtain ⟨j, hj, hne, rfl⟩ := hR' x (p3.mem_iff.mpr hx)
    exact a7 j hj hne (by omega)
  have q2 := ss_join (m := m) (v := v) a4 hh a6 hR
  rw [e1, a5] at q1
  exact ⟨q1.trans q2.1.symm, q2.2.2⟩

def jy_I (k t d : Int32) (L0 : List ro_T) (ev : ro_T) (i m : Nat) (f : Nat → ro_T) : Prop :=
  ∃ M : List ro_T, i ≤ m ∧ L0.Perm (M ++ li_L f m) ∧ f m = M.foldl ro_mg ev ∧ (∀ x, x ∈ M → ss_tc k t d x = true) ∧ (∀ j, i ≤ j → j < m → ss_tc k t d (f j) = false)
theorem jy_0 {k t d : Int32} {n : Nat} {f : Nat → ro_T} : jy_I k t d (li_L f n) (f n) n n f :=
  ⟨[], Nat.le_refl _, List.Perm.refl _, rfl, (fun x hx => by cases hx), fun j h1 h2 => by omega⟩
theorem jy_n {k t d : Int32} {L0 : List ro_T} {ev : ro_T} {i m : Nat} {f : Nat → ro_T} (h : jy_I k t d L0 ev (i + 1) m f) (hu : ss_tc k t d (f i) = false) : jy_I k t d L0 ev i m f := by
  obtain ⟨M, a1, a2, a3, a4, a5⟩ := h
  refine ⟨M, by omega, a2, a3, a4, fun j h1 h2 => ?_⟩
  by_cases z : j = i
  · rw [z]; exact hu
  · exact a5 j (by omega) h2
theorem jy_t {k t d : Int32} {L0 : List ro_T} {ev : ro_T} {i m : Nat} {f g : Nat → ro_T} (h : jy_I k t d L0 ev (i + 1) (m + 1) f) (hu : ss_tc k t d (f i) = true)
    (e1 : g m = ro_mg (f (m + 1)) (f i)) (g1 : ∀ j, j < m → j ≠ i → g j = f j) (g2 : i < m → g i = f m) : jy_I k t d L0 ev i m g := by
  obtain ⟨M, a1, a2, a3, a4, a5⟩ := h
  have q2 := li_rm (f := f) (g := g) (n := m) (i := i) (by omega) g1 g2
  refine ⟨M ++ [f i], by omega, ?_, ?_, ?_, ?_⟩
  · refine a2.trans ((q2.append_left M).trans (List.Perm.of_eq ?_))
    simp
  · rw [e1, a3, List.foldl_append]
    rfl
  · intro x hx
    rcases List.mem_append.mp hx with hx | hx
    · exact a4 x hx
    · rw [List.mem_singleton.mp hx]; exact hu
  · intro j h1 h2
    by_cases z : j = i
    · subst z
      rw [g2 h2]
      exact a5 m (by omega) (by omega)
    · rw [g1 j h2 z]
      exact a5 j (by omega) (by omega)
theorem jy_e {k t d m0 v : Int32} {L0 : List ro_T} {m : Nat} {f : Nat → ro_T} (h : jy_I k t d L0 (ro_nw k t (t + d) v) 0 m f) (hh : L0.any (ss_tc k t d) = true) : (li_L f (m + 1)).Perm (ss_L L0 m0 d k t v) ∧ ¬ ss_lt L0 m0 d k t := by
  obtain ⟨M, a1, a2, a3, a4, a5⟩ := h
  have hR : ∀ x, x ∈ li_L f m → ss_tc k t d x = false := by
    intro x hx
    obtain ⟨j, hj, rfl⟩ := li_mem.mp hx
    exact a5 j (by omega) hj
  cases M with
  | nil =>
    rw [List.nil_append] at a2
    rw [a2.any_eq, List.any_eq_true] at hh
    obtain ⟨x, hx, hy⟩ := hh
    rw [hR x hx] at hy
    cases hy
  | cons h T =>
    have q2 := ss_join (m := m0) (v := v) a2 (a4 h List.mem_cons_self) (fun x hx => a4 x (List.mem_cons_of_mem _ hx)) hR
    refine ⟨?_, q2.2.2⟩
    rw [li_s, a3]
    exact (List.perm_append_singleton _ _).trans q2.2.1.symm
/-- merging with the end held without the width -/
theorem ro_mxd {a b d : Int32} (ha : 0 ≤ a.toInt) (ha2 : a.toInt ≤ 1000) (hb : 0 ≤ b.toInt) (hb2 : b.toInt ≤ 1000) (hd : 0 ≤ d.toInt) (hd2 : d.toInt ≤ 1000) : ro_mx (a + d) (b + d) = ro_mx a b + d := by
  rw [ii_eq, ro_mx_i, ii_add (by omega) (by omega), ii_add (by omega) (by omega)]
  rw [ii_add (by rw [ro_mx_i]; omega) (by rw [ro_mx_i]; omega), ro_mx_i]
  omega
end
section
/-! the lists of both sides belong together -/
def rl_B (kd d p : Int32) (b : Nat → Int32) (sn : Nat) (L : List ro_T) : Prop :=
  (∀ r, r ∈ L → 0 < ro_cn r) ∧
  (kd = 2 → L.Perm (ys_L d b sn) ∧ (∀ q, q < 272 → b (wy_a q) = 0) ∧ ss_sp L ∧ (∀ r, r ∈ L → ss_ok d r)) ∧
  (¬ kd = 2 → L.Perm (wy_L d p b 272) ∧ sn = 0 ∧ ∀ q, q < 272 → 0 ≤ b (wy_a q))
theorem rl_ds {kd d p : Int32} {b : Nat → Int32} {sn : Nat} {L : List ro_T} (h1 : 1 ≤ d.toInt) (h8 : d.toInt ≤ 8) (h : rl_B kd d p b sn L) : ro_ds L := by
  obtain ⟨a1, a2, a3⟩ := h
  by_cases z : kd = 2
  · exact ss_ds (by omega) (a2 z).2.2.1 (a2 z).2.2.2
  · exact ro_ds_p (a3 z).1.symm (wy_ds h1 h8 b)
theorem rl_sn {kd d p : Int32} {b : Nat → Int32} {sn : Nat} {L : List ro_T} (h : rl_B kd d p b sn L) : sn ≤ L.length ∧ (kd = 2 → sn = L.length) := by
  obtain ⟨a1, a2, a3⟩ := h
  by_cases z : kd = 2
  · have := (a2 z).1.length_eq
    unfold ys_L at this
    rw [li_len] at this
    exact ⟨by omega, fun _ => this.symm⟩
  · exact ⟨by have := (a3 z).2.1; omega, fun y => absurd y z⟩
theorem ys_Lc {d : Int32} {b b' : Nat → Int32} {sn : Nat} (hs : sn ≤ 60) (h : ∀ j, 1104 ≤ j → j < 1524 → b' j = b j) : ys_L d b' sn = ys_L d b sn :=
  li_cg (fun i hi => ys_cg (fun j hj => h _ (by omega) (by omega)))
theorem wy_Lc {d p : Int32} {b b' : Nat → Int32} (h : ∀ j, 16 ≤ j → j < 1104 → b' j = b j) : wy_L d p b' 272 = wy_L d p b 272 :=
  wy_fc (fun q hq => wy_cg (fun i hi => by
    have := wy_lt (List.mem_range.mp hq)
    exact h _ (by omega) (by omega)))
theorem rl_Bc {kd d p : Int32} {b b' : Nat → Int32} {sn : Nat} {L : List ro_T} (h : rl_B kd d p b sn L) (hs : sn ≤ 60) (h2 : ∀ j, 16 ≤ j → j < 1524 → b' j = b j) : rl_B kd d p b' sn L := by
  obtain ⟨a1, a2, a3⟩ := h
  have hw : ∀ q, q < 272 → b' (wy_a q) = b (wy_a q) := fun q hq => h2 _ (by have := wy_lt hq; omega) (by have := wy_lt hq; omega)
  refine ⟨a1, fun z => ?_, fun z => ?_⟩
  · obtain ⟨c1, c2, c3, c4⟩ := a2 z
    refine ⟨?_, fun q hq => by rw [hw q hq]; exact c2 q hq, c3, c4⟩
    rw [ys_Lc hs (fun j h3 h4 => h2 j (by omega) (by omega))]
    exact c1
  · obtain ⟨c1, c2, c3⟩ := a3 z
    refine ⟨?_, c2, fun q hq => by rw [hw q hq]; exact c3 q hq⟩
    rw [wy_Lc (fun j h3 h4 => h2 j (by omega) (by omega))]
    exact c1
/-- both sides close -/
theorem rl_cl {kd d p m : Int32} {b b' : Nat → Int32} {sn sn' : Nat} {L L' D D' : List ro_T} (hB : rl_B kd d p b sn L) (hx : cl_R m L D L')
    (hy2 : kd = 2 → cl_R m (ys_L d b sn) D' (ys_L d b' sn') ∧ ∀ q, q < 272 → b' (wy_a q) = 0)
    (hy0 : ¬ kd = 2 → cl_R m (wy_L d p b 272) D' (wy_L d p b' 272) ∧ sn' = 0 ∧ ∀ q, q < 272 → 0 ≤ b' (wy_a q)) :
    D' = D ∧ rl_B kd d p b' sn' L' ∧ ro_cs L' ≤ ro_cs L ∧ L'.length + D.length = L.length := by
  obtain ⟨a1, a2, a3⟩ := hB
  have hx2 := hx
  obtain ⟨x1, x2, x3⟩ := hx2
  have hm : ∀ r, r ∈ L' → r ∈ L := fun r hr => (List.mem_filter.mp (x3.mem_iff.mp hr)).1
  have hcs : ro_cs L' ≤ ro_cs L := by
    have h1 := ro_cs_p (List.filter_append_perm (cl_du m) L)
    rw [ro_cs_a] at h1
    rw [ro_cs_p x3]
    omega
  have hln : L'.length + D.length = L.length := by
    have h1 := (List.filter_append_perm (cl_du m) L).length_eq
    rw [List.length_append] at h1
    rw [x3.length_eq, x1.length_eq]
    omega
  by_cases z : kd = 2
  · obtain ⟨c1, c2, c3, c4⟩ := a2 z
    obtain ⟨y1, y2⟩ := hy2 z
    obtain ⟨u1, u2⟩ := cl_uni hx y1 c1
    refine ⟨u1.symm, ⟨fun r hr => a1 r (hm r hr), fun _ => ⟨u2, y2, ?_, fun r hr => c4 r (hm r hr)⟩, fun y => absurd z y⟩, hcs, hln⟩
    exact ss_sp_p x3.symm (List.Pairwise.filter _ c3)
  · obtain ⟨c1, c2, c3⟩ := a3 z
    obtain ⟨y1, y2, y3⟩ := hy0 z
    obtain ⟨u1, u2⟩ := cl_uni hx y1 c1
    exact ⟨u1.symm, ⟨fun r hr => a1 r (hm r hr), fun y => absurd y z, fun _ => ⟨u2, y2, y3⟩⟩, hcs, hln⟩
/-! reading an event -/
def rd_L (kd d p m v : Int32) (W kk tn dn : Nat) (L : List ro_T) : List ro_T :=
  if kd = 2 then ss_L L m d (nI kk) (nI tn) v else zl_L d p m v (tn / dn) W kk L W
def rd_t (kd d p m lt : Int32) (W kk tn dn : Nat) (L : List ro_T) : Int32 :=
  if kd = 2 then (if ss_lt L m d (nI kk) (nI tn) then lt + 1 else lt) else (if zl_c d p m (tn / dn) W kk W = 0 then lt + 1 else lt)
theorem rd_tp {kd d p m lt : Int32} {W kk tn dn : Nat} {L L' : List ro_T} (h : L.Perm L') : rd_t kd d p m lt W kk tn dn L = rd_t kd d p m lt W kk tn dn L' := by
  unfold rd_t
  by_cases z : kd = 2
  · rw [if_pos z, if_pos z]
    by_cases y : ss_lt L m d (nI kk) (nI tn)
    · rw [if_pos y, if_pos (ss_lt_p h y)]
    · rw [if_neg y, if_neg (fun x => y (ss_lt_p h.symm x))]
  · rw [if_neg z, if_neg z]
theorem rd_p {kd d p m v : Int32} {W kk tn dn : Nat} {L L' : List ro_T} (h : L.Perm L') : (rd_L kd d p m v W kk tn dn L).Perm (rd_L kd d p m v W kk tn dn L') := by
  unfold rd_L
  split
  · exact ss_p h _ _ _ _ _
  · exact zl_p h _
theorem rl_rd {kd d p m v : Int32} {b b' : Nat → Int32} {sn sn' W kk tn dn : Nat} {L L' : List ro_T} (h1 : 1 ≤ d.toInt) (h8 : d.toInt ≤ 8) (hW1 : 1 ≤ W) (hW : W ≤ 4) (hkk : kk < 4) (ht : tn ≤ 63) (hB : rl_B kd d p b sn L) (hb : ro_cs L ≤ 240) (hx : L'.Perm (rd_L kd d p m v W kk tn dn L))
    (hy2 : kd = 2 → (ys_L d b' sn').Perm (rd_L kd d p m v W kk tn dn (ys_L d b sn)) ∧ ∀ q, q < 272 → b' (wy_a q) = 0)
    (hy0 : ¬ kd = 2 → (wy_L d p b' 272).Perm (rd_L kd d p m v W kk tn dn (wy_L d p b 272)) ∧ sn' = 0 ∧ ∀ q, q < 272 → 0 ≤ b' (wy_a q)) :
    rl_B kd d p b' sn' L' ∧ ro_cs L' ≤ ro_cs L + W ∧ L'.length ≤ L.length + W := by
  have hds := rl_ds h1 h8 hB
  obtain ⟨a1, a2, a3⟩ := hB
  by_cases z : kd = 2
  · obtain ⟨c1, c2, c3, c4⟩ := a2 z
    obtain ⟨y1, y2⟩ := hy2 z
    have e : rd_L kd d p m v W kk tn dn L = ss_L L m d (nI kk) (nI tn) v := if_pos z
    have hti : (nI tn).toInt = (tn : Int) := nI_toInt (by omega)
    have hki : (nI kk).toInt = (kk : Int) := nI_toInt (by omega)
    obtain ⟨i1, i2, i3, i4, i5⟩ := ss_inv (m := m) (d := d) (k := nI kk) (t := nI tn) (v := v) (by omega) (by omega) (by omega) h8 (by omega) (by omega) c3 c4 a1 (by omega)
    have q := (hx.trans (rd_p c1)).trans y1.symm
    rw [e] at hx
    refine ⟨⟨fun r hr => i3 r (hx.mem_iff.mp hr), fun _ => ⟨q, y2, ss_sp_p hx.symm i1, fun r hr => i2 r (hx.mem_iff.mp hr)⟩, fun y => absurd z y⟩, ?_, ?_⟩
    · rw [ro_cs_p hx]; omega
    · rw [hx.length_eq]; omega
  · obtain ⟨c1, c2, c3⟩ := a3 z
    obtain ⟨y1, y2, y3⟩ := hy0 z
    have e : rd_L kd d p m v W kk tn dn L = zl_L d p m v (tn / dn) W kk L W := if_neg z
    obtain ⟨i1, i2, i3, i4⟩ := zl_i (d := d) (p := p) (m := m) (v := v) (a := tn / dn) (W := W) (k := kk) hds a1 (by omega) W hW
    have q := (hx.trans (rd_p c1)).trans y1.symm
    rw [e] at hx
    refine ⟨⟨fun r hr => i2 r (hx.mem_iff.mp hr), fun y => absurd y z, fun _ => ⟨q, y2, y3⟩⟩, ?_, ?_⟩
    · rw [ro_cs_p hx]; omega
    · rw [hx.length_eq]; omega
end
section
/-! indices: a natural and a literal -/
theorem ix_a0 (a : Nat) : nI a + 0 = nI a := nI_add a 0
theorem ix_a1 (a : Nat) : nI a + 1 = nI (a + 1) := nI_add a 1
theorem ix_a2 (a : Nat) : nI a + 2 = nI (a + 2) := nI_add a 2
theorem ix_a3 (a : Nat) : nI a + 3 = nI (a + 3) := nI_add a 3
theorem ix_a4 (a : Nat) : nI a + 4 = nI (a + 4) := nI_add a 4
theorem ix_a5 (a : Nat) : nI a + 5 = nI (a + 5) := nI_add a 5
theorem ix_a6 (a : Nat) : nI a + 6 = nI (a + 6) := nI_add a 6
theorem ix_a7 (a : Nat) : nI a + 7 = nI (a + 7) := nI_add a 7
theorem ix_p3 (a : Nat) : 3 + nI a = nI (3 + a) := nI_add 3 a
theorem ix_p6 (a : Nat) : 6 + nI a = nI (6 + a) := nI_add 6 a
theorem ix_p16 (a : Nat) : 16 + nI a = nI (16 + a) := nI_add 16 a
theorem ix_p1104 (a : Nat) : 1104 + nI a = nI (1104 + a) := nI_add 1104 a
theorem ix_p1524 (a : Nat) : 1524 + nI a = nI (1524 + a) := nI_add 1524 a
theorem ix_m4 (a : Nat) : 4 * nI a = nI (4 * a) := pk_mul 4 a
theorem ix_m7 (a : Nat) : 7 * nI a = nI (7 * a) := pk_mul 7 a
theorem ix_m20 (a : Nat) : 20 * nI a = nI (20 * a) := pk_mul 20 a
theorem ix_m68 (a : Nat) : 68 * nI a = nI (68 * a) := pk_mul 68 a
theorem ix_n7 (a : Nat) : nI a * 7 = nI (a * 7) := pk_mul a 7
theorem ix_n20 (a : Nat) : nI a * 20 = nI (a * 20) := pk_mul a 20
theorem ix_s1 {a : Nat} (h : 1 ≤ a) : nI a - 1 = nI (a - 1) := pk_sub (b := 1) h
theorem ix_s2 {a : Nat} (h : 2 ≤ a) : nI a - 2 = nI (a - 2) := pk_sub (b := 2) h
theorem ix_s3 {a : Nat} (h : 3 ≤ a) : nI a - 3 = nI (a - 3) := pk_sub (b := 3) h
theorem ix_s7 {a : Nat} (h : 7 ≤ a) : nI a - 7 = nI (a - 7) := pk_sub (b := 7) h
theorem ix_d {a : Nat} (h : 1 ≤ a) : nI a + (-1) = nI (a - 1) := by
  obtain ⟨m, rfl⟩ : ∃ m, a = m + 1 := ⟨a - 1, by omega⟩
  exact pk_m1 m
theorem ix_d2 {a : Nat} (h : 1 ≤ a) : nI a + -1 = nI (a - 1) := ix_d h
end
section
/-! the relation: what is now (or kept) of the component against the reference's cells -/
def rl_N (kd d p : Int32) (W : Nat) (et : Nat → Int32) (an : Nat → Nat) (tk id c rc : Nat → Int32) (mq lt : Int32) (n rn : Nat) (b : Nat → Int32) : Prop :=
  ∃ (tn : Nat → Nat) (sn : Nat),
    (∀ s, s < 3 → tk s = nI (tn s) ∧ tn s ≤ an s ∧ b s = nI (tn s) ∧ b (3 + s) = id s ∧ (id s = 0 ∨ id s = 1) ∧ b (6 + s) = mk_tp (fun i => et (s * 20 + i)) (tn s)) ∧
    (b 9 = mq ∧ -1000 ≤ mq.toInt ∧ b 10 = lt ∧ b 11 = nI rn ∧ b 12 = nI sn) ∧
    rl_B kd d p b sn (xr_L c n) ∧
    ro_cs (xr_L c n) ≤ W * (tn 0 + tn 1 + tn 2) ∧ n + rn ≤ W * (tn 0 + tn 1 + tn 2) ∧
    xr_L rc rn = yr_L b rn
/-- the settings and the events of the sources -/
def rl_S (kd d p la : Int32) (dn W ln : Nat) (an : Nat → Nat) (ek et ar co : Nat → Int32) : Prop :=
  (kd = 0 ∨ kd = 1 ∨ kd = 2) ∧ (kd = 2 → W = 1) ∧ d = nI dn ∧ 1 ≤ dn ∧ dn ≤ 8 ∧ 1 ≤ W ∧ W ≤ 4 ∧ p = nI dn * nI W ∧ la = nI ln ∧ ln ≤ 20 ∧
  (∀ s, s < 3 → ar s = nI (an s) ∧ an s ≤ 20) ∧ (∀ j, ∃ c, c < 256 ∧ co j = nI c ∧ ek j = nI (c / 64) ∧ et j = nI (c % 64))
def rl_P (u : SX) (v : SY) : Prop :=
  match u, v with
  | (kd, wd, wn, la, mq, lc, xo, xq, km, kl, ko, kq, ek, et, ev, ar, tk, ie, oc, rc, kt, ki, kc), (kd', dd, pp, la', sz, co, va, b, cp) =>
    kd = kd' ∧ wd = dd ∧ la = la' ∧ ar = sz ∧ ev = va ∧
    ∃ (dn W ln : Nat) (an : Nat → Nat) (n r n2 r2 : Nat), wn = nI W ∧ xo = nI n ∧ xq = nI r ∧ ko = nI n2 ∧ kq = nI r2 ∧ r2 ≤ r ∧
      rl_S kd wd pp la dn W ln an ek et ar co ∧
      rl_N kd wd pp W et an tk ie oc rc mq lc n r b ∧
      rl_N kd wd pp W et an kt ki kc rc km kl n2 r2 cp
def i_Rel (k : Nat) (u : SX) (v : SY) : Prop := rl_P u v
theorem i_up {k : Nat} {u : SX} {v : SY} (h : i_Rel k u v) : i_Rel (k + 3) u v := h
end
section
/-! the component's rows, one method after the other -/
section
variable {kd wd wn la mq lc xo xq km kl ko kq : Int32} {ek et ev ar tk ie oc rc kt ki kc : Nat → Int32}
theorem xr_f {c c' : Nat → Int32} {i : Nat} (h : ∀ j, (j < i * 7 ∨ i * 7 + 7 ≤ j) → c' j = c j) : ∀ j, j ≠ i → xr_r c' j = xr_r c j := by
  intro j hj
  exact ro_at_cg (fun x h1 h2 => h x (by omega))
theorem xa_tc {post : Int32 → Prop} {i : Nat} {k t : Int32} (hi : i < 240) (h : post (if ss_tc k t wd (xr_r oc i) = true then 1 else 0)) : wpX_touches post (kd, wd, wn, la, mq, lc, xo, xq, km, kl, ko, kq, ek, et, ev, ar, tk, ie, oc, rc, kt, ki, kc) (nI i) k t := by
  unfold wpX_touches
  dsimp only
  simp (disch := omega) only [forall_eq, vp_in_nI, nI_clamp, pk_us, pk_un, true_and, ix_a0, ix_a1, ix_a2, ix_a3, ix_a4, ix_a5, ix_a6, ix_n7, ix_m7, ix_p1104, ix_p1524, nI_add]
  have e : ss_tc k t wd (xr_r oc i) = decide (oc (i * 7) = k ∧ oc (i * 7 + 1) - wd ≤ t ∧ t ≤ oc (i * 7 + 2)) := rfl
  rw [e] at h
  simp only [decide_eq_true_eq] at h
  by_cases h1 : oc (i * 7) = k
  · refine br_t h1 ?_
    by_cases h2 : t < oc (i * 7 + 1) - wd
    · refine br_t h2 ?_
      rw [if_neg (fun z => absurd z.2.1 (Int32.not_le.mpr h2))] at h
      exact h
    · refine br_f h2 ?_
      by_cases h3 : oc (i * 7 + 2) < t
      · refine br_t h3 ?_
        rw [if_neg (fun z => absurd z.2.2 (Int32.not_le.mpr h3))] at h
        exact h
      · refine br_f h3 ?_
        rw [if_pos ⟨h1, Int32.not_lt.mp h2, Int32.not_lt.mp h3⟩] at h
        exact h
  · refine br_f h1 ?_
    rw [if_neg (fun z => h1 z.1)] at h
    exact h
theorem xa_add {i : Nat} (hi : i < 240) (c u l g : Int32) : ∃ oc' : Nat → Int32, xr_r oc' i = ro_ad (xr_r oc i) c u l g ∧ (∀ j, (j < i * 7 ∨ i * 7 + 7 ≤ j) → oc' j = oc j) ∧ ∀ post : SX → Prop, post (kd, wd, wn, la, mq, lc, xo, xq, km, kl, ko, kq, ek, et, ev, ar, tk, ie, oc', rc, kt, ki, kc) → wpX_addToRow post (kd, wd, wn, la, mq, lc, xo, xq, km, kl, ko, kq, ek, et, ev, ar, tk, ie, oc, rc, kt, ki, kc) (nI i) c u l g := by
  by_cases a : oc (i * 7 + 5) ≤ l
  · have a2 : ¬ l < oc (i * 7 + 5) := Int32.not_lt.mpr a
    by_cases e : g ≤ oc (i * 7 + 6)
    · have e2 : ¬ oc (i * 7 + 6) < g := Int32.not_lt.mpr e
      refine ⟨upd (upd oc (i * 7 + 3) (oc (i * 7 + 3) + c)) (i * 7 + 4) (oc (i * 7 + 4) + u), ?_, ?_, fun post hp => ?_⟩
      · unfold xr_r ro_at ro_ad ro_mn ro_mx
        simp (disch := omega) only [pk_us, pk_un, if_neg a2, if_neg e2]
      · intro j hj
        simp (disch := omega) only [pk_un]
      · unfold wpX_addToRow wX_addToRow_57
        dsimp only
        simp (disch := omega) only [forall_eq, vp_in_nI, nI_clamp, pk_us, pk_un, true_and, ix_a0, ix_a1, ix_a2, ix_a3, ix_a4, ix_a5, ix_a6, ix_n7, ix_m7, ix_p1104, ix_p1524, nI_add]
        exact br_t a (br_t e hp)
    · have e2 : oc (i * 7 + 6) < g := Int32.not_le.mp e
      refine ⟨upd (upd (upd oc (i * 7 + 3) (oc (i * 7 + 3) + c)) (i * 7 + 4) (oc (i * 7 + 4) + u)) (i * 7 + 6) g, ?_, ?_, fun post hp => ?_⟩
      · unfold xr_r ro_at ro_ad ro_mn ro_mx
        simp (disch := omega) only [pk_us, pk_un, if_neg a2, if_pos e2]
      · intro j hj
        simp (disch := omega) only [pk_un]
      · unfold wpX_addToRow wX_addToRow_57
        dsimp only
        simp (disch := omega) only [forall_eq, vp_in_nI, nI_clamp, pk_us, pk_un, true_and, ix_a0, ix_a1, ix_a2, ix_a3, ix_a4, ix_a5, ix_a6, ix_n7, ix_m7, ix_p1104, ix_p1524, nI_add]
        exact br_t a (br_f e hp)
  · have a2 : l < oc (i * 7 + 5) := Int32.not_le.mp a
    by_cases e : g ≤ oc (i * 7 + 6)
    · have e2 : ¬ oc (i * 7 + 6) < g := Int32.not_lt.mpr e
      refine ⟨upd (upd (upd oc (i * 7 + 3) (oc (i * 7 + 3) + c)) (i * 7 + 4) (oc (i * 7 + 4) + u)) (i * 7 + 5) l, ?_, ?_, fun post hp => ?_⟩
      · unfold xr_r ro_at ro_ad ro_mn ro_mx
        simp (disch := omega) only [pk_us, pk_un, if_pos a2, if_neg e2]
      · intro j hj
        simp (disch := omega) only [pk_un]
      · unfold wpX_addToRow wX_addToRow_57
        dsimp only
        simp (disch := omega) only [forall_eq, vp_in_nI, nI_clamp, pk_us, pk_un, true_and, ix_a0, ix_a1, ix_a2, ix_a3, ix_a4, ix_a5, ix_a6, ix_n7, ix_m7, ix_p1104, ix_p1524, nI_add]
        exact br_f a (br_t e hp)
    · have e2 : oc (i * 7 + 6) < g := Int32.not_le.mp e
      refine ⟨upd (upd (upd (upd oc (i * 7 + 3) (oc (i * 7 + 3) + c)) (i * 7 + 4) (oc (i * 7 + 4) + u)) (i * 7 + 5) l) (i * 7 + 6) g, ?_, ?_, fun post hp => ?_⟩
      · unfold xr_r ro_at ro_ad ro_mn ro_mx
        simp (disch := omega) only [pk_us, pk_un, if_pos a2, if_pos e2]
      · intro j hj
        simp (disch := omega) only [pk_un]
      · unfold wpX_addToRow wX_addToRow_57
        dsimp only
        simp (disch := omega) only [forall_eq, vp_in_nI, nI_clamp, pk_us, pk_un, true_and, ix_a0, ix_a1, ix_a2, ix_a3, ix_a4, ix_a5, ix_a6, ix_n7, ix_m7, ix_p1104, ix_p1524, nI_add]
        exact br_f a (br_f e hp)
theorem xa_str {i : Nat} (hi : i < 240) (s e : Int32) : ∃ oc' : Nat → Int32, xr_r oc' i = ro_st (xr_r oc i) s e ∧ (∀ j, (j < i * 7 ∨ i * 7 + 7 ≤ j) → oc' j = oc j) ∧ ∀ post : SX → Prop, post (kd, wd, wn, la, mq, lc, xo, xq, km, kl, ko, kq, ek, et, ev, ar, tk, ie, oc', rc, kt, ki, kc) → wpX_stretchRow post (kd, wd, wn, la, mq, lc, xo, xq, km, kl, ko, kq, ek, et, ev, ar, tk, ie, oc, rc, kt, ki, kc) (nI i) s e := by
  by_cases a : oc (i * 7 + 1) ≤ s
  · have a2 : ¬ s < oc (i * 7 + 1) := Int32.not_lt.mpr a
    by_cases f : e ≤ oc (i * 7 + 2)
    · have f2 : ¬ oc (i * 7 + 2) < e := Int32.not_lt.mpr f
      refine ⟨oc, ?_, fun _ _ => rfl, fun post hp => ?_⟩
      · unfold xr_r ro_at ro_st ro_mn ro_mx
        simp (disch := omega) only [if_neg a2, if_neg f2]
      · unfold wpX_stretchRow wX_stretchRow_29
        dsimp only
        simp (disch := omega) only [forall_eq, vp_in_nI, nI_clamp, pk_us, pk_un, true_and, ix_a0, ix_a1, ix_a2, ix_a3, ix_a4, ix_a5, ix_a6, ix_n7, ix_m7, ix_p1104, ix_p1524, nI_add]
        exact br_t a (br_t f hp)
    · have f2 : oc (i * 7 + 2) < e := Int32.not_le.mp f
      refine ⟨upd oc (i * 7 + 2) e, ?_, ?_, fun post hp => ?_⟩
      · unfold xr_r ro_at ro_st ro_mn ro_mx
        simp (disch := omega) only [pk_us, pk_un, if_neg a2, if_pos f2]
      · intro j hj
        simp (disch := omega) only [pk_un]
      · unfold wpX_stretchRow wX_stretchRow_29
        dsimp only
        simp (disch := omega) only [forall_eq, vp_in_nI, nI_clamp, pk_us, pk_un, true_and, ix_a0, ix_a1, ix_a2, ix_a3, ix_a4, ix_a5, ix_a6, ix_n7, ix_m7, ix_p1104, ix_p1524, nI_add]
        exact br_t a (br_f f hp)
  · have a2 : s < oc (i * 7 + 1) := Int32.not_le.mp a
    by_cases f : e ≤ oc (i * 7 + 2)
    · have f2 : ¬ oc (i * 7 + 2) < e := Int32.not_lt.mpr f
      refine ⟨upd oc (i * 7 + 1) s, ?_, ?_, fun post hp => ?_⟩
      · unfold xr_r ro_at ro_st ro_mn ro_mx
        simp (disch := omega) only [pk_us, pk_un, if_pos a2, if_neg f2]
      · intro j hj
        simp (disch := omega) only [pk_un]
      · unfold wpX_stretchRow wX_stretchRow_29
        dsimp only
        simp (disch := omega) only [forall_eq, vp_in_nI, nI_clamp, pk_us, pk_un, true_and, ix_a0, ix_a1, ix_a2, ix_a3, ix_a4, ix_a5, ix_a6, ix_n7, ix_m7, ix_p1104, ix_p1524, nI_add]
        exact br_f a (br_t f hp)
    · have f2 : oc (i * 7 + 2) < e := Int32.not_le.mp f
      refine ⟨upd (upd oc (i * 7 + 1) s) (i * 7 + 2) e, ?_, ?_, fun post hp => ?_⟩
      · unfold xr_r ro_at ro_st ro_mn ro_mx
        simp (disch := omega) only [pk_us, pk_un, if_pos a2, if_pos f2]
      · intro j hj
        simp (disch := omega) only [pk_un]
      · unfold wpX_stretchRow wX_stretchRow_29
        dsimp only
        simp (disch := omega) only [forall_eq, vp_in_nI, nI_clamp, pk_us, pk_un, true_and, ix_a0, ix_a1, ix_a2, ix_a3, ix_a4, ix_a5, ix_a6, ix_n7, ix_m7, ix_p1104, ix_p1524, nI_add]
        exact br_f a (br_f f hp)
theorem xa_opn {n : Nat} (hn : n < 240) (k s e v : Int32) : ∃ oc' : Nat → Int32, xr_r oc' n = ro_nw k s e v ∧ (∀ j, (j < n * 7 ∨ n * 7 + 7 ≤ j) → oc' j = oc j) ∧ ∀ post : SX → Prop, post (kd, wd, wn, la, mq, lc, nI (n + 1), xq, km, kl, ko, kq, ek, et, ev, ar, tk, ie, oc', rc, kt, ki, kc) → wpX_openRow post (kd, wd, wn, la, mq, lc, nI n, xq, km, kl, ko, kq, ek, et, ev, ar, tk, ie, oc, rc, kt, ki, kc) k s e v := by
  refine ⟨upd (upd (upd (upd (upd (upd (upd oc (n * 7) k) (n * 7 + 1) s) (n * 7 + 2) e) (n * 7 + 3) 1) (n * 7 + 4) v) (n * 7 + 5) v) (n * 7 + 6) v, ?_, ?_, fun post hp => ?_⟩
  · unfold xr_r ro_at ro_nw
    simp (disch := omega) only [pk_us, pk_un]
  · intro j hj
    simp (disch := omega) only [pk_un]
  · unfold wpX_openRow
    dsimp only
    have h : nI n < 240 := nI_lt (b := 240) hn (by decide)
    simp (disch := omega) only [forall_eq, vp_in_nI, nI_clamp, pk_us, pk_un, true_and, ix_a0, ix_a1, ix_a2, ix_a3, ix_a4, ix_a5, ix_a6, ix_n7, ix_m7, ix_p1104, ix_p1524, nI_add]
    exact br_t h hp
/-- the last row moves into row i -/
theorem xa_rm {n i : Nat} (hn : n < 240) (hi : i < n + 1) : ∃ oc' : Nat → Int32, xr_r oc' i = xr_r oc n ∧ (∀ j, (j < i * 7 ∨ i * 7 + 7 ≤ j) → oc' j = oc j) ∧ ∀ post : SX → Prop, post (kd, wd, wn, la, mq, lc, nI n, xq, km, kl, ko, kq, ek, et, ev, ar, tk, ie, oc', rc, kt, ki, kc) → wpX_removeRow post (kd, wd, wn, la, mq, lc, nI (n + 1), xq, km, kl, ko, kq, ek, et, ev, ar, tk, ie, oc, rc, kt, ki, kc) (nI i) := by
  have key := lo_ex (ρ := SX) (σ := Nat × (Nat → Int32))
    (fun post f s => wX_removeRow_9 post (nI i) (nI n) kd wd wn la mq lc (nI (n + 1)) xq km kl ko kq f (nI s.1) ek et ev ar tk ie s.2 rc kt ki kc)
    (fun m s => m + s.1 = 7 ∧ (∀ j, j < s.1 → s.2 (i * 7 + j) = oc (n * 7 + j)) ∧ (∀ j, (j < i * 7 ∨ i * 7 + s.1 ≤ j) → s.2 j = oc j))
    (fun r => ∃ c : Nat → Int32, r = (kd, wd, wn, la, mq, lc, nI n, xq, km, kl, ko, kq, ek, et, ev, ar, tk, ie, c, rc, kt, ki, kc) ∧ (∀ j, j < 7 → c (i * 7 + j) = oc (n * 7 + j)) ∧ (∀ j, (j < i * 7 ∨ i * 7 + 7 ≤ j) → c j = oc j))
    (by
      rintro m ⟨x, c⟩ ⟨h1, h2, h3⟩
      dsimp only at *
      by_cases hx : x = 7
      · subst hx
        refine Or.inl ⟨_, ⟨c, rfl, h2, h3⟩, fun post f hp => ?_⟩
        exact br_t (nI_le (a := 7) (b := 7) (Nat.le_refl _) (by decide)) hp
      · refine Or.inr ⟨m - 1, (x + 1, upd c (i * 7 + x) (oc (n * 7 + x))), by omega, ⟨by dsimp only; omega, ?_, ?_⟩, fun post f hp => ?_⟩
        · intro j hj
          dsimp only at *
          by_cases z : j = x
          · rw [z, pk_us]
          · rw [pk_un (by omega)]
            exact h2 j (by omega)
        · intro j hj
          dsimp only at *
          rw [pk_un (by omega)]
          exact h3 j (by omega)
        · have e : c (n * 7 + x) = oc (n * 7 + x) := by
            by_cases z : n = i
            · rw [z]
              exact h3 _ (by omega)
            · exact h3 _ (by omega)
          rw [wX_removeRow_9]
          refine br_f (nI_ge (a := x) (b := 7) (by omega) (by decide)) ?_
          simp (disch := omega) only [forall_eq, vp_in_nI, nI_clamp, pk_us, pk_un, true_and, ix_a0, ix_a1, ix_a2, ix_a3, ix_a4, ix_a5, ix_a6, ix_n7, ix_m7, ix_p1104, ix_p1524, nI_add, e]
          exact hp)
    7 (0, oc) ⟨rfl, (fun j hj => absurd hj (Nat.not_lt_zero j)), fun _ _ => rfl⟩
  obtain ⟨_, ⟨c, rfl, h1, h2⟩, h3⟩ := key
  refine ⟨c, ro_at_o h1, h2, fun post hp => ?_⟩
  unfold wpX_removeRow
  dsimp only
  exact nm_r (e' := nI n) (nI_pred n) ⟨8, h3 post 8 (by omega) hp⟩
end
end
section
/-! the component counts an event -/
section
variable {kd wd wn la mq lc xo xq km kl ko kq : Int32} {ek et ev ar tk ie oc rc kt ki kc : Nat → Int32}
theorem xw_one {n : Nat} (hn : n < 240) (k s e v : Int32) (hd : ro_ds (xr_L oc n)) : ∃ (oc' : Nat → Int32) (n' : Nat), (xr_L oc' n').Perm (ro_ws (xr_L oc n) k s e v) ∧ n' ≤ n + 1 ∧ ∀ post : SX → Prop, post (kd, wd, wn, la, mq, lc, nI n', xq, km, kl, ko, kq, ek, et, ev, ar, tk, ie, oc', rc, kt, ki, kc) → wpX_countForWindow post (kd, wd, wn, la, mq, lc, nI n, xq, km, kl, ko, kq, ek, et, ev, ar, tk, ie, oc, rc, kt, ki, kc) k s e v := by
  have key := lo_ex (ρ := SX) (σ := Nat)
    (fun post f i => wX_countForWindow_3 post k s e v kd wd wn la mq lc (nI n) xq km kl ko kq ek et ev ar tk ie oc rc kt ki kc f (nI i))
    (fun m i => m + i = n ∧ ∀ j, j < i → ro_is k s (xr_r oc j) = false)
    (fun r => ∃ (oc' : Nat → Int32) (n' : Nat), r = (kd, wd, wn, la, mq, lc, nI n', xq, km, kl, ko, kq, ek, et, ev, ar, tk, ie, oc', rc, kt, ki, kc) ∧ (xr_L oc' n').Perm (ro_ws (xr_L oc n) k s e v) ∧ n' ≤ n + 1)
    (by
      rintro m i ⟨h1, h2⟩
      by_cases hi : i = n
      · subst hi
        obtain ⟨oc', a1, a2, a3⟩ := xa_opn (oc := oc) hn k s e v
        refine Or.inl ⟨_, ⟨oc', i + 1, rfl, ?_, Nat.le_refl _⟩, fun post f hp => ?_⟩
        · have hm : ∀ q, q ∈ xr_L oc i → ro_is k s q = false := by
            intro q hq
            obtain ⟨j, hj, rfl⟩ := li_mem.mp hq
            exact h2 j hj
          rw [ws_miss hm]
          unfold xr_L
          rw [li_s, a1, li_cg (f := xr_r oc') (g := xr_r oc) (fun j hj => xr_f a2 j (by omega))]
          exact List.perm_append_singleton _ _
        · rw [wX_countForWindow_3]
          exact br_t (nI_le (Nat.le_refl _) (by omega)) (a3 _ hp)
      · have hlt : i < n := by omega
        have hne : ¬ nI n ≤ nI i := nI_ge hlt (by omega)
        by_cases hk : oc (i * 7) = k
        · by_cases hs : oc (i * 7 + 1) = s
          · obtain ⟨oc', a1, a2, a3⟩ := xa_add (oc := oc) (xo := nI n) (i := i) (by omega) 1 v v v
            refine Or.inl ⟨_, ⟨oc', n, rfl, ?_, by omega⟩, fun post f hp => ?_⟩
            · obtain ⟨R, p1, _, p2⟩ := li_set (f := xr_r oc) hlt
              have p3 := p2 (xr_r oc') (fun j _ hj => xr_f a2 j hj)
              rw [a1] at p3
              exact p3.trans (ws_hit p1 hd (decide_eq_true ⟨hk, hs⟩) e v).symm
            · rw [wX_countForWindow_3]
              refine br_f hne ?_
              simp (disch := omega) only [forall_eq, vp_in_nI, nI_clamp, pk_us, pk_un, true_and, ix_a0, ix_a1, ix_a2, ix_a3, ix_a4, ix_a5, ix_a6, ix_n7, ix_m7, ix_p1104, ix_p1524, nI_add]
              exact br_t hk (br_t hs (a3 _ hp))
          · refine Or.inr ⟨m - 1, i + 1, by omega, ⟨by omega, lt_s h2 (decide_eq_false (fun z => hs z.2))⟩, fun post f hp => ?_⟩
            rw [wX_countForWindow_3]
            refine br_f hne ?_
            simp (disch := omega) only [forall_eq, vp_in_nI, nI_clamp, pk_us, pk_un, true_and, ix_a0, ix_a1, ix_a2, ix_a3, ix_a4, ix_a5, ix_a6, ix_n7, ix_m7, ix_p1104, ix_p1524, nI_add]
            exact br_t hk (br_f hs hp)
        · refine Or.inr ⟨m - 1, i + 1, by omega, ⟨by omega, lt_s h2 (decide_eq_false (fun z => hk z.1))⟩, fun post f hp => ?_⟩
          rw [wX_countForWindow_3]
          refine br_f hne ?_
          simp (disch := omega) only [forall_eq, vp_in_nI, nI_clamp, pk_us, pk_un, true_and, ix_a0, ix_a1, ix_a2, ix_a3, ix_a4, ix_a5, ix_a6, ix_n7, ix_m7, ix_p1104, ix_p1524, nI_add]
          exact br_f hk hp)
    n 0 ⟨rfl, lt_0⟩
  obtain ⟨_, ⟨oc', n', rfl, h1, h2⟩, h3⟩ := key
  exact ⟨oc', n', h1, h2, fun post hp => ⟨n + 1, h3 post (n + 1) (by omega) hp⟩⟩
theorem xw_bk (W j : Nat) (h : j < W) : nI (W - j) - 1 + (-1) = nI (W - (j + 1)) - 1 := by
  rw [show W - j = W - (j + 1) + 1 from by omega, ← nI_1]
  generalize nI (W - (j + 1)) = x
  grind
theorem xw_all {n dn W kk tn : Nat} {v : Int32} (hd1 : 1 ≤ dn) (hd8 : dn ≤ 8) (hW1 : 1 ≤ W) (hW : W ≤ 4) (hk : kk < 4) (ht : tn ≤ 63) (hn : n + W ≤ 240) (hd : ro_ds (xr_L oc n)) (hp : ∀ r, r ∈ xr_L oc n → 0 < ro_cn r) (hb : ro_cs (xr_L oc n) ≤ 240) : ∃ (oc' : Nat → Int32) (n' : Nat), (xr_L oc' n').Perm (zl_L (nI dn) (nI dn * nI W) mq v (tn / dn) W kk (xr_L oc n) W) ∧ ∀ post : SX → Prop, post (kd, nI dn, nI W, la, mq, if zl_c (nI dn) (nI dn * nI W) mq (tn / dn) W kk W = 0 then lc + 1 else lc, nI n', xq, km, kl, ko, kq, ek, et, ev, ar, tk, ie, oc', rc, kt, ki, kc) → wpX_countForWindows post (kd, nI dn, nI W, la, mq, lc, nI n, xq, km, kl, ko, kq, ek, et, ev, ar, tk, ie, oc, rc, kt, ki, kc) (nI kk) (nI tn) v := by
  have key := lo_ex (ρ := SX) (σ := Nat × Nat × (Nat → Int32))
    (fun post f s => wX_countForWindows_21 post (nI kk) v (nI (dn * (tn / dn))) f (zl_c (nI dn) (nI dn * nI W) mq (tn / dn) W kk s.1) (nI (W - s.1) - 1) kd (nI dn) (nI W) la mq lc (nI s.2.1) xq km kl ko kq ek et ev ar tk ie (s.2.2) rc kt ki kc)
    (fun m s => m + s.1 = W ∧ (xr_L s.2.2 s.2.1).Perm (zl_L (nI dn) (nI dn * nI W) mq v (tn / dn) W kk (xr_L oc n) s.1) ∧ s.2.1 ≤ n + s.1)
    (fun r => ∃ (oc' : Nat → Int32) (n' : Nat), r = (kd, nI dn, nI W, la, mq, if zl_c (nI dn) (nI dn * nI W) mq (tn / dn) W kk W = 0 then lc + 1 else lc, nI n', xq, km, kl, ko, kq, ek, et, ev, ar, tk, ie, oc', rc, kt, ki, kc) ∧ (xr_L oc' n').Perm (zl_L (nI dn) (nI dn * nI W) mq v (tn / dn) W kk (xr_L oc n) W))
    (by
      rintro m ⟨j, n', c⟩ ⟨h1, h2, h3⟩
      dsimp only at *
      by_cases hj : j = W
      · subst hj
        refine Or.inl ⟨_, ⟨c, n', rfl, h2⟩, fun post f hp => ?_⟩
        have hneg : nI (j - j) - 1 < 0 := by
          rw [Nat.sub_self]
          decide
        rw [wX_countForWindows_21]
        refine br_t hneg ?_
        by_cases z : zl_c (nI dn) (nI dn * nI j) mq (tn / dn) j kk j = 0
        · rw [if_pos z] at hp
          exact br_t z (nm_e hp)
        · rw [if_neg z] at hp
          exact br_f z hp
      · have hlt : j < W := by omega
        have e6 : nI (W - j) - 1 = nI (W - 1 - j) := by
          rw [show W - j = W - 1 - j + 1 from by omega]
          exact nI_pred _
        have hneg : ¬ nI (W - j) - 1 < 0 := by
          rw [e6]
          exact nI_pos (by omega)
        have es : nI (dn * (tn / dn)) - (nI (W - j) - 1) * nI dn = wy_s (nI dn) (zl_q (tn / dn) W kk j) := by
          rw [e6]
          exact zl_st hlt hW kk hk ht hd1
        by_cases hm : wy_s (nI dn) (zl_q (tn / dn) W kk j) + nI dn * nI W ≤ mq
        · have hm2 : ¬ mq < wy_s (nI dn) (zl_q (tn / dn) W kk j) + nI dn * nI W := Int32.not_lt.mpr hm
          have e1 : zl_L (nI dn) (nI dn * nI W) mq v (tn / dn) W kk (xr_L oc n) (j + 1) = zl_L (nI dn) (nI dn * nI W) mq v (tn / dn) W kk (xr_L oc n) j := if_neg hm2
          have e2 : zl_c (nI dn) (nI dn * nI W) mq (tn / dn) W kk (j + 1) = zl_c (nI dn) (nI dn * nI W) mq (tn / dn) W kk j := if_neg hm2
          refine Or.inr ⟨m - 1, (j + 1, n', c), by omega, ⟨by dsimp only; omega, by rw [e1]; exact h2, by dsimp only; omega⟩, fun post f hp => ?_⟩
          dsimp only at hp
          rw [e2] at hp
          rw [wX_countForWindows_21]
          exact br_f hneg (nm_r es (nm_e (br_t hm (nm_r (xw_bk W j hlt) hp))))
        · have hm2 : mq < wy_s (nI dn) (zl_q (tn / dn) W kk j) + nI dn * nI W := Int32.not_le.mp hm
          have e1 : zl_L (nI dn) (nI dn * nI W) mq v (tn / dn) W kk (xr_L oc n) (j + 1) = ro_ws (zl_L (nI dn) (nI dn * nI W) mq v (tn / dn) W kk (xr_L oc n) j) (nI kk) (wy_s (nI dn) (zl_q (tn / dn) W kk j)) (wy_s (nI dn) (zl_q (tn / dn) W kk j) + nI dn * nI W) v := if_pos hm2
          have e2 : zl_c (nI dn) (nI dn * nI W) mq (tn / dn) W kk (j + 1) = 1 := if_pos hm2
          have hz := zl_i (d := nI dn) (p := nI dn * nI W) (m := mq) (v := v) (a := tn / dn) (W := W) (k := kk) hd hp (by omega) j (by omega)
          obtain ⟨oc', n2, q1, q2, q3⟩ := xw_one (kd := kd) (wd := nI dn) (wn := nI W) (la := la) (mq := mq) (lc := lc) (xq := xq) (km := km) (kl := kl) (ko := ko) (kq := kq) (ek := ek) (et := et) (ev := ev) (ar := ar) (tk := tk) (ie := ie) (oc := c) (rc := rc) (kt := kt) (ki := ki) (kc := kc) (n := n') (by omega) (nI kk) (wy_s (nI dn) (zl_q (tn / dn) W kk j)) (wy_s (nI dn) (zl_q (tn / dn) W kk j) + nI dn * nI W) v (ro_ds_p h2.symm hz.1)
          refine Or.inr ⟨m - 1, (j + 1, n2, oc'), by omega, ⟨by dsimp only; omega, ?_, by dsimp only; omega⟩, fun post f hp => ?_⟩
          · dsimp only
            rw [e1]
            exact q1.trans (ws_p h2 _ _ _ _)
          · dsimp only at hp
            rw [e2] at hp
            rw [wX_countForWindows_21]
            exact br_f hneg (nm_r es (nm_e (br_f hm (q3 _ (nm_r (xw_bk W j hlt) hp)))))
      )
    W (0, n, oc) ⟨rfl, List.Perm.refl _, Nat.le_refl _⟩
  obtain ⟨_, ⟨oc', n', rfl, h1⟩, h3⟩ := key
  refine ⟨oc', n', h1, fun post hp => ?_⟩
  unfold wpX_countForWindows
  dsimp only
  have e0 : ¬ nI dn = 0 := nI_ne0 (by omega) (by omega)
  have e1 : nI tn - (nI tn - nI tn / nI dn * nI dn) = nI (dn * (tn / dn)) := by
    rw [pk_rem (by omega) (by omega) (by omega), pk_sub (Nat.mod_le _ _)]
    refine congrArg nI ?_
    have := Nat.div_add_mod tn dn
    omega
  exact ⟨e0, nm_r e1 (nm_e ⟨W + 1, h3 post (W + 1) (by omega) hp⟩)⟩
/-! sessions -/
theorem xs_ft {n : Nat} (hn : n ≤ 240) (k t : Int32) : ∃ r : Int32, ((∃ i, i < n ∧ r = nI i ∧ ss_tc k t wd (xr_r oc i) = true ∧ ∀ j, j < i → ss_tc k t wd (xr_r oc j) = false) ∨ (r = -1 ∧ ∀ j, j < n → ss_tc k t wd (xr_r oc j) = false)) ∧ ∀ post : Int32 → Prop, post r → wpX_firstTouched post (kd, wd, wn, la, mq, lc, nI n, xq, km, kl, ko, kq, ek, et, ev, ar, tk, ie, oc, rc, kt, ki, kc) k t := by
  have key := lo_ex (ρ := Int32) (σ := Nat)
    (fun post f i => wX_firstTouched_2 post k t kd wd wn la mq lc (nI n) xq km kl ko kq ek et ev ar tk ie oc rc kt ki kc f (nI i))
    (fun m i => m + i = n ∧ ∀ j, j < i → ss_tc k t wd (xr_r oc j) = false)
    (fun r => (∃ i, i < n ∧ r = nI i ∧ ss_tc k t wd (xr_r oc i) = true ∧ ∀ j, j < i → ss_tc k t wd (xr_r oc j) = false) ∨ (r = -1 ∧ ∀ j, j < n → ss_tc k t wd (xr_r oc j) = false))
    (by
      rintro m i ⟨h1, h2⟩
      by_cases hi : i = n
      · subst hi
        refine Or.inl ⟨-1, Or.inr ⟨rfl, h2⟩, fun post f hp => ?_⟩
        rw [wX_firstTouched_2]
        exact br_t (nI_le (Nat.le_refl _) (by omega)) hp
      · have hlt : i < n := by omega
        have hne : ¬ nI n ≤ nI i := nI_ge hlt (by omega)
        cases ht : ss_tc k t wd (xr_r oc i) with
        | false =>
          refine Or.inr ⟨m - 1, i + 1, by omega, ⟨by omega, lt_s h2 ht⟩, fun post f hp => ?_⟩
          rw [wX_firstTouched_2]
          refine br_f hne (xa_tc (by omega) ?_)
          rw [ht]
          exact br_t rfl (nm_r (nI_1 i) hp)
        | true =>
          refine Or.inl ⟨nI i, Or.inl ⟨i, hlt, rfl, ht, h2⟩, fun post f hp => ?_⟩
          rw [wX_firstTouched_2]
          refine br_f hne (xa_tc (by omega) ?_)
          rw [ht]
          exact br_f (by decide) hp)
    n 0 ⟨rfl, lt_0⟩
  obtain ⟨r, h1, h3⟩ := key
  exact ⟨r, h1, fun post hp => ⟨n + 1, h3 post (n + 1) (by omega) hp⟩⟩
theorem xs_jn {n home : Nat} (hn : n ≤ 240) (hh : home < n) (k t : Int32) (hl : ∀ j, j < home → ss_tc k t wd (xr_r oc j) = false) : ∃ (oc' : Nat → Int32) (n' : Nat), n' ≤ n ∧ jx_I k t wd (xr_L oc n) (xr_r oc home) home (home + 1) n' (xr_r oc') ∧ ∀ post : SX → Prop, post (kd, wd, wn, la, mq, lc, nI n', xq, km, kl, ko, kq, ek, et, ev, ar, tk, ie, oc', rc, kt, ki, kc) → wpX_joinTouched post (kd, wd, wn, la, mq, lc, nI n, xq, km, kl, ko, kq, ek, et, ev, ar, tk, ie, oc, rc, kt, ki, kc) (nI home) k t := by
  have key := lo_ex (ρ := SX) (σ := Nat × Nat × (Nat → Int32))
    (fun post f s => wX_joinTouched_8 post (nI home) k t f (nI s.1) kd wd wn la mq lc (nI s.2.1) xq km kl ko kq ek et ev ar tk ie (s.2.2) rc kt ki kc)
    (fun m s => m + home = s.1 ∧ s.2.1 ≤ n ∧ jx_I k t wd (xr_L oc n) (xr_r oc home) home (s.1 + 1) s.2.1 (xr_r s.2.2))
    (fun r => ∃ (oc' : Nat → Int32) (n' : Nat), r = (kd, wd, wn, la, mq, lc, nI n', xq, km, kl, ko, kq, ek, et, ev, ar, tk, ie, oc', rc, kt, ki, kc) ∧ n' ≤ n ∧ jx_I k t wd (xr_L oc n) (xr_r oc home) home (home + 1) n' (xr_r oc'))
    (by
      rintro m ⟨row, n', c⟩ ⟨h1, h2, h3⟩
      dsimp only at *
      have hp1 : row + 1 ≤ n' := by
        obtain ⟨M, R, a1, a2, _⟩ := h3
        exact a2
      by_cases hr : row = home
      · subst hr
        refine Or.inl ⟨_, ⟨c, n', rfl, h2, h3⟩, fun post f hp => ?_⟩
        rw [wX_joinTouched_8]
        exact br_t (nI_le (Nat.le_refl _) (by omega)) hp
      · have hlt : home < row := by omega
        have hne : ¬ nI row ≤ nI home := nI_ge hlt (by omega)
        obtain ⟨row', rfl⟩ : ∃ r, row = r + 1 := ⟨row - 1, by omega⟩
        cases ht : ss_tc k t wd (xr_r c (row' + 1)) with
        | false =>
          refine Or.inr ⟨m - 1, (row', n', c), by omega, ⟨by dsimp only; omega, h2, jx_n h3 (by omega) ht⟩, fun post f hp => ?_⟩
          rw [wX_joinTouched_8]
          refine br_f hne (xa_tc (by omega) ?_)
          rw [ht]
          exact br_t rfl (nm_r (pk_m1 row') hp)
        | true =>
          obtain ⟨n2, rfl⟩ : ∃ r, n' = r + 1 := ⟨n' - 1, by omega⟩
          obtain ⟨c1, a1, a2, a3⟩ := xa_add (kd := kd) (wd := wd) (wn := wn) (la := la) (mq := mq) (lc := lc) (xo := nI (n2 + 1)) (xq := xq) (km := km) (kl := kl) (ko := ko) (kq := kq) (ek := ek) (et := et) (ev := ev) (ar := ar) (tk := tk) (ie := ie) (oc := c) (rc := rc) (kt := kt) (ki := ki) (kc := kc) (i := home) (by omega) (c ((row' + 1) * 7 + 3)) (c ((row' + 1) * 7 + 4)) (c ((row' + 1) * 7 + 5)) (c ((row' + 1) * 7 + 6))
          obtain ⟨c2, b1, b2, b3⟩ := xa_str (kd := kd) (wd := wd) (wn := wn) (la := la) (mq := mq) (lc := lc) (xo := nI (n2 + 1)) (xq := xq) (km := km) (kl := kl) (ko := ko) (kq := kq) (ek := ek) (et := et) (ev := ev) (ar := ar) (tk := tk) (ie := ie) (oc := c1) (rc := rc) (kt := kt) (ki := ki) (kc := kc) (i := home) (by omega) (c1 ((row' + 1) * 7 + 1)) (c1 ((row' + 1) * 7 + 2))
          obtain ⟨c3, d1, d2, d3⟩ := xa_rm (kd := kd) (wd := wd) (wn := wn) (la := la) (mq := mq) (lc := lc) (xq := xq) (km := km) (kl := kl) (ko := ko) (kq := kq) (ek := ek) (et := et) (ev := ev) (ar := ar) (tk := tk) (ie := ie) (oc := c2) (rc := rc) (kt := kt) (ki := ki) (kc := kc) (n := n2) (i := row' + 1) (by omega) (by omega)
          have e1 : xr_r c2 home = ro_mg (xr_r c home) (xr_r c (row' + 1)) := by
            rw [b1, a1, a2 _ (by omega), a2 _ (by omega)]
            rfl
          refine Or.inr ⟨m - 1, (row', n2, c3), by omega, ⟨by dsimp only; omega, by dsimp only; omega, ?_⟩, fun post f hp => ?_⟩
          · refine jx_t (f' := xr_r c2) h3 hlt ht e1 (fun j _ hj => (xr_f b2 j hj).trans (xr_f a2 j hj)) (fun j _ hj => xr_f d2 j hj) (fun _ => d1)
          · rw [wX_joinTouched_8]
            refine br_f hne (xa_tc (by omega) ?_)
            rw [ht]
            refine br_f (by decide) ?_
            simp (disch := omega) only [forall_eq, vp_in_nI, nI_clamp, pk_us, pk_un, true_and, ix_a0, ix_a1, ix_a2, ix_a3, ix_a4, ix_a5, ix_a6, ix_n7, ix_m7, ix_p1104, ix_p1524, nI_add]
            refine a3 _ ?_
            dsimp only
            refine b3 _ ?_
            dsimp only
            refine d3 _ ?_
            dsimp only at hp ⊢
            rw [← pk_m1 row'] at hp
            exact hp)
    (n - 1 - home) (n - 1, n, oc) ⟨by dsimp only; omega, Nat.le_refl _, by
      dsimp only
      rw [show n - 1 + 1 = n from by omega]
      exact jx_0 hh hl⟩
  obtain ⟨_, ⟨oc', n', rfl, h1, h2⟩, h3⟩ := key
  refine ⟨oc', n', h1, h2, fun post hp => ?_⟩
  unfold wpX_joinTouched
  dsimp only
  exact nm_r (e' := nI (n - 1)) (ix_s1 (by omega)) ⟨_, h3 post (n - 1 - home + 1) (by omega) hp⟩
theorem xs_all {n : Nat} (hn : n < 240) (k t v : Int32) : ∃ (oc' : Nat → Int32) (n' : Nat), (xr_L oc' n').Perm (ss_L (xr_L oc n) mq wd k t v) ∧ ∀ post : SX → Prop, post (kd, wd, wn, la, mq, if ss_lt (xr_L oc n) mq wd k t then lc + 1 else lc, nI n', xq, km, kl, ko, kq, ek, et, ev, ar, tk, ie, oc', rc, kt, ki, kc) → wpX_countForSession post (kd, wd, wn, la, mq, lc, nI n, xq, km, kl, ko, kq, ek, et, ev, ar, tk, ie, oc, rc, kt, ki, kc) k t v := by
  obtain ⟨r, hr, h3⟩ := xs_ft (kd := kd) (wd := wd) (wn := wn) (la := la) (mq := mq) (lc := lc) (xq := xq) (km := km) (kl := kl) (ko := ko) (kq := kq) (ek := ek) (et := et) (ev := ev) (ar := ar) (tk := tk) (ie := ie) (oc := oc) (rc := rc) (kt := kt) (ki := ki) (kc := kc) (n := n) (by omega) k t
  rcases hr with ⟨i, hi, rfl, ht, hl⟩ | ⟨rfl, hl⟩
  · obtain ⟨c, n', q1, q2, q3⟩ := xs_jn (kd := kd) (wd := wd) (wn := wn) (la := la) (mq := mq) (lc := lc) (xq := xq) (km := km) (kl := kl) (ko := ko) (kq := kq) (ek := ek) (et := et) (ev := ev) (ar := ar) (tk := tk) (ie := ie) (oc := oc) (rc := rc) (kt := kt) (ki := ki) (kc := kc) (n := n) (by omega) hi k t hl
    have hin : i < n' := by
      obtain ⟨M, R, a1, a2, _⟩ := q2
      omega
    obtain ⟨c1, a1, a2, a3⟩ := xa_add (kd := kd) (wd := wd) (wn := wn) (la := la) (mq := mq) (lc := lc) (xo := nI n') (xq := xq) (km := km) (kl := kl) (ko := ko) (kq := kq) (ek := ek) (et := et) (ev := ev) (ar := ar) (tk := tk) (ie := ie) (oc := c) (rc := rc) (kt := kt) (ki := ki) (kc := kc) (i := i) (by omega) 1 v v v
    obtain ⟨c2, b1, b2, b3⟩ := xa_str (kd := kd) (wd := wd) (wn := wn) (la := la) (mq := mq) (lc := lc) (xo := nI n') (xq := xq) (km := km) (kl := kl) (ko := ko) (kq := kq) (ek := ek) (et := et) (ev := ev) (ar := ar) (tk := tk) (ie := ie) (oc := c1) (rc := rc) (kt := kt) (ki := ki) (kc := kc) (i := i) (by omega) t (t + wd)
    have e1 : xr_r c2 i = ro_mg (xr_r c i) (ro_nw k t (t + wd) v) := by
      rw [b1, a1]
      rfl
    obtain ⟨w1, w2⟩ := jx_e (m := mq) q2 ht e1 (fun j _ hj => (xr_f b2 j hj).trans (xr_f a2 j hj))
    refine ⟨c2, n', w1, fun post hp => ?_⟩
    rw [if_neg w2] at hp
    unfold wpX_countForSession
    dsimp only
    refine h3 _ (br_f (nI_pos (by omega)) (q3 _ ?_))
    dsimp only
    refine a3 _ ?_
    dsimp only
    refine b3 _ ?_
    dsimp only
    exact hp
  · have hno : (xr_L oc n).any (ss_tc k t wd) = false := by
      rw [List.any_eq_false]
      intro x hx
      obtain ⟨j, hj, rfl⟩ := li_mem.mp hx
      rw [hl j hj]
      exact Bool.false_ne_true
    by_cases hm : mq < t + wd
    · obtain ⟨oc', a1, a2, a3⟩ := xa_opn (kd := kd) (wd := wd) (wn := wn) (la := la) (mq := mq) (lc := lc) (xq := xq) (km := km) (kl := kl) (ko := ko) (kq := kq) (ek := ek) (et := et) (ev := ev) (ar := ar) (tk := tk) (ie := ie) (oc := oc) (rc := rc) (kt := kt) (ki := ki) (kc := kc) (n := n) hn k t (t + wd) v
      refine ⟨oc', n + 1, ?_, fun post hp => ?_⟩
      · unfold ss_L
        rw [if_neg (by rw [hno]; exact Bool.false_ne_true), if_neg (Int32.not_le.mpr hm)]
        unfold xr_L
        rw [li_s, a1, li_cg (f := xr_r oc') (g := xr_r oc) (fun j hj => xr_f a2 j (by omega))]
        exact List.perm_append_singleton _ _
      · rw [if_neg (fun z => absurd z.2 (Int32.not_le.mpr hm))] at hp
        unfold wpX_countForSession
        dsimp only
        exact h3 _ (br_t (by decide) (br_t hm (a3 _ hp)))
    · refine ⟨oc, n, ?_, fun post hp => ?_⟩
      · unfold ss_L
        rw [if_neg (by rw [hno]; exact Bool.false_ne_true), if_pos (Int32.not_lt.mp hm)]
      · rw [if_pos ⟨hno, Int32.not_lt.mp hm⟩] at hp
        unfold wpX_countForSession
        dsimp only
        exact h3 _ (br_t (by decide) (br_f hm (nm_e hp)))
end
end
section
/-! the component: the mark, the closing -/
section
variable {kd wd wn la mq lc xo xq km kl ko kq : Int32} {ek et ev ar tk ie oc rc kt ki kc : Nat → Int32}
theorem xm_own {s n ln : Nat} (hs : s < 3) (hn : n ≤ 20) (htk : tk s = nI n) (hla : la = nI ln) (hln : ln ≤ 20) (hb : ∀ i, i < n → 0 ≤ (et (s * 20 + i)).toInt ∧ (et (s * 20 + i)).toInt ≤ 63) : ∀ post : Int32 → Prop, post (mk_ow la (mk_tp (fun i => et (s * 20 + i)) n)) → wpX_markOfSource post (kd, wd, wn, la, mq, lc, xo, xq, km, kl, ko, kq, ek, et, ev, ar, tk, ie, oc, rc, kt, ki, kc) (nI s) := by
  have hlai : la.toInt = (ln : Int) := by rw [hla, nI_toInt (by omega)]
  have key := lo_ex (ρ := Int32) (σ := Nat)
    (fun post f i => wX_markOfSource_6 post (nI s) kd wd wn la mq lc xo xq km kl ko kq ek et ev ar tk ie oc rc kt ki kc f (mk_ow la (mk_tp (fun i => et (s * 20 + i)) i)) (nI i))
    (fun m i => m + i = n)
    (fun r => r = mk_ow la (mk_tp (fun i => et (s * 20 + i)) n))
    (by
      rintro m i h1
      by_cases hi : i = n
      · subst hi
        refine Or.inl ⟨_, rfl, fun post f hp => ?_⟩
        rw [wX_markOfSource_6]
        simp (disch := omega) only [forall_eq, vp_in_nI, nI_clamp, pk_us, pk_un, true_and, ix_a0, ix_a1, ix_a2, ix_a3, ix_a4, ix_a5, ix_a6, ix_n7, ix_m7, ix_p1104, ix_p1524, nI_add, htk]
        exact br_t (nI_le (Nat.le_refl _) (by omega)) hp
      · have hlt : i < n := by omega
        refine Or.inr ⟨m - 1, i + 1, by omega, by omega, fun post f hp => ?_⟩
        rw [mk_ows (l := la) (f := fun i => et (s * 20 + i)) (by omega) (by omega) (fun j hj => hb j (by omega))] at hp
        rw [wX_markOfSource_6]
        simp (disch := omega) only [forall_eq, vp_in_nI, nI_clamp, pk_us, pk_un, true_and, ix_a0, ix_a1, ix_a2, ix_a3, ix_a4, ix_a5, ix_a6, ix_n7, ix_m7, ix_p1104, ix_p1524, nI_add, htk, ix_n20]
        refine br_f (nI_ge hlt (by omega)) ?_
        by_cases z : mk_ow la (mk_tp (fun i => et (s * 20 + i)) i) < et (s * 20 + i) - la
        · rw [if_pos z] at hp
          exact br_f (Int32.not_le.mpr z) hp
        · rw [if_neg z] at hp
          exact br_t (Int32.not_lt.mp z) hp)
    n 0 (by omega)
  obtain ⟨_, rfl, h3⟩ := key
  exact fun post hp => ⟨n + 1, h3 post (n + 1) (by omega) hp⟩
theorem xm_least {tn : Nat → Nat} {ln : Nat} (htk : ∀ s, s < 3 → tk s = nI (tn s) ∧ tn s ≤ 20) (hla : la = nI ln) (hln : ln ≤ 20) (hb : ∀ s, s < 3 → ∀ i, i < tn s → 0 ≤ (et (s * 20 + i)).toInt ∧ (et (s * 20 + i)).toInt ≤ 63) : ∀ post : Int32 → Prop, post (if mk_le (fun s => mk_ow la (mk_tp (fun i => et (s * 20 + i)) (tn s))) ie 3 = 100000 then -1000 else mk_le (fun s => mk_ow la (mk_tp (fun i => et (s * 20 + i)) (tn s))) ie 3) → wpX_leastMarkOfSources post (kd, wd, wn, la, mq, lc, xo, xq, km, kl, ko, kq, ek, et, ev, ar, tk, ie, oc, rc, kt, ki, kc) := by
  have hlai : la.toInt = (ln : Int) := by rw [hla, nI_toInt (by omega)]
  have hown : ∀ s, s < 3 → -1000 ≤ (mk_ow la (mk_tp (fun i => et (s * 20 + i)) (tn s))).toInt ∧ (mk_ow la (mk_tp (fun i => et (s * 20 + i)) (tn s))).toInt ≤ 63 := by
    intro s hs
    have := mk_tpb (f := fun i => et (s * 20 + i)) (tn s) (hb s hs)
    exact mk_owb (by omega) (by omega) this.1 this.2
  generalize ho : (fun s => mk_ow la (mk_tp (fun i => et (s * 20 + i)) (tn s))) = own
  have hown2 : ∀ s, s < 3 → own s = mk_ow la (mk_tp (fun i => et (s * 20 + i)) (tn s)) := fun s _ => by rw [← ho]
  have hown3 : ∀ s, s < 3 → -1000 ≤ (own s).toInt ∧ (own s).toInt ≤ 63 := fun s hs => by rw [hown2 s hs]; exact hown s hs
  have key := lo_ex (ρ := Int32) (σ := Nat)
    (fun post f s => wX_leastMarkOfSources_8 post kd wd wn la mq lc xo xq km kl ko kq ek et ev ar tk ie oc rc kt ki kc f (if mk_le own ie s = 100000 then 0 else 1) (if mk_le own ie s = 100000 then -1000 else mk_le own ie s) (nI s))
    (fun m s => m + s = 3)
    (fun r => r = if mk_le own ie 3 = 100000 then -1000 else mk_le own ie 3)
    (by
      rintro m s h1
      by_cases hi : s = 3
      · subst hi
        refine Or.inl ⟨_, rfl, fun post f hp => ?_⟩
        rw [wX_leastMarkOfSources_8]
        exact br_t (nI_le (a := 3) (b := 3) (Nat.le_refl _) (by decide)) hp
      · have hlt : s < 3 := by omega
        refine Or.inr ⟨m - 1, s + 1, by omega, by omega, fun post f hp => ?_⟩
        rw [wX_leastMarkOfSources_8]
        refine br_f (nI_ge (a := s) (b := 3) hlt (by decide)) ?_
        simp (disch := omega) only [forall_eq, vp_in_nI, nI_clamp, pk_us, pk_un, true_and, ix_a0, ix_a1, ix_a2, ix_a3, ix_a4, ix_a5, ix_a6, ix_n7, ix_m7, ix_p1104, ix_p1524, nI_add]
        by_cases hid : ie s = 0
        · refine br_t hid (xm_own hlt (htk s hlt).2 (htk s hlt).1 hla hln (hb s hlt) _ ?_)
          rw [← hown2 s hlt]
          have hx := mk_xs (own := own) (idle := ie) (n := s) (fun i hi => hown3 i (by omega)) hid
          by_cases z : mk_le own ie s = 100000
          · have hy := hx.1 z
            rw [if_neg (by rw [hy.1]; exact hy.2), if_neg (by rw [hy.1]; exact hy.2), hy.1] at hp
            rw [if_pos z]
            exact br_t rfl hp
          · have hy := hx.2 z
            rw [if_neg hy.1, if_neg hy.1] at hp
            rw [if_neg z, if_neg z]
            refine br_f (by decide) ?_
            by_cases y : own s < mk_le own ie s
            · rw [hy.2, if_pos y] at hp
              exact br_f (Int32.not_le.mpr y) hp
            · rw [hy.2, if_neg y] at hp
              exact br_t (Int32.not_lt.mp y) hp
        · rw [mk_skip hid] at hp
          exact br_f hid hp)
    3 0 (by omega)
  obtain ⟨_, rfl, h3⟩ := key
  exact fun post hp => ⟨4, h3 post 4 (by omega) hp⟩
theorem xm_raise {tn : Nat → Nat} {ln : Nat} (htk : ∀ s, s < 3 → tk s = nI (tn s) ∧ tn s ≤ 20) (hla : la = nI ln) (hln : ln ≤ 20) (hb : ∀ s, s < 3 → ∀ i, i < tn s → 0 ≤ (et (s * 20 + i)).toInt ∧ (et (s * 20 + i)).toInt ≤ 63) (hm : -1000 ≤ mq.toInt) : ∀ post : SX → Prop, post (kd, wd, wn, la, mk_nw mq (mk_le (fun s => mk_ow la (mk_tp (fun i => et (s * 20 + i)) (tn s))) ie 3), lc, xo, xq, km, kl, ko, kq, ek, et, ev, ar, tk, ie, oc, rc, kt, ki, kc) → wpX_raiseMark post (kd, wd, wn, la, mq, lc, xo, xq, km, kl, ko, kq, ek, et, ev, ar, tk, ie, oc, rc, kt, ki, kc) := by
  intro post hp
  have hlai : la.toInt = (ln : Int) := by rw [hla, nI_toInt (by omega)]
  have hown : ∀ s, s < 3 → -1000 ≤ (mk_ow la (mk_tp (fun i => et (s * 20 + i)) (tn s))).toInt ∧ (mk_ow la (mk_tp (fun i => et (s * 20 + i)) (tn s))).toInt ≤ 63 := by
    intro s hs
    have := mk_tpb (f := fun i => et (s * 20 + i)) (tn s) (hb s hs)
    exact mk_owb (by omega) (by omega) this.1 this.2
  have hl := (mk_leb (own := fun s => mk_ow la (mk_tp (fun i => et (s * 20 + i)) (tn s))) (idle := ie) 3 hown).2
  rw [mk_fin hm hl] at hp
  unfold wpX_raiseMark
  dsimp only
  refine xm_least htk hla hln hb _ ?_
  generalize (if mk_le (fun s => mk_ow la (mk_tp (fun i => et (s * 20 + i)) (tn s))) ie 3 = 100000 then (-1000 : Int32) else mk_le (fun s => mk_ow la (mk_tp (fun i => et (s * 20 + i)) (tn s))) ie 3) = r at *
  by_cases z : mq < r
  · rw [if_pos z] at hp
    exact br_f (Int32.not_le.mpr z) hp
  · rw [if_neg z] at hp
    exact br_t (Int32.not_lt.mp z) hp
/-! closing -/
theorem xc_bf {post : Int32 → Prop} {i j : Nat} (hi : i < 240) (hj : j < 240) (h1 : cl_bf (xr_r oc i) (xr_r oc j) → post 1) (h0 : ¬ cl_bf (xr_r oc i) (xr_r oc j) → post 0) : wpX_closesBefore post (kd, wd, wn, la, mq, lc, xo, xq, km, kl, ko, kq, ek, et, ev, ar, tk, ie, oc, rc, kt, ki, kc) (nI i) (nI j) := by
  unfold wpX_closesBefore
  dsimp only
  simp (disch := omega) only [forall_eq, vp_in_nI, nI_clamp, pk_us, pk_un, true_and, ix_a0, ix_a1, ix_a2, ix_a3, ix_a4, ix_a5, ix_a6, ix_n7, ix_m7, ix_p1104, ix_p1524, nI_add]
  have e : cl_bf (xr_r oc i) (xr_r oc j) ↔ (oc (i * 7 + 2) < oc (j * 7 + 2) ∨ (oc (i * 7 + 2) = oc (j * 7 + 2) ∧ (oc (i * 7) < oc (j * 7) ∨ (oc (i * 7) = oc (j * 7) ∧ oc (i * 7 + 1) < oc (j * 7 + 1))))) := Iff.rfl
  rw [e] at h1 h0
  by_cases a : oc (i * 7 + 2) = oc (j * 7 + 2)
  · refine br_t a ?_
    by_cases c : oc (i * 7) = oc (j * 7)
    · refine br_t c ?_
      by_cases d : oc (j * 7 + 1) ≤ oc (i * 7 + 1)
      · refine br_t d (h0 (fun z => ?_))
        simp only [ii_lt, ii_le, ii_eq] at *
        omega
      · refine br_f d (h1 ?_)
        simp only [ii_lt, ii_le, ii_eq] at *
        omega
    · refine br_f c ?_
      by_cases d : oc (j * 7) ≤ oc (i * 7)
      · refine br_t d (h0 (fun z => ?_))
        simp only [ii_lt, ii_le, ii_eq] at *
        omega
      · refine br_f d (h1 ?_)
        simp only [ii_lt, ii_le, ii_eq] at *
        omega
  · refine br_f a ?_
    by_cases d : oc (j * 7 + 2) ≤ oc (i * 7 + 2)
    · refine br_t d (h0 (fun z => ?_))
      simp only [ii_lt, ii_le, ii_eq] at *
      omega
    · refine br_f d (h1 ?_)
      simp only [ii_lt, ii_le, ii_eq] at *
      omega
def xc_en (e : Option Nat) : Int32 := match e with
  | none => -1
  | some x => nI x
theorem xc_fd {n : Nat} (hn : n ≤ 240) : ∃ e : Option Nat, fd_I mq (xr_r oc) n e ∧ ∀ post : Int32 → Prop, post (xc_en e) → wpX_firstDueRow post (kd, wd, wn, la, mq, lc, nI n, xq, km, kl, ko, kq, ek, et, ev, ar, tk, ie, oc, rc, kt, ki, kc) := by
  have key := lo_ex (ρ := Int32) (σ := Option Nat × Nat)
    (fun post f s => wX_firstDueRow_4 post kd wd wn la mq lc (nI n) xq km kl ko kq ek et ev ar tk ie oc rc kt ki kc f (xc_en s.1) (nI s.2))
    (fun m s => m + s.2 = n ∧ fd_I mq (xr_r oc) s.2 s.1)
    (fun r => ∃ e, r = xc_en e ∧ fd_I mq (xr_r oc) n e)
    (by
      rintro m ⟨e, i⟩ ⟨h1, h2⟩
      dsimp only at *
      by_cases hi : i = n
      · subst hi
        refine Or.inl ⟨_, ⟨e, rfl, h2⟩, fun post f hp => ?_⟩
        rw [wX_firstDueRow_4]
        exact br_t (nI_le (Nat.le_refl _) (by omega)) hp
      · have hlt : i < n := by omega
        have hne : ¬ nI n ≤ nI i := nI_ge hlt (by omega)
        cases hdu : cl_du mq (xr_r oc i) with
        | false =>
          have hm : mq < oc (i * 7 + 2) := Int32.not_le.mp (of_decide_eq_false hdu)
          refine Or.inr ⟨m - 1, (e, i + 1), by omega, ⟨by dsimp only; omega, fd_In h2 hdu⟩, fun post f hp => ?_⟩
          rw [wX_firstDueRow_4]
          refine br_f hne ?_
          simp (disch := omega) only [forall_eq, vp_in_nI, nI_clamp, pk_us, pk_un, true_and, ix_a0, ix_a1, ix_a2, ix_a3, ix_a4, ix_a5, ix_a6, ix_n7, ix_m7, ix_p1104, ix_p1524, nI_add]
          refine br_t hm ?_
          unfold wX_firstDueRow_35
          exact br_t rfl (nm_r (nI_1 i) hp)
        | true =>
          have hm : ¬ mq < oc (i * 7 + 2) := Int32.not_lt.mpr (of_decide_eq_true hdu)
          cases e with
          | none =>
            refine Or.inr ⟨m - 1, (some i, i + 1), by omega, ⟨by dsimp only; omega, fd_I0 h2 hdu⟩, fun post f hp => ?_⟩
            rw [wX_firstDueRow_4]
            refine br_f hne ?_
            simp (disch := omega) only [forall_eq, vp_in_nI, nI_clamp, pk_us, pk_un, true_and, ix_a0, ix_a1, ix_a2, ix_a3, ix_a4, ix_a5, ix_a6, ix_n7, ix_m7, ix_p1104, ix_p1524, nI_add]
            refine br_f hm ?_
            unfold wX_firstDueRow_35
            exact br_f (by decide) (br_t (by decide) (nm_r (nI_1 i) hp))
          | some x =>
            have hx : x < i := h2.1
            by_cases hb : cl_bf (xr_r oc i) (xr_r oc x)
            · refine Or.inr ⟨m - 1, (some i, i + 1), by omega, ⟨by dsimp only; omega, fd_I1 h2 hdu hb⟩, fun post f hp => ?_⟩
              rw [wX_firstDueRow_4]
              refine br_f hne ?_
              simp (disch := omega) only [forall_eq, vp_in_nI, nI_clamp, pk_us, pk_un, true_and, ix_a0, ix_a1, ix_a2, ix_a3, ix_a4, ix_a5, ix_a6, ix_n7, ix_m7, ix_p1104, ix_p1524, nI_add]
              refine br_f hm ?_
              unfold wX_firstDueRow_35
              exact br_f (by decide) (br_f (nI_pos (by omega)) (xc_bf (by omega) (by omega) (fun _ => br_f (by decide) (nm_r (nI_1 i) hp)) (fun z => absurd hb z)))
            · refine Or.inr ⟨m - 1, (some x, i + 1), by omega, ⟨by dsimp only; omega, fd_I2 h2 hb⟩, fun post f hp => ?_⟩
              rw [wX_firstDueRow_4]
              refine br_f hne ?_
              simp (disch := omega) only [forall_eq, vp_in_nI, nI_clamp, pk_us, pk_un, true_and, ix_a0, ix_a1, ix_a2, ix_a3, ix_a4, ix_a5, ix_a6, ix_n7, ix_m7, ix_p1104, ix_p1524, nI_add]
              refine br_f hm ?_
              unfold wX_firstDueRow_35
              exact br_f (by decide) (br_f (nI_pos (by omega)) (xc_bf (by omega) (by omega) (fun z => absurd z hb) (fun _ => br_t rfl (nm_r (nI_1 i) hp)))))
    n (none, 0) ⟨by dsimp only; omega, lt_0⟩
  obtain ⟨_, ⟨e, rfl, h1⟩, h3⟩ := key
  exact ⟨e, h1, fun post hp => ⟨n + 1, h3 post (n + 1) (by omega) hp⟩⟩
theorem xc_app {r i : Nat} (hr : r < 240) (hi : i < 240) : ∃ rc' : Nat → Int32, xr_r rc' r = xr_r oc i ∧ (∀ j, (j < r * 7 ∨ r * 7 + 7 ≤ j) → rc' j = rc j) ∧ ∀ post : SX → Prop, post (kd, wd, wn, la, mq, lc, xo, nI (r + 1), km, kl, ko, kq, ek, et, ev, ar, tk, ie, oc, rc', kt, ki, kc) → wpX_appendResult post (kd, wd, wn, la, mq, lc, xo, nI r, km, kl, ko, kq, ek, et, ev, ar, tk, ie, oc, rc, kt, ki, kc) (nI i) := by
  have key := lo_ex (ρ := SX) (σ := Nat × (Nat → Int32))
    (fun post f s => wX_appendResult_13 post (nI i) kd wd wn la mq lc xo (nI r) km kl ko kq f (nI s.1) ek et ev ar tk ie oc (s.2) kt ki kc)
    (fun m s => m + s.1 = 7 ∧ (∀ j, j < s.1 → s.2 (r * 7 + j) = oc (i * 7 + j)) ∧ (∀ j, (j < r * 7 ∨ r * 7 + s.1 ≤ j) → s.2 j = rc j))
    (fun u => ∃ c : Nat → Int32, u = (kd, wd, wn, la, mq, lc, xo, nI (r + 1), km, kl, ko, kq, ek, et, ev, ar, tk, ie, oc, c, kt, ki, kc) ∧ (∀ j, j < 7 → c (r * 7 + j) = oc (i * 7 + j)) ∧ (∀ j, (j < r * 7 ∨ r * 7 + 7 ≤ j) → c j = rc j))
    (by
      rintro m ⟨x, c⟩ ⟨h1, h2, h3⟩
      dsimp only at *
      by_cases hx : x = 7
      · subst hx
        refine Or.inl ⟨_, ⟨c, rfl, h2, h3⟩, fun post f hp => ?_⟩
        rw [wX_appendResult_13]
        exact br_t (nI_le (a := 7) (b := 7) (Nat.le_refl _) (by decide)) (nm_r (nI_1 r) hp)
      · refine Or.inr ⟨m - 1, (x + 1, upd c (r * 7 + x) (oc (i * 7 + x))), by omega, ⟨by dsimp only; omega, ?_, ?_⟩, fun post f hp => ?_⟩
        · intro j hj
          dsimp only at *
          by_cases z : j = x
          · rw [z, pk_us]
          · rw [pk_un (by omega)]
            exact h2 j (by omega)
        · intro j hj
          dsimp only at *
          rw [pk_un (by omega)]
          exact h3 j (by omega)
        · rw [wX_appendResult_13]
          refine br_f (nI_ge (a := x) (b := 7) (by omega) (by decide)) ?_
          simp (disch := omega) only [forall_eq, vp_in_nI, nI_clamp, pk_us, pk_un, true_and, ix_a0, ix_a1, ix_a2, ix_a3, ix_a4, ix_a5, ix_a6, ix_n7, ix_m7, ix_p1104, ix_p1524, nI_add]
          exact hp)
    7 (0, rc) ⟨rfl, (fun j hj => absurd hj (Nat.not_lt_zero j)), fun _ _ => rfl⟩
  obtain ⟨_, ⟨c, rfl, h1, h2⟩, h3⟩ := key
  refine ⟨c, ro_at_o h1, h2, fun post hp => ?_⟩
  unfold wpX_appendResult
  dsimp only
  exact br_t (nI_lt (b := 240) hr (by decide)) ⟨8, h3 post 8 (by omega) hp⟩
theorem xc_all {n r : Nat} (hn : n + r ≤ 240) (hd : ro_ds (xr_L oc n)) : ∃ (oc' rc' : Nat → Int32) (n' r' : Nat) (D : List ro_T), cl_R mq (xr_L oc n) D (xr_L oc' n') ∧ r' = r + D.length ∧ n' + r' = n + r ∧ xr_L rc' r' = xr_L rc r ++ D ∧ (∀ j, j < r * 7 → rc' j = rc j) ∧ ∀ post : SX → Prop, post (kd, wd, wn, la, mq, lc, nI n', nI r', km, kl, ko, kq, ek, et, ev, ar, tk, ie, oc', rc', kt, ki, kc) → wpX_closeDueRows post (kd, wd, wn, la, mq, lc, nI n, nI r, km, kl, ko, kq, ek, et, ev, ar, tk, ie, oc, rc, kt, ki, kc) := by
  have key := lo_ex (ρ := SX) (σ := Nat × Nat × (Nat → Int32) × Nat × (Nat → Int32))
    (fun post f s => wX_closeDueRows_2 post f (nI s.1) kd wd wn la mq lc (nI s.2.1) (nI s.2.2.2.1) km kl ko kq ek et ev ar tk ie (s.2.2.1) (s.2.2.2.2) kt ki kc)
    (fun m s => m = s.2.1 ∧ s.1 + s.2.1 = n ∧ ∃ D, cl_I mq (xr_L oc n) D (xr_L s.2.2.1 s.2.1) ∧ s.2.2.2.1 = r + D.length ∧ s.2.1 + s.2.2.2.1 = n + r ∧ xr_L s.2.2.2.2 s.2.2.2.1 = xr_L rc r ++ D ∧ (∀ j, j < r * 7 → s.2.2.2.2 j = rc j))
    (fun u => ∃ (oc' rc' : Nat → Int32) (n' r' : Nat) (D : List ro_T), u = (kd, wd, wn, la, mq, lc, nI n', nI r', km, kl, ko, kq, ek, et, ev, ar, tk, ie, oc', rc', kt, ki, kc) ∧ cl_R mq (xr_L oc n) D (xr_L oc' n') ∧ r' = r + D.length ∧ n' + r' = n + r ∧ xr_L rc' r' = xr_L rc r ++ D ∧ (∀ j, j < r * 7 → rc' j = rc j))
    (by
      rintro m ⟨c0, n', c, r', q⟩ ⟨h1, h2, D, h3, h4, h5, h6, h7⟩
      dsimp only at *
      by_cases hc : c0 = 240
      · have hn0 : n' = 0 := by omega
        refine Or.inl ⟨_, ⟨c, q, n', r', D, rfl, cl_Ie h3 ?_, h4, h5, h6, h7⟩, fun post f hp => ?_⟩
        · rw [hn0]
          intro x hx
          cases hx
        · rw [wX_closeDueRows_2]
          exact br_t (nI_le (a := 240) (b := c0) (by omega) (by omega)) hp
      · have hne : ¬ (240 : Int32) ≤ nI c0 := nI_ge (a := c0) (b := 240) (by omega) (by decide)
        obtain ⟨e, f1, f2⟩ := xc_fd (kd := kd) (wd := wd) (wn := wn) (la := la) (mq := mq) (lc := lc) (xq := nI r') (km := km) (kl := kl) (ko := ko) (kq := kq) (ek := ek) (et := et) (ev := ev) (ar := ar) (tk := tk) (ie := ie) (oc := c) (rc := q) (kt := kt) (ki := ki) (kc := kc) (n := n') (by omega)
        cases e with
        | none =>
          refine Or.inl ⟨_, ⟨c, q, n', r', D, rfl, cl_Ie h3 ?_, h4, h5, h6, h7⟩, fun post f hp => ?_⟩
          · intro x hx
            obtain ⟨j, hj, rfl⟩ := li_mem.mp hx
            exact f1 j hj
          · rw [wX_closeDueRows_2]
            exact br_f hne (f2 _ (br_f (by decide) hp))
        | some x =>
          have hx : x < n' := f1.1
          obtain ⟨k, rfl⟩ : ∃ k, n' = k + 1 := ⟨n' - 1, by omega⟩
          obtain ⟨q', a1, a2, a3⟩ := xc_app (kd := kd) (wd := wd) (wn := wn) (la := la) (mq := mq) (lc := lc) (xo := nI (k + 1)) (km := km) (kl := kl) (ko := ko) (kq := kq) (ek := ek) (et := et) (ev := ev) (ar := ar) (tk := tk) (ie := ie) (oc := c) (rc := q) (kt := kt) (ki := ki) (kc := kc) (r := r') (i := x) (by omega) (by omega)
          obtain ⟨c', b1, b2, b3⟩ := xa_rm (kd := kd) (wd := wd) (wn := wn) (la := la) (mq := mq) (lc := lc) (xq := nI (r' + 1)) (km := km) (kl := kl) (ko := ko) (kq := kq) (ek := ek) (et := et) (ev := ev) (ar := ar) (tk := tk) (ie := ie) (oc := c) (rc := q') (kt := kt) (ki := ki) (kc := kc) (n := k) (i := x) (by omega) (by omega)
          have hds : ro_ds (xr_L c (k + 1)) := (List.pairwise_append.mp (ro_ds_p h3.1.symm hd)).2.1
          obtain ⟨g1, _⟩ := fd_st (g := xr_r c') h3 hds f1 (fun j _ hj => xr_f b2 j hj) (fun _ => b1)
          refine Or.inr ⟨k, (c0 + 1, k, c', r' + 1, q'), by omega, ⟨rfl, by dsimp only; omega, D ++ [xr_r c x], g1, ?_, by dsimp only; omega, ?_, ?_⟩, fun post f hp => ?_⟩
          · dsimp only
            rw [List.length_append, List.length_singleton]
            omega
          · dsimp only
            have e1 : xr_L q' (r' + 1) = xr_L q r' ++ [xr_r c x] := by
              unfold xr_L
              rw [li_s, a1, li_cg (f := xr_r q') (g := xr_r q) (fun j hj => xr_f a2 j (by omega))]
            rw [e1, h6, List.append_assoc]
          · dsimp only
            intro j hj
            rw [a2 j (by omega)]
            exact h7 j hj
          · rw [wX_closeDueRows_2]
            refine br_f hne (f2 _ (br_t (nI_pos' (by omega)) (a3 _ ?_)))
            dsimp only
            refine b3 _ ?_
            dsimp only
            exact nm_r (nI_1 c0) hp)
    n (0, n, oc, r, rc) ⟨rfl, by dsimp only; omega, [], cl_I0 _ _, rfl, rfl, (List.append_nil _).symm, fun _ _ => rfl⟩
  obtain ⟨_, ⟨oc', rc', n', r', D, rfl, h1, h2, h3, h4, h5⟩, h6⟩ := key
  exact ⟨oc', rc', n', r', D, h1, h2, h3, h4, h5, fun post hp => ⟨n + 1, h6 post (n + 1) (by omega) hp⟩⟩
end
end
section
/-! the reference's rows -/
section
variable {kd dd pp la : Int32} {sz co va b cp : Nat → Int32}
theorem ya_tc {post : Int32 → Prop} {i : Nat} {k t : Int32} (hi : i < 60) (h : post (if ss_tc k t dd (ys_r dd b i) = true then 1 else 0)) : wpY_touches post (kd, dd, pp, la, sz, co, va, b, cp) (nI (1104 + 7 * i)) t k := by
  unfold wpY_touches
  dsimp only
  simp (disch := omega) only [forall_eq, vp_in_nI, nI_clamp, pk_us, pk_un, true_and, ix_a0, ix_a1, ix_a2, ix_a3, ix_a4, ix_a5, ix_a6, ix_n7, ix_m7, ix_p1104, ix_p1524, nI_add]
  have e : ss_tc k t dd (ys_r dd b i) = decide (b (1104 + 7 * i) = k ∧ b (1104 + 7 * i + 1) - dd ≤ t ∧ t ≤ b (1104 + 7 * i + 2) + dd) := rfl
  rw [e] at h
  simp only [decide_eq_true_eq] at h
  by_cases h1 : b (1104 + 7 * i) = k
  · refine br_t h1 ?_
    by_cases h2 : t < b (1104 + 7 * i + 1) - dd
    · refine br_t h2 ?_
      rw [if_neg (fun z => absurd z.2.1 (Int32.not_le.mpr h2))] at h
      exact h
    · refine br_f h2 ?_
      by_cases h3 : b (1104 + 7 * i + 2) + dd < t
      · refine br_t h3 ?_
        rw [if_neg (fun z => absurd z.2.2 (Int32.not_le.mpr h3))] at h
        exact h
      · refine br_f h3 ?_
        rw [if_pos ⟨h1, Int32.not_lt.mp h2, Int32.not_lt.mp h3⟩] at h
        exact h
  · refine br_f h1 ?_
    rw [if_neg (fun z => h1 z.1)] at h
    exact h
theorem ya_cnt {o : Nat} (ho : o + 4 ≤ 3316) (c u l g : Int32) : ∃ b' : Nat → Int32, b' o = b o + c ∧ b' (o + 1) = (if b o = 0 then u else b (o + 1) + u) ∧ b' (o + 2) = (if b o = 0 then l else ro_mn l (b (o + 2))) ∧ b' (o + 3) = (if b o = 0 then g else ro_mx g (b (o + 3))) ∧ (∀ j, (j < o ∨ o + 4 ≤ j) → b' j = b j) ∧ ∀ post : SY → Prop, post (kd, dd, pp, la, sz, co, va, b', cp) → wpY_count post (kd, dd, pp, la, sz, co, va, b, cp) (nI o) c u l g := by
  by_cases z : b o = 0
  · refine ⟨upd (upd (upd (upd b (o + 2) l) (o + 3) g) (o + 1) u) o (b o + c), ?_, ?_, ?_, ?_, ?_, fun post hp => ?_⟩
    · simp (disch := omega) only [pk_us]
    · simp (disch := omega) only [pk_us, pk_un, if_pos z]
    · simp (disch := omega) only [pk_us, pk_un, if_pos z]
    · simp (disch := omega) only [pk_us, pk_un, if_pos z]
    · intro j hj
      simp (disch := omega) only [pk_un]
    · unfold wpY_count wY_count_14 wY_count_34 wY_count_44 wY_count_62 wY_count_72 wY_count_98
      dsimp only
      simp (disch := omega) only [forall_eq, vp_in_nI, nI_clamp, pk_us, pk_un, true_and, ix_a0, ix_a1, ix_a2, ix_a3, ix_a4, ix_a5, ix_a6, ix_n7, ix_m7, ix_p1104, ix_p1524, nI_add]
      exact br_t z (br_f (by decide) (br_f (by decide) (br_f (by decide) hp)))
  · by_cases a : b (o + 2) ≤ l
    · have a2 : ¬ l < b (o + 2) := Int32.not_lt.mpr a
      by_cases e : g ≤ b (o + 3)
      · have e2 : ¬ b (o + 3) < g := Int32.not_lt.mpr e
        refine ⟨upd (upd b (o + 1) (b (o + 1) + u)) o (b o + c), ?_, ?_, ?_, ?_, ?_, fun post hp => ?_⟩
        · simp (disch := omega) only [pk_us]
        · simp (disch := omega) only [pk_us, pk_un, if_neg z]
        · simp (disch := omega) only [pk_us, pk_un, if_neg z, ro_mn, if_neg a2]
        · simp (disch := omega) only [pk_us, pk_un, if_neg z, ro_mx, if_neg e2]
        · intro j hj
          simp (disch := omega) only [pk_un]
        · unfold wpY_count wY_count_14 wY_count_34 wY_count_44 wY_count_62 wY_count_72 wY_count_98
          dsimp only
          simp (disch := omega) only [forall_eq, vp_in_nI, nI_clamp, pk_us, pk_un, true_and, ix_a0, ix_a1, ix_a2, ix_a3, ix_a4, ix_a5, ix_a6, ix_n7, ix_m7, ix_p1104, ix_p1524, nI_add]
          exact br_f z (br_t trivial (br_t a (br_t trivial (br_t e (br_t trivial hp)))))
      · have e2 : b (o + 3) < g := Int32.not_le.mp e
        refine ⟨upd (upd (upd b (o + 3) g) (o + 1) (b (o + 1) + u)) o (b o + c), ?_, ?_, ?_, ?_, ?_, fun post hp => ?_⟩
        · simp (disch := omega) only [pk_us]
        · simp (disch := omega) only [pk_us, pk_un, if_neg z]
        · simp (disch := omega) only [pk_us, pk_un, if_neg z, ro_mn, if_neg a2]
        · simp (disch := omega) only [pk_us, pk_un, if_neg z, ro_mx, if_pos e2]
        · intro j hj
          simp (disch := omega) only [pk_un]
        · unfold wpY_count wY_count_14 wY_count_34 wY_count_44 wY_count_62 wY_count_72 wY_count_98
          dsimp only
          simp (disch := omega) only [forall_eq, vp_in_nI, nI_clamp, pk_us, pk_un, true_and, ix_a0, ix_a1, ix_a2, ix_a3, ix_a4, ix_a5, ix_a6, ix_n7, ix_m7, ix_p1104, ix_p1524, nI_add]
          exact br_f z (br_t trivial (br_t a (br_t trivial (br_f e (br_t trivial hp)))))
    · have a2 : l < b (o + 2) := Int32.not_le.mp a
      by_cases e : g ≤ b (o + 3)
      · have e2 : ¬ b (o + 3) < g := Int32.not_lt.mpr e
        refine ⟨upd (upd (upd b (o + 2) l) (o + 1) (b (o + 1) + u)) o (b o + c), ?_, ?_, ?_, ?_, ?_, fun post hp => ?_⟩
        · simp (disch := omega) only [pk_us]
        · simp (disch := omega) only [pk_us, pk_un, if_neg z]
        · simp (disch := omega) only [pk_us, pk_un, if_neg z, ro_mn, if_pos a2]
        · simp (disch := omega) only [pk_us, pk_un, if_neg z, ro_mx, if_neg e2]
        · intro j hj
          simp (disch := omega) only [pk_un]
        · unfold wpY_count wY_count_14 wY_count_34 wY_count_44 wY_count_62 wY_count_72 wY_count_98
          dsimp only
          simp (disch := omega) only [forall_eq, vp_in_nI, nI_clamp, pk_us, pk_un, true_and, ix_a0, ix_a1, ix_a2, ix_a3, ix_a4, ix_a5, ix_a6, ix_n7, ix_m7, ix_p1104, ix_p1524, nI_add]
          exact br_f z (br_t trivial (br_f a (br_t trivial (br_t e (br_t trivial hp)))))
      · have e2 : b (o + 3) < g := Int32.not_le.mp e
        refine ⟨upd (upd (upd (upd b (o + 2) l) (o + 3) g) (o + 1) (b (o + 1) + u)) o (b o + c), ?_, ?_, ?_, ?_, ?_, fun post hp => ?_⟩
        · simp (disch := omega) only [pk_us]
        · simp (disch := omega) only [pk_us, pk_un, if_neg z]
        · simp (disch := omega) only [pk_us, pk_un, if_neg z, ro_mn, if_pos a2]
        · simp (disch := omega) only [pk_us, pk_un, if_neg z, ro_mx, if_pos e2]
        · intro j hj
          simp (disch := omega) only [pk_un]
        · unfold wpY_count wY_count_14 wY_count_34 wY_count_44 wY_count_62 wY_count_72 wY_count_98
          dsimp only
          simp (disch := omega) only [forall_eq, vp_in_nI, nI_clamp, pk_us, pk_un, true_and, ix_a0, ix_a1, ix_a2, ix_a3, ix_a4, ix_a5, ix_a6, ix_n7, ix_m7, ix_p1104, ix_p1524, nI_add]
          exact br_f z (br_t trivial (br_f a (br_t trivial (br_f e (br_t trivial hp)))))
/-- the last session moves into session i -/
theorem ya_drop {m i : Nat} (hm : m < 60) (hi : i < m + 1) (h12 : b 12 = nI (m + 1)) : ∃ b' : Nat → Int32, b' 12 = nI m ∧ (∀ j, j < 7 → b' (1104 + 7 * i + j) = b (1104 + 7 * m + j)) ∧ (∀ j, j ≠ 12 → (j < 1104 + 7 * i ∨ 1104 + 7 * i + 7 ≤ j) → b' j = b j) ∧ ∀ post : SY → Prop, post (kd, dd, pp, la, sz, co, va, b', cp) → wpY_dropSession post (kd, dd, pp, la, sz, co, va, b, cp) (nI (1104 + 7 * i)) := by
  have key := lo_ex (ρ := SY) (σ := Nat × (Nat → Int32))
    (fun post f s => wY_dropSession_28 post (nI (1104 + 7 * i)) (nI (1104 + 7 * m)) kd dd pp la f (nI s.1) sz co va (s.2) cp)
    (fun x s => x + s.1 = 7 ∧ s.2 12 = nI m ∧ (∀ j, j < s.1 → s.2 (1104 + 7 * i + j) = b (1104 + 7 * m + j)) ∧ (∀ j, j ≠ 12 → (j < 1104 + 7 * i ∨ 1104 + 7 * i + s.1 ≤ j) → s.2 j = b j))
    (fun r => ∃ c : Nat → Int32, r = (kd, dd, pp, la, sz, co, va, c, cp) ∧ c 12 = nI m ∧ (∀ j, j < 7 → c (1104 + 7 * i + j) = b (1104 + 7 * m + j)) ∧ (∀ j, j ≠ 12 → (j < 1104 + 7 * i ∨ 1104 + 7 * i + 7 ≤ j) → c j = b j))
    (by
      rintro y ⟨x, c⟩ ⟨h1, h0, h2, h3⟩
      dsimp only at *
      by_cases hx : x = 7
      · subst hx
        refine Or.inl ⟨_, ⟨c, rfl, h0, h2, h3⟩, fun post f hp => ?_⟩
        exact br_t (nI_le (a := 7) (b := 7) (Nat.le_refl _) (by decide)) hp
      · refine Or.inr ⟨y - 1, (x + 1, upd c (1104 + 7 * i + x) (b (1104 + 7 * m + x))), by omega, ⟨by dsimp only; omega, ?_, ?_, ?_⟩, fun post f hp => ?_⟩
        · dsimp only
          rw [pk_un (by omega)]
          exact h0
        · intro j hj
          dsimp only at *
          by_cases z : j = x
          · rw [z, pk_us]
          · rw [pk_un (by omega)]
            exact h2 j (by omega)
        · intro j hj12 hj
          dsimp only at *
          rw [pk_un (by omega)]
          exact h3 j hj12 (by omega)
        · have e : c (1104 + 7 * m + x) = b (1104 + 7 * m + x) := by
            by_cases z : m = i
            · rw [z]
              exact h3 _ (by omega) (by omega)
            · exact h3 _ (by omega) (by omega)
          rw [wY_dropSession_28]
          refine br_f (nI_ge (a := x) (b := 7) (by omega) (by decide)) ?_
          simp (disch := omega) only [forall_eq, vp_in_nI, nI_clamp, pk_us, pk_un, true_and, ix_a0, ix_a1, ix_a2, ix_a3, ix_a4, ix_a5, ix_a6, ix_n7, ix_m7, ix_p1104, ix_p1524, nI_add, e]
          exact hp)
    7 (0, upd b 12 (nI m)) ⟨rfl, by dsimp only; exact pk_us, (fun j hj => absurd hj (Nat.not_lt_zero j)), fun j hj _ => by dsimp only; exact pk_un hj⟩
  obtain ⟨_, ⟨c, rfl, h0, h1, h2⟩, h3⟩ := key
  refine ⟨c, h0, h1, h2, fun post hp => ?_⟩
  unfold wpY_dropSession
  dsimp only
  refine nm_r (e' := upd b 12 (nI m)) (by rw [h12, nI_pred]) ?_
  rw [pk_us]
  exact nm_r (e' := nI (1104 + 7 * m)) (by rw [ix_m7, ix_p1104]) ⟨8, h3 post 8 (by omega) hp⟩
/-- session i and the last change places -/
theorem ya_swap {m i : Nat} (hm : m < 60) (hi : i < m + 1) (h12 : b 12 = nI (m + 1)) : ∃ b' : Nat → Int32, (∀ j, j < 7 → b' (1104 + 7 * i + j) = b (1104 + 7 * m + j) ∧ b' (1104 + 7 * m + j) = b (1104 + 7 * i + j)) ∧ (∀ j, (j < 1104 + 7 * i ∨ 1104 + 7 * i + 7 ≤ j) → (j < 1104 + 7 * m ∨ 1104 + 7 * m + 7 ≤ j) → b' j = b j) ∧ ∀ post : SY → Prop, post (kd, dd, pp, la, sz, co, va, b', cp) → wpY_swapWithLast post (kd, dd, pp, la, sz, co, va, b, cp) (nI (1104 + 7 * i)) := by
  have key := lo_ex (ρ := SY) (σ := Nat × (Nat → Int32))
    (fun post f s => wY_swapWithLast_20 post (nI (1104 + 7 * i)) (nI (1104 + 7 * m)) kd dd pp la f (nI s.1) sz co va (s.2) cp)
    (fun x s => x + s.1 = 7 ∧ (∀ j, j < s.1 → s.2 (1104 + 7 * i + j) = b (1104 + 7 * m + j) ∧ s.2 (1104 + 7 * m + j) = b (1104 + 7 * i + j)) ∧ (∀ j, (j < 1104 + 7 * i ∨ 1104 + 7 * i + s.1 ≤ j) → (j < 1104 + 7 * m ∨ 1104 + 7 * m + s.1 ≤ j) → s.2 j = b j))
    (fun r => ∃ c : Nat → Int32, r = (kd, dd, pp, la, sz, co, va, c, cp) ∧ (∀ j, j < 7 → c (1104 + 7 * i + j) = b (1104 + 7 * m + j) ∧ c (1104 + 7 * m + j) = b (1104 + 7 * i + j)) ∧ (∀ j, (j < 1104 + 7 * i ∨ 1104 + 7 * i + 7 ≤ j) → (j < 1104 + 7 * m ∨ 1104 + 7 * m + 7 ≤ j) → c j = b j))
    (by
      rintro y ⟨x, c⟩ ⟨h1, h2, h3⟩
      dsimp only at *
      by_cases hx : x = 7
      · subst hx
        refine Or.inl ⟨_, ⟨c, rfl, h2, h3⟩, fun post f hp => ?_⟩
        exact br_t (nI_le (a := 7) (b := 7) (Nat.le_refl _) (by decide)) hp
      · have ei : c (1104 + 7 * i + x) = b (1104 + 7 * i + x) := by
          by_cases z : m = i
          · rw [z] at h3
            exact h3 _ (by omega) (by omega)
          · exact h3 _ (by omega) (by omega)
        have em : c (1104 + 7 * m + x) = b (1104 + 7 * m + x) := by
          by_cases z : m = i
          · rw [z]
            exact ei
          · exact h3 _ (by omega) (by omega)
        refine Or.inr ⟨y - 1, (x + 1, upd (upd c (1104 + 7 * i + x) (b (1104 + 7 * m + x))) (1104 + 7 * m + x) (b (1104 + 7 * i + x))), by omega, ⟨by dsimp only; omega, ?_, ?_⟩, fun post f hp => ?_⟩
        · intro j hj
          dsimp only at *
          by_cases z : m = i
          · subst z
            by_cases z2 : j = x
            · subst z2
              rw [pk_us]
              exact ⟨rfl, rfl⟩
            · rw [pk_un (by omega), pk_un (by omega)]
              exact h2 j (by omega)
          · by_cases z2 : j = x
            · subst z2
              rw [pk_un (by omega), pk_us, pk_us]
              exact ⟨rfl, rfl⟩
            · rw [pk_un (by omega), pk_un (by omega), pk_un (by omega), pk_un (by omega)]
              exact h2 j (by omega)
        · intro j hj hj2
          dsimp only at *
          rw [pk_un (by omega), pk_un (by omega)]
          exact h3 j (by omega) (by omega)
        · rw [wY_swapWithLast_20]
          refine br_f (nI_ge (a := x) (b := 7) (by omega) (by decide)) ?_
          simp (disch := omega) only [forall_eq, vp_in_nI, nI_clamp, pk_us, pk_un, true_and, ix_a0, ix_a1, ix_a2, ix_a3, ix_a4, ix_a5, ix_a6, ix_n7, ix_m7, ix_p1104, ix_p1524, nI_add, ei, em]
          exact hp)
    7 (0, b) ⟨rfl, (fun j hj => absurd hj (Nat.not_lt_zero j)), fun _ _ _ => rfl⟩
  obtain ⟨_, ⟨c, rfl, h1, h2⟩, h3⟩ := key
  refine ⟨c, h1, h2, fun post hp => ?_⟩
  unfold wpY_swapWithLast
  dsimp only
  exact nm_r (e' := nI (1104 + 7 * m)) (by rw [h12, ix_m7, ix_p1104, ix_s7 (by omega)]; exact congrArg nI (by omega)) ⟨8, h3 post 8 (by omega) hp⟩
end
end
section
/-! the reference reads into sessions -/
section
variable {kd dd pp la : Int32} {sz co va b cp : Nat → Int32}
theorem ys_raw {d : Int32} {c : Nat → Int32} {i : Nat} (hd : 0 ≤ d.toInt) (hd8 : d.toInt ≤ 8) (h : ss_ok d (ys_r d c i)) : 0 ≤ (c (1104 + 7 * i + 2)).toInt ∧ (c (1104 + 7 * i + 2)).toInt ≤ 80 := by
  unfold ss_ok ys_r at h
  dsimp only at h
  have e : c (1104 + 7 * i + 2) = c (1104 + 7 * i + 2) + d - d := (Int32.add_sub_cancel _ _).symm
  have e2 : (c (1104 + 7 * i + 2) + d - d).toInt = (c (1104 + 7 * i + 2) + d).toInt - d.toInt := ii_sub (by omega) (by omega)
  rw [e, e2]
  omega
theorem yj_m {m i : Nat} {t k : Int32} (hi : i < m + 1) (hm : m + 1 < 60) (h12 : b 12 = nI (m + 2)) (hne : ¬ b (1104 + 7 * (m + 1) + 3) = 0) (hd : 0 ≤ dd.toInt) (hd8 : dd.toInt ≤ 8) (hr1 : 0 ≤ (b (1104 + 7 * i + 2)).toInt ∧ (b (1104 + 7 * i + 2)).toInt ≤ 80) (hr2 : 0 ≤ (b (1104 + 7 * (m + 1) + 2)).toInt ∧ (b (1104 + 7 * (m + 1) + 2)).toInt ≤ 80) :
    ∃ b' : Nat → Int32, b' 12 = nI (m + 1) ∧ ys_r dd b' m = ro_mg (ys_r dd b (m + 1)) (ys_r dd b i) ∧ (∀ j, j < m → j ≠ i → ys_r dd b' j = ys_r dd b j) ∧ (i < m → ys_r dd b' i = ys_r dd b m) ∧ (∀ j, j ≠ 12 → (j < 1104 ∨ 1524 ≤ j) → b' j = b j) ∧
      ∀ (post : SY → Prop) (J : Int32 → Int32 → Int32 → Int32 → Int32 → (Nat → Int32) → (Nat → Int32) → (Nat → Int32) → (Nat → Int32) → (Nat → Int32) → Prop) (x3 : Int32), J (x3 + (-1)) kd dd pp la sz co va (b') cp → ∀ z0 : Int32, z0 = ro_mn (b (1104 + 7 * i + 1)) (b (1104 + 7 * (m + 1) + 1)) → wY_join_104 post J t k x3 (nI (1104 + 7 * i)) (nI (1104 + 7 * (m + 1))) z0 (nI (1104 + 7 * (m + 1) + 1)) kd dd pp la sz co va b cp := by
  obtain ⟨b3, a0, a1, a2, a3, a4, a5⟩ := ya_cnt (kd := kd) (dd := dd) (pp := pp) (la := la) (sz := sz) (co := co) (va := va) (cp := cp)
    (b := upd (upd b (1104 + 7 * (m + 1) + 1) (ro_mn (b (1104 + 7 * i + 1)) (b (1104 + 7 * (m + 1) + 1)))) (1104 + 7 * (m + 1) + 2) (ro_mx (b (1104 + 7 * i + 2)) (b (1104 + 7 * (m + 1) + 2))))
    (o := 1104 + 7 * (m + 1) + 3) (by omega) (b (1104 + 7 * i + 3)) (b (1104 + 7 * i + 4)) (b (1104 + 7 * i + 5)) (b (1104 + 7 * i + 6))
  have n1 : ∀ j, j ≠ 1104 + 7 * (m + 1) + 1 → j ≠ 1104 + 7 * (m + 1) + 2 → upd (upd b (1104 + 7 * (m + 1) + 1) (ro_mn (b (1104 + 7 * i + 1)) (b (1104 + 7 * (m + 1) + 1)))) (1104 + 7 * (m + 1) + 2) (ro_mx (b (1104 + 7 * i + 2)) (b (1104 + 7 * (m + 1) + 2))) j = b j := by
    intro j h1 h2
    rw [pk_un h2, pk_un h1]
  rw [n1 _ (by omega) (by omega)] at a0 a1 a2 a3
  rw [if_neg hne, n1 _ (by omega) (by omega)] at a1 a2 a3
  have f3 : ∀ j, (j < 1104 + 7 * (m + 1) ∨ 1104 + 7 * (m + 1) + 7 ≤ j) → b3 j = b j := by
    intro j hj
    rw [a4 j (by omega), n1 j (by omega) (by omega)]
  obtain ⟨b4, c0, c1, c2, c3⟩ := ya_drop (kd := kd) (dd := dd) (pp := pp) (la := la) (sz := sz) (co := co) (va := va) (cp := cp) (b := b3) (m := m + 1) (i := i) hm (by omega) (by rw [f3 12 (by omega)]; exact h12)
  obtain ⟨b5, d1, d2, d3⟩ := ya_swap (kd := kd) (dd := dd) (pp := pp) (la := la) (sz := sz) (co := co) (va := va) (cp := cp) (b := b4) (m := m) (i := i) (by omega) hi c0
  refine ⟨b5, ?_, ?_, ?_, ?_, ?_, ?_⟩
  · rw [d2 12 (by omega) (by omega)]
    exact c0
  · have e1 : ys_r dd b5 m = ys_r dd b3 (m + 1) := ys_cg (fun j hj => by rw [(d1 j hj).2, c1 j hj])
    rw [e1]
    unfold ys_r ro_mg ro_st ro_ad
    dsimp only
    rw [a0, show 1104 + 7 * (m + 1) + 4 = 1104 + 7 * (m + 1) + 3 + 1 from rfl, a1, show 1104 + 7 * (m + 1) + 5 = 1104 + 7 * (m + 1) + 3 + 2 from rfl, a2, show 1104 + 7 * (m + 1) + 6 = 1104 + 7 * (m + 1) + 3 + 3 from rfl, a3, a4 _ (by omega), a4 (1104 + 7 * (m + 1) + 1) (by omega), a4 (1104 + 7 * (m + 1) + 2) (by omega)]
    simp (disch := omega) only [pk_us, pk_un]
    rw [ro_mxd (by omega) (by omega) (by omega) (by omega) (by omega) (by omega)]
  · intro j hj hne2
    refine ys_cg (fun x hx => ?_)
    rw [d2 _ (by omega) (by omega), c2 _ (by omega) (by omega), f3 _ (by omega)]
  · intro him
    refine ys_cg (fun x hx => ?_)
    rw [(d1 x hx).1, c2 _ (by omega) (by omega), f3 _ (by omega)]
  · intro j hj hj2
    rw [d2 _ (by omega) (by omega), c2 _ hj (by omega), f3 _ (by omega)]
  · intro post J x3 hJ z0 hz
    subst hz
    have fin : wY_join_155 post J t k x3 (nI (1104 + 7 * i)) (nI (1104 + 7 * (m + 1))) (ro_mx (b (1104 + 7 * i + 2)) (b (1104 + 7 * (m + 1) + 2))) (nI (1104 + 7 * (m + 1) + 2)) kd dd pp la sz co va (upd b (1104 + 7 * (m + 1) + 1) (ro_mn (b (1104 + 7 * i + 1)) (b (1104 + 7 * (m + 1) + 1)))) cp := by
      unfold wY_join_155
      simp (disch := omega) only [forall_eq, vp_in_nI, nI_clamp, pk_us, pk_un, true_and, ix_a0, ix_a1, ix_a2, ix_a3, ix_a4, ix_a5, ix_a6, ix_n7, ix_m7, ix_p1104, ix_p1524, nI_add]
      refine a5 _ ?_
      dsimp only
      refine c3 _ ?_
      dsimp only
      refine d3 _ ?_
      dsimp only
      exact hJ
    unfold wY_join_104
    simp (disch := omega) only [forall_eq, vp_in_nI, nI_clamp, pk_us, pk_un, true_and, ix_a0, ix_a1, ix_a2, ix_a3, ix_a4, ix_a5, ix_a6, ix_n7, ix_m7, ix_p1104, ix_p1524, nI_add]
    by_cases a : b (1104 + 7 * i + 2) ≤ b (1104 + 7 * (m + 1) + 2)
    · have e : ro_mx (b (1104 + 7 * i + 2)) (b (1104 + 7 * (m + 1) + 2)) = b (1104 + 7 * (m + 1) + 2) := if_neg (Int32.not_lt.mpr a)
      rw [e] at fin
      exact br_t a fin
    · have e : ro_mx (b (1104 + 7 * i + 2)) (b (1104 + 7 * (m + 1) + 2)) = b (1104 + 7 * i + 2) := if_pos (Int32.not_le.mp a)
      rw [e] at fin
      exact br_f a fin
theorem ys_jn {n : Nat} {k t v : Int32} (hk0 : 0 ≤ k.toInt) (hk3 : k.toInt ≤ 3) (hn : n < 60) (hd : 0 ≤ dd.toInt) (hd8 : dd.toInt ≤ 8) (ht : 0 ≤ t.toInt) (ht2 : t.toInt ≤ 63) (h12 : b 12 = nI (n + 1)) (hev : ys_r dd b n = ro_nw k t (t + dd) v) (hok : ∀ r, r ∈ ys_L dd b n → ss_ok dd r) (hcn : ∀ r, r ∈ ys_L dd b n → 0 < ro_cn r) (hcs : ro_cs (ys_L dd b n) < 900) :
    ∃ (b' : Nat → Int32) (m : Nat), m ≤ n ∧ b' 12 = nI (m + 1) ∧ jy_I k t dd (ys_L dd b n) (ro_nw k t (t + dd) v) 0 m (ys_r dd b') ∧ (∀ j, j ≠ 12 → (j < 1104 ∨ 1524 ≤ j) → b' j = b j) ∧ ∀ post : SY → Prop, post (kd, dd, pp, la, sz, co, va, b', cp) → wpY_join post (kd, dd, pp, la, sz, co, va, b, cp) t k := by
  have key := lo_ex (ρ := SY) (σ := Nat × Nat × (Nat → Int32))
    (fun post f s => wY_join_10 post t k f (nI s.1 - 1) kd dd pp la sz co va (s.2.2) cp)
    (fun x s => x = s.1 ∧ s.2.1 ≤ n ∧ s.2.2 12 = nI (s.2.1 + 1) ∧ jy_I k t dd (ys_L dd b n) (ro_nw k t (t + dd) v) s.1 s.2.1 (ys_r dd s.2.2) ∧ (∀ j, j ≠ 12 → (j < 1104 ∨ 1524 ≤ j) → s.2.2 j = b j))
    (fun r => ∃ (b' : Nat → Int32) (m : Nat), r = (kd, dd, pp, la, sz, co, va, b', cp) ∧ m ≤ n ∧ b' 12 = nI (m + 1) ∧ jy_I k t dd (ys_L dd b n) (ro_nw k t (t + dd) v) 0 m (ys_r dd b') ∧ (∀ j, j ≠ 12 → (j < 1104 ∨ 1524 ≤ j) → b' j = b j))
    (by
      rintro x ⟨p, m, c⟩ ⟨h1, h2, h3, h4, h5⟩
      dsimp only at *
      cases p with
      | zero =>
        refine Or.inl ⟨_, ⟨c, m, rfl, h2, h3, h4, h5⟩, fun post f hp => ?_⟩
        rw [wY_join_10]
        exact br_t (by decide) hp
      | succ i =>
        have hjm : i + 1 ≤ m := h4.choose_spec.1
        have e3 : nI (i + 1) - 1 = nI i := nI_pred i
        have hmem : ∀ j, j < m → ys_r dd c j ∈ ys_L dd b n := by
          obtain ⟨M, _, q2, _⟩ := h4
          intro j hj
          exact q2.mem_iff.mpr (List.mem_append.mpr (Or.inr (li_mem.mpr ⟨j, hj, rfl⟩)))
        cases hu : ss_tc k t dd (ys_r dd c i) with
        | false =>
          refine Or.inr ⟨x - 1, (i, m, c), by omega, ⟨by dsimp only; omega, h2, h3, jy_n h4 hu, h5⟩, fun post f hp => ?_⟩
          rw [e3, wY_join_10]
          refine br_f (nI_pos (by omega)) ?_
          rw [h3]
          simp (disch := omega) only [forall_eq, vp_in_nI, nI_clamp, pk_us, pk_un, true_and, ix_a0, ix_a1, ix_a2, ix_a3, ix_a4, ix_a5, ix_a6, ix_n7, ix_m7, ix_p1104, ix_p1524, nI_add]
          refine ya_tc (by omega) ?_
          rw [hu]
          refine br_t rfl ?_
          dsimp only at hp
          rw [show nI i + -1 = nI i - 1 from (Int32.sub_eq_add_neg _ _).symm]
          exact hp
        | true =>
          obtain ⟨m', rfl⟩ : ∃ r, m = r + 1 := ⟨m - 1, by omega⟩
          have hok2 : ss_ok dd (ys_r dd c (m' + 1)) ∧ 0 < ro_cn (ys_r dd c (m' + 1)) := by
            obtain ⟨M, _, q2, q3, _⟩ := h4
            have hM : ∀ r, r ∈ M → r ∈ ys_L dd b n := fun r hr => q2.mem_iff.mpr (List.mem_append.mpr (Or.inl hr))
            rw [q3]
            refine ⟨ss_f3 dd M _ (ss_ev hk0 hk3 hd hd8 ht ht2) (fun r hr => hok r (hM r hr)), ?_⟩
            have hcM : ro_cs M ≤ ro_cs (ys_L dd b n) := by
              rw [ro_cs_p q2, ro_cs_a]
              omega
            rw [ss_f5 M _ (by rw [ro_cn_1]; omega) (fun r hr => hcn r (hM r hr)) (by rw [ro_cn_1]; omega), ro_cn_1]
            omega
          have hne : ¬ c (1104 + 7 * (m' + 1) + 3) = 0 := by
            intro z
            have := hok2.2
            have e0 : ro_cn (ys_r dd c (m' + 1)) = (c (1104 + 7 * (m' + 1) + 3)).toNatClampNeg := rfl
            rw [e0, z] at this
            exact absurd this (by decide)
          obtain ⟨b', a1, a2, a3, a4, a5, a6⟩ := yj_m (kd := kd) (dd := dd) (pp := pp) (la := la) (sz := sz) (co := co) (va := va) (cp := cp) (b := c) (m := m') (i := i) (t := t) (k := k) (by omega) (by omega) h3 hne hd hd8 (ys_raw hd hd8 (hok _ (hmem i (by omega)))) (ys_raw hd hd8 hok2.1)
          refine Or.inr ⟨x - 1, (i, m', b'), by omega, ⟨by dsimp only; omega, by dsimp only; omega, a1, jy_t h4 hu a2 a3 a4, fun j hj hj2 => (a5 j hj hj2).trans (h5 j hj hj2)⟩, fun post f hp => ?_⟩
          have hq : ∀ z0 : Int32, z0 = ro_mn (c (1104 + 7 * i + 1)) (c (1104 + 7 * (m' + 1) + 1)) → wY_join_104 post (wY_join_10 post t k f) t k (nI i) (nI (1104 + 7 * i)) (nI (1104 + 7 * (m' + 1))) z0 (nI (1104 + 7 * (m' + 1) + 1)) kd dd pp la sz co va (c) cp := by
            refine a6 post (wY_join_10 post t k f) (nI i) ?_
            dsimp only at hp
            rw [show nI i + (-1) = nI i - 1 from (Int32.sub_eq_add_neg _ _).symm]
            exact hp
          have e5 : 1104 + 7 * nI (m' + 1 + 1) - 7 = nI (1104 + 7 * (m' + 1)) := by
            rw [ix_m7, ix_p1104, ix_s7 (by omega)]
            exact congrArg nI (by omega)
          rw [e3, wY_join_10]
          refine br_f (nI_pos (by omega)) ?_
          rw [h3, e5]
          simp (disch := omega) only [forall_eq, vp_in_nI, nI_clamp, pk_us, pk_un, true_and, ix_a0, ix_a1, ix_a2, ix_a3, ix_a4, ix_a5, ix_a6, ix_n7, ix_m7, ix_p1104, ix_p1524, nI_add]
          refine ya_tc (by omega) ?_
          rw [hu]
          refine br_f (by decide) ?_
          by_cases a : c (1104 + 7 * (m' + 1) + 1) ≤ c (1104 + 7 * i + 1)
          · exact br_t a (hq _ (if_neg (Int32.not_lt.mpr a)).symm)
          · exact br_f a (hq _ (if_pos (Int32.not_le.mp a)).symm))
    n (n, n, b) ⟨rfl, Nat.le_refl _, h12, by dsimp only; rw [← hev]; exact jy_0, fun _ _ _ => rfl⟩
  obtain ⟨_, ⟨b', m, rfl, h1, h2, h3, h4⟩, h5⟩ := key
  refine ⟨b', m, h1, h2, h3, h4, fun post hp => ?_⟩
  unfold wpY_join
  dsimp only
  have e : b 12 - 2 = nI n - 1 := by
    rw [h12, ← nI_1]
    generalize nI n = x
    grind
  exact nm_r e ⟨n + 1, h5 post (n + 1) (by omega) hp⟩
theorem ys_all {n : Nat} {k t v : Int32} (hk0 : 0 ≤ k.toInt) (hk3 : k.toInt ≤ 3) (hn : n < 60) (hd : 0 ≤ dd.toInt) (hd8 : dd.toInt ≤ 8) (ht : 0 ≤ t.toInt) (ht2 : t.toInt ≤ 63) (h12 : b 12 = nI n) (hok : ∀ r, r ∈ ys_L dd b n → ss_ok dd r) (hcn : ∀ r, r ∈ ys_L dd b n → 0 < ro_cn r) (hcs : ro_cs (ys_L dd b n) < 900) :
    ∃ (b' : Nat → Int32) (n' : Nat), b' 12 = nI n' ∧ (ys_L dd b' n').Perm (ss_L (ys_L dd b n) (b 9) dd k t v) ∧ b' 10 = (if ss_lt (ys_L dd b n) (b 9) dd k t then b 10 + 1 else b 10) ∧ (∀ j, j ≠ 10 → j ≠ 12 → (j < 1104 ∨ 1524 ≤ j) → b' j = b j) ∧ ∀ post : SY → Prop, post (kd, dd, pp, la, sz, co, va, b', cp) → wpY_readIntoSessions post (kd, dd, pp, la, sz, co, va, b, cp) t k v := by
  -- the making of the new session, and the join if any is touched
  have mk1 : ((ys_L dd b n).any (ss_tc k t dd) = true ∨ ¬ t + dd ≤ b 9) → ∃ (b' : Nat → Int32) (n' : Nat), b' 12 = nI n' ∧ (ys_L dd b' n').Perm (ss_L (ys_L dd b n) (b 9) dd k t v) ∧ b' 10 = (if ss_lt (ys_L dd b n) (b 9) dd k t then b 10 + 1 else b 10) ∧ (∀ j, j ≠ 10 → j ≠ 12 → (j < 1104 ∨ 1524 ≤ j) → b' j = b j) ∧ ∀ post : SY → Prop, post (kd, dd, pp, la, sz, co, va, b', cp) → wY_readIntoSessions_87 post t k v (if (ys_L dd b n).any (ss_tc k t dd) = true then 1 else 0) kd dd pp la sz co va b cp := by
    intro hor
    obtain ⟨b1, a0, a1, a2, a3, a4, a5⟩ := ya_cnt (kd := kd) (dd := dd) (pp := pp) (la := la) (sz := sz) (co := co) (va := va) (cp := cp)
      (b := upd (upd (upd (upd b (1104 + 7 * n) k) (1104 + 7 * n + 1) t) (1104 + 7 * n + 2) t) (1104 + 7 * n + 3) 0)
      (o := 1104 + 7 * n + 3) (by omega) 1 v v v
    simp (disch := omega) only [pk_us, pk_un, if_true] at a0 a1 a2 a3
    have f1 : ∀ j, (j < 1104 + 7 * n ∨ 1104 + 7 * n + 7 ≤ j) → b1 j = b j := by
      intro j hj
      rw [a4 j (by omega)]
      simp (disch := omega) only [pk_un]
    have hrow : ys_r dd (upd b1 12 (nI (n + 1))) n = ro_nw k t (t + dd) v := by
      unfold ys_r ro_nw
      rw [pk_un (by omega), pk_un (by omega), pk_un (by omega), pk_un (by omega), pk_un (by omega), pk_un (by omega), pk_un (by omega), a0, show 1104 + 7 * n + 4 = 1104 + 7 * n + 3 + 1 from rfl, a1, show 1104 + 7 * n + 5 = 1104 + 7 * n + 3 + 2 from rfl, a2, show 1104 + 7 * n + 6 = 1104 + 7 * n + 3 + 3 from rfl, a3, a4 _ (by omega), a4 (1104 + 7 * n + 1) (by omega), a4 (1104 + 7 * n + 2) (by omega)]
      simp (disch := omega) only [pk_us, pk_un]
      rfl
    have hL : ys_L dd (upd b1 12 (nI (n + 1))) n = ys_L dd b n := by
      refine li_cg (fun i hi => ys_cg (fun j hj => ?_))
      rw [pk_un (by omega), f1 _ (by omega)]
    have hw : ∀ (post : SY → Prop) (x4 : Int32), (((x4 = 0 → post (kd, dd, pp, la, sz, co, va, upd b1 12 (nI (n + 1)), cp)) ∧ (¬ x4 = 0 → wpY_join (fun u => post u) (kd, dd, pp, la, sz, co, va, upd b1 12 (nI (n + 1)), cp) t k))) → wY_readIntoSessions_87 post t k v x4 kd dd pp la sz co va b cp := by
      intro post x4 hp
      unfold wY_readIntoSessions_87
      rw [h12]
      simp (disch := omega) only [forall_eq, vp_in_nI, nI_clamp, pk_us, pk_un, true_and, ix_a0, ix_a1, ix_a2, ix_a3, ix_a4, ix_a5, ix_a6, ix_n7, ix_m7, ix_p1104, ix_p1524, nI_add]
      refine a5 _ ?_
      dsimp only
      rw [f1 12 (by omega), h12, nI_1]
      exact hp
    by_cases ha : (ys_L dd b n).any (ss_tc k t dd) = true
    · obtain ⟨b', m, q1, q2, q3, q4, q5⟩ := ys_jn (kd := kd) (dd := dd) (pp := pp) (la := la) (sz := sz) (co := co) (va := va) (cp := cp) (b := upd b1 12 (nI (n + 1))) (n := n) (k := k) (t := t) (v := v) hk0 hk3 hn hd hd8 ht ht2 pk_us hrow (by rw [hL]; exact hok) (by rw [hL]; exact hcn) (by rw [hL]; exact hcs)
      rw [hL] at q3
      obtain ⟨w1, w2⟩ := jy_e (m0 := b 9) q3 ha
      refine ⟨b', m + 1, q2, w1, ?_, ?_, fun post hp => ?_⟩
      · rw [if_neg w2, q4 10 (by omega) (by omega), pk_un (by omega), f1 10 (by omega)]
      · intro j h1 h2 h3
        rw [q4 j h2 h3, pk_un h2, f1 j (by omega)]
      · rw [if_pos ha]
        exact hw post 1 (br_f (by decide) (q5 _ hp))
    · have hm : ¬ t + dd ≤ b 9 := by
        rcases hor with h | h
        · exact absurd h ha
        · exact h
      refine ⟨upd b1 12 (nI (n + 1)), n + 1, pk_us, ?_, ?_, ?_, fun post hp => ?_⟩
      · unfold ss_L
        rw [if_neg ha, if_neg hm]
        unfold ys_L
        rw [li_s, hrow]
        unfold ys_L at hL
        rw [hL]
        exact List.perm_append_singleton _ _
      · rw [if_neg (fun z => hm z.2), pk_un (by omega), f1 10 (by omega)]
      · intro j h1 h2 h3
        rw [pk_un h2, f1 j (by omega)]
      · rw [if_neg ha]
        exact hw post 0 (br_t rfl hp)
  have key := lo_ex (ρ := SY) (σ := Nat)
    (fun post f i => wY_readIntoSessions_6 post t k v kd dd pp la sz co va b cp f (if (ys_L dd b i).any (ss_tc k t dd) = true then 1 else 0) (nI i))
    (fun m i => m + i = n)
    (fun r => ∃ (b' : Nat → Int32) (n' : Nat), r = (kd, dd, pp, la, sz, co, va, b', cp) ∧ b' 12 = nI n' ∧ (ys_L dd b' n').Perm (ss_L (ys_L dd b n) (b 9) dd k t v) ∧ b' 10 = (if ss_lt (ys_L dd b n) (b 9) dd k t then b 10 + 1 else b 10) ∧ (∀ j, j ≠ 10 → j ≠ 12 → (j < 1104 ∨ 1524 ≤ j) → b' j = b j))
    (by
      rintro m i h1
      by_cases hi : i = n
      · subst hi
        left
        by_cases ha : (ys_L dd b i).any (ss_tc k t dd) = true
        · obtain ⟨b', n', q1, q2, q3, q4, q5⟩ := mk1 (Or.inl ha)
          refine ⟨_, ⟨b', n', rfl, q1, q2, q3, q4⟩, fun post f hp => ?_⟩
          have h5 := q5 post hp
          rw [wY_readIntoSessions_6, h12]
          refine br_t (nI_le (Nat.le_refl _) (by omega)) ?_
          rw [if_pos ha] at h5 ⊢
          exact br_f (by decide) h5
        · by_cases hm : b 9 < t + dd
          · obtain ⟨b', n', q1, q2, q3, q4, q5⟩ := mk1 (Or.inr (Int32.not_le.mpr hm))
            refine ⟨_, ⟨b', n', rfl, q1, q2, q3, q4⟩, fun post f hp => ?_⟩
            have h5 := q5 post hp
            rw [wY_readIntoSessions_6, h12]
            refine br_t (nI_le (Nat.le_refl _) (by omega)) ?_
            rw [if_neg ha] at h5 ⊢
            exact br_t rfl (br_t hm h5)
          · have hlt : ss_lt (ys_L dd b i) (b 9) dd k t := ⟨Bool.eq_false_iff.mpr ha, Int32.not_lt.mp hm⟩
            refine ⟨_, ⟨upd b 10 (b 10 + 1), i, rfl, ?_, ?_, ?_, ?_⟩, fun post f hp => ?_⟩
            · rw [pk_un (by omega)]
              exact h12
            · rw [ys_Lc (by omega) (fun j h3 h4 => pk_un (by omega))]
              unfold ss_L
              rw [if_neg ha, if_pos (Int32.not_lt.mp hm)]
            · rw [if_pos hlt, pk_us]
            · intro j h3 h4 _
              exact pk_un h3
            · rw [wY_readIntoSessions_6, h12]
              refine br_t (nI_le (Nat.le_refl _) (by omega)) ?_
              rw [if_neg ha]
              exact br_t rfl (br_f hm (nm_e hp))
      · have hlt : i < n := by omega
        have es : (ys_L dd b (i + 1)).any (ss_tc k t dd) = ((ys_L dd b i).any (ss_tc k t dd) || ss_tc k t dd (ys_r dd b i)) := by
          unfold ys_L
          rw [li_s, List.any_append, List.any_cons, List.any_nil, Bool.or_false]
        refine Or.inr ⟨m - 1, i + 1, by omega, by omega, fun post f hp => ?_⟩
        rw [es] at hp
        rw [wY_readIntoSessions_6, h12]
        refine br_f (nI_ge hlt (by omega)) ?_
        by_cases ha : (ys_L dd b i).any (ss_tc k t dd) = true
        · rw [ha, Bool.true_or, if_pos rfl] at hp
          rw [if_pos ha]
          exact br_f (by decide) (nm_r (nI_1 i) hp)
        · rw [Bool.eq_false_iff.mpr ha, Bool.false_or] at hp
          rw [if_neg ha]
          refine br_t rfl ?_
          rw [ix_m7, ix_p1104]
          refine ya_tc (by omega) ?_
          cases hu : ss_tc k t dd (ys_r dd b i) with
          | false =>
            rw [hu] at hp
            exact br_t rfl (nm_r (nI_1 i) hp)
          | true =>
            rw [hu] at hp
            exact br_f (by decide) (nm_r (nI_1 i) hp))
    n 0 (by omega)
  obtain ⟨_, ⟨b', n', rfl, h1, h2, h3, h4⟩, h5⟩ := key
  exact ⟨b', n', h1, h2, h3, h4, fun post hp => ⟨n + 1, h5 post (n + 1) (by omega) hp⟩⟩
end
end
section
/-! the reference reads into windows, looks at the mark -/
section
variable {kd dd pp la : Int32} {sz co va b cp : Nat → Int32}
theorem wy_wa {k w : Nat} (hk : k < 4) : 16 + (4 * (((68 * nI k) + (nI w - 4)) + 4)) = nI (wy_a (4 * w + k)) := by
  have e : ((68 * nI k) + (nI w - 4)) + 4 = nI (68 * k + w) := by
    rw [ix_m68, ← nI_add]
    generalize nI (68 * k) = x
    generalize nI w = y
    grind
  rw [e, ix_m4, ix_p16, wy_k hk]
theorem wy_n1 (w : Nat) : nI w - 4 + 1 = nI (w + 1) - 4 := by
  rw [← nI_1]
  generalize nI w = y
  grind
theorem wy_ni {w : Nat} (hw : w ≤ 68) : (nI w - 4).toInt = (w : Int) - 4 := by
  have e4 : (4 : Int32).toInt = 4 := by decide
  have e : (nI w).toInt = (w : Int) := nI_toInt (by omega)
  rw [ii_sub (by omega) (by omega), e, e4]
theorem wy_64 {w : Nat} (hw : w < 68) : ¬ (64 : Int32) ≤ nI w - 4 := by
  have e : (64 : Int32).toInt = 64 := by decide
  rw [ii_le, wy_ni (by omega)]
  omega
theorem wy_68 : (64 : Int32) ≤ nI 68 - 4 := by decide
theorem wy_s4 {d : Int32} {w k : Nat} (hk : k < 4) : wy_s d (4 * w + k) = (nI w - 4) * d := by
  unfold wy_s
  rw [show (4 * w + k) / 4 = w from by omega]
theorem wy_wn {d p : Int32} {c c' : Nat → Int32} {q : Nat} (hq : q < 272) (h0 : ∀ j, j < 272 → 0 ≤ c (wy_a j)) (hb : ro_cs (wy_L d p c 272) < 900) (e0 : c' (wy_a q) = c (wy_a q) + 1) (ho : ∀ j, (j < wy_a q ∨ wy_a q + 4 ≤ j) → c' j = c j) : ∀ j, j < 272 → 0 ≤ c' (wy_a j) := by
  intro j hj
  by_cases z : j = q
  · subst z
    rw [e0]
    by_cases y : c (wy_a j) = 0
    · rw [y]
      decide
    · have hpos : 0 < c (wy_a j) := by
        have h3 := ii_le.mp (h0 j hj)
        rw [ii_lt]
        have : ¬ (c (wy_a j)).toInt = (0 : Int32).toInt := fun x => y (ii_eq.mpr x)
        omega
      have hm : wy_r d p c j ∈ wy_L d p c 272 := by
        refine List.mem_flatMap.mpr ⟨j, List.mem_range.mpr hj, ?_⟩
        unfold wy_o
        rw [if_pos hpos]
        exact List.mem_singleton.mpr rfl
      have hc := ro_cn_le hm
      have hpos2 : 0 < c (wy_a j) + 1 := by
        refine ro_cn_pos.mp ?_
        rw [ro_cn_add (ro_cn_pos.mpr hpos) (by decide) (by show ro_cn (wy_r d p c j) + 1 ≤ 1000; omega)]
        exact Nat.succ_pos _
      exact Int32.le_of_lt hpos2
  · rw [ho _ (by have := wy_ne hq hj z; omega)]
    exact h0 j hj
theorem yw_all {dn W kk tn : Nat} {v : Int32} (hd1 : 1 ≤ dn) (hd8 : dn ≤ 8) (hW1 : 1 ≤ W) (hW : W ≤ 4) (hk : kk < 4) (ht : tn ≤ 63) (h0 : ∀ q, q < 272 → 0 ≤ b (wy_a q)) (hb : ro_cs (wy_L (nI dn) (nI dn * nI W) b 272) ≤ 240) :
    ∃ b' : Nat → Int32, (wy_L (nI dn) (nI dn * nI W) b' 272).Perm (zl_L (nI dn) (nI dn * nI W) (b 9) v (tn / dn) W kk (wy_L (nI dn) (nI dn * nI W) b 272) W) ∧ (∀ q, q < 272 → 0 ≤ b' (wy_a q)) ∧ b' 10 = (if zl_c (nI dn) (nI dn * nI W) (b 9) (tn / dn) W kk W = 0 then b 10 + 1 else b 10) ∧ (∀ j, j ≠ 10 → (j < 16 ∨ 1104 ≤ j) → b' j = b j) ∧ ∀ post : SY → Prop, post (kd, nI dn, nI dn * nI W, la, sz, co, va, b', cp) → wpY_readIntoWindows post (kd, nI dn, nI dn * nI W, la, sz, co, va, b, cp) (nI tn) (nI kk) v := by
  have hdi : (nI dn).toInt = (dn : Int) := nI_toInt (by omega)
  have hq0 : (0 : Int) ≤ (tn : Int) / (dn : Int) := Int.natCast_nonneg (tn / dn)
  have hz := fun j (hj : j ≤ 4) => zl_i (d := nI dn) (p := nI dn * nI W) (m := b 9) (v := v) (a := tn / dn) (W := W) (k := kk) (wy_ds (d := nI dn) (p := nI dn * nI W) (by omega) (by omega) b) wy_cp (by omega) j hj
  have key := lo_ex (ρ := SY) (σ := Nat × Nat × (Nat → Int32))
    (fun post f s => wY_readIntoWindows_7 post (nI tn) (nI kk) v f (zl_c (nI dn) (nI dn * nI W) (b 9) (tn / dn) W kk s.2.1) (nI s.1 - 4) kd (nI dn) (nI dn * nI W) la sz co va (s.2.2) cp)
    (fun x s => x + s.1 = 68 ∧ s.2.1 ≤ W ∧ (s.1 + W ≤ tn / dn + 5 → s.2.1 = 0) ∧ (tn / dn + 5 ≤ s.1 + W → s.1 ≤ tn / dn + 5 → s.2.1 + (tn / dn + 5) = s.1 + W) ∧ (tn / dn + 5 ≤ s.1 → s.2.1 = W) ∧ (wy_L (nI dn) (nI dn * nI W) s.2.2 272).Perm (zl_L (nI dn) (nI dn * nI W) (b 9) v (tn / dn) W kk (wy_L (nI dn) (nI dn * nI W) b 272) s.2.1) ∧ (∀ q, q < 272 → 0 ≤ s.2.2 (wy_a q)) ∧ (∀ j, (j < 16 ∨ 1104 ≤ j) → s.2.2 j = b j))
    (fun r => ∃ b' : Nat → Int32, r = (kd, nI dn, nI dn * nI W, la, sz, co, va, b', cp) ∧ (wy_L (nI dn) (nI dn * nI W) b' 272).Perm (zl_L (nI dn) (nI dn * nI W) (b 9) v (tn / dn) W kk (wy_L (nI dn) (nI dn * nI W) b 272) W) ∧ (∀ q, q < 272 → 0 ≤ b' (wy_a q)) ∧ b' 10 = (if zl_c (nI dn) (nI dn * nI W) (b 9) (tn / dn) W kk W = 0 then b 10 + 1 else b 10) ∧ (∀ j, j ≠ 10 → (j < 16 ∨ 1104 ≤ j) → b' j = b j))
    (by
      rintro x ⟨w, j, c⟩ ⟨h1, h2, h3, h4, h5, h6, h7, h8⟩
      dsimp only at *
      have hq : tn / dn ≤ 63 := Nat.le_trans (Nat.div_le_self _ _) ht
      by_cases hw : w = 68
      · subst hw
        have hj : j = W := h5 (by omega)
        subst hj
        left
        by_cases z : zl_c (nI dn) (nI dn * nI j) (b 9) (tn / dn) j kk j = 0
        · refine ⟨_, ⟨upd c 10 (c 10 + 1), rfl, ?_, ?_, ?_, ?_⟩, fun post f hp => ?_⟩
          · rw [wy_Lc (fun x hx hx2 => pk_un (by omega))]
            exact h6
          · intro q hq2
            rw [pk_un (by have := wy_lt hq2; omega)]
            exact h7 q hq2
          · rw [if_pos z, pk_us, h8 10 (by omega)]
          · intro x hx hx2
            rw [pk_un hx]
            exact h8 x hx2
          · rw [wY_readIntoWindows_7]
            exact br_t wy_68 (br_t z (nm_e hp))
        · refine ⟨_, ⟨c, rfl, h6, h7, ?_, fun x _ hx2 => h8 x hx2⟩, fun post f hp => ?_⟩
          · rw [if_neg z, h8 10 (by omega)]
          · rw [wY_readIntoWindows_7]
            exact br_t wy_68 (br_f z hp)
      · have hwl : w < 68 := by omega
        obtain ⟨c1, c2⟩ := wy_wc (w := w) (dn := dn) (W := W) (tn := tn) hwl hd1 hd8 hW1 hW ht
        right
        by_cases a1 : w ≤ tn / dn + 4
        · have n1 : ¬ nI tn < (nI w - 4) * nI dn := Int32.not_lt.mpr (c1.mpr a1)
          by_cases a2 : tn / dn + 5 ≤ w + W
          · have n2 : ¬ (nI w - 4) * nI dn + nI dn * nI W ≤ nI tn := Int32.not_le.mpr (c2.mpr a2)
            have hj : j + (tn / dn + 5) = w + W := h4 a2 (by omega)
            have eq : zl_q (tn / dn) W kk j = 4 * w + kk := by
              unfold zl_q
              omega
            by_cases hm : (nI w - 4) * nI dn + nI dn * nI W ≤ b 9
            · have hm2 : ¬ b 9 < wy_s (nI dn) (zl_q (tn / dn) W kk j) + nI dn * nI W := by
                rw [eq, wy_s4 hk]
                exact Int32.not_lt.mpr hm
              have e1 : zl_L (nI dn) (nI dn * nI W) (b 9) v (tn / dn) W kk (wy_L (nI dn) (nI dn * nI W) b 272) (j + 1) = zl_L (nI dn) (nI dn * nI W) (b 9) v (tn / dn) W kk (wy_L (nI dn) (nI dn * nI W) b 272) j := if_neg hm2
              have e2 : zl_c (nI dn) (nI dn * nI W) (b 9) (tn / dn) W kk (j + 1) = zl_c (nI dn) (nI dn * nI W) (b 9) (tn / dn) W kk j := if_neg hm2
              refine ⟨x - 1, (w + 1, j + 1, c), by omega, ⟨by dsimp only; omega, by dsimp only; omega, by dsimp only; omega, by dsimp only; omega, by dsimp only; omega, by rw [e1]; exact h6, h7, h8⟩, fun post f hp => ?_⟩
              dsimp only at hp
              rw [e2] at hp
              rw [wY_readIntoWindows_7]
              refine br_f (wy_64 hwl) (br_f n1 ?_)
              simp only [wpY_endOf, wpY_windowAt]
              rw [h8 9 (by omega)]
              exact br_f n2 (br_t hm (nm_r (wy_n1 w) hp))
            · have hm2 : b 9 < wy_s (nI dn) (zl_q (tn / dn) W kk j) + nI dn * nI W := by
                rw [eq, wy_s4 hk]
                exact Int32.not_le.mp hm
              have e1 : zl_L (nI dn) (nI dn * nI W) (b 9) v (tn / dn) W kk (wy_L (nI dn) (nI dn * nI W) b 272) (j + 1) = ro_ws (zl_L (nI dn) (nI dn * nI W) (b 9) v (tn / dn) W kk (wy_L (nI dn) (nI dn * nI W) b 272) j) (nI kk) (wy_s (nI dn) (zl_q (tn / dn) W kk j)) (wy_s (nI dn) (zl_q (tn / dn) W kk j) + nI dn * nI W) v := if_pos hm2
              have e2 : zl_c (nI dn) (nI dn * nI W) (b 9) (tn / dn) W kk (j + 1) = 1 := if_pos hm2
              have hq2 : 4 * w + kk < 272 := by omega
              have hcs : ro_cs (wy_L (nI dn) (nI dn * nI W) c 272) < 900 := by
                rw [ro_cs_p h6]
                have := (hz j (by omega)).2.2.1
                omega
              obtain ⟨b', q0, q1, q2, q3, q4, q5⟩ := ya_cnt (kd := kd) (dd := nI dn) (pp := nI dn * nI W) (la := la) (sz := sz) (co := co) (va := va) (cp := cp) (b := c) (o := wy_a (4 * w + kk)) (by have := wy_lt hq2; omega) 1 v v v
              have hp2 := wy_ws (d := nI dn) (p := nI dn * nI W) (v := v) (by omega) (by omega) hq2 (h7 _ hq2) (by omega) q0 q1 q2 q3 q4
              refine ⟨x - 1, (w + 1, j + 1, b'), by omega, ⟨by dsimp only; omega, by dsimp only; omega, by dsimp only; omega, by dsimp only; omega, by dsimp only; omega, ?_, wy_wn hq2 h7 hcs q0 q4, ?_⟩, fun post f hp => ?_⟩
              · dsimp only
                rw [e1, eq]
                rw [show (4 * w + kk) % 4 = kk from by omega] at hp2
                exact hp2.trans (ws_p h6 _ _ _ _)
              · intro y hy
                dsimp only
                rw [q4 y (by have := wy_lt hq2; omega)]
                exact h8 y hy
              · dsimp only at hp
                rw [e2] at hp
                rw [wY_readIntoWindows_7]
                refine br_f (wy_64 hwl) (br_f n1 ?_)
                simp only [wpY_endOf, wpY_windowAt]
                rw [h8 9 (by omega), wy_wa hk]
                refine br_f n2 (br_f hm (q5 _ ?_))
                dsimp only
                exact nm_r (wy_n1 w) hp
          · have n2 : (nI w - 4) * nI dn + nI dn * nI W ≤ nI tn := Int32.not_lt.mp (fun z => a2 (c2.mp z))
            refine ⟨x - 1, (w + 1, j, c), by omega, ⟨by dsimp only; omega, by dsimp only; omega, by dsimp only; omega, by dsimp only; omega, by dsimp only; omega, h6, h7, h8⟩, fun post f hp => ?_⟩
            rw [wY_readIntoWindows_7]
            refine br_f (wy_64 hwl) (br_f n1 ?_)
            simp only [wpY_endOf, wpY_windowAt]
            exact br_t n2 (nm_r (wy_n1 w) hp)
        · have n1 : nI tn < (nI w - 4) * nI dn := Int32.not_le.mp (fun z => a1 (c1.mp z))
          refine ⟨x - 1, (w + 1, j, c), by omega, ⟨by dsimp only; omega, by dsimp only; omega, by dsimp only; omega, by dsimp only; omega, by dsimp only; omega, h6, h7, h8⟩, fun post f hp => ?_⟩
          rw [wY_readIntoWindows_7]
          exact br_f (wy_64 hwl) (br_t n1 (nm_r (wy_n1 w) hp)))
    68 (0, 0, b) ⟨rfl, by dsimp only; omega, by dsimp only; omega, by dsimp only; omega, by dsimp only; omega, List.Perm.refl _, h0, fun _ _ => rfl⟩
  obtain ⟨_, ⟨b', rfl, h1, h2, h3, h4⟩, h5⟩ := key
  exact ⟨b', h1, h2, h3, h4, fun post hp => ⟨69, h5 post 69 (by omega) hp⟩⟩
theorem ym_all (own idl : Nat → Int32) (ho : ∀ s, s < 3 → own s = mk_ow la (b (6 + s))) (hi : ∀ s, s < 3 → idl s = b (3 + s)) : ∃ b' : Nat → Int32, b' 9 = mk_nw (b 9) (mk_le own idl 3) ∧ (∀ j, j ≠ 9 → b' j = b j) ∧ ∀ post : SY → Prop, post (kd, dd, pp, la, sz, co, va, b', cp) → wpY_lookAtMark post (kd, dd, pp, la, sz, co, va, b, cp) := by
  have key := lo_ex (ρ := SY) (σ := Nat)
    (fun post f s => wY_lookAtMark_5 post kd dd pp la sz co va b cp f (mk_le own idl s) (nI s))
    (fun m s => m + s = 3)
    (fun r => ∃ b' : Nat → Int32, r = (kd, dd, pp, la, sz, co, va, b', cp) ∧ b' 9 = mk_nw (b 9) (mk_le own idl 3) ∧ (∀ j, j ≠ 9 → b' j = b j))
    (by
      rintro m s h1
      by_cases hs : s = 3
      · subst hs
        left
        by_cases z : mk_le own idl 3 < 100000 ∧ b 9 < mk_le own idl 3
        · refine ⟨_, ⟨upd b 9 (mk_le own idl 3), rfl, ?_, fun j hj => pk_un hj⟩, fun post f hp => ?_⟩
          · rw [pk_us]
            exact (if_pos z).symm
          · rw [wY_lookAtMark_5]
            exact br_t (nI_le (a := 3) (b := 3) (Nat.le_refl _) (by decide)) (br_f (Int32.not_le.mpr z.1) (br_f (Int32.not_le.mpr z.2) (nm_e hp)))
        · refine ⟨_, ⟨b, rfl, (if_neg z).symm, fun j hj => rfl⟩, fun post f hp => ?_⟩
          rw [wY_lookAtMark_5]
          refine br_t (nI_le (a := 3) (b := 3) (Nat.le_refl _) (by decide)) ?_
          by_cases y : (100000 : Int32) ≤ mk_le own idl 3
          · exact br_t y hp
          · exact br_f y (br_t (Int32.not_lt.mp (fun x => z ⟨Int32.not_le.mp y, x⟩)) hp)
      · have hlt : s < 3 := by omega
        refine Or.inr ⟨m - 1, s + 1, by omega, by omega, fun post f hp => ?_⟩
        have st : ∀ z0 : Int32, z0 = own s → wY_lookAtMark_42 post (wY_lookAtMark_5 post kd dd pp la sz co va b cp f) (mk_le own idl s) (nI s) z0 kd dd pp la sz co va b cp := by
          intro z0 hz
          subst hz
          have e : mk_le own idl (s + 1) = if idl s = 0 ∧ own s < mk_le own idl s then own s else mk_le own idl s := rfl
          rw [e, hi s hlt] at hp
          unfold wY_lookAtMark_42
          simp (disch := omega) only [forall_eq, vp_in_nI, nI_clamp, pk_us, pk_un, true_and, ix_a0, ix_a1, ix_a2, ix_a3, ix_a4, ix_a5, ix_a6, ix_n7, ix_m7, ix_p1104, ix_p1524, nI_add, ix_p3]
          by_cases y : b (3 + s) = 0
          · refine br_t y ?_
            by_cases x : own s < mk_le own idl s
            · rw [if_pos ⟨y, x⟩] at hp
              exact br_f (Int32.not_le.mpr x) hp
            · rw [if_neg (fun w => x w.2)] at hp
              exact br_t (Int32.not_lt.mp x) hp
          · rw [if_neg (fun w => y w.1)] at hp
            exact br_f y hp
        rw [wY_lookAtMark_5]
        refine br_f (nI_ge (a := s) (b := 3) hlt (by decide)) ?_
        simp (disch := omega) only [forall_eq, vp_in_nI, nI_clamp, pk_us, pk_un, true_and, ix_a0, ix_a1, ix_a2, ix_a3, ix_a4, ix_a5, ix_a6, ix_n7, ix_m7, ix_p1104, ix_p1524, nI_add, ix_p6]
        by_cases y : 0 ≤ b (6 + s)
        · refine br_t y (st _ ?_)
          rw [ho s hlt]
          exact (if_neg (Int32.not_lt.mpr y)).symm
        · refine br_f y (st _ ?_)
          rw [ho s hlt]
          exact (if_pos (Int32.not_le.mp y)).symm)
    3 0 (by omega)
  obtain ⟨_, ⟨b', rfl, h1, h2⟩, h5⟩ := key
  exact ⟨b', h1, h2, fun post hp => ⟨4, h5 post 4 (by omega) hp⟩⟩
end
end
section
/-! the reference closes -/
section
variable {kd dd pp la : Int32} {sz co va b cp : Nat → Int32}
theorem ya_add {r o : Nat} (hr : r < 240) (ho : o + 4 ≤ 1524) (h11 : b 11 = nI r) (p0 p1 p2 : Int32) : ∃ b' : Nat → Int32, yr_r b' r = (p0, p1, p2, b o, b (o + 1), b (o + 2), b (o + 3)) ∧ b' 11 = nI (r + 1) ∧ (∀ j, j ≠ 11 → (j < 1524 + 7 * r ∨ 1524 + 7 * r + 7 ≤ j) → b' j = b j) ∧ ∀ post : SY → Prop, post (kd, dd, pp, la, sz, co, va, b', cp) → wpY_add post (kd, dd, pp, la, sz, co, va, b, cp) p0 p1 p2 (nI o) := by
  have key := lo_ex (ρ := SY) (σ := Nat × (Nat → Int32))
    (fun post f s => wY_add_47 post (nI o) (nI (1524 + 7 * r)) kd dd pp la f (nI s.1) sz co va (s.2) cp)
    (fun x s => x + s.1 = 4 ∧ s.2 (1524 + 7 * r) = p0 ∧ s.2 (1524 + 7 * r + 1) = p1 ∧ s.2 (1524 + 7 * r + 2) = p2 ∧ (∀ j, j < s.1 → s.2 (1524 + 7 * r + 3 + j) = b (o + j)) ∧ (∀ j, (j < 1524 + 7 * r ∨ 1524 + 7 * r + 7 ≤ j) → s.2 j = b j))
    (fun u => ∃ c : Nat → Int32, u = (kd, dd, pp, la, sz, co, va, upd c 11 (nI (r + 1)), cp) ∧ c (1524 + 7 * r) = p0 ∧ c (1524 + 7 * r + 1) = p1 ∧ c (1524 + 7 * r + 2) = p2 ∧ (∀ j, j < 4 → c (1524 + 7 * r + 3 + j) = b (o + j)) ∧ (∀ j, (j < 1524 + 7 * r ∨ 1524 + 7 * r + 7 ≤ j) → c j = b j))
    (by
      rintro y ⟨x, c⟩ ⟨h1, h2, h3, h4, h5, h6⟩
      dsimp only at *
      by_cases hx : x = 4
      · subst hx
        refine Or.inl ⟨_, ⟨c, rfl, h2, h3, h4, h5, h6⟩, fun post f hp => ?_⟩
        rw [wY_add_47]
        refine br_t (nI_le (a := 4) (b := 4) (Nat.le_refl _) (by decide)) ?_
        refine nm_r (e' := upd c 11 (nI (r + 1))) ?_ hp
        rw [h6 11 (by omega), h11, nI_1]
      · refine Or.inr ⟨y - 1, (x + 1, upd c (1524 + 7 * r + 3 + x) (b (o + x))), by omega, ⟨by dsimp only; omega, ?_, ?_, ?_, ?_, ?_⟩, fun post f hp => ?_⟩
        · dsimp only
          rw [pk_un (by omega)]
          exact h2
        · dsimp only
          rw [pk_un (by omega)]
          exact h3
        · dsimp only
          rw [pk_un (by omega)]
          exact h4
        · intro j hj
          dsimp only at *
          by_cases z : j = x
          · rw [z, pk_us]
          · rw [pk_un (by omega)]
            exact h5 j (by omega)
        · intro j hj
          dsimp only
          rw [pk_un (by omega)]
          exact h6 j hj
        · rw [wY_add_47]
          refine br_f (nI_ge (a := x) (b := 4) (by omega) (by decide)) ?_
          simp (disch := omega) only [forall_eq, vp_in_nI, nI_clamp, pk_us, pk_un, true_and, ix_a0, ix_a1, ix_a2, ix_a3, ix_a4, ix_a5, ix_a6, ix_n7, ix_m7, ix_p1104, ix_p1524, nI_add, h6 (o + x) (by omega)]
          exact hp)
    4 (0, upd (upd (upd b (1524 + 7 * r) p0) (1524 + 7 * r + 1) p1) (1524 + 7 * r + 2) p2) ⟨rfl, by simp (disch := omega) only [pk_us, pk_un], by simp (disch := omega) only [pk_us, pk_un], by simp (disch := omega) only [pk_us, pk_un], (fun j hj => absurd hj (Nat.not_lt_zero j)), fun j hj => by simp (disch := omega) only [pk_un]⟩
  obtain ⟨_, ⟨c, rfl, h0, h1, h2, h3, h4⟩, h5⟩ := key
  refine ⟨upd c 11 (nI (r + 1)), ?_, pk_us, ?_, fun post hp => ?_⟩
  · unfold yr_r ro_at
    simp (disch := omega) only [pk_un]
    rw [h0, h1, h2, show c (1524 + 7 * r + 3) = b o from h3 0 (by omega), show c (1524 + 7 * r + 4) = b (o + 1) from h3 1 (by omega), show c (1524 + 7 * r + 5) = b (o + 2) from h3 2 (by omega), show c (1524 + 7 * r + 6) = b (o + 3) from h3 3 (by omega)]
  · intro j hj hj2
    rw [pk_un hj]
    exact h4 j hj2
  · unfold wpY_add
    dsimp only
    rw [h11]
    simp (disch := omega) only [forall_eq, vp_in_nI, nI_clamp, pk_us, pk_un, true_and, ix_a0, ix_a1, ix_a2, ix_a3, ix_a4, ix_a5, ix_a6, ix_n7, ix_m7, ix_p1104, ix_p1524, nI_add]
    exact ⟨5, h5 post 5 (by omega) hp⟩
theorem yr_c {c c' : Nat → Int32} {n : Nat} (h : ∀ j, 1524 ≤ j → j < 1524 + 7 * n → c' j = c j) : yr_L c' n = yr_L c n :=
  li_cg (fun i hi => ro_at_cg (fun j h1 h2 => h j (by omega) (by omega)))
theorem wy_len (d p : Int32) (c : Nat → Int32) (n k : Nat) : (wy_L d p c n).length ≤ (wy_L d p c (n + k)).length := by
  induction k with
  | zero => exact Nat.le_refl _
  | succ k ih =>
    rw [← Nat.add_assoc, wy_Ls, List.length_append]
    omega
/-- the closing of windows up to q -/
def yc_I (d p : Int32) (b : Nat → Int32) (r q : Nat) (c : Nat → Int32) : Prop :=
  wy_C d p (b 9) b c q ∧ c 11 = nI (r + ((wy_L d p b q).filter (cl_du (b 9))).length) ∧ yr_L c (r + ((wy_L d p b q).filter (cl_du (b 9))).length) = yr_L b r ++ (wy_L d p b q).filter (cl_du (b 9)) ∧ (∀ j, j ≠ 11 → (j < 16 ∨ (1104 ≤ j ∧ j < 1524)) → c j = b j)
theorem yc_skip {d p : Int32} {c : Nat → Int32} {r q : Nat} (hq : q < 272) (h : yc_I d p b r q c) (hn : (wy_o d p b q).filter (cl_du (b 9)) = []) (hn2 : (wy_o d p b q).filter (fun r => !cl_du (b 9) r) = wy_o d p b q) : yc_I d p b r (q + 1) c := by
  obtain ⟨⟨a1, a2, a3⟩, a4, a5, a6⟩ := h
  have e : (wy_L d p b (q + 1)).filter (cl_du (b 9)) = (wy_L d p b q).filter (cl_du (b 9)) := by
    rw [wy_Ls, List.filter_append, hn, List.append_nil]
  refine ⟨⟨fun j hj => ?_, fun j hj => a2 j (by omega), a3⟩, ?_, ?_, a6⟩
  · by_cases z : j = q
    · rw [z, hn2]
      exact wy_cg (fun i hi => a2 q (Nat.le_refl _) hq i hi)
    · exact a1 j (by omega)
  · rw [e]; exact a4
  · rw [e]; exact a5
theorem yc_inner {dn W w r : Nat} (hw : w < 68) (hd1 : 1 ≤ dn) (hd8 : dn ≤ 8) (hr : r + (wy_L (nI dn) (nI dn * nI W) b 272).length ≤ 240) {c : Nat → Int32} (h : yc_I (nI dn) (nI dn * nI W) b r (4 * w) c) :
    ∃ c' : Nat → Int32, yc_I (nI dn) (nI dn * nI W) b r (4 * (w + 1)) c' ∧ ∀ (P : SY → Prop) (J : Int32 → Int32 → Int32 → Int32 → Int32 → (Nat → Int32) → (Nat → Int32) → (Nat → Int32) → (Nat → Int32) → (Nat → Int32) → Prop) (n : Nat), 4 < n → J (nI (w + 1) - 4) kd (nI dn) (nI dn * nI W) la sz co va (c') cp → wY_closeWindows_11 P J (nI w - 4) n 0 kd (nI dn) (nI dn * nI W) la sz co va (c) cp := by
  have key := lo_ex (ρ := Nat → Int32) (σ := Nat × (Nat → Int32))
    (fun post n s => ∀ (P : SY → Prop) (J : Int32 → Int32 → Int32 → Int32 → Int32 → (Nat → Int32) → (Nat → Int32) → (Nat → Int32) → (Nat → Int32) → (Nat → Int32) → Prop), (∀ c' : Nat → Int32, post c' → J (nI (w + 1) - 4) kd (nI dn) (nI dn * nI W) la sz co va (c') cp) → wY_closeWindows_11 P J (nI w - 4) n (nI s.1) kd (nI dn) (nI dn * nI W) la sz co va (s.2) cp)
    (fun x s => x + s.1 = 4 ∧ yc_I (nI dn) (nI dn * nI W) b r (4 * w + s.1) s.2)
    (fun c' => yc_I (nI dn) (nI dn * nI W) b r (4 * (w + 1)) c')
    (by
      rintro x ⟨k, c⟩ ⟨h1, h2⟩
      dsimp only at *
      by_cases hk : k = 4
      · subst hk
        refine Or.inl ⟨c, h2, fun post n hp P J hJ => ?_⟩
        rw [wY_closeWindows_11]
        exact br_t (nI_le (a := 4) (b := 4) (Nat.le_refl _) (by decide)) (nm_r (wy_n1 w) (hJ c hp))
      · have hk4 : k < 4 := by omega
        have hq : 4 * w + k < 272 := by omega
        have hne : ¬ (4 : Int32) ≤ nI k := nI_ge (a := k) (b := 4) hk4 (by decide)
        have hal := wy_lt hq
        have es : (nI w - 4) * nI dn = wy_s (nI dn) (4 * w + k) := (wy_s4 hk4).symm
        have h2' := h2
        obtain ⟨⟨a1, a2, a3⟩, a4, a5, a6⟩ := h2'
        have e9 : c 9 = b 9 := a6 9 (by omega) (by omega)
        have hcell : ∀ i, i < 4 → c (wy_a (4 * w + k) + i) = b (wy_a (4 * w + k) + i) := a2 _ (Nat.le_refl _) hq
        have hc0 : c (wy_a (4 * w + k)) = b (wy_a (4 * w + k)) := hcell 0 (by omega)
        right
        by_cases hdu : b 9 < wy_s (nI dn) (4 * w + k) + nI dn * nI W
        · have hfl : ∀ y, y ∈ wy_o (nI dn) (nI dn * nI W) b (4 * w + k) → cl_du (b 9) y = false := by
            intro y hy
            rw [(wy_om hy).2]
            exact decide_eq_false (Int32.not_le.mpr hdu)
          refine ⟨x - 1, (k + 1, c), by omega, ⟨by dsimp only; omega, yc_skip hq h2 (cl_fil hfl).1 (cl_fil hfl).2⟩, fun post n hp P J hJ => ?_⟩
          rw [wY_closeWindows_11]
          refine br_f hne ?_
          simp only [wpY_endOf, wpY_windowAt]
          rw [wy_wa hk4, es, e9]
          exact br_t hdu (nm_r (nI_1 k) (hp P J hJ))
        · by_cases hpos : c (wy_a (4 * w + k)) ≤ 0
          · have hemp : wy_o (nI dn) (nI dn * nI W) b (4 * w + k) = [] := by
              unfold wy_o
              rw [← hc0]
              exact if_neg (Int32.not_lt.mpr hpos)
            refine ⟨x - 1, (k + 1, c), by omega, ⟨by dsimp only; omega, yc_skip (q := 4 * w + k) hq h2 (by rw [hemp]; rfl) (by rw [hemp]; rfl)⟩, fun post n hp P J hJ => ?_⟩
            rw [wY_closeWindows_11]
            refine br_f hne ?_
            simp only [wpY_endOf, wpY_windowAt]
            rw [wy_wa hk4, es, e9]
            refine br_f hdu ⟨vp_in_nI (by omega) (by omega), ?_⟩
            rw [nI_clamp (by omega)]
            exact br_t hpos (nm_r (nI_1 k) (hp P J hJ))
          · have hone : wy_o (nI dn) (nI dn * nI W) b (4 * w + k) = [wy_r (nI dn) (nI dn * nI W) b (4 * w + k)] := by
              unfold wy_o
              rw [← hc0]
              exact if_pos (Int32.not_le.mp hpos)
            have hdt : cl_du (b 9) (wy_r (nI dn) (nI dn * nI W) b (4 * w + k)) = true := decide_eq_true (Int32.not_lt.mp hdu)
            have eL : (wy_L (nI dn) (nI dn * nI W) b (4 * w + k + 1)).filter (cl_du (b 9)) = (wy_L (nI dn) (nI dn * nI W) b (4 * w + k)).filter (cl_du (b 9)) ++ [wy_r (nI dn) (nI dn * nI W) b (4 * w + k)] := by
              rw [wy_Ls, List.filter_append, hone, List.filter_cons_of_pos hdt, List.filter_nil]
            have hlen : r + ((wy_L (nI dn) (nI dn * nI W) b (4 * w + k)).filter (cl_du (b 9))).length < 240 := by
              have l1 := wy_len (nI dn) (nI dn * nI W) b (4 * w + k + 1) (272 - (4 * w + k + 1))
              rw [show 4 * w + k + 1 + (272 - (4 * w + k + 1)) = 272 from by omega] at l1
              have l2 := List.length_filter_le (cl_du (b 9)) (wy_L (nI dn) (nI dn * nI W) b (4 * w + k + 1))
              rw [eL, List.length_append, List.length_singleton] at l2
              omega
            obtain ⟨b4, q1, q2, q3, q4⟩ := ya_add (kd := kd) (dd := nI dn) (pp := nI dn * nI W) (la := la) (sz := sz) (co := co) (va := va) (cp := cp) (b := c) (o := wy_a (4 * w + k)) hlen (by omega) a4 (nI k) (wy_s (nI dn) (4 * w + k)) (wy_s (nI dn) (4 * w + k) + nI dn * nI W)
            generalize hD : (wy_L (nI dn) (nI dn * nI W) b (4 * w + k)).filter (cl_du (b 9)) = D at *
            have hrow : yr_r b4 (r + D.length) = wy_r (nI dn) (nI dn * nI W) b (4 * w + k) := by
              rw [q1, hc0, hcell 1 (by omega), hcell 2 (by omega), hcell 3 (by omega)]
              unfold wy_r
              rw [show (4 * w + k) % 4 = k from by omega]
            refine ⟨x - 1, (k + 1, upd b4 (wy_a (4 * w + k)) 0), by omega, ⟨by dsimp only; omega, ⟨⟨?_, ?_, ?_⟩, ?_, ?_, ?_⟩⟩, fun post n hp P J hJ => ?_⟩
            · intro j hj
              dsimp only at hj ⊢
              by_cases z : j = 4 * w + k
              · subst z
                rw [hone, List.filter_cons_of_neg (by rw [hdt]; exact Bool.false_ne_true), List.filter_nil]
                unfold wy_o
                rw [pk_us]
                exact if_neg (by decide)
              · rw [← a1 j (by omega)]
                refine wy_cg (fun i hi => ?_)
                have hj2 := wy_lt (q := j) (by omega)
                have hj3 := wy_ne hq (by omega) z
                rw [pk_un (by omega), q3 _ (by omega) (by omega)]
            · intro j hj hj2 i hi
              dsimp only at hj ⊢
              have hj3 := wy_lt hj2
              have hj4 := wy_ne hq hj2 (by omega)
              rw [pk_un (by omega), q3 _ (by omega) (by omega)]
              exact a2 j (by omega) hj2 i hi
            · intro j hj
              dsimp only
              by_cases z : j = 4 * w + k
              · rw [z, pk_us]
                exact Int32.le_refl _
              · have hj3 := wy_lt hj
                have hj4 := wy_ne hq hj z
                rw [pk_un (by omega), q3 _ (by omega) (by omega)]
                exact a3 j hj
            · dsimp only
              rw [show 4 * w + (k + 1) = 4 * w + k + 1 from rfl, eL, List.length_append, List.length_singleton, pk_un (by omega)]
              exact q2
            · dsimp only
              rw [show 4 * w + (k + 1) = 4 * w + k + 1 from rfl, eL, List.length_append, List.length_singleton]
              rw [yr_c (fun j hj hj2 => pk_un (by omega)), ← Nat.add_assoc]
              have e5 : yr_L b4 (r + D.length + 1) = yr_L b4 (r + D.length) ++ [yr_r b4 (r + D.length)] := li_s _ _
              rw [e5, hrow, yr_c (c := c) (fun j hj hj2 => q3 j (by omega) (by omega)), a5, List.append_assoc]
            · intro j hj hj2
              dsimp only
              rw [pk_un (by omega), q3 j hj (by omega)]
              exact a6 j hj hj2
            · rw [wY_closeWindows_11]
              refine br_f hne ?_
              simp only [wpY_endOf, wpY_windowAt]
              rw [wy_wa hk4, es, e9]
              refine br_f hdu ⟨vp_in_nI (by omega) (by omega), ?_⟩
              rw [nI_clamp (by omega)]
              refine br_f hpos (q4 _ ?_)
              dsimp only
              refine ⟨vp_in_nI (by omega) (by omega), ?_⟩
              exact nm_e (nm_r (nI_1 k) (hp P J hJ)))
    4 (0, c) ⟨rfl, h⟩
  obtain ⟨c', h1, h2⟩ := key
  exact ⟨c', h1, fun P J n hn hJ => h2 (fun x => x = c') n hn rfl P J (fun x hx => by rw [hx]; exact hJ)⟩
theorem yc_win {dn W r : Nat} (hd1 : 1 ≤ dn) (hd8 : dn ≤ 8) (hW1 : 1 ≤ W) (hW : W ≤ 4) (h0 : ∀ q, q < 272 → 0 ≤ b (wy_a q)) (hr : r + (wy_L (nI dn) (nI dn * nI W) b 272).length ≤ 240) (h11 : b 11 = nI r) :
    ∃ (b' : Nat → Int32) (D : List ro_T), cl_R (b 9) (wy_L (nI dn) (nI dn * nI W) b 272) D (wy_L (nI dn) (nI dn * nI W) b' 272) ∧ (∀ q, q < 272 → 0 ≤ b' (wy_a q)) ∧ b' 11 = nI (r + D.length) ∧ yr_L b' (r + D.length) = yr_L b r ++ D ∧ (∀ j, j ≠ 11 → (j < 16 ∨ (1104 ≤ j ∧ j < 1524)) → b' j = b j) ∧ ∀ post : SY → Prop, post (kd, nI dn, nI dn * nI W, la, sz, co, va, b', cp) → wpY_closeWindows post (kd, nI dn, nI dn * nI W, la, sz, co, va, b, cp) := by
  have hdi : (nI dn).toInt = (dn : Int) := nI_toInt (by omega)
  have hWm : dn * W ≤ 8 * 4 := Nat.mul_le_mul hd8 hW
  have hWp : 1 * 1 ≤ dn * W := Nat.mul_le_mul hd1 hW1
  have hpi : (nI dn * nI W).toInt = ((dn * W : Nat) : Int) := by
    rw [pk_mul, nI_toInt (by omega)]
  have key := lo_ex (ρ := SY) (σ := Nat × (Nat → Int32))
    (fun post f s => wY_closeWindows_3 post f (nI s.1 - 4) kd (nI dn) (nI dn * nI W) la sz co va (s.2) cp)
    (fun x s => x + s.1 = 68 ∧ yc_I (nI dn) (nI dn * nI W) b r (4 * s.1) s.2)
    (fun u => ∃ b' : Nat → Int32, u = (kd, nI dn, nI dn * nI W, la, sz, co, va, b', cp) ∧ yc_I (nI dn) (nI dn * nI W) b r 272 b')
    (by
      rintro x ⟨w, c⟩ ⟨h1, h2⟩
      dsimp only at *
      by_cases hw : w = 68
      · subst hw
        refine Or.inl ⟨_, ⟨c, rfl, h2⟩, fun post f hp => ?_⟩
        rw [wY_closeWindows_3]
        exact br_t wy_68 hp
      · obtain ⟨c', q1, q2⟩ := yc_inner (kd := kd) (la := la) (sz := sz) (co := co) (va := va) (cp := cp) (w := w) (by omega) hd1 hd8 hr h2
        refine Or.inr ⟨x - 1, (w + 1, c'), by omega, ⟨by dsimp only; omega, q1⟩, fun post f hp => ?_⟩
        rw [wY_closeWindows_3]
        exact br_f (wy_64 (by omega)) ⟨5, q2 post (wY_closeWindows_3 post f) 5 (by omega) hp⟩)
    68 (0, b) ⟨rfl, ⟨⟨fun j hj => absurd hj (Nat.not_lt_zero j), fun _ _ _ _ _ => rfl, h0⟩, h11, (List.append_nil _).symm, fun _ _ _ => rfl⟩⟩
  obtain ⟨_, ⟨b', rfl, h1⟩, h5⟩ := key
  refine ⟨b', (wy_L (nI dn) (nI dn * nI W) b 272).filter (cl_du (b 9)), wy_Ce (by omega) (by omega) (by omega) (by omega) h1.1, h1.1.2.2, h1.2.1, h1.2.2.1, h1.2.2.2, fun post hp => ?_⟩
  exact ⟨69, h5 post 69 (by omega) hp⟩
end
end
section
/-! the reference closes sessions -/
section
variable {kd dd pp la : Int32} {sz co va b cp : Nat → Int32}
def yc_en (e : Option Nat) : Int32 := match e with
  | none => -1
  | some x => nI (1104 + 7 * x)
def yc_fl (e : Option Nat) : Int32 := match e with
  | none => 0
  | some _ => 1
theorem yc_bf {post : Int32 → Prop} {i j : Nat} (hd : 0 ≤ dd.toInt) (hd8 : dd.toInt ≤ 8) (hi : i < 60) (hj : j < 60) (ri : 0 ≤ (b (1104 + 7 * i + 2)).toInt ∧ (b (1104 + 7 * i + 2)).toInt ≤ 80) (rj : 0 ≤ (b (1104 + 7 * j + 2)).toInt ∧ (b (1104 + 7 * j + 2)).toInt ≤ 80) (h1 : cl_bf (ys_r dd b i) (ys_r dd b j) → post 1) (h0 : ¬ cl_bf (ys_r dd b i) (ys_r dd b j) → post 0) : wpY_isBefore post (kd, dd, pp, la, sz, co, va, b, cp) (nI (1104 + 7 * i)) (nI (1104 + 7 * j)) := by
  unfold wpY_isBefore
  dsimp only
  simp (disch := omega) only [forall_eq, vp_in_nI, nI_clamp, pk_us, pk_un, true_and, ix_a0, ix_a1, ix_a2, ix_a3, ix_a4, ix_a5, ix_a6, ix_n7, ix_m7, ix_p1104, ix_p1524, nI_add]
  have e : cl_bf (ys_r dd b i) (ys_r dd b j) ↔ (b (1104 + 7 * i + 2) + dd < b (1104 + 7 * j + 2) + dd ∨ (b (1104 + 7 * i + 2) + dd = b (1104 + 7 * j + 2) + dd ∧ (b (1104 + 7 * i) < b (1104 + 7 * j) ∨ (b (1104 + 7 * i) = b (1104 + 7 * j) ∧ b (1104 + 7 * i + 1) < b (1104 + 7 * j + 1))))) := Iff.rfl
  have ei : (b (1104 + 7 * i + 2) + dd).toInt = (b (1104 + 7 * i + 2)).toInt + dd.toInt := ii_add (by omega) (by omega)
  have ej : (b (1104 + 7 * j + 2) + dd).toInt = (b (1104 + 7 * j + 2)).toInt + dd.toInt := ii_add (by omega) (by omega)
  rw [e] at h1 h0
  by_cases a : b (1104 + 7 * i + 2) = b (1104 + 7 * j + 2)
  · refine br_t a ?_
    by_cases c : b (1104 + 7 * i) = b (1104 + 7 * j)
    · refine br_t c ?_
      by_cases d : b (1104 + 7 * j + 1) ≤ b (1104 + 7 * i + 1)
      · refine br_t d (h0 (fun z => ?_))
        simp only [ii_lt, ii_le, ii_eq] at *
        omega
      · refine br_f d (h1 ?_)
        simp only [ii_lt, ii_le, ii_eq] at *
        omega
    · refine br_f c ?_
      by_cases d : b (1104 + 7 * j) ≤ b (1104 + 7 * i)
      · refine br_t d (h0 (fun z => ?_))
        simp only [ii_lt, ii_le, ii_eq] at *
        omega
      · refine br_f d (h1 ?_)
        simp only [ii_lt, ii_le, ii_eq] at *
        omega
  · refine br_f a ?_
    by_cases d : b (1104 + 7 * j + 2) ≤ b (1104 + 7 * i + 2)
    · refine br_t d (h0 (fun z => ?_))
      simp only [ii_lt, ii_le, ii_eq] at *
      omega
    · refine br_f d (h1 ?_)
      simp only [ii_lt, ii_le, ii_eq] at *
      omega
theorem yc_fd {n : Nat} (hd : 0 ≤ dd.toInt) (hd8 : dd.toInt ≤ 8) (hn : n ≤ 60) (h12 : b 12 = nI n) (hok : ∀ i, i < n → ss_ok dd (ys_r dd b i)) :
    ∃ e : Option Nat, fd_I (b 9) (ys_r dd b) n e ∧ ∀ (P : SY → Prop) (J : Int32 → Int32 → Int32 → Int32 → Int32 → (Nat → Int32) → (Nat → Int32) → (Nat → Int32) → (Nat → Int32) → (Nat → Int32) → Prop), wY_closeSessions_87 P J (yc_en e) (yc_fl e) kd dd pp la sz co va b cp → ∃ f, wY_closeSessions_10 P J kd dd pp la sz co va b cp f (-1) 0 := by
  have key := lo_ex (ρ := Option Nat) (σ := Option Nat × Nat)
    (fun post f s => ∀ (P : SY → Prop) (J : Int32 → Int32 → Int32 → Int32 → Int32 → (Nat → Int32) → (Nat → Int32) → (Nat → Int32) → (Nat → Int32) → (Nat → Int32) → Prop), (∀ e, post e → wY_closeSessions_87 P J (yc_en e) (yc_fl e) kd dd pp la sz co va b cp) → wY_closeSessions_10 P J kd dd pp la sz co va b cp f (yc_en s.1) (nI s.2))
    (fun m s => m + s.2 = n ∧ fd_I (b 9) (ys_r dd b) s.2 s.1)
    (fun e => fd_I (b 9) (ys_r dd b) n e)
    (by
      rintro m ⟨e, i⟩ ⟨h1, h2⟩
      dsimp only at *
      by_cases hi : i = n
      · subst hi
        refine Or.inl ⟨e, h2, fun post f hp P J hJ => ?_⟩
        rw [wY_closeSessions_10, h12]
        refine br_t (nI_le (Nat.le_refl _) (by omega)) ?_
        cases e with
        | none => exact br_t (by decide) (hJ none hp)
        | some x => exact br_f (nI_pos (by have := h2.1; omega)) (hJ (some x) hp)
      · have hlt : i < n := by omega
        have hne : ¬ nI n ≤ nI i := nI_ge hlt (by omega)
        right
        cases hdu : cl_du (b 9) (ys_r dd b i) with
        | false =>
          have hm : b 9 < b (1104 + 7 * i + 2) + dd := Int32.not_le.mp (of_decide_eq_false hdu)
          refine ⟨m - 1, (e, i + 1), by omega, ⟨by dsimp only; omega, fd_In h2 hdu⟩, fun post f hp P J hJ => ?_⟩
          rw [wY_closeSessions_10, h12]
          refine br_f hne ?_
          simp (disch := omega) only [forall_eq, vp_in_nI, nI_clamp, pk_us, pk_un, true_and, ix_a0, ix_a1, ix_a2, ix_a3, ix_a4, ix_a5, ix_a6, ix_n7, ix_m7, ix_p1104, ix_p1524, nI_add]
          exact br_t hm (hp P J hJ)
        | true =>
          have hm : ¬ b 9 < b (1104 + 7 * i + 2) + dd := Int32.not_lt.mpr (of_decide_eq_true hdu)
          cases e with
          | none =>
            refine ⟨m - 1, (some i, i + 1), by omega, ⟨by dsimp only; omega, fd_I0 h2 hdu⟩, fun post f hp P J hJ => ?_⟩
            rw [wY_closeSessions_10, h12]
            refine br_f hne ?_
            simp (disch := omega) only [forall_eq, vp_in_nI, nI_clamp, pk_us, pk_un, true_and, ix_a0, ix_a1, ix_a2, ix_a3, ix_a4, ix_a5, ix_a6, ix_n7, ix_m7, ix_p1104, ix_p1524, nI_add]
            exact br_f hm (br_t (by decide) (hp P J hJ))
          | some x =>
            have hx : x < i := h2.1
            have rx := ys_raw hd hd8 (hok x (by omega))
            have ri := ys_raw hd hd8 (hok i hlt)
            by_cases hb : cl_bf (ys_r dd b i) (ys_r dd b x)
            · refine ⟨m - 1, (some i, i + 1), by omega, ⟨by dsimp only; omega, fd_I1 h2 hdu hb⟩, fun post f hp P J hJ => ?_⟩
              rw [wY_closeSessions_10, h12]
              refine br_f hne ?_
              simp (disch := omega) only [forall_eq, vp_in_nI, nI_clamp, pk_us, pk_un, true_and, ix_a0, ix_a1, ix_a2, ix_a3, ix_a4, ix_a5, ix_a6, ix_n7, ix_m7, ix_p1104, ix_p1524, nI_add]
              exact br_f hm (br_f (nI_pos (by omega)) (yc_bf hd hd8 (by omega) (by omega) ri rx (fun _ => br_f (by decide) (hp P J hJ)) (fun z => absurd hb z)))
            · refine ⟨m - 1, (some x, i + 1), by omega, ⟨by dsimp only; omega, fd_I2 h2 hb⟩, fun post f hp P J hJ => ?_⟩
              rw [wY_closeSessions_10, h12]
              refine br_f hne ?_
              simp (disch := omega) only [forall_eq, vp_in_nI, nI_clamp, pk_us, pk_un, true_and, ix_a0, ix_a1, ix_a2, ix_a3, ix_a4, ix_a5, ix_a6, ix_n7, ix_m7, ix_p1104, ix_p1524, nI_add]
              exact br_f hm (br_f (nI_pos (by omega)) (yc_bf hd hd8 (by omega) (by omega) ri rx (fun z => absurd z hb) (fun _ => br_t rfl (hp P J hJ)))))
    n (none, 0) ⟨by dsimp only; omega, lt_0⟩
  obtain ⟨e, h1, h3⟩ := key
  exact ⟨e, h1, fun P J hJ => ⟨n + 1, h3 (fun x => x = e) (n + 1) (by omega) rfl P J (fun x hx => by rw [hx]; exact hJ)⟩⟩
theorem yc_ses {n r : Nat} (hd : 0 ≤ dd.toInt) (hd8 : dd.toInt ≤ 8) (hn : n ≤ 60) (hr : r + n ≤ 240) (h12 : b 12 = nI n) (h11 : b 11 = nI r) (hok : ∀ q, q ∈ ys_L dd b n → ss_ok dd q) (hds : ro_ds (ys_L dd b n)) :
    ∃ (b' : Nat → Int32) (n' : Nat) (D : List ro_T), cl_R (b 9) (ys_L dd b n) D (ys_L dd b' n') ∧ b' 12 = nI n' ∧ b' 11 = nI (r + D.length) ∧ yr_L b' (r + D.length) = yr_L b r ++ D ∧ (∀ j, j ≠ 11 → j ≠ 12 → j < 1104 → b' j = b j) ∧ ∀ post : SY → Prop, post (kd, dd, pp, la, sz, co, va, b', cp) → wpY_closeSessions post (kd, dd, pp, la, sz, co, va, b, cp) := by
  have key := lo_ex (ρ := SY) (σ := Nat × Nat × (Nat → Int32))
    (fun post f s => wY_closeSessions_2 post f (nI s.1) kd dd pp la sz co va (s.2.2) cp)
    (fun x s => (s.1 = 1 ∧ x = s.2.1 + 1 ∨ s.1 = 0 ∧ x = 0 ∧ ∀ q, q ∈ ys_L dd s.2.2 s.2.1 → cl_du (b 9) q = false) ∧ ∃ D, cl_I (b 9) (ys_L dd b n) D (ys_L dd s.2.2 s.2.1) ∧ s.2.1 + D.length = n ∧ s.2.2 12 = nI s.2.1 ∧ s.2.2 11 = nI (r + D.length) ∧ yr_L s.2.2 (r + D.length) = yr_L b r ++ D ∧ (∀ j, j ≠ 11 → j ≠ 12 → j < 1104 → s.2.2 j = b j))
    (fun u => ∃ (b' : Nat → Int32) (n' : Nat) (D : List ro_T), u = (kd, dd, pp, la, sz, co, va, b', cp) ∧ cl_R (b 9) (ys_L dd b n) D (ys_L dd b' n') ∧ b' 12 = nI n' ∧ b' 11 = nI (r + D.length) ∧ yr_L b' (r + D.length) = yr_L b r ++ D ∧ (∀ j, j ≠ 11 → j ≠ 12 → j < 1104 → b' j = b j))
    (by
      rintro x ⟨fl, n', c⟩ ⟨h1, D, h2, h3, h4, h5, h6, h7⟩
      dsimp only at *
      rcases h1 with ⟨rfl, hx⟩ | ⟨rfl, hx, hno⟩
      · have e9 : c 9 = b 9 := h7 9 (by omega) (by omega) (by omega)
        have hmem : ∀ i, i < n' → ys_r dd c i ∈ ys_L dd b n := fun i hi => h2.1.mem_iff.mp (List.mem_append.mpr (Or.inr (li_mem.mpr ⟨i, hi, rfl⟩)))
        obtain ⟨e, f1, f2⟩ := yc_fd (kd := kd) (dd := dd) (pp := pp) (la := la) (sz := sz) (co := co) (va := va) (cp := cp) (b := c) (n := n') hd hd8 (by omega) h4 (fun i hi => hok _ (hmem i hi))
        rw [e9] at f1
        right
        cases e with
        | none =>
          refine ⟨0, (0, n', c), by omega, ⟨Or.inr ⟨rfl, rfl, ?_⟩, D, h2, h3, h4, h5, h6, h7⟩, fun post f hp => ?_⟩
          · intro q hq
            obtain ⟨j, hj, rfl⟩ := li_mem.mp hq
            exact f1 j hj
          · rw [wY_closeSessions_2]
            refine br_f (by decide) (f2 post _ ?_)
            unfold wY_closeSessions_87
            exact br_t rfl hp
        | some i =>
          have hi : i < n' := f1.1
          obtain ⟨k, rfl⟩ : ∃ k, n' = k + 1 := ⟨n' - 1, by omega⟩
          obtain ⟨b1, a1, a2, a3, a4⟩ := ya_add (kd := kd) (dd := dd) (pp := pp) (la := la) (sz := sz) (co := co) (va := va) (cp := cp) (b := c) (r := r + D.length) (o := 1104 + 7 * i + 3) (by omega) (by omega) h5 (c (1104 + 7 * i)) (c (1104 + 7 * i + 1)) (c (1104 + 7 * i + 2) + dd)
          obtain ⟨b2, c0, c1, c2, c3⟩ := ya_drop (kd := kd) (dd := dd) (pp := pp) (la := la) (sz := sz) (co := co) (va := va) (cp := cp) (b := b1) (m := k) (i := i) (by omega) (by omega) (by rw [a3 12 (by omega) (by omega)]; exact h4)
          have hrow : yr_r b1 (r + D.length) = ys_r dd c i := a1
          have hds2 : ro_ds (ys_L dd c (k + 1)) := (List.pairwise_append.mp (ro_ds_p h2.1.symm hds)).2.1
          have g1 : ∀ j, j < k → j ≠ i → ys_r dd b2 j = ys_r dd c j := by
            intro j hj hne
            refine ys_cg (fun y hy => ?_)
            rw [c2 _ (by omega) (by omega), a3 _ (by omega) (by omega)]
          have g2 : i < k → ys_r dd b2 i = ys_r dd c k := by
            intro _
            refine ys_cg (fun y hy => ?_)
            rw [c1 y hy, a3 _ (by omega) (by omega)]
          obtain ⟨w1, _⟩ := fd_st (g := ys_r dd b2) h2 hds2 f1 g1 g2
          refine ⟨k + 1, (1, k, b2), by omega, ⟨Or.inl ⟨rfl, rfl⟩, D ++ [ys_r dd c i], w1, ?_, c0, ?_, ?_, ?_⟩, fun post f hp => ?_⟩
          · dsimp only
            rw [List.length_append, List.length_singleton]
            omega
          · dsimp only
            rw [List.length_append, List.length_singleton, c2 11 (by omega) (by omega)]
            exact a2
          · dsimp only
            rw [List.length_append, List.length_singleton, yr_c (c := b1) (fun j hj hj2 => c2 j (by omega) (by omega)), ← Nat.add_assoc]
            have e5 : yr_L b1 (r + D.length + 1) = yr_L b1 (r + D.length) ++ [yr_r b1 (r + D.length)] := li_s _ _
            rw [e5, hrow, yr_c (c := c) (fun j hj hj2 => a3 j (by omega) (by omega)), h6, List.append_assoc]
          · intro j hj hj2 hj3
            dsimp only
            rw [c2 j hj2 (by omega), a3 j hj (by omega)]
            exact h7 j hj hj2 hj3
          · rw [wY_closeSessions_2]
            refine br_f (by decide) (f2 post _ ?_)
            unfold wY_closeSessions_87
            refine br_f (show ¬ (1 : Int32) = 0 by decide) ?_
            have en : yc_en (some i) = nI (1104 + 7 * i) := rfl
            rw [en]
            simp (disch := omega) only [forall_eq, vp_in_nI, nI_clamp, pk_us, pk_un, true_and, ix_a0, ix_a1, ix_a2, ix_a3, ix_a4, ix_a5, ix_a6, ix_n7, ix_m7, ix_p1104, ix_p1524, nI_add]
            refine a4 _ ?_
            dsimp only
            refine c3 _ ?_
            dsimp only
            exact hp
      · refine Or.inl ⟨_, ⟨c, n', D, rfl, cl_Ie h2 hno, h4, h5, h6, h7⟩, fun post f hp => ?_⟩
        rw [wY_closeSessions_2]
        exact br_t rfl hp)
    (n + 1) (1, n, b) ⟨Or.inl ⟨rfl, rfl⟩, [], cl_I0 _ _, rfl, h12, h11, (List.append_nil _).symm, fun _ _ _ _ => rfl⟩
  obtain ⟨_, ⟨b', n', D, rfl, h1, h2, h3, h4, h5⟩, h6⟩ := key
  exact ⟨b', n', D, h1, h2, h3, h4, h5, fun post hp => ⟨n + 2, h6 post (n + 2) (by omega) hp⟩⟩
end
end
section
/-! both sides: settle, read -/
section
variable {kd wd wn la mq lc xo xq km kl ko kq : Int32} {ek et ev ar tk ie oc rc kt ki kc : Nat → Int32}
variable {pp : Int32} {co b cp : Nat → Int32} {dn W ln n r : Nat} {an : Nat → Nat}
theorem bo_et (hS : rl_S kd wd pp la dn W ln an ek et ar co) (j : Nat) : 0 ≤ (et j).toInt ∧ (et j).toInt ≤ 63 := by
  obtain ⟨c, h1, _, _, h4⟩ := hS.2.2.2.2.2.2.2.2.2.2.2 j
  rw [h4, nI_toInt (by omega)]
  omega
theorem bo_sn {sn T : Nat} {L : List ro_T} (hB : rl_B kd wd pp b sn L) (hk : kd = 2 → W = 1) (hc : ro_cs L ≤ W * T) (hT : T ≤ 60) : sn ≤ T := by
  have h1 := rl_sn hB
  have h2 := ro_len hB.1
  by_cases z : kd = 2
  · rw [hk z, Nat.one_mul] at hc
    omega
  · have := (hB.2.2 z).2.1
    omega
theorem bo_settle (hS : rl_S kd wd pp la dn W ln an ek et ar co) (hN : rl_N kd wd pp W et an tk ie oc rc mq lc n r b) :
    ∃ (oc' rc' b' : Nat → Int32) (mq' : Int32) (n' r' : Nat), rl_N kd wd pp W et an tk ie oc' rc' mq' lc n' r' b' ∧ r ≤ r' ∧ (∀ j, j < r * 7 → rc' j = rc j) ∧
      (∀ post : SX → Prop, post (kd, wd, wn, la, mq', lc, nI n, nI r, km, kl, ko, kq, ek, et, ev, ar, tk, ie, oc, rc, kt, ki, kc) → wpX_raiseMark post (kd, wd, wn, la, mq, lc, nI n, nI r, km, kl, ko, kq, ek, et, ev, ar, tk, ie, oc, rc, kt, ki, kc)) ∧
      (∀ post : SX → Prop, post (kd, wd, wn, la, mq', lc, nI n', nI r', km, kl, ko, kq, ek, et, ev, ar, tk, ie, oc', rc', kt, ki, kc) → wpX_closeDueRows post (kd, wd, wn, la, mq', lc, nI n, nI r, km, kl, ko, kq, ek, et, ev, ar, tk, ie, oc, rc, kt, ki, kc)) ∧
      (∀ post : Int32 → SY → Prop, post (nI r' - nI r) (kd, wd, pp, la, ar, co, ev, b', cp) → wpY_settle post (kd, wd, pp, la, ar, co, ev, b, cp)) := by
  have het := bo_et hS
  obtain ⟨s1, s2, s3, s4, s5, s6, s7, s8, s9, s10, s11, s12⟩ := hS
  obtain ⟨tn, sn, t1, ⟨t2, t3, t4, t5, t6⟩, t7, t8, t9, t10⟩ := hN
  have hT : tn 0 + tn 1 + tn 2 ≤ 60 := by
    have a0 := (t1 0 (by omega)).2.1
    have a1 := (t1 1 (by omega)).2.1
    have a2 := (t1 2 (by omega)).2.1
    have b0 := (s11 0 (by omega)).2
    have b1 := (s11 1 (by omega)).2
    have b2 := (s11 2 (by omega)).2
    omega
  have hWT : W * (tn 0 + tn 1 + tn 2) ≤ 4 * 60 := Nat.mul_le_mul s7 hT
  have hsn := bo_sn t7 s2 t8 hT
  have hwi : wd.toInt = (dn : Int) := by rw [s3, nI_toInt (by omega)]
  have htk : ∀ s, s < 3 → tk s = nI (tn s) ∧ tn s ≤ 20 := fun s hs => ⟨(t1 s hs).1, by have := (t1 s hs).2.1; have := (s11 s hs).2; omega⟩
  have hx1 := xm_raise (kd := kd) (wd := wd) (wn := wn) (la := la) (mq := mq) (lc := lc) (xo := nI n) (xq := nI r) (km := km) (kl := kl) (ko := ko) (kq := kq) (ek := ek) (et := et) (ev := ev) (ar := ar) (tk := tk) (ie := ie) (oc := oc) (rc := rc) (kt := kt) (ki := ki) (kc := kc) htk s9 s10 (fun s _ i _ => het _) t3
  obtain ⟨b1, m1, m2, m3⟩ := ym_all (kd := kd) (dd := wd) (pp := pp) (la := la) (sz := ar) (co := co) (va := ev) (cp := cp) (b := b) (fun s => mk_ow la (mk_tp (fun i => et (s * 20 + i)) (tn s))) ie (fun s hs => by rw [(t1 s hs).2.2.2.2.2]) (fun s hs => ((t1 s hs).2.2.2.1).symm)
  rw [t2] at m1
  have hmb : -1000 ≤ (mk_nw mq (mk_le (fun s => mk_ow la (mk_tp (fun i => et (s * 20 + i)) (tn s))) ie 3)).toInt := mk_nwb t3
  generalize mk_nw mq (mk_le (fun s => mk_ow la (mk_tp (fun i => et (s * 20 + i)) (tn s))) ie 3) = mq' at *
  have hB1 : rl_B kd wd pp b1 sn (xr_L oc n) := rl_Bc t7 (by omega) (fun j h1 h2 => m2 j (by omega))
  have hds := rl_ds (by omega) (by omega) hB1
  obtain ⟨oc', rc', n', r', D, x1, x2, x3, x4, x5, x6⟩ := xc_all (kd := kd) (wd := wd) (wn := wn) (la := la) (mq := mq') (lc := lc) (km := km) (kl := kl) (ko := ko) (kq := kq) (ek := ek) (et := et) (ev := ev) (ar := ar) (tk := tk) (ie := ie) (oc := oc) (rc := rc) (kt := kt) (ki := ki) (kc := kc) (n := n) (r := r) (by omega) hds
  have hyr : yr_L b1 r = yr_L b r := yr_c (fun j h1 h2 => m2 j (by omega))
  have hy : ∃ (b2 : Nat → Int32) (sn' : Nat) (D' : List ro_T), (kd = 2 → cl_R mq' (ys_L wd b1 sn) D' (ys_L wd b2 sn') ∧ ∀ q, q < 272 → b2 (wy_a q) = 0) ∧ (¬ kd = 2 → cl_R mq' (wy_L wd pp b1 272) D' (wy_L wd pp b2 272) ∧ sn' = 0 ∧ ∀ q, q < 272 → 0 ≤ b2 (wy_a q)) ∧ b2 12 = nI sn' ∧ b2 11 = nI (r + D'.length) ∧ yr_L b2 (r + D'.length) = yr_L b r ++ D' ∧ (∀ j, j < 11 → b2 j = b1 j) ∧ ∀ post : Int32 → SY → Prop, post (b2 11 - nI r) (kd, wd, pp, la, ar, co, ev, b2, cp) → wpY_settle post (kd, wd, pp, la, ar, co, ev, b, cp) := by
    by_cases z : kd = 2
    · obtain ⟨c1, c2, c3, c4⟩ := hB1.2.1 z
      obtain ⟨b2, sn', D', y1, y2, y3, y4, y5, y6⟩ := yc_ses (kd := kd) (dd := wd) (pp := pp) (la := la) (sz := ar) (co := co) (va := ev) (cp := cp) (b := b1) (n := sn) (r := r) (by omega) (by omega) (by omega) (by have := rl_sn hB1; unfold xr_L at this; rw [li_len] at this; omega) (by rw [m2 12 (by omega)]; exact t6) (by rw [m2 11 (by omega)]; exact t5) (fun q hq => c4 q (c1.mem_iff.mpr hq)) (ro_ds_p c1 hds)
      rw [m1] at y1
      rw [hyr] at y4
      refine ⟨b2, sn', D', fun _ => ⟨y1, fun q hq => ?_⟩, fun y => absurd z y, y2, y3, y4, fun j hj => y5 j (by omega) (by omega) (by omega), fun post hp => ?_⟩
      · have := wy_lt hq
        rw [y5 _ (by omega) (by omega) (by omega)]
        exact c2 q hq
      · unfold wpY_settle
        dsimp only
        refine nm_r (e' := nI r) t5 (m3 _ ?_)
        dsimp only
        exact br_t z (y6 _ hp)
    · obtain ⟨c1, c2, c3⟩ := hB1.2.2 z
      have hlen := c1.length_eq
      unfold xr_L at hlen
      rw [li_len] at hlen
      have hgo : ∀ (d p : Int32), d = nI dn → p = nI dn * nI W → (∀ q, q < 272 → 0 ≤ b1 (wy_a q)) → r + (wy_L d p b1 272).length ≤ 240 → b1 11 = nI r → ∃ (b' : Nat → Int32) (D : List ro_T), cl_R (b1 9) (wy_L d p b1 272) D (wy_L d p b' 272) ∧ (∀ q, q < 272 → 0 ≤ b' (wy_a q)) ∧ b' 11 = nI (r + D.length) ∧ yr_L b' (r + D.length) = yr_L b1 r ++ D ∧ (∀ j, j ≠ 11 → (j < 16 ∨ (1104 ≤ j ∧ j < 1524)) → b' j = b1 j) ∧ ∀ post : SY → Prop, post (kd, d, p, la, ar, co, ev, b', cp) → wpY_closeWindows post (kd, d, p, la, ar, co, ev, b1, cp) := by
        intro d p e1 e2
        subst e1 e2
        exact fun q1 q2 q3 => yc_win (kd := kd) (la := la) (sz := ar) (co := co) (va := ev) (cp := cp) (b := b1) s4 s5 s6 s7 q1 q2 q3
      obtain ⟨b2, D', y1, y2, y3, y4, y5, y6⟩ := hgo wd pp s3 s8 c3 (by omega) (by rw [m2 11 (by omega)]; exact t5)
      rw [m1] at y1
      rw [hyr] at y4
      refine ⟨b2, sn, D', fun y => absurd y z, fun _ => ⟨y1, c2, y2⟩, ?_, y3, y4, fun j hj => y5 j (by omega) (by omega), fun post hp => ?_⟩
      · rw [y5 12 (by omega) (by omega), m2 12 (by omega)]
        exact t6
      · unfold wpY_settle
        dsimp only
        refine nm_r (e' := nI r) t5 (m3 _ ?_)
        dsimp only
        exact br_f z (y6 _ hp)
  obtain ⟨b2, sn', D', y1, y2, y3, y4, y5, y6, y7⟩ := hy
  obtain ⟨u1, u2, u3, u4⟩ := rl_cl hB1 x1 y1 y2
  subst u1
  refine ⟨oc', rc', b2, mq', n', r', ⟨tn, sn', ?_, ⟨?_, hmb, ?_, ?_, y3⟩, u2, by omega, by omega, ?_⟩, by omega, x5, hx1, x6, fun post hp => y7 post ?_⟩
  · intro s hs
    obtain ⟨w1, w2, w3, w4, w5, w6⟩ := t1 s hs
    refine ⟨w1, w2, ?_, ?_, w5, ?_⟩
    · rw [y6 s (by omega), m2 s (by omega)]; exact w3
    · rw [y6 (3 + s) (by omega), m2 (3 + s) (by omega)]; exact w4
    · rw [y6 (6 + s) (by omega), m2 (6 + s) (by omega)]; exact w6
  · rw [y6 9 (by omega)]; exact m1
  · rw [y6 10 (by omega), m2 10 (by omega)]; exact t4
  · rw [x2]; exact y4
  · rw [x4, x2, y5, t10]
  · rw [y4, ← x2]
    exact hp
end
end
section
/-! both sides read an event -/
section
variable {kd wd wn la mq lc xo xq km kl ko kq : Int32} {ek et ev ar tk ie oc rc kt ki kc : Nat → Int32}
variable {pp : Int32} {co b cp : Nat → Int32} {dn W ln n r : Nat} {an : Nat → Nat}
theorem bo_read {s : Nat} (hS : rl_S kd wd pp la dn W ln an ek et ar co) (hN : rl_N kd wd pp W et an tk ie oc rc mq lc n r b) (hs : s < 3) (hne : ¬ tk s = ar s) :
    ∃ (oc' rc' b' : Nat → Int32) (mq' lc' : Int32) (n' r' : Nat), rl_N kd wd pp W et an (upd tk s (tk s + 1)) ie oc' rc' mq' lc' n' r' b' ∧ r ≤ r' ∧ (∀ j, j < r * 7 → rc' j = rc j) ∧
      (∀ post : SX → Prop, post (kd, wd, nI W, la, mq', lc', nI n', nI r', km, kl, ko, kq, ek, et, ev, ar, upd tk s (tk s + 1), ie, oc', rc', kt, ki, kc) → wpX_readNext post (kd, wd, nI W, la, mq, lc, nI n, nI r, km, kl, ko, kq, ek, et, ev, ar, tk, ie, oc, rc, kt, ki, kc) (nI s)) ∧
      (∀ post : Int32 → SY → Prop, post (nI r' - nI r) (kd, wd, pp, la, ar, co, ev, b', cp) → wpY_read post (kd, wd, pp, la, ar, co, ev, b, cp) (nI s)) := by
  have hS2 := hS
  obtain ⟨s1, s2, s3, s4, s5, s6, s7, s8, s9, s10, s11, s12⟩ := hS
  obtain ⟨tn, sn, t1, ⟨t2, t3, t4, t5, t6⟩, t7, t8, t9, t10⟩ := hN
  have hts := t1 s hs
  have has := s11 s hs
  have hlt : tn s < an s := by
    refine Nat.lt_of_le_of_ne hts.2.1 (fun z => hne ?_)
    rw [hts.1, has.1, z]
  have hT : tn 0 + tn 1 + tn 2 ≤ 59 := by
    have a0 := (t1 0 (by omega)).2.1
    have a1 := (t1 1 (by omega)).2.1
    have a2 := (t1 2 (by omega)).2.1
    have b0 := (s11 0 (by omega)).2
    have b1 := (s11 1 (by omega)).2
    have b2 := (s11 2 (by omega)).2
    have hs3 : s = 0 ∨ s = 1 ∨ s = 2 := by omega
    rcases hs3 with rfl | rfl | rfl <;> omega
  have hWT : W * (tn 0 + tn 1 + tn 2) ≤ 4 * 59 := Nat.mul_le_mul s7 hT
  have hsn := bo_sn t7 s2 t8 (by omega)
  have hwi : wd.toInt = (dn : Int) := by rw [s3, nI_toInt (by omega)]
  have hds := rl_ds (by omega) (by omega) t7
  obtain ⟨c, k1, k2, k3, k4⟩ := s12 (s * 20 + tn s)
  -- the new counts of what is read
  have htn : ∃ tn' : Nat → Nat, tn' s = tn s + 1 ∧ (∀ x, x ≠ s → tn' x = tn x) ∧ tn' 0 + tn' 1 + tn' 2 = tn 0 + tn 1 + tn 2 + 1 := by
    refine ⟨fun x => if x = s then tn s + 1 else tn x, if_pos rfl, fun x hx => if_neg hx, ?_⟩
    have hs3 : s = 0 ∨ s = 1 ∨ s = 2 := by omega
    rcases hs3 with rfl | rfl | rfl
    · show tn 0 + 1 + tn 1 + tn 2 = _
      omega
    · show tn 0 + (tn 1 + 1) + tn 2 = _
      omega
    · show tn 0 + tn 1 + (tn 2 + 1) = _
      omega
  obtain ⟨tn', n1, n2, n3⟩ := htn
  have hW1 : W * (tn' 0 + tn' 1 + tn' 2) = W * (tn 0 + tn 1 + tn 2) + W := by rw [n3, Nat.mul_add, Nat.mul_one]
  -- the component counts
  have hx : ∃ (oc1 : Nat → Int32) (n1 : Nat), (xr_L oc1 n1).Perm (rd_L kd wd pp mq (ev (s * 20 + tn s)) W (c / 64) (c % 64) dn (xr_L oc n)) ∧
      (∀ post : SX → Prop, (∀ u : SX, u = (kd, wd, nI W, la, mq, rd_t kd wd pp mq lc W (c / 64) (c % 64) dn (xr_L oc n), nI n1, nI r, km, kl, ko, kq, ek, et, ev, ar, upd tk s (tk s + 1), ie, oc1, rc, kt, ki, kc) → wX_readNext_77 post kd wd (nI W) la mq (rd_t kd wd pp mq lc W (c / 64) (c % 64) dn (xr_L oc n)) (nI n1) (nI r) km kl ko kq ek et ev ar (upd tk s (tk s + 1)) ie (oc1) rc kt ki kc) → wpX_readNext post (kd, wd, nI W, la, mq, lc, nI n, nI r, km, kl, ko, kq, ek, et, ev, ar, tk, ie, oc, rc, kt, ki, kc) (nI s)) := by
    have hgo : ∀ post : SX → Prop, ((kd = 2 → wpX_countForSession (fun u => match u with | (kd, wd, wn, la, mq, lc, xo, xq, km, kl, ko, kq, ek, et, ev, ar, tk, ie, oc, rc, kt, ki, kc) => wX_readNext_77 post kd wd wn la mq lc xo xq km kl ko kq ek et ev ar tk ie oc rc kt ki kc) (kd, wd, nI W, la, mq, lc, nI n, nI r, km, kl, ko, kq, ek, et, ev, ar, upd tk s (tk s + 1), ie, oc, rc, kt, ki, kc) (nI (c / 64)) (nI (c % 64)) (ev (s * 20 + tn s))) ∧ (¬ kd = 2 → wpX_countForWindows (fun u => match u with | (kd, wd, wn, la, mq, lc, xo, xq, km, kl, ko, kq, ek, et, ev, ar, tk, ie, oc, rc, kt, ki, kc) => wX_readNext_77 post kd wd wn la mq lc xo xq km kl ko kq ek et ev ar tk ie oc rc kt ki kc) (kd, wd, nI W, la, mq, lc, nI n, nI r, km, kl, ko, kq, ek, et, ev, ar, upd tk s (tk s + 1), ie, oc, rc, kt, ki, kc) (nI (c / 64)) (nI (c % 64)) (ev (s * 20 + tn s)))) → wpX_readNext post (kd, wd, nI W, la, mq, lc, nI n, nI r, km, kl, ko, kq, ek, et, ev, ar, tk, ie, oc, rc, kt, ki, kc) (nI s) := by
      intro post hp
      unfold wpX_readNext
      dsimp only
      have h20 : s * 20 + tn s < 60 := by omega
      simp (disch := omega) only [forall_eq, vp_in_nI, nI_clamp, pk_us, pk_un, true_and, ix_a0, ix_a1, ix_a2, ix_a3, ix_a4, ix_a5, ix_a6, ix_n7, ix_m7, ix_p1104, ix_p1524, nI_add, ix_n20, hts.1, k3, k4]
      rw [hts.1, nI_1] at hp
      exact hp
    by_cases z : kd = 2
    · obtain ⟨oc1, m1, q1, q2⟩ := xs_all (kd := kd) (wd := wd) (wn := nI W) (la := la) (mq := mq) (lc := lc) (xq := nI r) (km := km) (kl := kl) (ko := ko) (kq := kq) (ek := ek) (et := et) (ev := ev) (ar := ar) (tk := upd tk s (tk s + 1)) (ie := ie) (oc := oc) (rc := rc) (kt := kt) (ki := ki) (kc := kc) (n := n) (by omega) (nI (c / 64)) (nI (c % 64)) (ev (s * 20 + tn s))
      refine ⟨oc1, m1, ?_, fun post hp => hgo post (br_t z (q2 _ ?_))⟩
      · unfold rd_L
        rw [if_pos z]
        exact q1
      · have := hp _ rfl
        unfold rd_t at this
        rw [if_pos z] at this
        exact this
    · have hgo2 : ∀ (d p : Int32), d = nI dn → p = nI dn * nI W → ∃ (oc' : Nat → Int32) (n' : Nat), (xr_L oc' n').Perm (zl_L d p mq (ev (s * 20 + tn s)) (c % 64 / dn) W (c / 64) (xr_L oc n) W) ∧ ∀ post : SX → Prop, post (kd, d, nI W, la, mq, if zl_c d p mq (c % 64 / dn) W (c / 64) W = 0 then lc + 1 else lc, nI n', nI r, km, kl, ko, kq, ek, et, ev, ar, upd tk s (tk s + 1), ie, oc', rc, kt, ki, kc) → wpX_countForWindows post (kd, d, nI W, la, mq, lc, nI n, nI r, km, kl, ko, kq, ek, et, ev, ar, upd tk s (tk s + 1), ie, oc, rc, kt, ki, kc) (nI (c / 64)) (nI (c % 64)) (ev (s * 20 + tn s)) := by
        intro d p e1 e2
        subst e1 e2
        exact xw_all (tn := c % 64) s4 s5 s6 s7 (by omega) (by omega) (by omega) hds t7.1 (by omega)
      obtain ⟨oc1, m1, q1, q2⟩ := hgo2 wd pp s3 s8
      refine ⟨oc1, m1, ?_, fun post hp => hgo post (br_f z (q2 _ ?_))⟩
      · unfold rd_L
        rw [if_neg z]
        exact q1
      · have := hp _ rfl
        unfold rd_t at this
        rw [if_neg z] at this
        exact this
  obtain ⟨oc1, m1, x1, x2⟩ := hx
  -- the reference counts
  have hB0 : rl_B kd wd pp (upd b s (nI (tn s + 1))) sn (xr_L oc n) := rl_Bc t7 (by omega) (fun j h1 h2 => pk_un (by omega))
  have hy : ∃ (b1 : Nat → Int32) (sn' : Nat), (kd = 2 → (ys_L wd b1 sn').Perm (rd_L kd wd pp mq (ev (s * 20 + tn s)) W (c / 64) (c % 64) dn (ys_L wd (upd b s (nI (tn s + 1))) sn)) ∧ ∀ q, q < 272 → b1 (wy_a q) = 0) ∧ (¬ kd = 2 → (wy_L wd pp b1 272).Perm (rd_L kd wd pp mq (ev (s * 20 + tn s)) W (c / 64) (c % 64) dn (wy_L wd pp (upd b s (nI (tn s + 1))) 272)) ∧ sn' = 0 ∧ ∀ q, q < 272 → 0 ≤ b1 (wy_a q)) ∧ b1 12 = nI sn' ∧ b1 10 = rd_t kd wd pp mq lc W (c / 64) (c % 64) dn (xr_L oc n) ∧ (∀ j, j ≠ 10 → j ≠ 12 → (j < 16 ∨ 1524 ≤ j) → b1 j = upd b s (nI (tn s + 1)) j) ∧
      ∀ post : Int32 → SY → Prop, wY_read_111 post (nI s) (nI (c % 64)) kd (wd) pp la (ar) co (ev) (b1) cp → wpY_read post (kd, wd, pp, la, ar, co, ev, b, cp) (nI s) := by
    have hgo : ∀ post : Int32 → SY → Prop, ((kd = 2 → wpY_readIntoSessions (fun u => match u with | (kd, wd, pp, la, ar, co, ev, b, cp) => wY_read_111 post (nI s) (nI (c % 64)) kd (wd) pp la (ar) co (ev) b cp) (kd, wd, pp, la, ar, co, ev, upd b s (nI (tn s + 1)), cp) (nI (c % 64)) (nI (c / 64)) (ev (s * 20 + tn s))) ∧ (¬ kd = 2 → wpY_readIntoWindows (fun u => match u with | (kd, wd, pp, la, ar, co, ev, b, cp) => wY_read_111 post (nI s) (nI (c % 64)) kd (wd) pp la (ar) co (ev) b cp) (kd, wd, pp, la, ar, co, ev, upd b s (nI (tn s + 1)), cp) (nI (c % 64)) (nI (c / 64)) (ev (s * 20 + tn s)))) → wpY_read post (kd, wd, pp, la, ar, co, ev, b, cp) (nI s) := by
      intro post hp
      unfold wpY_read wpY_badSource
      dsimp only
      have h20 : 20 * s + tn s < 60 := by omega
      have hne2 : ¬ nI (tn s) = ar s := by rw [← hts.1]; exact hne
      refine br_f (nI_pos (by omega)) (br_t (nI_le (b := 2) (by omega) (by decide)) (br_t rfl ?_))
      have e64 : (64 : Int32) = nI 64 := rfl
      have ec : co (20 * s + tn s) = nI c := by rw [Nat.mul_comm 20 s]; exact k2
      have ed : nI c / 64 = nI (c / 64) := pk_div (d := 64) (by omega) (by omega) (by omega)
      have er : nI c - nI (c / 64) * 64 = nI (c % 64) := by
        rw [← ed]
        exact pk_rem (d := 64) (by omega) (by omega) (by omega)
      simp (disch := omega) only [forall_eq, vp_in_nI, nI_clamp, pk_us, pk_un, true_and, ix_a0, ix_a1, ix_a2, ix_a3, ix_a4, ix_a5, ix_a6, ix_n7, ix_m7, ix_p1104, ix_p1524, nI_add, ix_m20, hts.2.2.1, ec, ed, er]
      refine br_f hne2 ⟨by decide, by decide, ?_⟩
      rw [show 20 * s + tn s = s * 20 + tn s from by omega]
      exact hp
    have e9 : upd b s (nI (tn s + 1)) 9 = mq := by rw [pk_un (by omega)]; exact t2
    have e10 : upd b s (nI (tn s + 1)) 10 = lc := by rw [pk_un (by omega)]; exact t4
    have e12 : upd b s (nI (tn s + 1)) 12 = nI sn := by rw [pk_un (by omega)]; exact t6
    by_cases z : kd = 2
    · obtain ⟨c1, c2, c3, c4⟩ := hB0.2.1 z
      obtain ⟨b1, sn', y1, y2, y3, y4, y5⟩ := ys_all (kd := kd) (dd := wd) (pp := pp) (la := la) (sz := ar) (co := co) (va := ev) (cp := cp) (b := upd b s (nI (tn s + 1))) (n := sn) (k := nI (c / 64)) (t := nI (c % 64)) (v := ev (s * 20 + tn s)) (by rw [nI_toInt (by omega)]; omega) (by rw [nI_toInt (by omega)]; omega) (by omega) (by omega) (by omega) (by rw [nI_toInt (by omega)]; omega) (by rw [nI_toInt (by omega)]; omega) e12 (fun q hq => c4 q (c1.mem_iff.mpr hq)) (fun q hq => hB0.1 q (c1.mem_iff.mpr hq)) (by rw [← ro_cs_p c1]; omega)
      rw [e9] at y2 y3
      rw [e10] at y3
      refine ⟨b1, sn', fun _ => ⟨?_, fun q hq => ?_⟩, fun y => absurd z y, y1, ?_, fun j h1 h2 h3 => y4 j h1 h2 (by omega), fun post hp => hgo post (br_t z (y5 _ hp))⟩
      · unfold rd_L
        rw [if_pos z]
        exact y2
      · have := wy_lt hq
        rw [y4 _ (by omega) (by omega) (by omega)]
        exact c2 q hq
      · rw [rd_tp c1, y3]
        unfold rd_t
        rw [if_pos z]
    · obtain ⟨c1, c2, c3⟩ := hB0.2.2 z
      have hgo2 : ∀ (d p : Int32), d = nI dn → p = nI dn * nI W → ro_cs (wy_L d p (upd b s (nI (tn s + 1))) 272) ≤ 240 → ∃ b' : Nat → Int32, (wy_L d p b' 272).Perm (zl_L d p (upd b s (nI (tn s + 1)) 9) (ev (s * 20 + tn s)) (c % 64 / dn) W (c / 64) (wy_L d p (upd b s (nI (tn s + 1))) 272) W) ∧ (∀ q, q < 272 → 0 ≤ b' (wy_a q)) ∧ b' 10 = (if zl_c d p (upd b s (nI (tn s + 1)) 9) (c % 64 / dn) W (c / 64) W = 0 then upd b s (nI (tn s + 1)) 10 + 1 else upd b s (nI (tn s + 1)) 10) ∧ (∀ j, j ≠ 10 → (j < 16 ∨ 1104 ≤ j) → b' j = upd b s (nI (tn s + 1)) j) ∧ ∀ post : SY → Prop, post (kd, d, p, la, ar, co, ev, b', cp) → wpY_readIntoWindows post (kd, d, p, la, ar, co, ev, upd b s (nI (tn s + 1)), cp) (nI (c % 64)) (nI (c / 64)) (ev (s * 20 + tn s)) := by
        intro d p q1 q2
        subst q1 q2
        exact fun hq => yw_all (tn := c % 64) s4 s5 s6 s7 (by omega) (by omega) c3 hq
      obtain ⟨b1, y1, y2, y3, y4, y5⟩ := hgo2 wd pp s3 s8 (by rw [← ro_cs_p c1]; omega)
      rw [e9] at y1 y3
      rw [e10] at y3
      refine ⟨b1, sn, fun y => absurd y z, fun _ => ⟨?_, c2, y2⟩, ?_, ?_, fun j h1 h2 h3 => y4 j h1 (by omega), fun post hp => hgo post (br_f z (y5 _ hp))⟩
      · unfold rd_L
        rw [if_neg z]
        exact y1
      · rw [y4 12 (by omega) (by omega)]
        exact e12
      · rw [y3]
        unfold rd_t
        rw [if_neg z]
  obtain ⟨b1, sn', y1, y2, y3, y4, y5, y6⟩ := hy
  obtain ⟨v1, v2, v3⟩ := rl_rd (by omega) (by omega) s6 s7 (by omega) (by omega) hB0 (by omega) x1 y1 y2
  have hlen : n = (xr_L oc n).length := by unfold xr_L; rw [li_len]
  have hlen1 : m1 = (xr_L oc1 m1).length := by unfold xr_L; rw [li_len]
  have hsn' := bo_sn v1 s2 (T := tn' 0 + tn' 1 + tn' 2) (by omega) (by omega)
  -- the greatest time of the source
  have etp : mk_tp (fun i => et (s * 20 + i)) (tn s + 1) = if mk_tp (fun i => et (s * 20 + i)) (tn s) < nI (c % 64) then nI (c % 64) else mk_tp (fun i => et (s * 20 + i)) (tn s) := by
    rw [← k4]
    rfl
  have hb6 : b1 (6 + s) = mk_tp (fun i => et (s * 20 + i)) (tn s) := by
    rw [y5 _ (by omega) (by omega) (by omega), pk_un (by omega)]
    exact hts.2.2.2.2.2
  have htop : ∃ b2 : Nat → Int32, b2 (6 + s) = mk_tp (fun i => et (s * 20 + i)) (tn s + 1) ∧ (∀ j, j ≠ 6 + s → b2 j = b1 j) ∧ ∀ post : Int32 → SY → Prop, wpY_settle post (kd, wd, pp, la, ar, co, ev, b2, cp) → wY_read_111 post (nI s) (nI (c % 64)) kd (wd) pp la (ar) co (ev) (b1) cp := by
    by_cases z : mk_tp (fun i => et (s * 20 + i)) (tn s) < nI (c % 64)
    · rw [if_pos z] at etp
      refine ⟨upd b1 (6 + s) (nI (c % 64)), by rw [pk_us, etp], fun j hj => pk_un hj, fun post hp => ?_⟩
      unfold wY_read_111 wY_read_134
      simp (disch := omega) only [forall_eq, vp_in_nI, nI_clamp, pk_us, pk_un, true_and, ix_a0, ix_a1, ix_a2, ix_a3, ix_a4, ix_a5, ix_a6, ix_n7, ix_m7, ix_p1104, ix_p1524, nI_add, ix_p6]
      rw [hb6]
      exact br_f (Int32.not_le.mpr z) hp
    · rw [if_neg z] at etp
      refine ⟨b1, by rw [hb6, etp], fun j hj => rfl, fun post hp => ?_⟩
      unfold wY_read_111 wY_read_134
      simp (disch := omega) only [forall_eq, vp_in_nI, nI_clamp, pk_us, pk_un, true_and, ix_a0, ix_a1, ix_a2, ix_a3, ix_a4, ix_a5, ix_a6, ix_n7, ix_m7, ix_p1104, ix_p1524, nI_add, ix_p6]
      rw [hb6]
      exact br_t (Int32.not_lt.mp z) hp
  obtain ⟨b2, w1, w2, w3⟩ := htop
  have hB2 : rl_B kd wd pp b2 sn' (xr_L oc1 m1) := rl_Bc v1 (by omega) (fun j h1 h2 => w2 j (by omega))
  have hN2 : rl_N kd wd pp W et an (upd tk s (tk s + 1)) ie oc1 rc mq (rd_t kd wd pp mq lc W (c / 64) (c % 64) dn (xr_L oc n)) m1 r b2 := by
    refine ⟨tn', sn', ?_, ⟨?_, t3, ?_, ?_, ?_⟩, hB2, by omega, by omega, ?_⟩
    · intro x hx
      by_cases z : x = s
      · subst z
        refine ⟨?_, by omega, ?_, ?_, hts.2.2.2.2.1, ?_⟩
        · rw [pk_us, hts.1, nI_1, n1]
        · rw [w2 _ (by omega), y5 _ (by omega) (by omega) (by omega), pk_us, n1]
        · rw [w2 _ (by omega), y5 _ (by omega) (by omega) (by omega), pk_un (by omega)]
          exact hts.2.2.2.1
        · rw [w1, n1]
      · obtain ⟨f1, f2, f3, f4, f5, f6⟩ := t1 x hx
        refine ⟨?_, ?_, ?_, ?_, f5, ?_⟩
        · rw [pk_un z, n2 x z]; exact f1
        · rw [n2 x z]; exact f2
        · rw [w2 _ (by omega), y5 _ (by omega) (by omega) (by omega), pk_un z, n2 x z]; exact f3
        · rw [w2 _ (by omega), y5 _ (by omega) (by omega) (by omega), pk_un (by omega)]; exact f4
        · rw [w2 _ (by omega), y5 _ (by omega) (by omega) (by omega), pk_un (by omega), n2 x z]; exact f6
    · rw [w2 _ (by omega), y5 _ (by omega) (by omega) (by omega), pk_un (by omega)]; exact t2
    · rw [w2 _ (by omega)]; exact y4
    · rw [w2 _ (by omega), y5 _ (by omega) (by omega) (by omega), pk_un (by omega)]; exact t5
    · rw [w2 _ (by omega)]; exact y3
    · rw [t10]
      exact (yr_c (fun j h1 h2 => by rw [w2 _ (by omega), y5 _ (by omega) (by omega) (by omega), pk_un (by omega)])).symm
  obtain ⟨oc', rc', b', mq', n', r', z1, z2, z3, z4, z5, z6⟩ := bo_settle (wn := nI W) (km := km) (kl := kl) (ko := ko) (kq := kq) (ev := ev) (kt := kt) (ki := ki) (kc := kc) (cp := cp) hS2 hN2
  refine ⟨oc', rc', b', mq', _, n', r', z1, z2, z3, fun post hp => x2 post (fun u _ => ?_), fun post hp => y6 post (w3 post (z6 post hp))⟩
  unfold wX_readNext_77
  refine z4 _ ?_
  dsimp only
  refine z5 _ ?_
  dsimp only
  exact hp
end
end
section
/-! what is kept and the small answers -/
section
theorem rl_T {kd d p la : Int32} {dn W ln : Nat} {an : Nat → Nat} {ek et ar co : Nat → Int32} {tn : Nat → Nat} (hS : rl_S kd d p la dn W ln an ek et ar co) (h : ∀ s, s < 3 → tn s ≤ an s) : tn 0 + tn 1 + tn 2 ≤ 60 ∧ W * (tn 0 + tn 1 + tn 2) ≤ 240 := by
  have s11 := hS.2.2.2.2.2.2.2.2.2.2.1
  have s7 := hS.2.2.2.2.2.2.1
  have a0 := h 0 (by omega)
  have a1 := h 1 (by omega)
  have a2 := h 2 (by omega)
  have b0 := (s11 0 (by omega)).2
  have b1 := (s11 1 (by omega)).2
  have b2 := (s11 2 (by omega)).2
  have hT : tn 0 + tn 1 + tn 2 ≤ 60 := by omega
  have := Nat.mul_le_mul s7 hT
  omega
theorem rl_nr {kd d p la : Int32} {dn W ln : Nat} {an : Nat → Nat} {ek et ar co tk ie c rc b : Nat → Int32} {mq lt : Int32} {n r : Nat} (hS : rl_S kd d p la dn W ln an ek et ar co) (hN : rl_N kd d p W et an tk ie c rc mq lt n r b) : n + r ≤ 240 := by
  obtain ⟨tn, sn, t1, _, _, _, t9, _⟩ := hN
  have := rl_T hS (fun s hs => (t1 s hs).2.1)
  omega
theorem rl_Nc {kd d p la : Int32} {dn W ln : Nat} {an : Nat → Nat} {ek et ar co tk ie c rc b b' : Nat → Int32} {mq lt : Int32} {n r : Nat} (hS : rl_S kd d p la dn W ln an ek et ar co) (hN : rl_N kd d p W et an tk ie c rc mq lt n r b) (h : ∀ j, j < 3316 → b' j = b j) : rl_N kd d p W et an tk ie c rc mq lt n r b' := by
  have hnr := rl_nr hS hN
  obtain ⟨tn, sn, t1, ⟨t2, t3, t4, t5, t6⟩, t7, t8, t9, t10⟩ := hN
  have hT := rl_T hS (fun s hs => (t1 s hs).2.1)
  have hsn := bo_sn t7 hS.2.1 t8 hT.1
  refine ⟨tn, sn, ?_, ⟨?_, t3, ?_, ?_, ?_⟩, rl_Bc t7 (by omega) (fun j h1 h2 => h j (by omega)), t8, t9, ?_⟩
  · intro s hs
    rw [h s (by omega), h (3 + s) (by omega), h (6 + s) (by omega)]
    exact t1 s hs
  · rw [h 9 (by omega)]; exact t2
  · rw [h 10 (by omega)]; exact t4
  · rw [h 11 (by omega)]; exact t5
  · rw [h 12 (by omega)]; exact t6
  · rw [t10]
    exact (yr_c (fun j h1 h2 => h j (by omega))).symm
theorem rl_Nx {kd d p la : Int32} {dn W ln : Nat} {an : Nat → Nat} {ek et ar co tk ie c rc b tk' ie' c' : Nat → Int32} {mq lt : Int32} {n r : Nat} (hS : rl_S kd d p la dn W ln an ek et ar co) (hN : rl_N kd d p W et an tk ie c rc mq lt n r b) (h : ∀ s, s < 3 → tk' s = tk s ∧ ie' s = ie s) (h2 : ∀ j, j < 1680 → c' j = c j) : rl_N kd d p W et an tk' ie' c' rc mq lt n r b := by
  have hnr := rl_nr hS hN
  obtain ⟨tn, sn, t1, t2, t7, t8, t9, t10⟩ := hN
  have e : xr_L c' n = xr_L c n := li_cg (fun i hi => ro_at_cg (fun j h3 h4 => h2 j (by omega)))
  refine ⟨tn, sn, ?_, t2, by rw [e]; exact t7, by rw [e]; exact t8, t9, t10⟩
  intro s hs
  rw [(h s hs).1, (h s hs).2]
  exact t1 s hs
theorem rl_Nr {kd d p : Int32} {W : Nat} {an : Nat → Nat} {et tk ie c rc rc' b : Nat → Int32} {mq lt : Int32} {n r r2 : Nat} (hN : rl_N kd d p W et an tk ie c rc mq lt n r2 b) (hr : r2 ≤ r) (h : ∀ j, j < r * 7 → rc' j = rc j) : rl_N kd d p W et an tk ie c rc' mq lt n r2 b := by
  obtain ⟨tn, sn, t1, t2, t7, t8, t9, t10⟩ := hN
  refine ⟨tn, sn, t1, t2, t7, t8, t9, ?_⟩
  rw [← t10]
  exact li_cg (fun i hi => ro_at_cg (fun j h3 h4 => h j (by omega)))
theorem rl_Na {kd d p : Int32} {W : Nat} {an an' : Nat → Nat} {et et' tk ie c rc b : Nat → Int32} {mq lt : Int32} {n r : Nat} (hN : rl_N kd d p W et an tk ie c rc mq lt n r b) (h1 : ∀ s, s < 3 → an s ≤ an' s) (h2 : ∀ s, s < 3 → ∀ i, i < an s → et' (s * 20 + i) = et (s * 20 + i)) : rl_N kd d p W et' an' tk ie c rc mq lt n r b := by
  obtain ⟨tn, sn, t1, t2, t7, t8, t9, t10⟩ := hN
  refine ⟨tn, sn, ?_, t2, t7, t8, t9, t10⟩
  intro s hs
  obtain ⟨f1, f2, f3, f4, f5, f6⟩ := t1 s hs
  refine ⟨f1, Nat.le_trans f2 (h1 s hs), f3, f4, f5, ?_⟩
  rw [f6]
  exact mk_tpg (tn s) (fun i hi => (h2 s hs i (by omega)).symm)
theorem i_vc_mark {k : Nat} {u : SX} {v : SY} (I : i_Rel k u v) (hk : k + 3 ≤ 1540) : wpX_mark (fun r => wpY_mark (fun r' => r' = r ∧ i_Rel (k + 3) u v) v) u := by
  have I0 := I
  obtain ⟨kd, wd, wn, la, mq, lc, xo, xq, km, kl, ko, kq, ek, et, ev, ar, tk, ie, oc, rc, kt, ki, kc⟩ := u
  obtain ⟨kd', dd, pp, la', sz, co, va, b, cp⟩ := v
  obtain ⟨g1, g2, g3, g4, g5, dn, W, ln, an, n, r, n2, r2, e1, e2, e3, e4, e5, hr2, hS, hN, hK⟩ := I
  subst g1 g2 g3 g4 g5 e1 e2 e3 e4 e5
  obtain ⟨tn, sn, t1, ⟨t2, t3, t4, t5, t6⟩, t7, t8, t9, t10⟩ := hN
  exact ⟨t2, I0⟩
theorem i_vc_results {k : Nat} {u : SX} {v : SY} (I : i_Rel k u v) (hk : k + 3 ≤ 1540) : wpX_results (fun r => wpY_results (fun r' => r' = r ∧ i_Rel (k + 3) u v) v) u := by
  have I0 := I
  obtain ⟨kd, wd, wn, la, mq, lc, xo, xq, km, kl, ko, kq, ek, et, ev, ar, tk, ie, oc, rc, kt, ki, kc⟩ := u
  obtain ⟨kd', dd, pp, la', sz, co, va, b, cp⟩ := v
  obtain ⟨g1, g2, g3, g4, g5, dn, W, ln, an, n, r, n2, r2, e1, e2, e3, e4, e5, hr2, hS, hN, hK⟩ := I
  subst g1 g2 g3 g4 g5 e1 e2 e3 e4 e5
  obtain ⟨tn, sn, t1, ⟨t2, t3, t4, t5, t6⟩, t7, t8, t9, t10⟩ := hN
  exact ⟨t5, I0⟩
theorem i_vc_late {k : Nat} {u : SX} {v : SY} (I : i_Rel k u v) (hk : k + 3 ≤ 1540) : wpX_late (fun r => wpY_late (fun r' => r' = r ∧ i_Rel (k + 3) u v) v) u := by
  have I0 := I
  obtain ⟨kd, wd, wn, la, mq, lc, xo, xq, km, kl, ko, kq, ek, et, ev, ar, tk, ie, oc, rc, kt, ki, kc⟩ := u
  obtain ⟨kd', dd, pp, la', sz, co, va, b, cp⟩ := v
  obtain ⟨g1, g2, g3, g4, g5, dn, W, ln, an, n, r, n2, r2, e1, e2, e3, e4, e5, hr2, hS, hN, hK⟩ := I
  subst g1 g2 g3 g4 g5 e1 e2 e3 e4 e5
  obtain ⟨tn, sn, t1, ⟨t2, t3, t4, t5, t6⟩, t7, t8, t9, t10⟩ := hN
  exact ⟨t4, I0⟩
theorem i_vc_kept {k : Nat} {u : SX} {v : SY} (I : i_Rel k u v) (hk : k + 3 ≤ 1540) : wpX_kept (fun r => wpY_kept (fun r' => r' = r ∧ i_Rel (k + 3) u v) v) u := by
  have I0 := I
  obtain ⟨kd, wd, wn, la, mq, lc, xo, xq, km, kl, ko, kq, ek, et, ev, ar, tk, ie, oc, rc, kt, ki, kc⟩ := u
  obtain ⟨kd', dd, pp, la', sz, co, va, b, cp⟩ := v
  obtain ⟨g1, g2, g3, g4, g5, dn, W, ln, an, n, r, n2, r2, e1, e2, e3, e4, e5, hr2, hS, hN, hK⟩ := I
  subst g1 g2 g3 g4 g5 e1 e2 e3 e4 e5
  obtain ⟨tn, sn, t1, ⟨t2, t3, t4, t5, t6⟩, t7, t8, t9, t10⟩ := hK
  exact ⟨t5, I0⟩
/-- good sources -/
theorem so_3 (x : Int32) : (x < 0 ∨ 3 ≤ x) ∨ ∃ s : Nat, s < 3 ∧ x = nI s := by
  by_cases h : x < 0
  · exact Or.inl (Or.inl h)
  · obtain ⟨j, hj, rfl⟩ := nI_of h
    by_cases h2 : j < 3
    · exact Or.inr ⟨j, h2, rfl⟩
    · exact Or.inl (Or.inr (nI_le (a := 3) (by omega) hj))
theorem so_xb {post : Int32 → Prop} {x : Int32} (h : x < 0 ∨ 3 ≤ x) (hp : post 0) : wpX_isSource post x := by
  unfold wpX_isSource
  by_cases z : x < 0
  · exact br_t z hp
  · rcases h with h | h
    · exact absurd h z
    · exact br_f z (br_t h hp)
theorem so_xg {post : Int32 → Prop} {s : Nat} (h : s < 3) (hp : post 1) : wpX_isSource post (nI s) := br_f (nI_pos (by omega)) (br_f (nI_ge (b := 3) h (by decide)) hp)
theorem so_yb {post : Int32 → Prop} {x : Int32} {v : SY} (h : x < 0 ∨ 3 ≤ x) (hp : post 1) : wpY_badSource post v x := by
  obtain ⟨kd, dd, pp, la, sz, co, va, b, cp⟩ := v
  unfold wpY_badSource
  dsimp only
  by_cases z : x < 0
  · exact br_t z hp
  · rcases h with h | h
    · exact absurd h z
    · refine br_f z (br_f (fun y => ?_) hp)
      rw [ii_le] at h y
      have e3 : (3 : Int32).toInt = 3 := by decide
      have e2 : (2 : Int32).toInt = 2 := by decide
      omega
theorem so_yg {post : Int32 → Prop} {s : Nat} {v : SY} (h : s < 3) (hp : post 0) : wpY_badSource post v (nI s) := by
  obtain ⟨kd, dd, pp, la, sz, co, va, b, cp⟩ := v
  exact br_f (nI_pos (by omega)) (br_t (nI_le (b := 2) (by omega) (by decide)) hp)
theorem i_vc_position {k : Nat} {u : SX} {v : SY} (I : i_Rel k u v) (hk : k + 3 ≤ 1540) (v1 : Int32) : wpX_position (fun r => wpY_position (fun r' => r' = r ∧ i_Rel (k + 3) u v) v v1) u v1 := by
  have I0 := I
  obtain ⟨kd, wd, wn, la, mq, lc, xo, xq, km, kl, ko, kq, ek, et, ev, ar, tk, ie, oc, rc, kt, ki, kc⟩ := u
  obtain ⟨kd', dd, pp, la', sz, co, va, b, cp⟩ := v
  obtain ⟨g1, g2, g3, g4, g5, dn, W, ln, an, n, r, n2, r2, e1, e2, e3, e4, e5, hr2, hS, hN, hK⟩ := I
  subst g1 g2 g3 g4 g5 e1 e2 e3 e4 e5
  obtain ⟨tn, sn, t1, t2, t7, t8, t9, t10⟩ := hN
  unfold wpX_position wpY_position
  dsimp only
  rcases so_3 v1 with h | ⟨s, hs, rfl⟩
  · refine so_xb h ?_
    refine br_t rfl ?_
    refine so_yb h ?_
    exact br_f (by decide) ⟨rfl, I0⟩
  · refine so_xg hs ?_
    refine br_f (by decide) ⟨vp_in_nI hs (by omega), ?_⟩
    refine so_yg hs ?_
    refine br_t rfl ⟨vp_in_nI (by omega) (by omega), ?_, I0⟩
    rw [nI_clamp (by omega), (t1 s hs).1]
    exact (t1 s hs).2.2.1
theorem i_vc_result {k : Nat} {u : SX} {v : SY} (I : i_Rel k u v) (hk : k + 3 ≤ 1540) (v1 : Int32) (v2 : Int32) : wpX_result (fun r => wpY_result (fun r' => r' = r ∧ i_Rel (k + 3) u v) v v1 v2) u v1 v2 := by
  have I0 := I
  obtain ⟨kd, wd, wn, la, mq, lc, xo, xq, km, kl, ko, kq, ek, et, ev, ar, tk, ie, oc, rc, kt, ki, kc⟩ := u
  obtain ⟨kd', dd, pp, la', sz, co, va, b, cp⟩ := v
  obtain ⟨g1, g2, g3, g4, g5, dn, W, ln, an, n, r, n2, r2, e1, e2, e3, e4, e5, hr2, hS, hN, hK⟩ := I
  subst g1 g2 g3 g4 g5 e1 e2 e3 e4 e5
  have hnr := rl_nr hS hN
  obtain ⟨tn, sn, t1, ⟨t2, t3, t4, t5, t6⟩, t7, t8, t9, t10⟩ := hN
  unfold wpX_result wpY_result
  dsimp only
  rw [t5]
  by_cases a : v1 < 0
  · exact br_t a (br_t a ⟨rfl, I0⟩)
  · obtain ⟨i, hi, rfl⟩ := nI_of a
    by_cases c : nI r ≤ nI i
    · exact br_f a (br_t c (br_f a (br_t c ⟨rfl, I0⟩)))
    · by_cases d : v2 < 0
      · exact br_f a (br_f c (br_t d (br_f a (br_f c (br_t d ⟨rfl, I0⟩)))))
      · obtain ⟨w, hw, rfl⟩ := nI_of d
        have hir : i < r := by
          refine Nat.lt_of_not_le (fun z => c (nI_le z hi))
        by_cases e : w < 7
        · have x7 : nI w < 7 := nI_lt (b := 7) e (by decide)
          have x6 : nI w ≤ 6 := nI_le (b := 6) (by omega) (by decide)
          refine br_f a (br_f c (br_f d (br_t x7 ?_)))
          simp (disch := omega) only [forall_eq, vp_in_nI, nI_clamp, pk_us, pk_un, true_and, ix_a0, ix_a1, ix_a2, ix_a3, ix_a4, ix_a5, ix_a6, ix_n7, ix_m7, ix_p1104, ix_p1524, nI_add]
          refine br_f a (br_f c (br_f d (br_t x6 ⟨?_, I0⟩)))
          have h1 := li_inj t10 hir
          exact (ro_at_i h1 w e).symm
        · have x7 : ¬ nI w < 7 := fun z => e ((nI_ltI (b := 7) hw (by decide)).mp z)
          have x6 : ¬ nI w ≤ 6 := fun z => e (by have := (nI_leI (b := 6) hw (by decide)).mp z; omega)
          exact br_f a (br_f c (br_f d (br_f x7 (br_f a (br_f c (br_f d (br_f x6 ⟨rfl, I0⟩)))))))
end
end
section
/-! keeping, crashing, arriving -/
section
theorem kp_vb {x : Int32} (h : x = 0 ∨ x = 1) : vp_nar .boolean x = x := by
  rcases h with rfl | rfl <;> decide
theorem kp_y {kd dd pp la : Int32} {sz co va b cp : Nat → Int32} : ∃ cp' : Nat → Int32, (∀ j, j < 3316 → cp' j = b j) ∧ ∀ post : Int32 → SY → Prop, post (b 11) (kd, dd, pp, la, sz, co, va, b, cp') → wpY_keep post (kd, dd, pp, la, sz, co, va, b, cp) := by
  have key := lo_ex (ρ := Int32 × SY) (σ := Nat × (Nat → Int32))
    (fun post f s => wY_keep_2 (fun r u => post (r, u)) kd dd pp la f (nI s.1) sz co va b (s.2))
    (fun m s => m + s.1 = 3316 ∧ ∀ j, j < s.1 → s.2 j = b j)
    (fun r => ∃ c : Nat → Int32, r = (b 11, (kd, dd, pp, la, sz, co, va, b, c)) ∧ ∀ j, j < 3316 → c j = b j)
    (by
      rintro m ⟨x, c⟩ ⟨h1, h2⟩
      dsimp only at *
      by_cases hx : x = 3316
      · subst hx
        refine Or.inl ⟨_, ⟨c, rfl, h2⟩, fun post f hp => ?_⟩
        rw [wY_keep_2]
        exact br_t (nI_le (a := 3316) (b := 3316) (Nat.le_refl _) (by decide)) hp
      · refine Or.inr ⟨m - 1, (x + 1, upd c x (b x)), by omega, ⟨by dsimp only; omega, ?_⟩, fun post f hp => ?_⟩
        · intro j hj
          dsimp only at *
          by_cases z : j = x
          · rw [z, pk_us]
          · rw [pk_un z]
            exact h2 j (by omega)
        · rw [wY_keep_2]
          refine br_f (nI_ge (a := x) (b := 3316) (by omega) (by decide)) ?_
          simp (disch := omega) only [forall_eq, vp_in_nI, nI_clamp, pk_us, pk_un, true_and, ix_a0, ix_a1, ix_a2, ix_a3, ix_a4, ix_a5, ix_a6, ix_n7, ix_m7, ix_p1104, ix_p1524, nI_add]
          exact hp)
    3316 (0, cp) ⟨rfl, fun j hj => absurd hj (Nat.not_lt_zero j)⟩
  obtain ⟨_, ⟨c, rfl, h1⟩, h2⟩ := key
  exact ⟨c, h1, fun post hp => ⟨3317, h2 (fun x => post x.1 x.2) 3317 (by omega) hp⟩⟩
theorem kp_yc {kd dd pp la : Int32} {sz co va b cp : Nat → Int32} : ∃ b' : Nat → Int32, (∀ j, j < 3316 → b' j = cp j) ∧ ∀ post : Int32 → SY → Prop, post (b' 11) (kd, dd, pp, la, sz, co, va, b', cp) → wpY_crash post (kd, dd, pp, la, sz, co, va, b, cp) := by
  have key := lo_ex (ρ := Int32 × SY) (σ := Nat × (Nat → Int32))
    (fun post f s => wY_crash_2 (fun r u => post (r, u)) kd dd pp la f (nI s.1) sz co va (s.2) cp)
    (fun m s => m + s.1 = 3316 ∧ ∀ j, j < s.1 → s.2 j = cp j)
    (fun r => ∃ c : Nat → Int32, r = (c 11, (kd, dd, pp, la, sz, co, va, c, cp)) ∧ ∀ j, j < 3316 → c j = cp j)
    (by
      rintro m ⟨x, c⟩ ⟨h1, h2⟩
      dsimp only at *
      by_cases hx : x = 3316
      · subst hx
        refine Or.inl ⟨_, ⟨c, rfl, h2⟩, fun post f hp => ?_⟩
        rw [wY_crash_2]
        exact br_t (nI_le (a := 3316) (b := 3316) (Nat.le_refl _) (by decide)) hp
      · refine Or.inr ⟨m - 1, (x + 1, upd c x (cp x)), by omega, ⟨by dsimp only; omega, ?_⟩, fun post f hp => ?_⟩
        · intro j hj
          dsimp only at *
          by_cases z : j = x
          · rw [z, pk_us]
          · rw [pk_un z]
            exact h2 j (by omega)
        · rw [wY_crash_2]
          refine br_f (nI_ge (a := x) (b := 3316) (by omega) (by decide)) ?_
          simp (disch := omega) only [forall_eq, vp_in_nI, nI_clamp, pk_us, pk_un, true_and, ix_a0, ix_a1, ix_a2, ix_a3, ix_a4, ix_a5, ix_a6, ix_n7, ix_m7, ix_p1104, ix_p1524, nI_add]
          exact hp)
    3316 (0, b) ⟨rfl, fun j hj => absurd hj (Nat.not_lt_zero j)⟩
  obtain ⟨_, ⟨c, rfl, h1⟩, h2⟩ := key
  exact ⟨c, h1, fun post hp => ⟨3317, h2 (fun x => post x.1 x.2) 3317 (by omega) hp⟩⟩
section
variable {kd wd wn la mq lc xo xq km kl ko kq : Int32} {ek et ev ar tk ie oc rc kt ki kc : Nat → Int32}
theorem kp_x (hie : ∀ s, s < 3 → ie s = 0 ∨ ie s = 1) : ∃ kt' ki' kc' : Nat → Int32, (∀ s, s < 3 → kt' s = tk s ∧ ki' s = ie s) ∧ (∀ j, j < 1680 → kc' j = oc j) ∧ ∀ post : Int32 → SX → Prop, post xq (kd, wd, wn, la, mq, lc, xo, xq, mq, lc, xo, xq, ek, et, ev, ar, tk, ie, oc, rc, kt', ki', kc') → wpX_keep post (kd, wd, wn, la, mq, lc, xo, xq, km, kl, ko, kq, ek, et, ev, ar, tk, ie, oc, rc, kt, ki, kc) := by
  have key1 := fun (kt' ki' : Nat → Int32) => lo_ex (ρ := Int32 × SX) (σ := Nat × (Nat → Int32))
    (fun post f s => wX_keep_39 (fun r u => post (r, u)) kd wd wn la mq lc xo xq km kl ko kq f (nI s.1) ek et ev ar tk ie oc rc (kt') (ki') (s.2))
    (fun m s => m + s.1 = 1680 ∧ ∀ j, j < s.1 → s.2 j = oc j)
    (fun r => ∃ c : Nat → Int32, r = (xq, (kd, wd, wn, la, mq, lc, xo, xq, mq, lc, xo, xq, ek, et, ev, ar, tk, ie, oc, rc, kt', ki', c)) ∧ ∀ j, j < 1680 → c j = oc j)
    (by
      rintro m ⟨x, c⟩ ⟨h1, h2⟩
      dsimp only at *
      by_cases hx : x = 1680
      · subst hx
        refine Or.inl ⟨_, ⟨c, rfl, h2⟩, fun post f hp => ?_⟩
        rw [wX_keep_39]
        exact br_t (nI_le (a := 1680) (b := 1680) (Nat.le_refl _) (by decide)) hp
      · refine Or.inr ⟨m - 1, (x + 1, upd c x (oc x)), by omega, ⟨by dsimp only; omega, ?_⟩, fun post f hp => ?_⟩
        · intro j hj
          dsimp only at *
          by_cases z : j = x
          · rw [z, pk_us]
          · rw [pk_un z]
            exact h2 j (by omega)
        · rw [wX_keep_39]
          refine br_f (nI_ge (a := x) (b := 1680) (by omega) (by decide)) ?_
          simp (disch := omega) only [forall_eq, vp_in_nI, nI_clamp, pk_us, pk_un, true_and, ix_a0, ix_a1, ix_a2, ix_a3, ix_a4, ix_a5, ix_a6, ix_n7, ix_m7, ix_p1104, ix_p1524, nI_add]
          exact hp)
    1680 (0, kc) ⟨rfl, fun j hj => absurd hj (Nat.not_lt_zero j)⟩
  have key2 := lo_ex (ρ := Int32 × SX) (σ := Nat × (Nat → Int32) × (Nat → Int32))
    (fun post f s => wX_keep_2 (fun r u => post (r, u)) kd wd wn la mq lc xo xq km kl ko kq f (nI s.1) ek et ev ar tk ie oc rc (s.2.1) (s.2.2) kc)
    (fun m s => m + s.1 = 3 ∧ ∀ j, j < s.1 → s.2.1 j = tk j ∧ s.2.2 j = ie j)
    (fun r => ∃ kt' ki' kc' : Nat → Int32, r = (xq, (kd, wd, wn, la, mq, lc, xo, xq, mq, lc, xo, xq, ek, et, ev, ar, tk, ie, oc, rc, kt', ki', kc')) ∧ (∀ s, s < 3 → kt' s = tk s ∧ ki' s = ie s) ∧ ∀ j, j < 1680 → kc' j = oc j)
    (by
      rintro m ⟨x, c, e⟩ ⟨h1, h2⟩
      dsimp only at *
      by_cases hx : x = 3
      · subst hx
        obtain ⟨_, ⟨c2, rfl, q1⟩, q2⟩ := key1 c e
        refine Or.inl ⟨_, ⟨c, e, c2, rfl, h2, q1⟩, fun post f hp => ?_⟩
        rw [wX_keep_2]
        exact br_t (nI_le (a := 3) (b := 3) (Nat.le_refl _) (by decide)) ⟨1681, q2 post 1681 (by omega) hp⟩
      · refine Or.inr ⟨m - 1, (x + 1, upd c x (tk x), upd e x (ie x)), by omega, ⟨by dsimp only; omega, ?_⟩, fun post f hp => ?_⟩
        · intro j hj
          dsimp only at *
          by_cases z : j = x
          · rw [z, pk_us, pk_us]
            exact ⟨rfl, rfl⟩
          · rw [pk_un z, pk_un z]
            exact h2 j (by omega)
        · rw [wX_keep_2]
          refine br_f (nI_ge (a := x) (b := 3) (by omega) (by decide)) ?_
          simp (disch := omega) only [forall_eq, vp_in_nI, nI_clamp, pk_us, pk_un, true_and, ix_a0, ix_a1, ix_a2, ix_a3, ix_a4, ix_a5, ix_a6, ix_n7, ix_m7, ix_p1104, ix_p1524, nI_add]
          rw [kp_vb (hie x (by omega))]
          exact hp)
    3 (0, kt, ki) ⟨rfl, fun j hj => absurd hj (Nat.not_lt_zero j)⟩
  obtain ⟨_, ⟨kt', ki', kc', rfl, h1, h2⟩, h3⟩ := key2
  exact ⟨kt', ki', kc', h1, h2, fun post hp => ⟨4, h3 (fun x => post x.1 x.2) 4 (by omega) hp⟩⟩
theorem kp_xc (hie : ∀ s, s < 3 → ki s = 0 ∨ ki s = 1) : ∃ tk' ie' oc' : Nat → Int32, (∀ s, s < 3 → tk' s = kt s ∧ ie' s = ki s) ∧ (∀ j, j < 1680 → oc' j = kc j) ∧ ∀ post : Int32 → SX → Prop, post kq (kd, wd, wn, la, km, kl, ko, kq, km, kl, ko, kq, ek, et, ev, ar, tk', ie', oc', rc, kt, ki, kc) → wpX_crash post (kd, wd, wn, la, mq, lc, xo, xq, km, kl, ko, kq, ek, et, ev, ar, tk, ie, oc, rc, kt, ki, kc) := by
  have key1 := fun (tk' ie' : Nat → Int32) => lo_ex (ρ := Int32 × SX) (σ := Nat × (Nat → Int32))
    (fun post f s => wX_crash_39 (fun r u => post (r, u)) kd wd wn la mq lc xo xq km kl ko kq f (nI s.1) ek et ev ar (tk') (ie') (s.2) rc kt ki kc)
    (fun m s => m + s.1 = 1680 ∧ ∀ j, j < s.1 → s.2 j = kc j)
    (fun r => ∃ c : Nat → Int32, r = (kq, (kd, wd, wn, la, km, kl, ko, kq, km, kl, ko, kq, ek, et, ev, ar, tk', ie', c, rc, kt, ki, kc)) ∧ ∀ j, j < 1680 → c j = kc j)
    (by
      rintro m ⟨x, c⟩ ⟨h1, h2⟩
      dsimp only at *
      by_cases hx : x = 1680
      · subst hx
        refine Or.inl ⟨_, ⟨c, rfl, h2⟩, fun post f hp => ?_⟩
        rw [wX_crash_39]
        exact br_t (nI_le (a := 1680) (b := 1680) (Nat.le_refl _) (by decide)) hp
      · refine Or.inr ⟨m - 1, (x + 1, upd c x (kc x)), by omega, ⟨by dsimp only; omega, ?_⟩, fun post f hp => ?_⟩
        · intro j hj
          dsimp only at *
          by_cases z : j = x
          · rw [z, pk_us]
          · rw [pk_un z]
            exact h2 j (by omega)
        · rw [wX_crash_39]
          refine br_f (nI_ge (a := x) (b := 1680) (by omega) (by decide)) ?_
          simp (disch := omega) only [forall_eq, vp_in_nI, nI_clamp, pk_us, pk_un, true_and, ix_a0, ix_a1, ix_a2, ix_a3, ix_a4, ix_a5, ix_a6, ix_n7, ix_m7, ix_p1104, ix_p1524, nI_add]
          exact hp)
    1680 (0, oc) ⟨rfl, fun j hj => absurd hj (Nat.not_lt_zero j)⟩
  have key2 := lo_ex (ρ := Int32 × SX) (σ := Nat × (Nat → Int32) × (Nat → Int32))
    (fun post f s => wX_crash_2 (fun r u => post (r, u)) kd wd wn la mq lc xo xq km kl ko kq f (nI s.1) ek et ev ar (s.2.1) (s.2.2) oc rc kt ki kc)
    (fun m s => m + s.1 = 3 ∧ ∀ j, j < s.1 → s.2.1 j = kt j ∧ s.2.2 j = ki j)
    (fun r => ∃ tk' ie' oc' : Nat → Int32, r = (kq, (kd, wd, wn, la, km, kl, ko, kq, km, kl, ko, kq, ek, et, ev, ar, tk', ie', oc', rc, kt, ki, kc)) ∧ (∀ s, s < 3 → tk' s = kt s ∧ ie' s = ki s) ∧ ∀ j, j < 1680 → oc' j = kc j)
    (by
      rintro m ⟨x, c, e⟩ ⟨h1, h2⟩
      dsimp only at *
      by_cases hx : x = 3
      · subst hx
        obtain ⟨_, ⟨c2, rfl, q1⟩, q2⟩ := key1 c e
        refine Or.inl ⟨_, ⟨c, e, c2, rfl, h2, q1⟩, fun post f hp => ?_⟩
        rw [wX_crash_2]
        exact br_t (nI_le (a := 3) (b := 3) (Nat.le_refl _) (by decide)) ⟨1681, q2 post 1681 (by omega) hp⟩
      · refine Or.inr ⟨m - 1, (x + 1, upd c x (kt x), upd e x (ki x)), by omega, ⟨by dsimp only; omega, ?_⟩, fun post f hp => ?_⟩
        · intro j hj
          dsimp only at *
          by_cases z : j = x
          · rw [z, pk_us, pk_us]
            exact ⟨rfl, rfl⟩
          · rw [pk_un z, pk_un z]
            exact h2 j (by omega)
        · rw [wX_crash_2]
          refine br_f (nI_ge (a := x) (b := 3) (by omega) (by decide)) ?_
          simp (disch := omega) only [forall_eq, vp_in_nI, nI_clamp, pk_us, pk_un, true_and, ix_a0, ix_a1, ix_a2, ix_a3, ix_a4, ix_a5, ix_a6, ix_n7, ix_m7, ix_p1104, ix_p1524, nI_add]
          rw [kp_vb (hie x (by omega))]
          exact hp)
    3 (0, tk, ie) ⟨rfl, fun j hj => absurd hj (Nat.not_lt_zero j)⟩
  obtain ⟨_, ⟨tk', ie', oc', rfl, h1, h2⟩, h3⟩ := key2
  exact ⟨tk', ie', oc', h1, h2, fun post hp => ⟨4, h3 (fun x => post x.1 x.2) 4 (by omega) hp⟩⟩
end
theorem i_vc_keep {k : Nat} {u : SX} {v : SY} (I : i_Rel k u v) (hk : k + 3 ≤ 1540) : wpX_keep (fun r u' => wpY_keep (fun r' v' => r' = r ∧ i_Rel (k + 3) u' v') v) u := by
  obtain ⟨kd, wd, wn, la, mq, lc, xo, xq, km, kl, ko, kq, ek, et, ev, ar, tk, ie, oc, rc, kt, ki, kc⟩ := u
  obtain ⟨kd', dd, pp, la', sz, co, va, b, cp⟩ := v
  obtain ⟨g1, g2, g3, g4, g5, dn, W, ln, an, n, r, n2, r2, e1, e2, e3, e4, e5, hr2, hS, hN, hK⟩ := I
  subst g1 g2 g3 g4 g5 e1 e2 e3 e4 e5
  have hie : ∀ s, s < 3 → ie s = 0 ∨ ie s = 1 := by
    obtain ⟨tn, sn, t1, _⟩ := hN
    exact fun s hs => (t1 s hs).2.2.2.2.1
  have h11 : b 11 = nI r := by
    obtain ⟨tn, sn, t1, ⟨t2, t3, t4, t5, t6⟩, _⟩ := hN
    exact t5
  obtain ⟨kt', ki', kc', q1, q2, q3⟩ := kp_x (kd := kd) (wd := wd) (wn := nI W) (la := la) (mq := mq) (lc := lc) (xo := nI n) (xq := nI r) (km := km) (kl := kl) (ko := nI n2) (kq := nI r2) (ek := ek) (et := et) (ev := ev) (ar := ar) (tk := tk) (ie := ie) (oc := oc) (rc := rc) (kt := kt) (ki := ki) (kc := kc) hie
  obtain ⟨cp', w1, w2⟩ := kp_y (kd := kd) (dd := wd) (pp := pp) (la := la) (sz := ar) (co := co) (va := ev) (b := b) (cp := cp)
  refine q3 _ (w2 _ ⟨h11, ?_⟩)
  exact ⟨rfl, rfl, rfl, rfl, rfl, dn, W, ln, an, n, r, n, r, rfl, rfl, rfl, rfl, rfl, Nat.le_refl _, hS, hN, rl_Nc hS (rl_Nx hS hN q1 q2) w1⟩
theorem i_vc_crash {k : Nat} {u : SX} {v : SY} (I : i_Rel k u v) (hk : k + 3 ≤ 1540) : wpX_crash (fun r u' => wpY_crash (fun r' v' => r' = r ∧ i_Rel (k + 3) u' v') v) u := by
  obtain ⟨kd, wd, wn, la, mq, lc, xo, xq, km, kl, ko, kq, ek, et, ev, ar, tk, ie, oc, rc, kt, ki, kc⟩ := u
  obtain ⟨kd', dd, pp, la', sz, co, va, b, cp⟩ := v
  obtain ⟨g1, g2, g3, g4, g5, dn, W, ln, an, n, r, n2, r2, e1, e2, e3, e4, e5, hr2, hS, hN, hK⟩ := I
  subst g1 g2 g3 g4 g5 e1 e2 e3 e4 e5
  have hie : ∀ s, s < 3 → ki s = 0 ∨ ki s = 1 := by
    obtain ⟨tn, sn, t1, _⟩ := hK
    exact fun s hs => (t1 s hs).2.2.2.2.1
  have h11 : cp 11 = nI r2 := by
    obtain ⟨tn, sn, t1, ⟨t2, t3, t4, t5, t6⟩, _⟩ := hK
    exact t5
  obtain ⟨tk', ie', oc', q1, q2, q3⟩ := kp_xc (kd := kd) (wd := wd) (wn := nI W) (la := la) (mq := mq) (lc := lc) (xo := nI n) (xq := nI r) (km := km) (kl := kl) (ko := nI n2) (kq := nI r2) (ek := ek) (et := et) (ev := ev) (ar := ar) (tk := tk) (ie := ie) (oc := oc) (rc := rc) (kt := kt) (ki := ki) (kc := kc) hie
  obtain ⟨b', w1, w2⟩ := kp_yc (kd := kd) (dd := wd) (pp := pp) (la := la) (sz := ar) (co := co) (va := ev) (b := b) (cp := cp)
  refine q3 _ (w2 _ ⟨by rw [w1 11 (by omega)]; exact h11, ?_⟩)
  exact ⟨rfl, rfl, rfl, rfl, rfl, dn, W, ln, an, n2, r2, n2, r2, rfl, rfl, rfl, rfl, rfl, Nat.le_refl _, hS, rl_Nc hS (rl_Nx hS hK q1 q2) w1, hK⟩
end
end
section
/-! arrive, idle, read -/
section
theorem i_vc_arrive {k : Nat} {u : SX} {v : SY} (I : i_Rel k u v) (hk : k + 3 ≤ 1540) (v1 : Int32) (v2 : Int32) : wpX_arrive (fun r u' => wpY_arrive (fun r' v' => r' = r ∧ i_Rel (k + 3) u' v') v v1 v2) u v1 v2 := by
  have I0 := I
  obtain ⟨kd, wd, wn, la, mq, lc, xo, xq, km, kl, ko, kq, ek, et, ev, ar, tk, ie, oc, rc, kt, ki, kc⟩ := u
  obtain ⟨kd', dd, pp, la', sz, co, va, b, cp⟩ := v
  obtain ⟨g1, g2, g3, g4, g5, dn, W, ln, an, n, r, n2, r2, e1, e2, e3, e4, e5, hr2, hS, hN, hK⟩ := I
  subst g1 g2 g3 g4 g5 e1 e2 e3 e4 e5
  unfold wpX_arrive wpY_arrive
  dsimp only
  by_cases a : v1 < 0
  · exact br_t a (br_t a ⟨rfl, I0⟩)
  · obtain ⟨cc, hcc, rfl⟩ := nI_of a
    by_cases c : cc < 768
    · have x1 : ¬ (768 : Int32) ≤ nI cc := nI_ge (b := 768) c (by decide)
      have x2 : ¬ (767 : Int32) < nI cc := nI_nlt (a := 767) (by omega) (by decide)
      by_cases d : v2 < (-50)
      · exact br_f a (br_f x1 (br_t d (br_f a (br_f x2 (br_t d ⟨rfl, I0⟩)))))
      · by_cases e : v2 ≤ 50
        · refine br_f a (br_f x1 (br_f d (br_t e ?_)))
          have q256 : nI cc / 256 = nI (cc / 256) := pk_div (d := 256) (by omega) (by omega) (by omega)
          have q64 : nI cc / 64 = nI (cc / 64) := pk_div (d := 64) (by omega) (by omega) (by omega)
          have r4 : nI (cc / 64) - nI (cc / 64) / 4 * 4 = nI (cc / 64 % 4) := pk_rem (d := 4) (by omega) (by omega) (by omega)
          have r64 : nI cc - nI (cc / 64) * 64 = nI (cc % 64) := by
            rw [← q64]
            exact pk_rem (d := 64) (by omega) (by omega) (by omega)
          have r256 : nI cc - nI (cc / 256) * 256 = nI (cc % 256) := by
            rw [← q256]
            exact pk_rem (d := 256) (by omega) (by omega) (by omega)
          have hs : cc / 256 < 3 := by omega
          have hS2 := hS
          obtain ⟨s1, s2, s3, s4, s5, s6, s7, s8, s9, s10, s11, s12⟩ := hS2
          generalize hsd : cc / 256 = s at *
          obtain ⟨has, has2⟩ := s11 s hs
          by_cases f : an s < 20
          · have y1 : nI (an s) < 20 := nI_lt (b := 20) f (by decide)
            have y2 : ¬ nI (an s) = 20 := fun z => by
              have := (nI_eq (b := 20) (by omega) (by decide)).mp z
              omega
            simp (disch := omega) only [forall_eq, vp_in_nI, nI_clamp, pk_us, pk_un, true_and, ix_a0, ix_a1, ix_a2, ix_a3, ix_a4, ix_a5, ix_a6, ix_n7, ix_m7, ix_p1104, ix_p1524, nI_add, ix_n20, ix_m20, q256, q64, r4, r64, r256, has]
            refine ⟨by decide, br_t y1 ⟨by decide, by decide, by decide, ?_⟩⟩
            refine br_f a (br_f x2 (br_f d (br_t e ?_)))
            refine ⟨by decide, br_f y2 ⟨by decide, ?_⟩⟩
            rw [Nat.mul_comm 20 s]
            refine ⟨rfl, rfl, rfl, rfl, rfl, dn, W, ln, fun x => if x = s then an s + 1 else an x, n, r, n2, r2, rfl, rfl, rfl, rfl, rfl, hr2, ⟨s1, s2, s3, s4, s5, s6, s7, s8, s9, s10, ?_, ?_⟩, ?_, ?_⟩
            · intro x hx
              dsimp only
              by_cases z : x = s
              · subst z
                rw [pk_us, if_pos rfl]
                exact ⟨rfl, by omega⟩
              · rw [pk_un z, if_neg z]
                exact s11 x hx
            · intro j
              by_cases z : j = s * 20 + an s
              · subst z
                rw [pk_us, pk_us, pk_us]
                exact ⟨cc % 256, by omega, rfl, congrArg nI (by omega), congrArg nI (by omega)⟩
              · rw [pk_un z, pk_un z, pk_un z]
                exact s12 j
            · refine rl_Na hN (fun x hx => ?_) (fun x hx i hi => pk_un ?_)
              · split
                · rename_i z
                  rw [z]
                  omega
                · omega
              · have := (s11 x hx).2
                intro z
                have : x = s := by omega
                subst this
                omega
            · refine rl_Na hK (fun x hx => ?_) (fun x hx i hi => pk_un ?_)
              · split
                · rename_i z
                  rw [z]
                  omega
                · omega
              · have := (s11 x hx).2
                intro z
                have : x = s := by omega
                subst this
                omega
          · have h20 : an s = 20 := by omega
            have y1 : ¬ nI (an s) < 20 := by rw [h20]; decide
            have y2 : nI (an s) = 20 := by rw [h20]; rfl
            simp (disch := omega) only [forall_eq, vp_in_nI, nI_clamp, pk_us, pk_un, true_and, ix_a0, ix_a1, ix_a2, ix_a3, ix_a4, ix_a5, ix_a6, ix_n7, ix_m7, ix_p1104, ix_p1524, nI_add, q256, has]
            refine ⟨by decide, br_f y1 ?_⟩
            refine br_f a (br_f x2 (br_f d (br_t e ?_)))
            exact ⟨by decide, br_t y2 I0⟩
        · exact br_f a (br_f x1 (br_f d (br_f e (br_f a (br_f x2 (br_f d (br_f e ⟨rfl, I0⟩)))))))
    · have x1 : (768 : Int32) ≤ nI cc := nI_le (a := 768) (by omega) hcc
      have x2 : (767 : Int32) < nI cc := nI_lt (a := 767) (by omega) hcc
      exact br_f a (br_t x1 (br_f a (br_t x2 ⟨rfl, I0⟩)))
theorem i_vc_read {k : Nat} {u : SX} {v : SY} (I : i_Rel k u v) (hk : k + 3 ≤ 1540) (v1 : Int32) : wpX_read (fun r u' => wpY_read (fun r' v' => r' = r ∧ i_Rel (k + 3) u' v') v v1) u v1 := by
  have I0 := I
  obtain ⟨kd, wd, wn, la, mq, lc, xo, xq, km, kl, ko, kq, ek, et, ev, ar, tk, ie, oc, rc, kt, ki, kc⟩ := u
  obtain ⟨kd', dd, pp, la', sz, co, va, b, cp⟩ := v
  obtain ⟨g1, g2, g3, g4, g5, dn, W, ln, an, n, r, n2, r2, e1, e2, e3, e4, e5, hr2, hS, hN, hK⟩ := I
  subst g1 g2 g3 g4 g5 e1 e2 e3 e4 e5
  rcases so_3 v1 with h | ⟨s, hs, rfl⟩
  · unfold wpX_read wpY_read
    dsimp only
    refine so_xb h ?_
    refine br_t rfl ?_
    refine so_yb h ?_
    exact br_f (by decide) ⟨rfl, I0⟩
  · have hN2 := hN
    obtain ⟨tn, sn, t1, _⟩ := hN2
    obtain ⟨f1, f2, f3, _⟩ := t1 s hs
    obtain ⟨has, has2⟩ := hS.2.2.2.2.2.2.2.2.2.2.1 s hs
    have hun : ar s - tk s = nI (an s - tn s) := by rw [has, f1, pk_sub f2]
    by_cases z : tk s = ar s
    · have ez : tn s = an s := by
        rw [f1, has] at z
        exact (nI_eq (by omega) (by omega)).mp z
      unfold wpX_read wpX_unread wpY_read
      dsimp only
      refine so_xg hs ?_
      refine br_f (by decide) ?_
      simp (disch := omega) only [forall_eq, vp_in_nI, nI_clamp, pk_us, pk_un, true_and, ix_a0, ix_a1, ix_a2, ix_a3, ix_a4, ix_a5, ix_a6, ix_n7, ix_m7, ix_p1104, ix_p1524, nI_add, hun]
      refine br_t (by rw [ez, Nat.sub_self]; rfl) ?_
      refine so_yg hs ?_
      refine br_t rfl ?_
      exact br_t (by rw [f3, has, ez]) I0
    · have ez : ¬ tn s = an s := by
        intro y
        exact z (by rw [f1, has, y])
      obtain ⟨oc', rc', b', mq', lc', n', r', q1, q2, q3, q4, q5⟩ := bo_read (km := km) (kl := kl) (ko := nI n2) (kq := nI r2) (ev := ev) (kt := kt) (ki := ki) (kc := kc) (cp := cp) hS hN hs z
      unfold wpX_read wpX_unread
      dsimp only
      refine so_xg hs ?_
      refine br_f (by decide) ?_
      simp (disch := omega) only [forall_eq, vp_in_nI, nI_clamp, pk_us, pk_un, true_and, ix_a0, ix_a1, ix_a2, ix_a3, ix_a4, ix_a5, ix_a6, ix_n7, ix_m7, ix_p1104, ix_p1524, nI_add, hun]
      refine br_f (nI_ne0 (by omega) (by omega)) (q4 _ ?_)
      dsimp only
      refine q5 _ ⟨rfl, ?_⟩
      exact ⟨rfl, rfl, rfl, rfl, rfl, dn, W, ln, an, n', r', n2, r2, rfl, rfl, rfl, rfl, rfl, by omega, hS, q1, rl_Nr hK hr2 q3⟩
theorem i_vc_idle {k : Nat} {u : SX} {v : SY} (I : i_Rel k u v) (hk : k + 3 ≤ 1540) (v1 : Int32) (v2 : Int32) : wpX_idle (fun r u' => wpY_idle (fun r' v' => r' = r ∧ i_Rel (k + 3) u' v') v v1 (lw_bz v2)) u v1 (lw_bz v2) := by
  have I0 := I
  obtain ⟨kd, wd, wn, la, mq, lc, xo, xq, km, kl, ko, kq, ek, et, ev, ar, tk, ie, oc, rc, kt, ki, kc⟩ := u
  obtain ⟨kd', dd, pp, la', sz, co, va, b, cp⟩ := v
  obtain ⟨g1, g2, g3, g4, g5, dn, W, ln, an, n, r, n2, r2, e1, e2, e3, e4, e5, hr2, hS, hN, hK⟩ := I
  subst g1 g2 g3 g4 g5 e1 e2 e3 e4 e5
  unfold wpX_idle wpY_idle
  dsimp only
  rcases so_3 v1 with h | ⟨s, hs, rfl⟩
  · refine so_xb h ?_
    refine br_t rfl ?_
    refine so_yb h ?_
    exact br_f (by decide) ⟨rfl, I0⟩
  · have h01 := lw_bz_01 v2
    generalize lw_bz v2 = w at *
    have hN2 : rl_N kd wd pp W et an tk (upd ie s w) oc rc mq lc n r (upd b (3 + s) w) := by
      have hN0 := hN
      obtain ⟨tn, sn, t1, ⟨t2, t3, t4, t5, t6⟩, t7, t8, t9, t10⟩ := hN0
      have hT := rl_T hS (fun s hs => (t1 s hs).2.1)
      have hsn := bo_sn t7 hS.2.1 t8 hT.1
      refine ⟨tn, sn, ?_, ⟨?_, t3, ?_, ?_, ?_⟩, rl_Bc t7 (by omega) (fun j h1 h2 => pk_un (by omega)), t8, t9, ?_⟩
      · intro x hx
        obtain ⟨f1, f2, f3, f4, f5, f6⟩ := t1 x hx
        refine ⟨f1, f2, ?_, ?_, ?_, ?_⟩
        · rw [pk_un (by omega)]; exact f3
        · by_cases z : x = s
          · subst z
            rw [pk_us, pk_us]
          · rw [pk_un (by omega), pk_un z]; exact f4
        · by_cases z : x = s
          · subst z
            rw [pk_us]; exact h01
          · rw [pk_un z]; exact f5
        · rw [pk_un (by omega)]; exact f6
      · rw [pk_un (by omega)]; exact t2
      · rw [pk_un (by omega)]; exact t4
      · rw [pk_un (by omega)]; exact t5
      · rw [pk_un (by omega)]; exact t6
      · rw [t10]
        exact (yr_c (fun j h1 h2 => pk_un (by omega))).symm
    obtain ⟨oc', rc', b', mq', n', r', z1, z2, z3, z4, z5, z6⟩ := bo_settle (wn := nI W) (km := km) (kl := kl) (ko := nI n2) (kq := nI r2) (ev := ev) (kt := kt) (ki := ki) (kc := kc) (cp := cp) hS hN2
    have hR : i_Rel (k + 3) (kd, wd, nI W, la, mq', lc, nI n', nI r', km, kl, nI n2, nI r2, ek, et, ev, ar, tk, upd ie s w, oc', rc', kt, ki, kc) (kd, wd, pp, la, ar, co, ev, b', cp) :=
      ⟨rfl, rfl, rfl, rfl, rfl, dn, W, ln, an, n', r', n2, r2, rfl, rfl, rfl, rfl, rfl, by omega, hS, z1, rl_Nr hK hr2 z3⟩
    refine so_xg hs ?_
    refine br_f (by decide) ?_
    simp (disch := omega) only [forall_eq, vp_in_nI, nI_clamp, pk_us, pk_un, true_and, ix_a0, ix_a1, ix_a2, ix_a3, ix_a4, ix_a5, ix_a6, ix_n7, ix_m7, ix_p1104, ix_p1524, nI_add]
    rw [kp_vb h01]
    refine z4 _ ?_
    dsimp only
    refine z5 _ ?_
    dsimp only
    refine so_yg hs ?_
    refine br_t rfl ?_
    rcases h01 with rfl | rfl
    · refine br_t rfl ?_
      unfold wY_idle_28
      simp (disch := omega) only [forall_eq, vp_in_nI, nI_clamp, pk_us, pk_un, true_and, ix_a0, ix_a1, ix_a2, ix_a3, ix_a4, ix_a5, ix_a6, ix_n7, ix_m7, ix_p1104, ix_p1524, nI_add, ix_p3]
      exact z6 _ ⟨rfl, hR⟩
    · refine br_f (by decide) ?_
      unfold wY_idle_28
      simp (disch := omega) only [forall_eq, vp_in_nI, nI_clamp, pk_us, pk_un, true_and, ix_a0, ix_a1, ix_a2, ix_a3, ix_a4, ix_a5, ix_a6, ix_n7, ix_m7, ix_p1104, ix_p1524, nI_add, ix_p3]
      exact z6 _ ⟨rfl, hR⟩
end
end
section
/-! readAll -/
section
def mo_s (un : Nat → Nat) : Nat → Nat
  | 0 => 0
  | 1 => 0
  | k + 2 => if un (k + 1) ≤ un (mo_s un (k + 1)) then mo_s un (k + 1) else k + 1
theorem mo_p (un : Nat → Nat) : ∀ k, mo_s un (k + 1) ≤ k ∧ ∀ s, s ≤ k → un s ≤ un (mo_s un (k + 1)) := by
  intro k
  induction k with
  | zero =>
    refine ⟨Nat.le_refl _, fun s hs => ?_⟩
    have : s = 0 := by omega
    subst this
    exact Nat.le_refl _
  | succ k ih =>
    obtain ⟨h1, h2⟩ := ih
    by_cases z : un (k + 1) ≤ un (mo_s un (k + 1))
    · have e : mo_s un (k + 1 + 1) = mo_s un (k + 1) := if_pos z
      rw [e]
      refine ⟨by omega, fun s hs => ?_⟩
      by_cases y : s = k + 1
      · rw [y]; exact z
      · exact h2 s (by omega)
    · have e : mo_s un (k + 1 + 1) = k + 1 := if_neg z
      rw [e]
      refine ⟨Nat.le_refl _, fun s hs => ?_⟩
      by_cases y : s = k + 1
      · rw [y]; exact Nat.le_refl _
      · have := h2 s (by omega)
        omega
section
variable {kd wd wn la mq lc xo xq km kl ko kq : Int32} {ek et ev ar tk ie oc rc kt ki kc : Nat → Int32}
theorem mo_x {un : Nat → Nat} (hu : ∀ s, s < 3 → ar s - tk s = nI (un s) ∧ un s ≤ 20) : ∀ post : Int32 → Prop, post (nI (mo_s un 3)) → wpX_sourceWithMostUnread post (kd, wd, wn, la, mq, lc, xo, xq, km, kl, ko, kq, ek, et, ev, ar, tk, ie, oc, rc, kt, ki, kc) := by
  have key := lo_ex (ρ := Int32) (σ := Nat)
    (fun post f s => wX_sourceWithMostUnread_4 post kd wd wn la mq lc xo xq km kl ko kq ek et ev ar tk ie oc rc kt ki kc f (nI (mo_s un (s + 1))) (nI (s + 1)))
    (fun m s => m + s = 2)
    (fun r => r = nI (mo_s un 3))
    (by
      rintro m s h1
      by_cases hs : s = 2
      · subst hs
        refine Or.inl ⟨_, rfl, fun post f hp => ?_⟩
        rw [wX_sourceWithMostUnread_4]
        exact br_t (nI_le (a := 3) (b := 3) (Nat.le_refl _) (by decide)) hp
      · have hlt : s + 1 < 3 := by omega
        have hmo : mo_s un (s + 1) < 3 := by have := (mo_p un s).1; omega
        refine Or.inr ⟨m - 1, s + 1, by omega, by omega, fun post f hp => ?_⟩
        rw [wX_sourceWithMostUnread_4]
        refine br_f (nI_ge (a := s + 1) (b := 3) hlt (by decide)) ?_
        unfold wpX_unread
        dsimp only
        simp (disch := omega) only [forall_eq, vp_in_nI, nI_clamp, pk_us, pk_un, true_and, ix_a0, ix_a1, ix_a2, ix_a3, ix_a4, ix_a5, ix_a6, ix_n7, ix_m7, ix_p1104, ix_p1524, nI_add, (hu (s + 1) hlt).1, (hu _ hmo).1]
        have e : mo_s un (s + 1 + 1) = if un (s + 1) ≤ un (mo_s un (s + 1)) then mo_s un (s + 1) else s + 1 := rfl
        rw [e] at hp
        by_cases z : un (s + 1) ≤ un (mo_s un (s + 1))
        · rw [if_pos z] at hp
          exact br_t (nI_le z (by have := (hu _ hmo).2; omega)) hp
        · rw [if_neg z] at hp
          exact br_f (nI_ge (by omega) (by have := (hu _ hlt).2; omega)) hp)
    2 0 (by omega)
  obtain ⟨_, rfl, h3⟩ := key
  exact fun post hp => ⟨3, h3 post 3 (by omega) hp⟩
end
section
variable {kd dd pp la : Int32} {sz co va b cp : Nat → Int32}
theorem mo_y {un : Nat → Nat} (hu : ∀ s, s < 3 → sz s - b s = nI (un s) ∧ un s ≤ 20) : ∀ (P : Int32 → SY → Prop) (J : Int32 → Int32 → Int32 → Int32 → Int32 → (Nat → Int32) → (Nat → Int32) → (Nat → Int32) → (Nat → Int32) → (Nat → Int32) → Prop) (x1 : Int32), wpY_read (fun r u => match u with | (kd, dd, pp, la, sz, co, va, b, cp) => ∀ x : Int32, x = x1 + 1 → J x kd dd pp la sz co va b cp) (kd, dd, pp, la, sz, co, va, b, cp) (nI (mo_s un 3)) → ∃ f, wY_readAll_49 P J x1 kd dd pp la sz co va b cp f 0 1 := by
  intro P J x1 hJ
  have key := lo_ex (ρ := Unit) (σ := Nat)
    (fun post f s => post () → wY_readAll_49 P J x1 kd dd pp la sz co va b cp f (nI (mo_s un (s + 1))) (nI (s + 1)))
    (fun m s => m + s = 2)
    (fun _ => True)
    (by
      rintro m s h1
      by_cases hs : s = 2
      · subst hs
        refine Or.inl ⟨(), trivial, fun post f _ _ => ?_⟩
        rw [wY_readAll_49]
        exact br_t (nI_le (a := 3) (b := 3) (Nat.le_refl _) (by decide)) hJ
      · have hlt : s + 1 < 3 := by omega
        have hmo : mo_s un (s + 1) < 3 := by have := (mo_p un s).1; omega
        refine Or.inr ⟨m - 1, s + 1, by omega, by omega, fun post f hp hq => ?_⟩
        have hp := hp hq
        rw [wY_readAll_49]
        refine br_f (nI_ge (a := s + 1) (b := 3) hlt (by decide)) ?_
        simp (disch := omega) only [forall_eq, vp_in_nI, nI_clamp, pk_us, pk_un, true_and, ix_a0, ix_a1, ix_a2, ix_a3, ix_a4, ix_a5, ix_a6, ix_n7, ix_m7, ix_p1104, ix_p1524, nI_add, (hu (s + 1) hlt).1, (hu _ hmo).1]
        have e : mo_s un (s + 1 + 1) = if un (s + 1) ≤ un (mo_s un (s + 1)) then mo_s un (s + 1) else s + 1 := rfl
        rw [e] at hp
        by_cases z : un (s + 1) ≤ un (mo_s un (s + 1))
        · rw [if_pos z] at hp
          exact br_t (nI_le z (by have := (hu _ hmo).2; omega)) hp
        · rw [if_neg z] at hp
          exact br_f (nI_ge (by omega) (by have := (hu _ hlt).2; omega)) hp)
    2 0 (by omega)
  obtain ⟨_, _, h3⟩ := key
  exact ⟨3, h3 (fun _ => True) 3 (by omega) trivial trivial⟩
end
section
variable {kd wd la km kl : Int32} {ek et ev ar ie kt ki kc : Nat → Int32}
variable {pp : Int32} {co cp : Nat → Int32} {dn W ln n2 r2 : Nat} {an : Nat → Nat}
theorem mo_all (hS : rl_S kd wd pp la dn W ln an ek et ar co) : ∀ (U i n r : Nat) (mq lc : Int32) (tk oc rc b : Nat → Int32), i + U ≤ 60 → r2 ≤ r → rl_N kd wd pp W et an tk ie oc rc mq lc n r b → rl_N kd wd pp W et an kt ki kc rc km kl n2 r2 cp → (∃ tn : Nat → Nat, (∀ s, s < 3 → tk s = nI (tn s) ∧ b s = nI (tn s) ∧ tn s ≤ an s) ∧ tn 0 + tn 1 + tn 2 + U = an 0 + an 1 + an 2) →
    ∃ (u' : SX) (v' : SY), rl_P u' v' ∧ (∀ (post : Int32 → SX → Prop) (f : Nat), U < f → post (nI (i + U)) u' → wX_readAll_4 post f (nI i) (nI i) kd wd (nI W) la mq lc (nI n) (nI r) km kl (nI n2) (nI r2) ek et ev ar tk ie oc rc kt ki kc) ∧ (∀ (post : Int32 → SY → Prop) (f : Nat), U < f → post (nI (i + U)) v' → wY_readAll_2 post f (nI i) kd (wd) pp la (ar) co (ev) b cp) := by
  intro U
  have s11 := hS.2.2.2.2.2.2.2.2.2.2.1
  induction U with
  | zero =>
    intro i n r mq lc tk oc rc b hi hr hN hK ⟨tn, h1, h2⟩
    have hall : ∀ s, s < 3 → tn s = an s := by
      have a0 := (h1 0 (by omega)).2.2
      have a1 := (h1 1 (by omega)).2.2
      have a2 := (h1 2 (by omega)).2.2
      intro s hs
      have hs3 : s = 0 ∨ s = 1 ∨ s = 2 := by omega
      rcases hs3 with rfl | rfl | rfl <;> omega
    have hun : ∀ s, s < 3 → ar s - tk s = nI 0 ∧ 0 ≤ 20 := by
      intro s hs
      rw [(s11 s hs).1, (h1 s hs).1, hall s hs, Int32.sub_self]
      exact ⟨rfl, by omega⟩
    refine ⟨(kd, wd, nI W, la, mq, lc, nI n, nI r, km, kl, nI n2, nI r2, ek, et, ev, ar, tk, ie, oc, rc, kt, ki, kc), (kd, wd, pp, la, ar, co, ev, b, cp), ⟨rfl, rfl, rfl, rfl, rfl, dn, W, ln, an, n, r, n2, r2, rfl, rfl, rfl, rfl, rfl, hr, hS, hN, hK⟩, fun post f hf hp => ?_, fun post f hf hp => ?_⟩
    · obtain ⟨f, rfl⟩ : ∃ k, f = k + 1 := ⟨f - 1, by omega⟩
      rw [wX_readAll_4]
      by_cases z : i = 60
      · subst z
        exact br_t (nI_le (a := 60) (b := 60) (Nat.le_refl _) (by decide)) hp
      · refine br_f (nI_ge (a := i) (b := 60) (by omega) (by decide)) ?_
        refine mo_x (un := fun _ => 0) hun _ ?_
        have hmo : mo_s (fun _ => 0) 3 ≤ 2 := (mo_p (fun _ => 0) 2).1
        unfold wpX_unread
        dsimp only
        simp (disch := omega) only [forall_eq, vp_in_nI, nI_clamp, pk_us, pk_un, true_and, ix_a0, ix_a1, ix_a2, ix_a3, ix_a4, ix_a5, ix_a6, ix_n7, ix_m7, ix_p1104, ix_p1524, nI_add]
        rw [(hun _ (by omega)).1]
        exact br_t rfl hp
    · obtain ⟨f, rfl⟩ : ∃ k, f = k + 1 := ⟨f - 1, by omega⟩
      rw [wY_readAll_2]
      refine br_t ?_ hp
      rw [(h1 0 (by omega)).2.1, (h1 1 (by omega)).2.1, (h1 2 (by omega)).2.1, (s11 0 (by omega)).1, (s11 1 (by omega)).1, (s11 2 (by omega)).1, hall 0 (by omega), hall 1 (by omega), hall 2 (by omega)]
      exact Int32.le_refl _
  | succ U ih =>
    intro i n r mq lc tk oc rc b hi hr hN hK ⟨tn, h1, h2⟩
    have hun : ∀ s, s < 3 → ar s - tk s = nI (an s - tn s) ∧ an s - tn s ≤ 20 := by
      intro s hs
      have := (s11 s hs).2
      rw [(s11 s hs).1, (h1 s hs).1, pk_sub (h1 s hs).2.2]
      exact ⟨rfl, by omega⟩
    have hun2 : ∀ s, s < 3 → ar s - b s = nI (an s - tn s) ∧ an s - tn s ≤ 20 := by
      intro s hs
      rw [(h1 s hs).2.1, ← (h1 s hs).1]
      exact hun s hs
    obtain ⟨m1, m2⟩ := mo_p (fun s => an s - tn s) 2
    generalize hm : mo_s (fun s => an s - tn s) 3 = m at *
    have hm3 : m < 3 := by omega
    have hpos : 0 < an m - tn m := by
      have a0 := (h1 0 (by omega)).2.2
      have a1 := (h1 1 (by omega)).2.2
      have a2 := (h1 2 (by omega)).2.2
      have c0 : an 0 - tn 0 ≤ an m - tn m := m2 0 (by omega)
      have c1 : an 1 - tn 1 ≤ an m - tn m := m2 1 (by omega)
      have c2 : an 2 - tn 2 ≤ an m - tn m := m2 2 (by omega)
      omega
    have hne : ¬ tk m = ar m := by
      intro z
      rw [(h1 m hm3).1, (s11 m hm3).1] at z
      have := (s11 m hm3).2
      have := (nI_eq (by omega) (by omega)).mp z
      omega
    obtain ⟨oc', rc', b', mq', lc', n', r', q1, q2, q3, q4, q5⟩ := bo_read (km := km) (kl := kl) (ko := nI n2) (kq := nI r2) (ev := ev) (kt := kt) (ki := ki) (kc := kc) (cp := cp) hS hN hm3 hne
    have htn : ∃ tn' : Nat → Nat, (∀ s, s < 3 → upd tk m (tk m + 1) s = nI (tn' s) ∧ b' s = nI (tn' s) ∧ tn' s ≤ an s) ∧ tn' 0 + tn' 1 + tn' 2 + U = an 0 + an 1 + an 2 := by
      obtain ⟨tn', sn', t1, _⟩ := q1
      refine ⟨tn', fun s hs => ⟨(t1 s hs).1, (t1 s hs).2.2.1, (t1 s hs).2.1⟩, ?_⟩
      have ev1 : ∀ s, s < 3 → tn' s = if s = m then tn s + 1 else tn s := by
        intro s hs
        have e1 := (t1 s hs).1
        have e2 := (t1 s hs).2.1
        have e3 := (s11 s hs).2
        have e4 := (h1 s hs).2.2
        by_cases z : s = m
        · subst z
          rw [pk_us, (h1 s hs).1, nI_1] at e1
          rw [if_pos rfl]
          exact ((nI_eq (by omega) (by omega)).mp e1).symm
        · rw [pk_un z, (h1 s hs).1] at e1
          rw [if_neg z]
          exact ((nI_eq (by omega) (by omega)).mp e1).symm
      rw [ev1 0 (by omega), ev1 1 (by omega), ev1 2 (by omega)]
      have hs3 : m = 0 ∨ m = 1 ∨ m = 2 := by omega
      rcases hs3 with z | z | z <;> rw [z] <;> simp <;> omega
    obtain ⟨u', v', w1, w2, w3⟩ := ih (i + 1) n' r' mq' lc' (upd tk m (tk m + 1)) oc' rc' b' (by omega) (by omega) q1 (rl_Nr hK hr q3) htn
    rw [show i + 1 + U = i + (U + 1) from by omega] at w2 w3
    refine ⟨u', v', w1, fun post f hf hp => ?_, fun post f hf hp => ?_⟩
    · obtain ⟨f, rfl⟩ : ∃ k, f = k + 1 := ⟨f - 1, by omega⟩
      rw [wX_readAll_4]
      refine br_f (nI_ge (a := i) (b := 60) (by omega) (by decide)) ?_
      refine mo_x (un := fun s => an s - tn s) hun _ ?_
      rw [hm]
      unfold wpX_unread
      dsimp only
      simp (disch := omega) only [forall_eq, vp_in_nI, nI_clamp, pk_us, pk_un, true_and, ix_a0, ix_a1, ix_a2, ix_a3, ix_a4, ix_a5, ix_a6, ix_n7, ix_m7, ix_p1104, ix_p1524, nI_add]
      rw [(hun m hm3).1]
      refine br_f (nI_ne0 hpos (by have := (s11 m hm3).2; omega)) (q4 _ ?_)
      dsimp only
      exact w2 post f (by omega) hp
    · obtain ⟨f, rfl⟩ : ∃ k, f = k + 1 := ⟨f - 1, by omega⟩
      rw [wY_readAll_2]
      have hnle : ¬ ar 0 + ar 1 + ar 2 ≤ b 0 + b 1 + b 2 := by
        rw [(h1 0 (by omega)).2.1, (h1 1 (by omega)).2.1, (h1 2 (by omega)).2.1, (s11 0 (by omega)).1, (s11 1 (by omega)).1, (s11 2 (by omega)).1, nI_add, nI_add, nI_add, nI_add]
        have a0 := (s11 0 (by omega)).2
        have a1 := (s11 1 (by omega)).2
        have a2 := (s11 2 (by omega)).2
        exact nI_ge (by omega) (by omega)
      refine br_f hnle (mo_y (un := fun s => an s - tn s) hun2 post _ (nI i) ?_)
      rw [hm]
      refine q5 _ ?_
      dsimp only
      exact nm_r (nI_1 i) (w3 post f (by omega) hp)
end
theorem i_vc_readAll {k : Nat} {u : SX} {v : SY} (I : i_Rel k u v) (hk : k + 3 ≤ 1540) : wpX_readAll (fun r u' => wpY_readAll (fun r' v' => r' = r ∧ i_Rel (k + 3) u' v') v) u := by
  obtain ⟨kd, wd, wn, la, mq, lc, xo, xq, km, kl, ko, kq, ek, et, ev, ar, tk, ie, oc, rc, kt, ki, kc⟩ := u
  obtain ⟨kd', dd, pp, la', sz, co, va, b, cp⟩ := v
  obtain ⟨g1, g2, g3, g4, g5, dn, W, ln, an, n, r, n2, r2, e1, e2, e3, e4, e5, hr2, hS, hN, hK⟩ := I
  subst g1 g2 g3 g4 g5 e1 e2 e3 e4 e5
  have s11 := hS.2.2.2.2.2.2.2.2.2.2.1
  have hex : ∃ U, U ≤ 60 ∧ ∃ tn : Nat → Nat, (∀ s, s < 3 → tk s = nI (tn s) ∧ b s = nI (tn s) ∧ tn s ≤ an s) ∧ tn 0 + tn 1 + tn 2 + U = an 0 + an 1 + an 2 := by
    have hN2 := hN
    obtain ⟨tn, sn, t1, _⟩ := hN2
    have a0 := (s11 0 (by omega)).2
    have a1 := (s11 1 (by omega)).2
    have a2 := (s11 2 (by omega)).2
    have c0 := (t1 0 (by omega)).2.1
    have c1 := (t1 1 (by omega)).2.1
    have c2 := (t1 2 (by omega)).2.1
    exact ⟨an 0 + an 1 + an 2 - (tn 0 + tn 1 + tn 2), by omega, tn, fun s hs => ⟨(t1 s hs).1, (t1 s hs).2.2.1, (t1 s hs).2.1⟩, by omega⟩
  obtain ⟨U, hU, htn⟩ := hex
  obtain ⟨u', v', w1, w2, w3⟩ := mo_all (ev := ev) hS U 0 n r mq lc tk oc rc b (by omega) hr2 hN hK htn
  exact ⟨U + 1, w2 _ (U + 1) (by omega) ⟨U + 1, w3 _ (U + 1) (by omega) ⟨rfl, w1⟩⟩⟩
end
end
section
/-! the questions -/
section
theorem wy_nil {d p : Int32} {c : Nat → Int32} (h : ∀ q, q < 272 → c (wy_a q) = 0) : wy_L d p c 272 = [] := by
  unfold wy_L
  rw [wy_fc (f := fun _ => ([] : List ro_T)) (fun j hj => ?_)]
  · exact List.flatMap_eq_nil_iff.mpr (fun _ _ => rfl)
  · unfold wy_o
    rw [h j (List.mem_range.mp hj)]
    exact if_neg (by decide)
theorem ke_4 (x : Int32) : (x < 0 ∨ 4 ≤ x) ∨ ∃ s : Nat, s < 4 ∧ x = nI s := by
  by_cases h : x < 0
  · exact Or.inl (Or.inl h)
  · obtain ⟨j, hj, rfl⟩ := nI_of h
    by_cases h2 : j < 4
    · exact Or.inr ⟨j, h2, rfl⟩
    · exact Or.inl (Or.inr (nI_le (a := 4) (by omega) hj))
theorem ke_xb {post : Int32 → Prop} {x : Int32} (h : x < 0 ∨ 4 ≤ x) (hp : post 0) : wpX_isKey post x := by
  unfold wpX_isKey
  by_cases z : x < 0
  · exact br_t z hp
  · rcases h with h | h
    · exact absurd h z
    · exact br_f z (br_t h hp)
theorem ke_xg {post : Int32 → Prop} {s : Nat} (h : s < 4) (hp : post 1) : wpX_isKey post (nI s) := br_f (nI_pos (by omega)) (br_f (nI_ge (b := 4) h (by decide)) hp)
theorem ke_yb {post : Int32 → Prop} {x : Int32} {v : SY} (h : x < 0 ∨ 4 ≤ x) (hp : post 1) : wpY_badKey post v x := by
  obtain ⟨kd, dd, pp, la, sz, co, va, b, cp⟩ := v
  unfold wpY_badKey
  dsimp only
  by_cases z : x < 0
  · exact br_t z hp
  · rcases h with h | h
    · exact absurd h z
    · refine br_f z (br_f (fun y => ?_) hp)
      rw [ii_le] at h y
      have e3 : (4 : Int32).toInt = 4 := by decide
      have e2 : (3 : Int32).toInt = 3 := by decide
      omega
theorem ke_yg {post : Int32 → Prop} {s : Nat} {v : SY} (h : s < 4) (hp : post 0) : wpY_badKey post v (nI s) := by
  obtain ⟨kd, dd, pp, la, sz, co, va, b, cp⟩ := v
  exact br_f (nI_pos (by omega)) (br_t (nI_le (b := 3) (by omega) (by decide)) hp)
section
variable {kd wd wn la mq lc xo xq km kl ko kq : Int32} {ek et ev ar tk ie oc rc kt ki kc : Nat → Int32}
theorem op_x {n : Nat} (hn : n ≤ 240) (k : Int32) : ∀ post : Int32 → Prop, post (nI ((xr_L oc n).countP (op_k k))) → ∃ f, wX_open_15 post k kd wd wn la mq lc (nI n) xq km kl ko kq ek et ev ar tk ie oc rc kt ki kc f 0 0 := by
  have key := lo_ex (ρ := Int32) (σ := Nat)
    (fun post f i => wX_open_15 post k kd wd wn la mq lc (nI n) xq km kl ko kq ek et ev ar tk ie oc rc kt ki kc f (nI ((xr_L oc i).countP (op_k k))) (nI i))
    (fun m i => m + i = n)
    (fun r => r = nI ((xr_L oc n).countP (op_k k)))
    (by
      rintro m i h1
      by_cases hi : i = n
      · subst hi
        refine Or.inl ⟨_, rfl, fun post f hp => ?_⟩
        rw [wX_open_15]
        exact br_t (nI_le (Nat.le_refl _) (by omega)) hp
      · have hlt : i < n := by omega
        have e : (xr_L oc (i + 1)).countP (op_k k) = (xr_L oc i).countP (op_k k) + (if (xr_r oc i).1 = k then 1 else 0) := op_s k
        refine Or.inr ⟨m - 1, i + 1, by omega, by omega, fun post f hp => ?_⟩
        rw [e] at hp
        rw [wX_open_15]
        refine br_f (nI_ge hlt (by omega)) ?_
        simp (disch := omega) only [forall_eq, vp_in_nI, nI_clamp, pk_us, pk_un, true_and, ix_a0, ix_a1, ix_a2, ix_a3, ix_a4, ix_a5, ix_a6, ix_n7, ix_m7, ix_p1104, ix_p1524, nI_add]
        by_cases z : oc (i * 7) = k
        · rw [if_pos (show (xr_r oc i).1 = k from z)] at hp
          exact br_t z hp
        · rw [if_neg (show ¬ (xr_r oc i).1 = k from z)] at hp
          exact br_f z hp)
    n 0 (by omega)
  obtain ⟨_, rfl, h3⟩ := key
  exact fun post hp => ⟨n + 1, h3 post (n + 1) (by omega) hp⟩
theorem pd_x {n : Nat} (hn : n ≤ 240) (k : Int32) : ∃ v : Int32, pd_P (xr_L oc n) k v ∧ ∀ post : Int32 → Prop, post v → wpX_pending post (kd, wd, wn, la, mq, lc, nI n, xq, km, kl, ko, kq, ek, et, ev, ar, tk, ie, oc, rc, kt, ki, kc) k := by
  have key := lo_ex (ρ := Int32) (σ := Option Nat × Nat)
    (fun post f s => wX_pending_4 post k kd wd wn la mq lc (nI n) xq km kl ko kq ek et ev ar tk ie oc rc kt ki kc f (match s.1 with | none => -1 | some x => nI (x * 7)) (nI s.2))
    (fun m s => m + s.2 = n ∧ pd_I (xr_r oc) k s.2 s.1)
    (fun v => pd_P (xr_L oc n) k v)
    (by
      rintro m ⟨e, i⟩ ⟨h1, h2⟩
      dsimp only at *
      by_cases hi : i = n
      · subst hi
        have h3 := pd_Ie h2
        cases e with
        | none =>
          refine Or.inl ⟨_, h3, fun post f hp => ?_⟩
          rw [wX_pending_4]
          exact br_t (nI_le (Nat.le_refl _) (by omega)) (br_f (by decide) hp)
        | some x =>
          have hx : x < i := h2.1
          refine Or.inl ⟨_, h3, fun post f hp => ?_⟩
          rw [wX_pending_4]
          refine br_t (nI_le (Nat.le_refl _) (by omega)) (br_t (nI_pos' (by omega)) ?_)
          simp (disch := omega) only [forall_eq, vp_in_nI, nI_clamp, pk_us, pk_un, true_and, ix_a0, ix_a1, ix_a2, ix_a3, ix_a4, ix_a5, ix_a6, ix_n7, ix_m7, ix_p1104, ix_p1524, nI_add]
          exact hp
      · have hlt : i < n := by omega
        have hne : ¬ nI n ≤ nI i := nI_ge hlt (by omega)
        right
        by_cases hkey : oc (i * 7) = k
        · cases e with
          | none =>
            refine ⟨m - 1, (some i, i + 1), by omega, ⟨by dsimp only; omega, pd_I0 h2 hkey⟩, fun post f hp => ?_⟩
            rw [wX_pending_4]
            refine br_f hne ?_
            simp (disch := omega) only [forall_eq, vp_in_nI, nI_clamp, pk_us, pk_un, true_and, ix_a0, ix_a1, ix_a2, ix_a3, ix_a4, ix_a5, ix_a6, ix_n7, ix_m7, ix_p1104, ix_p1524, nI_add]
            exact br_t hkey (br_t (by decide) hp)
          | some x =>
            have hx : x < i := h2.1
            by_cases hl : oc (x * 7 + 1) ≤ oc (i * 7 + 1)
            · refine ⟨m - 1, (some x, i + 1), by omega, ⟨by dsimp only; omega, pd_I2 h2 (Int32.not_lt.mpr hl)⟩, fun post f hp => ?_⟩
              rw [wX_pending_4]
              refine br_f hne ?_
              simp (disch := omega) only [forall_eq, vp_in_nI, nI_clamp, pk_us, pk_un, true_and, ix_a0, ix_a1, ix_a2, ix_a3, ix_a4, ix_a5, ix_a6, ix_n7, ix_m7, ix_p1104, ix_p1524, nI_add]
              exact br_t hkey (br_f (nI_pos (by omega)) (br_t hl hp))
            · refine ⟨m - 1, (some i, i + 1), by omega, ⟨by dsimp only; omega, pd_I1 h2 hkey (Int32.not_le.mp hl)⟩, fun post f hp => ?_⟩
              rw [wX_pending_4]
              refine br_f hne ?_
              simp (disch := omega) only [forall_eq, vp_in_nI, nI_clamp, pk_us, pk_un, true_and, ix_a0, ix_a1, ix_a2, ix_a3, ix_a4, ix_a5, ix_a6, ix_n7, ix_m7, ix_p1104, ix_p1524, nI_add]
              exact br_t hkey (br_f (nI_pos (by omega)) (br_f hl hp))
        · refine ⟨m - 1, (e, i + 1), by omega, ⟨by dsimp only; omega, pd_In h2 hkey⟩, fun post f hp => ?_⟩
          rw [wX_pending_4]
          refine br_f hne ?_
          simp (disch := omega) only [forall_eq, vp_in_nI, nI_clamp, pk_us, pk_un, true_and, ix_a0, ix_a1, ix_a2, ix_a3, ix_a4, ix_a5, ix_a6, ix_n7, ix_m7, ix_p1104, ix_p1524, nI_add]
          exact br_f hkey hp)
    n (none, 0) ⟨by dsimp only; omega, lt_0⟩
  obtain ⟨v, h1, h3⟩ := key
  exact ⟨v, h1, fun post hp => ⟨n + 1, h3 post (n + 1) (by omega) hp⟩⟩
end
section
variable {kd dd pp la : Int32} {sz co va b cp : Nat → Int32}
theorem op_y {n k : Nat} (hn : n ≤ 60) (hk : k < 4) (h12 : b 12 = nI n) : ∀ post : Int32 → Prop, post (nI ((wy_L dd pp b 272).countP (op_k (nI k)) + (ys_L dd b n).countP (op_k (nI k)))) → ∃ f, wY_open_17 post (nI k) kd dd pp la sz co va b cp f 0 (-4) := by
  have key1 := lo_ex (ρ := Int32) (σ := Nat)
    (fun post f i => wY_open_48 post (nI k) kd dd pp la sz co va b cp f (nI ((wy_L dd pp b 272).countP (op_k (nI k)) + (ys_L dd b i).countP (op_k (nI k)))) (nI i))
    (fun m i => m + i = n)
    (fun r => r = nI ((wy_L dd pp b 272).countP (op_k (nI k)) + (ys_L dd b n).countP (op_k (nI k))))
    (by
      rintro m i h1
      by_cases hi : i = n
      · subst hi
        refine Or.inl ⟨_, rfl, fun post f hp => ?_⟩
        rw [wY_open_48, h12]
        exact br_t (nI_le (Nat.le_refl _) (by omega)) hp
      · have hlt : i < n := by omega
        have e : (ys_L dd b (i + 1)).countP (op_k (nI k)) = (ys_L dd b i).countP (op_k (nI k)) + (if (ys_r dd b i).1 = nI k then 1 else 0) := op_s (nI k)
        refine Or.inr ⟨m - 1, i + 1, by omega, by omega, fun post f hp => ?_⟩
        rw [e] at hp
        rw [wY_open_48, h12]
        refine br_f (nI_ge hlt (by omega)) ?_
        simp (disch := omega) only [forall_eq, vp_in_nI, nI_clamp, pk_us, pk_un, true_and, ix_a0, ix_a1, ix_a2, ix_a3, ix_a4, ix_a5, ix_a6, ix_n7, ix_m7, ix_p1104, ix_p1524, nI_add]
        by_cases z : b (1104 + 7 * i) = nI k
        · rw [if_pos (show (ys_r dd b i).1 = nI k from z)] at hp
          exact br_t z hp
        · rw [if_neg (show ¬ (ys_r dd b i).1 = nI k from z)] at hp
          exact br_f z hp)
    n 0 (by omega)
  obtain ⟨_, rfl, h3⟩ := key1
  have key2 := lo_ex (ρ := Int32) (σ := Nat)
    (fun post f w => wY_open_17 post (nI k) kd dd pp la sz co va b cp f (nI ((wy_L dd pp b (4 * w)).countP (op_k (nI k)))) (nI w - 4))
    (fun m w => m + w = 68)
    (fun r => r = nI ((wy_L dd pp b 272).countP (op_k (nI k)) + (ys_L dd b n).countP (op_k (nI k))))
    (by
      rintro m w h1
      by_cases hw : w = 68
      · subst hw
        refine Or.inl ⟨_, rfl, fun post f hp => ?_⟩
        rw [wY_open_17]
        exact br_t wy_68 ⟨n + 1, h3 post (n + 1) (by omega) hp⟩
      · have hlt : w < 68 := by omega
        have hq := wy_lt (q := 4 * w + k) (by omega)
        refine Or.inr ⟨m - 1, w + 1, by omega, by omega, fun post f hp => ?_⟩
        rw [op_w hk] at hp
        rw [wY_open_17]
        refine br_f (wy_64 hlt) ?_
        simp only [wpY_windowAt]
        rw [wy_wa hk, wy_n1]
        refine ⟨vp_in_nI (by omega) (by omega), ?_⟩
        rw [nI_clamp (by omega)]
        by_cases z : b (wy_a (4 * w + k)) ≤ 0
        · rw [if_neg (Int32.not_lt.mpr z)] at hp
          exact br_t z (nm_e hp)
        · rw [if_pos (Int32.not_le.mp z)] at hp
          exact br_f z (nm_r (nI_1 _) (nm_e hp)))
    68 0 (by omega)
  obtain ⟨_, rfl, h4⟩ := key2
  exact fun post hp => ⟨69, h4 post 69 (by omega) hp⟩
theorem pd_y {n k : Nat} (h1 : 1 ≤ dd.toInt) (h8 : dd.toInt ≤ 8) (hn : n ≤ 60) (hk : k < 4) (h12 : b 12 = nI n) (hor : (n = 0) ∨ (∀ q, q < 272 → b (wy_a q) = 0)) : ∃ v : Int32, pd_P (wy_L dd pp b 272 ++ ys_L dd b n) (nI k) v ∧ ∀ post : Int32 → Prop, post v → ∃ f, wY_pending_13 post (nI k) kd dd pp la sz co va b cp f (-4) := by
  -- the sessions
  have key1 := lo_ex (ρ := Int32) (σ := Option Nat × Nat)
    (fun post f s => wY_pending_57 post (nI k) kd dd pp la sz co va b cp f (match s.1 with | none => -1 | some x => nI (1104 + 7 * x)) (nI s.2))
    (fun m s => m + s.2 = n ∧ pd_I (ys_r dd b) (nI k) s.2 s.1)
    (fun v => pd_P (ys_L dd b n) (nI k) v)
    (by
      rintro m ⟨e, i⟩ ⟨h1, h2⟩
      dsimp only at *
      by_cases hi : i = n
      · subst hi
        have h3 := pd_Ie h2
        cases e with
        | none =>
          refine Or.inl ⟨_, h3, fun post f hp => ?_⟩
          rw [wY_pending_57, h12]
          exact br_t (nI_le (Nat.le_refl _) (by omega)) (br_f (by decide) hp)
        | some x =>
          have hx : x < i := h2.1
          refine Or.inl ⟨_, h3, fun post f hp => ?_⟩
          rw [wY_pending_57, h12]
          refine br_t (nI_le (Nat.le_refl _) (by omega)) (br_t (nI_pos' (by omega)) ?_)
          simp (disch := omega) only [forall_eq, vp_in_nI, nI_clamp, pk_us, pk_un, true_and, ix_a0, ix_a1, ix_a2, ix_a3, ix_a4, ix_a5, ix_a6, ix_n7, ix_m7, ix_p1104, ix_p1524, nI_add]
          exact hp
      · have hlt : i < n := by omega
        have hne : ¬ nI n ≤ nI i := nI_ge hlt (by omega)
        right
        by_cases hkey : b (1104 + 7 * i) = nI k
        · cases e with
          | none =>
            refine ⟨m - 1, (some i, i + 1), by omega, ⟨by dsimp only; omega, pd_I0 h2 hkey⟩, fun post f hp => ?_⟩
            rw [wY_pending_57, h12]
            refine br_f hne ?_
            simp (disch := omega) only [forall_eq, vp_in_nI, nI_clamp, pk_us, pk_un, true_and, ix_a0, ix_a1, ix_a2, ix_a3, ix_a4, ix_a5, ix_a6, ix_n7, ix_m7, ix_p1104, ix_p1524, nI_add]
            exact br_t hkey (br_t (by decide) hp)
          | some x =>
            have hx : x < i := h2.1
            by_cases hl : b (1104 + 7 * x + 1) ≤ b (1104 + 7 * i + 1)
            · refine ⟨m - 1, (some x, i + 1), by omega, ⟨by dsimp only; omega, pd_I2 h2 (Int32.not_lt.mpr hl)⟩, fun post f hp => ?_⟩
              rw [wY_pending_57, h12]
              refine br_f hne ?_
              simp (disch := omega) only [forall_eq, vp_in_nI, nI_clamp, pk_us, pk_un, true_and, ix_a0, ix_a1, ix_a2, ix_a3, ix_a4, ix_a5, ix_a6, ix_n7, ix_m7, ix_p1104, ix_p1524, nI_add]
              exact br_t hkey (br_f (nI_pos (by omega)) (br_t hl hp))
            · refine ⟨m - 1, (some i, i + 1), by omega, ⟨by dsimp only; omega, pd_I1 h2 hkey (Int32.not_le.mp hl)⟩, fun post f hp => ?_⟩
              rw [wY_pending_57, h12]
              refine br_f hne ?_
              simp (disch := omega) only [forall_eq, vp_in_nI, nI_clamp, pk_us, pk_un, true_and, ix_a0, ix_a1, ix_a2, ix_a3, ix_a4, ix_a5, ix_a6, ix_n7, ix_m7, ix_p1104, ix_p1524, nI_add]
              exact br_t hkey (br_f (nI_pos (by omega)) (br_f hl hp))
        · refine ⟨m - 1, (e, i + 1), by omega, ⟨by dsimp only; omega, pd_In h2 hkey⟩, fun post f hp => ?_⟩
          rw [wY_pending_57, h12]
          refine br_f hne ?_
          simp (disch := omega) only [forall_eq, vp_in_nI, nI_clamp, pk_us, pk_un, true_and, ix_a0, ix_a1, ix_a2, ix_a3, ix_a4, ix_a5, ix_a6, ix_n7, ix_m7, ix_p1104, ix_p1524, nI_add]
          exact br_f hkey hp)
    n (none, 0) ⟨by dsimp only; omega, lt_0⟩
  obtain ⟨vs, q1, q2⟩ := key1
  have key2 := lo_ex (ρ := Int32) (σ := Nat)
    (fun post f w => wY_pending_13 post (nI k) kd dd pp la sz co va b cp f (nI w - 4))
    (fun m w => m + w = 68 ∧ ∀ j, j < w → ¬ 0 < b (wy_a (4 * j + k)))
    (fun v => pd_P (wy_L dd pp b 272 ++ ys_L dd b n) (nI k) v)
    (by
      rintro m w ⟨h1', h2⟩
      by_cases hw : w = 68
      · subst hw
        have h0 := pd_0 (d := dd) (p := pp) hk h2
        refine Or.inl ⟨vs, ?_, fun post f hp => ?_⟩
        · have hno : ∀ q, q ∈ wy_L dd pp b 272 → ¬ q.1 = nI k := by
            rcases h0 with ⟨r, hr, hrk, _, _⟩ | ⟨h0, _⟩
            · intro q hq hqk
              obtain ⟨j, hj, hb, rfl⟩ := wy_m hq
              have e := (nI_eq (by omega) (by omega)).mp (show nI (j % 4) = nI k from hqk)
              refine h2 (j / 4) (by omega) ?_
              rw [show 4 * (j / 4) + k = j from by omega]
              exact hb
            · exact h0
          rcases q1 with ⟨r, hr, hrk, hmin, e⟩ | ⟨hn2, e⟩
          · refine Or.inl ⟨r, List.mem_append.mpr (Or.inr hr), hrk, fun q hq hqk => ?_, e⟩
            rcases List.mem_append.mp hq with hq | hq
            · exact absurd hqk (hno q hq)
            · exact hmin q hq hqk
          · refine Or.inr ⟨fun q hq => ?_, e⟩
            rcases List.mem_append.mp hq with hq | hq
            · exact hno q hq
            · exact hn2 q hq
        · rw [wY_pending_13]
          exact br_t wy_68 ⟨n + 1, q2 post (n + 1) (by omega) hp⟩
      · have hlt : w < 68 := by omega
        have hq := wy_lt (q := 4 * w + k) (by omega)
        by_cases z : b (wy_a (4 * w + k)) ≤ 0
        · refine Or.inr ⟨m - 1, w + 1, by omega, ⟨by omega, lt_s h2 (Int32.not_lt.mpr z)⟩, fun post f hp => ?_⟩
          rw [wY_pending_13]
          refine br_f (wy_64 hlt) ?_
          simp only [wpY_windowAt]
          rw [wy_wa hk, wy_n1]
          refine ⟨vp_in_nI (by omega) (by omega), ?_⟩
          rw [nI_clamp (by omega)]
          exact br_t z (nm_e hp)
        · have hpos := Int32.not_le.mp z
          have hp1 := pd_w (d := dd) (p := pp) h1 h8 hk hlt h2 hpos
          have hn0 : n = 0 := by
            rcases hor with h | h
            · exact h
            · rw [h (4 * w + k) (by omega)] at hpos
              exact absurd hpos (by decide)
          refine Or.inl ⟨b (wy_a (4 * w + k) + 1), ?_, fun post f hp => ?_⟩
          · rw [hn0]
            have e : wy_L dd pp b 272 ++ ys_L dd b 0 = wy_L dd pp b 272 := List.append_nil _
            rw [e]
            exact hp1
          · rw [wY_pending_13]
            refine br_f (wy_64 hlt) ?_
            simp only [wpY_windowAt]
            rw [wy_wa hk]
            refine ⟨vp_in_nI (by omega) (by omega), ?_⟩
            rw [nI_clamp (by omega)]
            refine br_f z ?_
            simp (disch := omega) only [forall_eq, vp_in_nI, nI_clamp, pk_us, pk_un, true_and, ix_a0, ix_a1, ix_a2, ix_a3, ix_a4, ix_a5, ix_a6, ix_n7, ix_m7, ix_p1104, ix_p1524, nI_add]
            exact hp)
    68 0 ⟨by omega, lt_0⟩
  obtain ⟨v, w1, w2⟩ := key2
  exact ⟨v, w1, fun post hp => ⟨69, w2 post 69 (by omega) hp⟩⟩
end
theorem i_vc_open {k : Nat} {u : SX} {v : SY} (I : i_Rel k u v) (hk : k + 3 ≤ 1540) (v1 : Int32) : wpX_open (fun r => wpY_open (fun r' => r' = r ∧ i_Rel (k + 3) u v) v v1) u v1 := by
  have I0 := I
  obtain ⟨kd, wd, wn, la, mq, lc, xo, xq, km, kl, ko, kq, ek, et, ev, ar, tk, ie, oc, rc, kt, ki, kc⟩ := u
  obtain ⟨kd', dd, pp, la', sz, co, va, b, cp⟩ := v
  obtain ⟨g1, g2, g3, g4, g5, dn, W, ln, an, n, r, n2, r2, e1, e2, e3, e4, e5, hr2, hS, hN, hK⟩ := I
  subst g1 g2 g3 g4 g5 e1 e2 e3 e4 e5
  have hnr := rl_nr hS hN
  obtain ⟨tn, sn, t1, ⟨t2, t3, t4, t5, t6⟩, t7, t8, t9, t10⟩ := hN
  have hT := rl_T hS (fun s hs => (t1 s hs).2.1)
  have hsn := bo_sn t7 hS.2.1 t8 hT.1
  unfold wpX_open wpY_open
  dsimp only
  rcases ke_4 v1 with h | ⟨s, hs, rfl⟩
  · refine ke_xb h ?_
    refine br_t rfl ?_
    refine ke_yb h ?_
    exact br_f (by decide) ⟨rfl, I0⟩
  · refine ke_xg hs ?_
    refine br_f (by decide) (op_x (by omega) (nI s) _ ?_)
    refine ke_yg hs ?_
    refine br_t rfl (op_y (n := sn) (by omega) hs t6 _ ⟨congrArg nI ?_, I0⟩)
    by_cases z : kd = 2
    · obtain ⟨c1, c2, _⟩ := t7.2.1 z
      rw [wy_nil c2, c1.countP_eq]
      exact Nat.zero_add _
    · obtain ⟨c1, c2, _⟩ := t7.2.2 z
      rw [c2, c1.countP_eq]
      rfl
theorem i_vc_pending {k : Nat} {u : SX} {v : SY} (I : i_Rel k u v) (hk : k + 3 ≤ 1540) (v1 : Int32) : wpX_pending (fun r => wpY_pending (fun r' => r' = r ∧ i_Rel (k + 3) u v) v v1) u v1 := by
  have I0 := I
  obtain ⟨kd, wd, wn, la, mq, lc, xo, xq, km, kl, ko, kq, ek, et, ev, ar, tk, ie, oc, rc, kt, ki, kc⟩ := u
  obtain ⟨kd', dd, pp, la', sz, co, va, b, cp⟩ := v
  obtain ⟨g1, g2, g3, g4, g5, dn, W, ln, an, n, r, n2, r2, e1, e2, e3, e4, e5, hr2, hS, hN, hK⟩ := I
  subst g1 g2 g3 g4 g5 e1 e2 e3 e4 e5
  have hnr := rl_nr hS hN
  obtain ⟨tn, sn, t1, ⟨t2, t3, t4, t5, t6⟩, t7, t8, t9, t10⟩ := hN
  have hT := rl_T hS (fun s hs => (t1 s hs).2.1)
  have hsn := bo_sn t7 hS.2.1 t8 hT.1
  have hwi : wd.toInt = (dn : Int) := by rw [hS.2.2.1, nI_toInt (by have := hS.2.2.2.2.1; omega)]
  have hd1 : 1 ≤ wd.toInt := by have := hS.2.2.2.1; omega
  have hd8 : wd.toInt ≤ 8 := by have := hS.2.2.2.2.1; omega
  obtain ⟨w, p1, p2⟩ := pd_x (kd := kd) (wd := wd) (wn := nI W) (la := la) (mq := mq) (lc := lc) (xq := nI r) (km := km) (kl := kl) (ko := nI n2) (kq := nI r2) (ek := ek) (et := et) (ev := ev) (ar := ar) (tk := tk) (ie := ie) (oc := oc) (rc := rc) (kt := kt) (ki := ki) (kc := kc) (n := n) (by omega) v1
  refine p2 _ ?_
  have hds := rl_ds hd1 hd8 t7
  have hperm : (xr_L oc n).Perm (wy_L wd pp b 272 ++ ys_L wd b sn) := by
    by_cases z : kd = 2
    · obtain ⟨c1, c2, _⟩ := t7.2.1 z
      rw [wy_nil c2]
      exact c1
    · obtain ⟨c1, c2, _⟩ := t7.2.2 z
      rw [c2]
      exact c1.trans (List.Perm.of_eq (List.append_nil _).symm)
  unfold wpY_pending
  dsimp only
  rcases ke_4 v1 with h | ⟨s, hs, rfl⟩
  · refine ke_yb h ?_
    refine br_f (by decide) ⟨?_, I0⟩
    rcases p1 with ⟨q, hq, hqk, _, _⟩ | ⟨_, e⟩
    · exfalso
      have hkb : 0 ≤ q.1.toInt ∧ q.1.toInt ≤ 3 := by
        by_cases z : kd = 2
        · have := (t7.2.1 z).2.2.2 q hq
          unfold ss_ok at this
          omega
        · obtain ⟨j, hj, _, rfl⟩ := wy_m ((t7.2.2 z).1.mem_iff.mp hq)
          show 0 ≤ (nI (j % 4)).toInt ∧ (nI (j % 4)).toInt ≤ 3
          rw [nI_toInt (by omega)]
          omega
      rw [hqk] at hkb
      have e0 : (0 : Int32).toInt = 0 := by decide
      have e4 : (4 : Int32).toInt = 4 := by decide
      rw [ii_lt, ii_le] at h
      omega
    · exact e.symm
  · refine ke_yg hs ?_
    have hor : sn = 0 ∨ (∀ q, q < 272 → b (wy_a q) = 0) := by
      by_cases z : kd = 2
      · exact Or.inr (t7.2.1 z).2.1
      · exact Or.inl (t7.2.2 z).2.1
    obtain ⟨w', y1, y2⟩ := pd_y (kd := kd) (dd := wd) (pp := pp) (la := la) (sz := ar) (co := co) (va := ev) (b := b) (cp := cp) (n := sn) hd1 hd8 (by omega) hs t6 hor
    exact br_t rfl (y2 _ ⟨pd_u hds hperm p1 y1, I0⟩)
end
end
section
/-! digest, and the beginning -/
section
def dg_1 (r : ro_T) : Int32 := ((((((r.1) + (3 * (r.2.1))) + (5 * (r.2.2.1))) + (7 * (r.2.2.2.1))) + (11 * (r.2.2.2.2.1))) + (13 * (r.2.2.2.2.2.1))) + (17 * (r.2.2.2.2.2.2))
def dg_S (f : Nat → ro_T) : Nat → Int32
  | 0 => 0
  | i + 1 => dg_S f i + ((nI i + 1) * dg_1 (f i))
theorem dg_c {f g : Nat → ro_T} : ∀ n, (∀ i, i < n → f i = g i) → dg_S f n = dg_S g n := by
  intro n
  induction n with
  | zero => intro _; rfl
  | succ n ih =>
    intro h
    unfold dg_S
    rw [ih (fun i hi => h i (by omega)), h n (by omega)]
section
variable {kd wd wn la mq lc xo xq km kl ko kq : Int32} {ek et ev ar tk ie oc rc kt ki kc : Nat → Int32}
theorem dg_x {r : Nat} (hr : r ≤ 240) : ∀ post : Int32 → Prop, post (dg_S (xr_r rc) r) → wpX_digest post (kd, wd, wn, la, mq, lc, xo, nI r, km, kl, ko, kq, ek, et, ev, ar, tk, ie, oc, rc, kt, ki, kc) := by
  have key := lo_ex (ρ := Int32) (σ := Nat)
    (fun post f i => wX_digest_4 post kd wd wn la mq lc xo (nI r) km kl ko kq ek et ev ar tk ie oc rc kt ki kc f (dg_S (xr_r rc) i) (nI i))
    (fun m i => m + i = r)
    (fun v => v = dg_S (xr_r rc) r)
    (by
      rintro m i h1
      by_cases hi : i = r
      · subst hi
        refine Or.inl ⟨_, rfl, fun post f hp => ?_⟩
        rw [wX_digest_4]
        exact br_t (nI_le (Nat.le_refl _) (by omega)) hp
      · have hlt : i < r := by omega
        refine Or.inr ⟨m - 1, i + 1, by omega, by omega, fun post f hp => ?_⟩
        have e : dg_S (xr_r rc) (i + 1) = dg_S (xr_r rc) i + ((nI (i + 1)) * dg_1 (xr_r rc i)) := by
          rw [← nI_1]
          rfl
        rw [e] at hp
        rw [wX_digest_4]
        refine br_f (nI_ge hlt (by omega)) ?_
        simp (disch := omega) only [forall_eq, vp_in_nI, nI_clamp, pk_us, pk_un, true_and, ix_a0, ix_a1, ix_a2, ix_a3, ix_a4, ix_a5, ix_a6, ix_n7, ix_m7, ix_p1104, ix_p1524, nI_add]
        exact hp)
    r 0 (by omega)
  obtain ⟨_, rfl, h3⟩ := key
  exact fun post hp => ⟨r + 1, h3 post (r + 1) (by omega) hp⟩
end
def dg_f (j : Nat) : Int32 := match j with
  | 0 => 1
  | 1 => 3
  | 2 => 5
  | 3 => 7
  | 4 => 11
  | 5 => 13
  | _ => 17
def dg_I (x : Int32) (i : Nat) (c : Nat → Int32) : Nat → Int32
  | 0 => x
  | j + 1 => dg_I x i c j + (((nI i + 1) * dg_f j) * c j)
theorem dg_e (x : Int32) (i : Nat) (b : Nat → Int32) (o : Nat) : dg_I x i (fun j => b (o + j)) 7 = x + ((nI i + 1) * dg_1 (ro_at b o)) := by
  show x + ((nI i + 1) * 1 * b (o + 0)) + ((nI i + 1) * 3 * b (o + 1)) + ((nI i + 1) * 5 * b (o + 2)) + ((nI i + 1) * 7 * b (o + 3)) + ((nI i + 1) * 11 * b (o + 4)) + ((nI i + 1) * 13 * b (o + 5)) + ((nI i + 1) * 17 * b (o + 6)) = x + ((nI i + 1) * (((((((b o) + (3 * (b (o + 1)))) + (5 * (b (o + 2)))) + (7 * (b (o + 3)))) + (11 * (b (o + 4)))) + (13 * (b (o + 5)))) + (17 * (b (o + 6)))))
  rw [Nat.add_zero]
  generalize nI i + 1 = y
  generalize b o = b0
  generalize b (o + 1) = b1
  generalize b (o + 2) = b2
  generalize b (o + 3) = b3
  generalize b (o + 4) = b4
  generalize b (o + 5) = b5
  generalize b (o + 6) = b6
  grind
section
variable {kd dd pp la : Int32} {sz co va b cp : Nat → Int32}
theorem dg_fac {post : Int32 → Prop} {j : Nat} (hj : j < 7) (h : post (dg_f j)) : wpY_factor post (kd, dd, pp, la, sz, co, va, b, cp) (nI j) := by
  unfold wpY_factor
  dsimp only
  match j, hj with
  | 0, _ => exact br_t rfl h
  | 1, _ => exact br_f (by decide) (br_t rfl h)
  | 2, _ => exact br_f (by decide) (br_f (by decide) (br_t rfl h))
  | 3, _ => exact br_f (by decide) (br_f (by decide) (br_f (by decide) (br_t rfl h)))
  | 4, _ => exact br_f (by decide) (br_f (by decide) (br_f (by decide) (br_f (by decide) (br_t rfl h))))
  | 5, _ => exact br_f (by decide) (br_f (by decide) (br_f (by decide) (br_f (by decide) (br_f (by decide) (br_t rfl h)))))
  | 6, _ => exact br_f (by decide) (br_f (by decide) (br_f (by decide) (br_f (by decide) (br_f (by decide) (br_f (by decide) h)))))
theorem dg_in {i : Nat} (hi : i < 240) (x : Int32) : ∀ (P : Int32 → Prop) (J : Int32 → Int32 → Prop), J (x + ((nI i + 1) * dg_1 (yr_r b i))) (nI (i + 1)) → ∃ f, wY_digest_17 P J (nI i) kd dd pp la sz co va b cp f x 0 := by
  intro P J hJ
  have key := lo_ex (ρ := Unit) (σ := Nat)
    (fun post f j => post () → wY_digest_17 P J (nI i) kd dd pp la sz co va b cp f (dg_I x i (fun j => b (1524 + 7 * i + j)) j) (nI j))
    (fun m j => m + j = 7)
    (fun _ => True)
    (by
      rintro m j h1
      by_cases hj : j = 7
      · subst hj
        refine Or.inl ⟨(), trivial, fun post f _ _ => ?_⟩
        rw [wY_digest_17, dg_e]
        exact br_t (nI_le (a := 7) (b := 7) (Nat.le_refl _) (by decide)) (nm_r (nI_1 i) hJ)
      · have hlt : j < 7 := by omega
        refine Or.inr ⟨m - 1, j + 1, by omega, by omega, fun post f hp hq => ?_⟩
        have hp := hp hq
        rw [wY_digest_17]
        refine br_f (nI_ge (a := j) (b := 7) hlt (by decide)) (dg_fac hlt ?_)
        have e : dg_I x i (fun j => b (1524 + 7 * i + j)) (j + 1) = dg_I x i (fun j => b (1524 + 7 * i + j)) j + (((nI (i + 1)) * dg_f j) * b (1524 + 7 * i + j)) := by
          rw [← nI_1]
          rfl
        rw [e] at hp
        simp (disch := omega) only [forall_eq, vp_in_nI, nI_clamp, pk_us, pk_un, true_and, ix_a0, ix_a1, ix_a2, ix_a3, ix_a4, ix_a5, ix_a6, ix_n7, ix_m7, ix_p1104, ix_p1524, nI_add]
        exact hp)
    7 0 (by omega)
  obtain ⟨_, _, h3⟩ := key
  exact ⟨8, h3 (fun _ => True) 8 (by omega) trivial trivial⟩
theorem dg_y {r : Nat} (hr : r ≤ 240) (h11 : b 11 = nI r) : ∀ post : Int32 → Prop, post (dg_S (yr_r b) r) → wpY_digest post (kd, dd, pp, la, sz, co, va, b, cp) := by
  have key := lo_ex (ρ := Int32) (σ := Nat)
    (fun post f i => wY_digest_4 post kd dd pp la sz co va b cp f (dg_S (yr_r b) i) (nI i))
    (fun m i => m + i = r)
    (fun v => v = dg_S (yr_r b) r)
    (by
      rintro m i h1
      by_cases hi : i = r
      · subst hi
        refine Or.inl ⟨_, rfl, fun post f hp => ?_⟩
        rw [wY_digest_4, h11]
        exact br_t (nI_le (Nat.le_refl _) (by omega)) hp
      · have hlt : i < r := by omega
        refine Or.inr ⟨m - 1, i + 1, by omega, by omega, fun post f hp => ?_⟩
        rw [wY_digest_4, h11]
        exact br_f (nI_ge hlt (by omega)) (dg_in (by omega) _ _ _ hp))
    r 0 (by omega)
  obtain ⟨_, rfl, h3⟩ := key
  exact fun post hp => ⟨r + 1, h3 post (r + 1) (by omega) hp⟩
end
theorem i_vc_digest {k : Nat} {u : SX} {v : SY} (I : i_Rel k u v) (hk : k + 3 ≤ 1540) : wpX_digest (fun r => wpY_digest (fun r' => r' = r ∧ i_Rel (k + 3) u v) v) u := by
  have I0 := I
  obtain ⟨kd, wd, wn, la, mq, lc, xo, xq, km, kl, ko, kq, ek, et, ev, ar, tk, ie, oc, rc, kt, ki, kc⟩ := u
  obtain ⟨kd', dd, pp, la', sz, co, va, b, cp⟩ := v
  obtain ⟨g1, g2, g3, g4, g5, dn, W, ln, an, n, r, n2, r2, e1, e2, e3, e4, e5, hr2, hS, hN, hK⟩ := I
  subst g1 g2 g3 g4 g5 e1 e2 e3 e4 e5
  have hnr := rl_nr hS hN
  obtain ⟨tn, sn, t1, ⟨t2, t3, t4, t5, t6⟩, t7, t8, t9, t10⟩ := hN
  refine dg_x (by omega) _ (dg_y (r := r) (by omega) t5 _ ⟨?_, I0⟩)
  exact dg_c r (fun i hi => (li_inj t10 hi).symm)
/-! the beginning -/
theorem in_cl (x : Int32) (lo hi : Nat) (h : lo ≤ hi) (hh : hi < 1000) : ∃ m, lo ≤ m ∧ m ≤ hi ∧ (∀ post : Int32 → Prop, post (nI m) → wpX_clamp post x (nI lo) (nI hi)) ∧ (∀ (post : Int32 → Prop) (u : SY), post (nI m) → wpY_clamp post u x (nI lo) (nI hi)) := by
  by_cases a : nI lo ≤ x
  · by_cases c : x ≤ nI hi
    · obtain ⟨m, hm, rfl⟩ := nI_of (x := x) (by
        intro z
        have h0 := nI_pos (n := lo) (by omega)
        rw [ii_le] at a
        rw [ii_lt] at z h0
        omega)
      have a1 := (nI_leI (by omega) hm).mp a
      have c1 := (nI_leI hm (by omega)).mp c
      refine ⟨m, a1, c1, fun post hp => br_t a (br_t c hp), fun post u hp => ?_⟩
      obtain ⟨kd, dd, pp, la, sz, co, va, b, cp⟩ := u
      exact br_t a (br_t c hp)
    · refine ⟨hi, h, Nat.le_refl _, fun post hp => br_t a (br_f c hp), fun post u hp => ?_⟩
      obtain ⟨kd, dd, pp, la, sz, co, va, b, cp⟩ := u
      exact br_t a (br_f c hp)
  · refine ⟨lo, Nat.le_refl _, h, fun post hp => br_f a hp, fun post u hp => ?_⟩
    obtain ⟨kd, dd, pp, la, sz, co, va, b, cp⟩ := u
    exact br_f a hp
def in_b : Nat → Int32 := upd (upd (upd (upd (fun _ => 0) 6 (-1)) 7 (-1)) 8 (-1)) 9 (-1000)
theorem in_b0 (j : Nat) (h : j < 6 ∨ 10 ≤ j) : in_b j = 0 := by
  unfold in_b
  rw [pk_un (by omega), pk_un (by omega), pk_un (by omega), pk_un (by omega)]
theorem in_N {kd d p : Int32} {W : Nat} {et : Nat → Int32} {cc : Nat → Int32} (hc : ∀ j, j < 3316 → cc j = in_b j) : rl_N kd d p W et (fun _ => 0) (fun _ => 0) (fun _ => 0) (fun _ => 0) (fun _ => 0) (-1000) 0 0 0 cc := by
  have hw : ∀ q, q < 272 → cc (wy_a q) = 0 := fun q hq => by
    have := wy_lt hq
    rw [hc _ (by omega)]
    exact in_b0 _ (by omega)
  refine ⟨fun _ => 0, 0, ?_, ⟨?_, by decide, ?_, ?_, ?_⟩, ⟨fun r hr => (by cases hr), fun _ => ⟨List.Perm.refl _, hw, List.Pairwise.nil, fun r hr => (by cases hr)⟩, fun _ => ⟨?_, rfl, fun q hq => by rw [hw q hq]; exact Int32.le_refl _⟩⟩, Nat.zero_le _, Nat.zero_le _, rfl⟩
  · intro s hs
    refine ⟨rfl, Nat.le_refl _, ?_, ?_, Or.inl rfl, ?_⟩
    · rw [hc s (by omega)]
      exact in_b0 s (by omega)
    · rw [hc (3 + s) (by omega)]
      exact in_b0 (3 + s) (by omega)
    · rw [hc (6 + s) (by omega)]
      have hs3 : s = 0 ∨ s = 1 ∨ s = 2 := by omega
      rcases hs3 with rfl | rfl | rfl <;> rfl
  · rw [hc 9 (by omega)]; rfl
  · rw [hc 10 (by omega)]; rfl
  · rw [hc 11 (by omega)]; rfl
  · rw [hc 12 (by omega)]; rfl
  · rw [wy_nil hw]
    exact List.Perm.refl _
theorem in_y (kd dd pp la : Int32) : ∃ cp' : Nat → Int32, (∀ j, j < 3316 → cp' j = in_b j) ∧ ∀ post : SY → Prop, post (kd, dd, pp, la, (fun _ => 0), (fun _ => 0), (fun _ => 0), in_b, cp') → ∃ n, wY_init_115 post kd dd pp la n 0 (fun _ => 0) (fun _ => 0) (fun _ => 0) (fun _ => 0) (fun _ => 0) := by
  obtain ⟨cp', h1, h2⟩ := kp_y (kd := kd) (dd := dd) (pp := pp) (la := la) (sz := fun _ => 0) (co := fun _ => 0) (va := fun _ => 0) (b := in_b) (cp := fun _ => 0)
  refine ⟨cp', h1, fun post hp => ⟨4, ?_⟩⟩
  rw [wY_init_115]
  refine br_f (by decide) ⟨vp_in_iff.mpr (by decide), nm_e (nm_r (e' := nI 1) rfl ?_)⟩
  rw [wY_init_115]
  refine br_f (by decide) ⟨vp_in_iff.mpr (by decide), nm_e (nm_r (e' := nI 2) rfl ?_)⟩
  rw [wY_init_115]
  refine br_f (by decide) ⟨vp_in_iff.mpr (by decide), nm_e (nm_r (e' := nI 3) rfl ?_)⟩
  rw [wY_init_115]
  refine br_t (by decide) (nm_r (e' := in_b) ?_ (h2 _ hp))
  rfl
theorem in_all {m0 m1 W m3 : Nat} {p : Int32} (h0 : m0 ≤ 2) (hW2 : m0 = 2 → W = 1) (h1 : 1 ≤ m1) (h1' : m1 ≤ 8) (hW : 1 ≤ W) (hW4 : W ≤ 4) (h3 : m3 ≤ 20) (hp : p = nI m1 * nI W) {cp' : Nat → Int32} (hc : ∀ j, j < 3316 → cp' j = in_b j) : i_Rel 4 (nI m0, nI m1, nI W, nI m3, -1000, 0, 0, 0, -1000, 0, 0, 0, (fun _ => 0), (fun _ => 0), (fun _ => 0), (fun _ => 0), (fun _ => 0), (fun _ => 0), (fun _ => 0), (fun _ => 0), (fun _ => 0), (fun _ => 0), (fun _ => 0)) (nI m0, nI m1, p, nI m3, (fun _ => 0), (fun _ => 0), (fun _ => 0), in_b, cp') := by
  have hm : m0 = 0 ∨ m0 = 1 ∨ m0 = 2 := by omega
  refine ⟨rfl, rfl, rfl, rfl, rfl, m1, W, m3, fun _ => 0, 0, 0, 0, 0, rfl, rfl, rfl, rfl, rfl, Nat.le_refl _, ⟨?_, ?_, rfl, h1, h1', hW, hW4, hp, rfl, h3, fun s _ => ⟨rfl, Nat.zero_le _⟩, fun j => ⟨0, by omega, rfl, rfl, rfl⟩⟩, in_N (fun j _ => rfl), in_N hc⟩
  · rcases hm with rfl | rfl | rfl
    · exact Or.inl rfl
    · exact Or.inr (Or.inl rfl)
    · exact Or.inr (Or.inr rfl)
  · intro z
    exact hW2 ((nI_eq (b := 2) (by omega) (by omega)).mp z)
theorem i_vc0 (k0 : Int32) (k1 : Int32) (k2 : Int32) (k3 : Int32) : wpX_init (fun u => wpY_init (fun v => i_Rel 4 u v) k0 k1 k2 k3) k0 k1 k2 k3 := by
  obtain ⟨m0, _, a2, a3, a4⟩ := in_cl k0 0 2 (by omega) (by omega)
  obtain ⟨m1, b1, b2, b3, b4⟩ := in_cl k1 1 8 (by omega) (by omega)
  obtain ⟨m2, c1, c2, c3, c4⟩ := in_cl k2 1 4 (by omega) (by omega)
  obtain ⟨m3, _, d2, d3, d4⟩ := in_cl k3 0 20 (by omega) (by omega)
  unfold wpX_init wX_init_174
  refine a3 _ ?_
  refine b3 _ ?_
  by_cases z : nI m0 = 1
  · have hm0 : m0 = 1 := (nI_eq (b := 1) (by omega) (by omega)).mp z
    refine br_t z ?_
    refine c3 _ ?_
    refine d3 _ ?_
    unfold wpY_init wY_init_96
    refine a4 _ _ ?_
    refine b4 _ _ ?_
    refine br_t z ?_
    refine c4 _ _ ?_
    refine d4 _ _ ?_
    obtain ⟨cp', e1, e2⟩ := in_y (nI m0) (nI m1) (nI m1 * nI m2) (nI m3)
    exact e2 _ (in_all a2 (by omega) b1 b2 c1 c2 d2 rfl e1)
  · refine br_f z ?_
    refine d3 _ ?_
    unfold wpY_init wY_init_96
    refine a4 _ _ ?_
    refine b4 _ _ ?_
    refine br_f z ?_
    refine d4 _ _ ?_
    obtain ⟨cp', e1, e2⟩ := in_y (nI m0) (nI m1) (nI m1) (nI m3)
    exact e2 _ (in_all (W := 1) a2 (fun _ => rfl) b1 b2 (by omega) (by omega) d2 (Int32.mul_one _).symm e1)
end
end
