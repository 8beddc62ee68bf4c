/-! closing: the order of results -/
def cl_bf (r q : ro_T) : Prop := r.2.2.1 < q.2.2.1 ∨ (r.2.2.1 = q.2.2.1 ∧ (r.1 < q.1 ∨ (r.1 = q.1 ∧ r.2.1 < q.2.1)))
def cl_du (m : Int32) (r : ro_T) : Bool := decide (r.2.2.1 ≤ m)
theorem cl_tr {a b c : ro_T} (h1 : cl_bf a b) (h2 : cl_bf b c) : cl_bf a c := by
  unfold cl_bf at *
  simp only [ii_lt, ii_eq] at *
  omega
theorem cl_as {a b : ro_T} (h1 : cl_bf a b) (h2 : cl_bf b a) : False := by
  unfold cl_bf at *
  simp only [ii_lt, ii_eq] at *
  omega
theorem cl_to {a b : ro_T} (h : ¬ (a.1 = b.1 ∧ a.2.1 = b.2.1)) (h1 : ¬ cl_bf b a) : cl_bf a b := by
  unfold cl_bf at *
  simp only [ii_lt, ii_eq] at *
  omega
/-- L closes at mark m: D comes out, L' stays -/
def cl_R (m : Int32) (L D L' : List ro_T) : Prop :=
  D.Perm (L.filter (cl_du m)) ∧ D.Pairwise cl_bf ∧ L'.Perm (L.filter (fun r => !cl_du m r))
theorem cl_uni {m : Int32} {L1 D1 M1 L2 D2 M2 : List ro_T} (h1 : cl_R m L1 D1 M1) (h2 : cl_R m L2 D2 M2) (p : L1.Perm L2) : D1 = D2 ∧ M1.Perm M2 := by
  obtain ⟨a1, b1, c1⟩ := h1
  obtain ⟨a2, b2, c2⟩ := h2
  refine ⟨List.Perm.eq_of_pairwise (le := cl_bf) (fun a b _ _ x y => (cl_as x y).elim) b1 b2 ((a1.trans (p.filter _)).trans a2.symm), (c1.trans (p.filter _)).trans c2.symm⟩
/-- the closing under way: D is out, L is left of L0 -/
def cl_I (m : Int32) (L0 D L : List ro_T) : Prop :=
  (D ++ L).Perm L0 ∧ D.Pairwise cl_bf ∧ (∀ d, d ∈ D → cl_du m d = true) ∧ (∀ d, d ∈ D → ∀ q, q ∈ L → cl_du m q = true → cl_bf d q)
theorem cl_I0 (m : Int32) (L : List ro_T) : cl_I m L [] L :=
  ⟨List.Perm.refl _, List.Pairwise.nil, (fun d hd => by cases hd), (fun d hd => by cases hd)⟩
theorem cl_Is {m : Int32} {L0 D L L' : List ro_T} {x : ro_T} (h : cl_I m L0 D L) (p : L.Perm (x :: L')) (hx : cl_du m x = true) (hm : ∀ y, y ∈ L' → cl_du m y = true → cl_bf x y) : cl_I m L0 (D ++ [x]) L' := by
  obtain ⟨h1, h2, h3, h4⟩ := h
  refine ⟨?_, ?_, ?_, ?_⟩
  · rw [List.append_assoc]
    exact ((p.symm.append_left D).trans h1)
  · refine List.pairwise_append.mpr ⟨h2, List.pairwise_singleton _ _, fun a ha b hb => ?_⟩
    rw [List.mem_singleton.mp hb]
    exact h4 a ha x (p.mem_iff.mpr List.mem_cons_self) hx
  · intro d hd
    rcases List.mem_append.mp hd with hd | hd
    · exact h3 d hd
    · rw [List.mem_singleton.mp hd]
      exact hx
  · intro d hd q hq hq2
    rcases List.mem_append.mp hd with hd | hd
    · exact h4 d hd q (p.mem_iff.mpr (List.mem_cons_of_mem x hq)) hq2
    · rw [List.mem_singleton.mp hd]
      exact hm q hq hq2
theorem cl_fil {m : Int32} {L : List ro_T} (h : ∀ q, q ∈ L → cl_du m q = false) : L.filter (cl_du m) = [] ∧ L.filter (fun r => !cl_du m r) = L := by
  constructor
  · rw [List.filter_eq_nil_iff]
    intro a ha
    rw [h a ha]
    exact Bool.false_ne_true
  · rw [List.filter_eq_self]
    intro a ha
    rw [h a ha]
    rfl
theorem cl_fil2 {m : Int32} {L : List ro_T} (h : ∀ q, q ∈ L → cl_du m q = true) : L.filter (cl_du m) = L ∧ L.filter (fun r => !cl_du m r) = [] := by
  constructor
  · rw [List.filter_eq_self]
    exact h
  · rw [List.filter_eq_nil_iff]
    intro a ha
    rw [h a ha]
    exact Bool.false_ne_true
theorem cl_Ie {m : Int32} {L0 D L : List ro_T} (h : cl_I m L0 D L) (hn : ∀ q, q ∈ L → cl_du m q = false) : cl_R m L0 D L := by
  obtain ⟨h1, h2, h3, h4⟩ := h
  have e1 := h1.filter (cl_du m)
  have e2 := h1.filter (fun r => !cl_du m r)
  rw [List.filter_append, (cl_fil hn).1, (cl_fil2 h3).1, List.append_nil] at e1
  rw [List.filter_append, (cl_fil hn).2, (cl_fil2 h3).2, List.nil_append] at e2
  exact ⟨e1, h2, e2⟩

/-! sessions -/
def ss_tc (k t d : Int32) (r : ro_T) : Bool := decide (r.1 = k ∧ r.2.1 - d ≤ t ∧ t ≤ r.2.2.1)
/-- two sessions of a key stand apart -/
def ss_sp (L : List ro_T) : Prop := L.Pairwise (fun r q => r.1 = q.1 → r.2.2.1 < q.2.1 ∨ q.2.2.1 < r.2.1)
def ss_ok (d : Int32) (r : ro_T) : Prop := 0 ≤ r.2.1.toInt ∧ r.2.1.toInt + d.toInt ≤ r.2.2.1.toInt ∧ r.2.2.1.toInt ≤ 80 ∧ 0 ≤ r.1.toInt ∧ r.1.toInt ≤ 3
theorem ss_sp_p {L L' : List ro_T} (h : L.Perm L') (d : ss_sp L) : ss_sp L' :=
  List.Pairwise.perm d h (fun n z => (n z.symm).symm)
theorem ss_ds {d : Int32} {L : List ro_T} (hd : 0 ≤ d.toInt) (h : ss_sp L) (ho : ∀ r, r ∈ L → ss_ok d r) : ro_ds L := by
  refine List.Pairwise.imp_of_mem (fun {a b} ha hb hab z => ?_) h
  have h1 := hab z.1
  have oa := ho a ha
  have ob := ho b hb
  unfold ss_ok at oa ob
  have e := ii_eq.mp z.2
  simp only [ii_lt] at h1
  omega
/-- the touched ones, merged into the event -/
def ss_fo (d k t v : Int32) (T : List ro_T) : ro_T := T.foldl ro_mg (ro_nw k t (t + d) v)
theorem ss_f1 (z : Int) (T : List ro_T) : ∀ a : ro_T, a.2.2.1.toInt < z → (∀ x, x ∈ T → x.2.2.1.toInt < z) → (T.foldl ro_mg a).2.2.1.toInt < z := by
  induction T with
  | nil => exact fun a h _ => h
  | cons x T ih =>
    intro a h h2
    refine ih _ ?_ (fun y hy => h2 y (List.mem_cons_of_mem x hy))
    show (ro_mx x.2.2.1 a.2.2.1).toInt < z
    have := h2 x List.mem_cons_self
    rw [ro_mx_i]
    omega
theorem ss_f2 (z : Int) (T : List ro_T) : ∀ a : ro_T, z < a.2.1.toInt → (∀ x, x ∈ T → z < x.2.1.toInt) → z < (T.foldl ro_mg a).2.1.toInt := by
  induction T with
  | nil => exact fun a h _ => h
  | cons x T ih =>
    intro a h h2
    refine ih _ ?_ (fun y hy => h2 y (List.mem_cons_of_mem x hy))
    show z < (ro_mn x.2.1 a.2.1).toInt
    have := h2 x List.mem_cons_self
    rw [ro_mn_i]
    omega
theorem ss_f3 (d : Int32) (T : List ro_T) : ∀ a : ro_T, ss_ok d a → (∀ x, x ∈ T → ss_ok d x) → ss_ok d (T.foldl ro_mg a) := by
  induction T with
  | nil => exact fun a h _ => h
  | cons x T ih =>
    intro a h h2
    refine ih _ ?_ (fun y hy => h2 y (List.mem_cons_of_mem x hy))
    have h3 := h2 x List.mem_cons_self
    unfold ss_ok at *
    show 0 ≤ (ro_mn x.2.1 a.2.1).toInt ∧ (ro_mn x.2.1 a.2.1).toInt + d.toInt ≤ (ro_mx x.2.2.1 a.2.2.1).toInt ∧ (ro_mx x.2.2.1 a.2.2.1).toInt ≤ 80 ∧ 0 ≤ a.1.toInt ∧ a.1.toInt ≤ 3
    rw [ro_mn_i, ro_mx_i]
    omega
theorem ss_f4 (T : List ro_T) : ∀ a : ro_T, (T.foldl ro_mg a).1 = a.1 := by
  induction T with
  | nil => exact fun a => rfl
  | cons x T ih =>
    intro a
    exact ih _
theorem ss_f5 (T : List ro_T) : ∀ a : ro_T, 0 < ro_cn a → (∀ x, x ∈ T → 0 < ro_cn x) → ro_cn a + ro_cs T ≤ 1000 → ro_cn (T.foldl ro_mg a) = ro_cn a + ro_cs T := by
  induction T with
  | nil => exact fun a _ _ _ => rfl
  | cons x T ih =>
    intro a h h2 h3
    have h4 := h2 x List.mem_cons_self
    rw [ro_cs_c] at h3 ⊢
    have e : ro_cn (ro_mg a x) = ro_cn a + ro_cn x := ro_cn_add (x := a.2.2.2.1) (y := x.2.2.2.1) h h4 (by show ro_cn a + ro_cn x ≤ 1000; omega)
    have := ih (ro_mg a x) (by omega) (fun y hy => h2 y (List.mem_cons_of_mem x hy)) (by omega)
    rw [e] at this
    show ro_cn (T.foldl ro_mg (ro_mg a x)) = _
    omega
/-- reading an event into sessions: what the list becomes, and whether the event is late -/
def ss_L (L : List ro_T) (m d k t v : Int32) : List ro_T :=
  if L.any (ss_tc k t d) then ss_fo d k t v (L.filter (ss_tc k t d)) :: L.filter (fun r => !ss_tc k t d r)
  else if t + d ≤ m then L else ro_nw k t (t + d) v :: L
abbrev ss_lt (L : List ro_T) (m d k t : Int32) : Prop := L.any (ss_tc k t d) = false ∧ t + d ≤ m
theorem ss_p {L L' : List ro_T} (h : L.Perm L') (m d k t v : Int32) : (ss_L L m d k t v).Perm (ss_L L' m d k t v) := by
  unfold ss_L
  rw [h.any_eq]
  split
  · unfold ss_fo
    rw [ro_fold (h.filter _)]
    exact (h.filter _).cons _
  · split
    · exact h
    · exact h.cons _
theorem ss_lt_p {L L' : List ro_T} (h : L.Perm L') {m d k t : Int32} (z : ss_lt L m d k t) : ss_lt L' m d k t := by
  unfold ss_lt at *
  rw [h.any_eq] at z
  exact z
theorem ss_ev {d k t v : Int32} (hk0 : 0 ≤ k.toInt) (hk3 : k.toInt ≤ 3) (hd : 0 ≤ d.toInt) (hd8 : d.toInt ≤ 8) (ht : 0 ≤ t.toInt) (ht2 : t.toInt ≤ 63) : ss_ok d (ro_nw k t (t + d) v) := by
  unfold ss_ok ro_nw
  dsimp only
  rw [ii_add (by omega) (by omega)]
  omega
theorem ss_inv {L : List ro_T} {m d k t v : Int32} (hk0 : 0 ≤ k.toInt) (hk3 : k.toInt ≤ 3) (hd : 0 ≤ d.toInt) (hd8 : d.toInt ≤ 8) (ht : 0 ≤ t.toInt) (ht2 : t.toInt ≤ 63) (hs : ss_sp L) (ho : ∀ r, r ∈ L → ss_ok d r) (hp : ∀ r, r ∈ L → 0 < ro_cn r) (hb : ro_cs L < 900) : ss_sp (ss_L L m d k t v) ∧ (∀ r, r ∈ ss_L L m d k t v → ss_ok d r) ∧ (∀ r, r ∈ ss_L L m d k t v → 0 < ro_cn r) ∧ ro_cs (ss_L L m d k t v) ≤ ro_cs L + 1 ∧ (ss_L L m d k t v).length ≤ L.length + 1 := by
  have hev := ss_ev (k := k) (v := v) hk0 hk3 hd hd8 ht ht2
  have htd : (t + d).toInt = t.toInt + d.toInt := ii_add (by omega) (by omega)
  have hap : ∀ q, q ∈ L → ss_tc k t d q = false → k = q.1 → (t + d).toInt < q.2.1.toInt ∨ q.2.2.1.toInt < t.toInt := by
    intro q hq hz hk
    have h1 := of_decide_eq_false hz
    have h2 := ho q hq
    unfold ss_ok at h2
    have h3 : (q.2.1 - d).toInt = q.2.1.toInt - d.toInt := ii_sub (by omega) (by omega)
    rw [ii_le, ii_le, h3] at h1
    rw [htd]
    have h4 : ¬ (q.2.1.toInt - d.toInt ≤ t.toInt ∧ t.toInt ≤ q.2.2.1.toInt) := fun z => h1 ⟨hk.symm, z⟩
    omega
  unfold ss_L
  by_cases ha : L.any (ss_tc k t d) = true
  · rw [if_pos ha]
    have hq2 : ∀ q, q ∈ L.filter (fun r => !ss_tc k t d r) → q ∈ L ∧ ss_tc k t d q = false := by
      intro q hq
      have h1 := List.mem_filter.mp hq
      refine ⟨h1.1, ?_⟩
      have h2 := h1.2
      cases z : ss_tc k t d q
      · rfl
      · rw [z] at h2
        cases h2
    have hq1 : ∀ q, q ∈ L.filter (ss_tc k t d) → q ∈ L ∧ ss_tc k t d q = true := fun q hq => List.mem_filter.mp hq
    have hcs : ro_cs L = ro_cs (L.filter (ss_tc k t d)) + ro_cs (L.filter (fun r => !ss_tc k t d r)) := by
      rw [← ro_cs_a]
      exact (ro_cs_p (List.filter_append_perm (ss_tc k t d) L)).symm
    have hcn := ss_f5 (L.filter (ss_tc k t d)) (ro_nw k t (t + d) v) (by rw [ro_cn_1]; omega) (fun x hx => hp x (hq1 x hx).1) (by rw [ro_cn_1]; omega)
    rw [ro_cn_1] at hcn
    refine ⟨List.pairwise_cons.mpr ⟨?_, List.Pairwise.filter _ hs⟩, ?_, ?_, ?_, ?_⟩
    · intro q hq hk
      obtain ⟨hqL, hqt⟩ := hq2 q hq
      have hk2 : k = q.1 := by
        rw [← hk]
        exact (ss_f4 (L.filter (ss_tc k t d)) (ro_nw k t (t + d) v)).symm
      have hqo := ho q hqL
      unfold ss_ok at hqo
      rw [ii_lt, ii_lt]
      have hsym : ∀ x, x ∈ L → ss_tc k t d x = true → x.2.2.1.toInt < q.2.1.toInt ∨ q.2.2.1.toInt < x.2.1.toInt := by
        intro x hx hxt
        have hne : x ≠ q := by
          intro z
          rw [z, hqt] at hxt
          cases hxt
        have hxk := (of_decide_eq_true hxt).1
        have hxq : x.1 = q.1 := hxk.trans hk2
        have hs1 : L.Pairwise (fun r q : ro_T => r ≠ q → r.1 = q.1 → r.2.2.1 < q.2.1 ∨ q.2.2.1 < r.2.1) := by
          refine List.Pairwise.imp ?_ hs
          intro a b h _
          exact h
        have hs2 : L.Pairwise (fun q r : ro_T => r ≠ q → r.1 = q.1 → r.2.2.1 < q.2.1 ∨ q.2.2.1 < r.2.1) := by
          refine List.Pairwise.imp ?_ hs
          intro a b h _ z
          exact (h z.symm).symm
        have h5 := List.Pairwise.forall_of_forall_of_flip (R := fun r q : ro_T => r ≠ q → r.1 = q.1 → r.2.2.1 < q.2.1 ∨ q.2.2.1 < r.2.1) (fun x _ z => absurd rfl z) hs1 hs2 hx hqL hne hxq
        rw [ii_lt, ii_lt] at h5
        exact h5
      have htq : ∀ x, x ∈ L → ss_tc k t d x = true → x.2.1.toInt ≤ t.toInt + d.toInt ∧ t.toInt ≤ x.2.2.1.toInt := by
        intro x hx hxt
        have h1 := (of_decide_eq_true hxt).2
        have h2 := ho x hx
        unfold ss_ok at h2
        rw [ii_le, ii_le, ii_sub (by omega) (by omega)] at h1
        omega
      rcases hap q hqL hqt hk2 with h6 | h6
      · left
        refine ss_f1 _ _ _ h6 (fun x hx => ?_)
        have h7 := hsym x (hq1 x hx).1 (hq1 x hx).2
        have h8 := htq x (hq1 x hx).1 (hq1 x hx).2
        rw [htd] at h6
        omega
      · right
        refine ss_f2 _ _ _ h6 (fun x hx => ?_)
        have h7 := hsym x (hq1 x hx).1 (hq1 x hx).2
        have h8 := htq x (hq1 x hx).1 (hq1 x hx).2
        omega
    · intro r hr
      rcases List.mem_cons.mp hr with rfl | hr
      · exact ss_f3 d _ _ hev (fun x hx => ho x (hq1 x hx).1)
      · exact ho r (hq2 r hr).1
    · intro r hr
      rcases List.mem_cons.mp hr with rfl | hr
      · unfold ss_fo
        omega
      · exact hp r (hq2 r hr).1
    · rw [ro_cs_c]
      unfold ss_fo
      omega
    · rw [List.length_cons]
      exact Nat.succ_le_succ (List.length_filter_le _ _)
  · rw [if_neg ha]
    by_cases hm : t + d ≤ m
    · rw [if_pos hm]
      exact ⟨hs, ho, hp, by omega, by omega⟩
    · rw [if_neg hm]
      have hno : ∀ q, q ∈ L → ss_tc k t d q = false := by
        intro q hq
        cases z : ss_tc k t d q
        · rfl
        · exact absurd (List.any_eq_true.mpr ⟨q, hq, z⟩) ha
      refine ⟨List.pairwise_cons.mpr ⟨?_, hs⟩, ?_, ?_, ?_, ?_⟩
      · intro q hq hk
        rw [ii_lt, ii_lt]
        exact hap q hq (hno q hq) hk
      · intro r hr
        rcases List.mem_cons.mp hr with rfl | hr
        · exact hev
        · exact ho r hr
      · intro r hr
        rcases List.mem_cons.mp hr with rfl | hr
        · rw [ro_cn_1]; omega
        · exact hp r hr
      · rw [ro_cs_c, ro_cn_1]; omega
      · rw [List.length_cons]; omega
/-- a join as either side does it: T merged into a, the rest R -/
theorem ss_join {L T R : List ro_T} {h : ro_T} {m d k t v : Int32} (p : L.Perm (h :: T ++ R)) (hh : ss_tc k t d h = true) (hT : ∀ x, x ∈ T → ss_tc k t d x = true) (hR : ∀ x, x ∈ R → ss_tc k t d x = false) : (ss_L L m d k t v).Perm (ro_mg (T.foldl ro_mg h) (ro_nw k t (t + d) v) :: R) ∧ (ss_L L m d k t v).Perm ((h :: T).foldl ro_mg (ro_nw k t (t + d) v) :: R) ∧ ¬ ss_lt L m d k t := by
  have ha : (h :: T ++ R).any (ss_tc k t d) = true := List.any_eq_true.mpr ⟨h, List.mem_cons_self, hh⟩
  have hTh : ∀ x, x ∈ h :: T → ss_tc k t d x = true := by
    intro x hx
    rcases List.mem_cons.mp hx with rfl | hx
    · exact hh
    · exact hT x hx
  have e1 : (h :: T ++ R).filter (ss_tc k t d) = h :: T := by
    rw [List.filter_append, List.filter_eq_self.mpr hTh, List.filter_eq_nil_iff.mpr (fun a ha => by rw [hR a ha]; exact Bool.false_ne_true), List.append_nil]
  have e2 : (h :: T ++ R).filter (fun r => !ss_tc k t d r) = R := by
    rw [List.filter_append, List.filter_eq_nil_iff.mpr (fun a ha => by rw [hTh a ha]; exact Bool.false_ne_true), List.filter_eq_self.mpr (fun a ha => by rw [hR a ha]; rfl), List.nil_append]
  have p2 : (ss_L L m d k t v).Perm ((h :: T).foldl ro_mg (ro_nw k t (t + d) v) :: R) := by
    refine (ss_p p m d k t v).trans ?_
    unfold ss_L ss_fo
    rw [if_pos ha, e1, e2]
  refine ⟨?_, p2, ?_⟩
  · have e3 : ro_mg (T.foldl ro_mg h) (ro_nw k t (t + d) v) = (h :: T).foldl ro_mg (ro_nw k t (t + d) v) := by
      have hk := (of_decide_eq_true hh).1
      have e4 : ro_mg (T.foldl ro_mg h) (ro_nw k t (t + d) v) = (T ++ [ro_nw k t (t + d) v]).foldl ro_mg h := by
        rw [List.foldl_append]
        rfl
      rw [e4, ro_fold (List.perm_append_singleton _ _), List.foldl_cons, List.foldl_cons, ro_mg_c (show h.1 = (ro_nw k t (t + d) v).1 from hk)]
    rw [e3]
    exact p2
  · intro z
    have := (ss_lt_p p z).1
    rw [ha] at this
    cases this
