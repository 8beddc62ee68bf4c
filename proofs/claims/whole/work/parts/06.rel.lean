/-! the lists of both sides belong together -/
def rl_B (kd d p : Int32) (b : Nat → Int32) (sn : Nat) (L : List ro_T) : Prop :=
  (∀ r, r ∈ L → 0 < ro_cn r) ∧
  (kd = 2 → L.Perm (ys_L d b sn) ∧ (∀ q, q < 272 → b (wy_a q) = 0) ∧ ss_sp L ∧ (∀ r, r ∈ L → ss_ok d r)) ∧
  (¬ kd = 2 → L.Perm (wy_L d p b 272) ∧ sn = 0 ∧ ∀ q, q < 272 → 0 ≤ b (wy_a q))
theorem rl_ds {kd d p : Int32} {b : Nat → Int32} {sn : Nat} {L : List ro_T} (h1 : 1 ≤ d.toInt) (h8 : d.toInt ≤ 8) (h : rl_B kd d p b sn L) : ro_ds L := by
  obtain ⟨a1, a2, a3⟩ := h
  by_cases z : kd = 2
  · exact ss_ds (by omega) (a2 z).2.2.1 (a2 z).2.2.2
  · exact ro_ds_p (a3 z).1.symm (wy_ds h1 h8 b)
theorem rl_sn {kd d p : Int32} {b : Nat → Int32} {sn : Nat} {L : List ro_T} (h : rl_B kd d p b sn L) : sn ≤ L.length ∧ (kd = 2 → sn = L.length) := by
  obtain ⟨a1, a2, a3⟩ := h
  by_cases z : kd = 2
  · have := (a2 z).1.length_eq
    unfold ys_L at this
    rw [li_len] at this
    exact ⟨by omega, fun _ => this.symm⟩
  · exact ⟨by have := (a3 z).2.1; omega, fun y => absurd y z⟩
theorem ys_Lc {d : Int32} {b b' : Nat → Int32} {sn : Nat} (hs : sn ≤ 60) (h : ∀ j, 1104 ≤ j → j < 1524 → b' j = b j) : ys_L d b' sn = ys_L d b sn :=
  li_cg (fun i hi => ys_cg (fun j hj => h _ (by omega) (by omega)))
theorem wy_Lc {d p : Int32} {b b' : Nat → Int32} (h : ∀ j, 16 ≤ j → j < 1104 → b' j = b j) : wy_L d p b' 272 = wy_L d p b 272 :=
  wy_fc (fun q hq => wy_cg (fun i hi => by
    have := wy_lt (List.mem_range.mp hq)
    exact h _ (by omega) (by omega)))
theorem rl_Bc {kd d p : Int32} {b b' : Nat → Int32} {sn : Nat} {L : List ro_T} (h : rl_B kd d p b sn L) (hs : sn ≤ 60) (h2 : ∀ j, 16 ≤ j → j < 1524 → b' j = b j) : rl_B kd d p b' sn L := by
  obtain ⟨a1, a2, a3⟩ := h
  have hw : ∀ q, q < 272 → b' (wy_a q) = b (wy_a q) := fun q hq => h2 _ (by have := wy_lt hq; omega) (by have := wy_lt hq; omega)
  refine ⟨a1, fun z => ?_, fun z => ?_⟩
  · obtain ⟨c1, c2, c3, c4⟩ := a2 z
    refine ⟨?_, fun q hq => by rw [hw q hq]; exact c2 q hq, c3, c4⟩
    rw [ys_Lc hs (fun j h3 h4 => h2 j (by omega) (by omega))]
    exact c1
  · obtain ⟨c1, c2, c3⟩ := a3 z
    refine ⟨?_, c2, fun q hq => by rw [hw q hq]; exact c3 q hq⟩
    rw [wy_Lc (fun j h3 h4 => h2 j (by omega) (by omega))]
    exact c1
/-- both sides close -/
theorem rl_cl {kd d p m : Int32} {b b' : Nat → Int32} {sn sn' : Nat} {L L' D D' : List ro_T} (hB : rl_B kd d p b sn L) (hx : cl_R m L D L')
    (hy2 : kd = 2 → cl_R m (ys_L d b sn) D' (ys_L d b' sn') ∧ ∀ q, q < 272 → b' (wy_a q) = 0)
    (hy0 : ¬ kd = 2 → cl_R m (wy_L d p b 272) D' (wy_L d p b' 272) ∧ sn' = 0 ∧ ∀ q, q < 272 → 0 ≤ b' (wy_a q)) :
    D' = D ∧ rl_B kd d p b' sn' L' ∧ ro_cs L' ≤ ro_cs L ∧ L'.length + D.length = L.length := by
  obtain ⟨a1, a2, a3⟩ := hB
  have hx2 := hx
  obtain ⟨x1, x2, x3⟩ := hx2
  have hm : ∀ r, r ∈ L' → r ∈ L := fun r hr => (List.mem_filter.mp (x3.mem_iff.mp hr)).1
  have hcs : ro_cs L' ≤ ro_cs L := by
    have h1 := ro_cs_p (List.filter_append_perm (cl_du m) L)
    rw [ro_cs_a] at h1
    rw [ro_cs_p x3]
    omega
  have hln : L'.length + D.length = L.length := by
    have h1 := (List.filter_append_perm (cl_du m) L).length_eq
    rw [List.length_append] at h1
    rw [x3.length_eq, x1.length_eq]
    omega
  by_cases z : kd = 2
  · obtain ⟨c1, c2, c3, c4⟩ := a2 z
    obtain ⟨y1, y2⟩ := hy2 z
    obtain ⟨u1, u2⟩ := cl_uni hx y1 c1
    refine ⟨u1.symm, ⟨fun r hr => a1 r (hm r hr), fun _ => ⟨u2, y2, ?_, fun r hr => c4 r (hm r hr)⟩, fun y => absurd z y⟩, hcs, hln⟩
    exact ss_sp_p x3.symm (List.Pairwise.filter _ c3)
  · obtain ⟨c1, c2, c3⟩ := a3 z
    obtain ⟨y1, y2, y3⟩ := hy0 z
    obtain ⟨u1, u2⟩ := cl_uni hx y1 c1
    exact ⟨u1.symm, ⟨fun r hr => a1 r (hm r hr), fun y => absurd y z, fun _ => ⟨u2, y2, y3⟩⟩, hcs, hln⟩
/-! reading an event -/
def rd_L (kd d p m v : Int32) (W kk tn dn : Nat) (L : List ro_T) : List ro_T :=
  if kd = 2 then ss_L L m d (nI kk) (nI tn) v else zl_L d p m v (tn / dn) W kk L W
def rd_t (kd d p m lt : Int32) (W kk tn dn : Nat) (L : List ro_T) : Int32 :=
  if kd = 2 then (if ss_lt L m d (nI kk) (nI tn) then lt + 1 else lt) else (if zl_c d p m (tn / dn) W kk W = 0 then lt + 1 else lt)
theorem rd_tp {kd d p m lt : Int32} {W kk tn dn : Nat} {L L' : List ro_T} (h : L.Perm L') : rd_t kd d p m lt W kk tn dn L = rd_t kd d p m lt W kk tn dn L' := by
  unfold rd_t
  by_cases z : kd = 2
  · rw [if_pos z, if_pos z]
    by_cases y : ss_lt L m d (nI kk) (nI tn)
    · rw [if_pos y, if_pos (ss_lt_p h y)]
    · rw [if_neg y, if_neg (fun x => y (ss_lt_p h.symm x))]
  · rw [if_neg z, if_neg z]
theorem rd_p {kd d p m v : Int32} {W kk tn dn : Nat} {L L' : List ro_T} (h : L.Perm L') : (rd_L kd d p m v W kk tn dn L).Perm (rd_L kd d p m v W kk tn dn L') := by
  unfold rd_L
  split
  · exact ss_p h _ _ _ _ _
  · exact zl_p h _
theorem rl_rd {kd d p m v : Int32} {b b' : Nat → Int32} {sn sn' W kk tn dn : Nat} {L L' : List ro_T} (h1 : 1 ≤ d.toInt) (h8 : d.toInt ≤ 8) (hW1 : 1 ≤ W) (hW : W ≤ 4) (hkk : kk < 4) (ht : tn ≤ 63) (hB : rl_B kd d p b sn L) (hb : ro_cs L ≤ 240) (hx : L'.Perm (rd_L kd d p m v W kk tn dn L))
    (hy2 : kd = 2 → (ys_L d b' sn').Perm (rd_L kd d p m v W kk tn dn (ys_L d b sn)) ∧ ∀ q, q < 272 → b' (wy_a q) = 0)
    (hy0 : ¬ kd = 2 → (wy_L d p b' 272).Perm (rd_L kd d p m v W kk tn dn (wy_L d p b 272)) ∧ sn' = 0 ∧ ∀ q, q < 272 → 0 ≤ b' (wy_a q)) :
    rl_B kd d p b' sn' L' ∧ ro_cs L' ≤ ro_cs L + W ∧ L'.length ≤ L.length + W := by
  have hds := rl_ds h1 h8 hB
  obtain ⟨a1, a2, a3⟩ := hB
  by_cases z : kd = 2
  · obtain ⟨c1, c2, c3, c4⟩ := a2 z
    obtain ⟨y1, y2⟩ := hy2 z
    have e : rd_L kd d p m v W kk tn dn L = ss_L L m d (nI kk) (nI tn) v := if_pos z
    have hti : (nI tn).toInt = (tn : Int) := nI_toInt (by omega)
    have hki : (nI kk).toInt = (kk : Int) := nI_toInt (by omega)
    obtain ⟨i1, i2, i3, i4, i5⟩ := ss_inv (m := m) (d := d) (k := nI kk) (t := nI tn) (v := v) (by omega) (by omega) (by omega) h8 (by omega) (by omega) c3 c4 a1 (by omega)
    have q := (hx.trans (rd_p c1)).trans y1.symm
    rw [e] at hx
    refine ⟨⟨fun r hr => i3 r (hx.mem_iff.mp hr), fun _ => ⟨q, y2, ss_sp_p hx.symm i1, fun r hr => i2 r (hx.mem_iff.mp hr)⟩, fun y => absurd z y⟩, ?_, ?_⟩
    · rw [ro_cs_p hx]; omega
    · rw [hx.length_eq]; omega
  · obtain ⟨c1, c2, c3⟩ := a3 z
    obtain ⟨y1, y2, y3⟩ := hy0 z
    have e : rd_L kd d p m v W kk tn dn L = zl_L d p m v (tn / dn) W kk L W := if_neg z
    obtain ⟨i1, i2, i3, i4⟩ := zl_i (d := d) (p := p) (m := m) (v := v) (a := tn / dn) (W := W) (k := kk) hds a1 (by omega) W hW
    have q := (hx.trans (rd_p c1)).trans y1.symm
    rw [e] at hx
    refine ⟨⟨fun r hr => i2 r (hx.mem_iff.mp hr), fun y => absurd y z, fun _ => ⟨q, y2, y3⟩⟩, ?_, ?_⟩
    · rw [ro_cs_p hx]; omega
    · rw [hx.length_eq]; omega
