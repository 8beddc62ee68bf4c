/-! the reference reads into windows, looks at the mark -/
section
variable {kd dd pp la : Int32} {sz co va b cp : Nat → Int32}
theorem wy_wa {k w : Nat} (hk : k < 4) : 16 + (4 * (((68 * nI k) + (nI w - 4)) + 4)) = nI (wy_a (4 * w + k)) := by
  have e : ((68 * nI k) + (nI w - 4)) + 4 = nI (68 * k + w) := by
    rw [ix_m68, ← nI_add]
    generalize nI (68 * k) = x
    generalize nI w = y
    grind
  rw [e, ix_m4, ix_p16, wy_k hk]
theorem wy_n1 (w : Nat) : nI w - 4 + 1 = nI (w + 1) - 4 := by
  rw [← nI_1]
  generalize nI w = y
  grind
theorem wy_ni {w : Nat} (hw : w ≤ 68) : (nI w - 4).toInt = (w : Int) - 4 := by
  have e4 : (4 : Int32).toInt = 4 := by decide
  have e : (nI w).toInt = (w : Int) := nI_toInt (by omega)
  rw [ii_sub (by omega) (by omega), e, e4]
theorem wy_64 {w : Nat} (hw : w < 68) : ¬ (64 : Int32) ≤ nI w - 4 := by
  have e : (64 : Int32).toInt = 64 := by decide
  rw [ii_le, wy_ni (by omega)]
  omega
theorem wy_68 : (64 : Int32) ≤ nI 68 - 4 := by decide
theorem wy_s4 {d : Int32} {w k : Nat} (hk : k < 4) : wy_s d (4 * w + k) = (nI w - 4) * d := by
  unfold wy_s
  rw [show (4 * w + k) / 4 = w from by omega]
theorem wy_wn {d p : Int32} {c c' : Nat → Int32} {q : Nat} (hq : q < 272) (h0 : ∀ j, j < 272 → 0 ≤ c (wy_a j)) (hb : ro_cs (wy_L d p c 272) < 900) (e0 : c' (wy_a q) = c (wy_a q) + 1) (ho : ∀ j, (j < wy_a q ∨ wy_a q + 4 ≤ j) → c' j = c j) : ∀ j, j < 272 → 0 ≤ c' (wy_a j) := by
  intro j hj
  by_cases z : j = q
  · subst z
    rw [e0]
    by_cases y : c (wy_a j) = 0
    · rw [y]
      decide
    · have hpos : 0 < c (wy_a j) := by
        have h3 := ii_le.mp (h0 j hj)
        rw [ii_lt]
        have : ¬ (c (wy_a j)).toInt = (0 : Int32).toInt := fun x => y (ii_eq.mpr x)
        omega
      have hm : wy_r d p c j ∈ wy_L d p c 272 := by
        refine List.mem_flatMap.mpr ⟨j, List.mem_range.mpr hj, ?_⟩
        unfold wy_o
        rw [if_pos hpos]
        exact List.mem_singleton.mpr rfl
      have hc := ro_cn_le hm
      have hpos2 : 0 < c (wy_a j) + 1 := by
        refine ro_cn_pos.mp ?_
        rw [ro_cn_add (ro_cn_pos.mpr hpos) (by decide) (by show ro_cn (wy_r d p c j) + 1 ≤ 1000; omega)]
        exact Nat.succ_pos _
      exact Int32.le_of_lt hpos2
  · rw [ho _ (by have := wy_ne hq hj z; omega)]
    exact h0 j hj
theorem yw_all {dn W kk tn : Nat} {v : Int32} (hd1 : 1 ≤ dn) (hd8 : dn ≤ 8) (hW1 : 1 ≤ W) (hW : W ≤ 4) (hk : kk < 4) (ht : tn ≤ 63) (h0 : ∀ q, q < 272 → 0 ≤ b (wy_a q)) (hb : ro_cs (wy_L (nI dn) (nI dn * nI W) b 272) ≤ 240) :
    ∃ b' : Nat → Int32, (wy_L (nI dn) (nI dn * nI W) b' 272).Perm (zl_L (nI dn) (nI dn * nI W) (b 9) v (tn / dn) W kk (wy_L (nI dn) (nI dn * nI W) b 272) W) ∧ (∀ q, q < 272 → 0 ≤ b' (wy_a q)) ∧ b' 10 = (if zl_c (nI dn) (nI dn * nI W) (b 9) (tn / dn) W kk W = 0 then b 10 + 1 else b 10) ∧ (∀ j, j ≠ 10 → (j < 16 ∨ 1104 ≤ j) → b' j = b j) ∧ ∀ post : SY → Prop, post (kd, nI dn, nI dn * nI W, la, sz, co, va, b', cp) → wpY_readIntoWindows post (kd, nI dn, nI dn * nI W, la, sz, co, va, b, cp) (nI tn) (nI kk) v := by
  have hdi : (nI dn).toInt = (dn : Int) := nI_toInt (by omega)
  have hq0 : (0 : Int) ≤ (tn : Int) / (dn : Int) := Int.natCast_nonneg (tn / dn)
  have hz := fun j (hj : j ≤ 4) => zl_i (d := nI dn) (p := nI dn * nI W) (m := b 9) (v := v) (a := tn / dn) (W := W) (k := kk) (wy_ds (d := nI dn) (p := nI dn * nI W) (by omega) (by omega) b) wy_cp (by omega) j hj
  have key := lo_ex (ρ := SY) (σ := Nat × Nat × (Nat → Int32))
    (fun post f s => wY_readIntoWindows_7 post (nI tn) (nI kk) v f (zl_c (nI dn) (nI dn * nI W) (b 9) (tn / dn) W kk s.2.1) (nI s.1 - 4) kd (nI dn) (nI dn * nI W) la sz co va (s.2.2) cp)
    (fun x s => x + s.1 = 68 ∧ s.2.1 ≤ W ∧ (s.1 + W ≤ tn / dn + 5 → s.2.1 = 0) ∧ (tn / dn + 5 ≤ s.1 + W → s.1 ≤ tn / dn + 5 → s.2.1 + (tn / dn + 5) = s.1 + W) ∧ (tn / dn + 5 ≤ s.1 → s.2.1 = W) ∧ (wy_L (nI dn) (nI dn * nI W) s.2.2 272).Perm (zl_L (nI dn) (nI dn * nI W) (b 9) v (tn / dn) W kk (wy_L (nI dn) (nI dn * nI W) b 272) s.2.1) ∧ (∀ q, q < 272 → 0 ≤ s.2.2 (wy_a q)) ∧ (∀ j, (j < 16 ∨ 1104 ≤ j) → s.2.2 j = b j))
    (fun r => ∃ b' : Nat → Int32, r = (kd, nI dn, nI dn * nI W, la, sz, co, va, b', cp) ∧ (wy_L (nI dn) (nI dn * nI W) b' 272).Perm (zl_L (nI dn) (nI dn * nI W) (b 9) v (tn / dn) W kk (wy_L (nI dn) (nI dn * nI W) b 272) W) ∧ (∀ q, q < 272 → 0 ≤ b' (wy_a q)) ∧ b' 10 = (if zl_c (nI dn) (nI dn * nI W) (b 9) (tn / dn) W kk W = 0 then b 10 + 1 else b 10) ∧ (∀ j, j ≠ 10 → (j < 16 ∨ 1104 ≤ j) → b' j = b j))
    (by
      rintro x ⟨w, j, c⟩ ⟨h1, h2, h3, h4, h5, h6, h7, h8⟩
      dsimp only at *
      have hq : tn / dn ≤ 63 := Nat.le_trans (Nat.div_le_self _ _) ht
      by_cases hw : w = 68
      · subst hw
        have hj : j = W := h5 (by omega)
        subst hj
        left
        by_cases z : zl_c (nI dn) (nI dn * nI j) (b 9) (tn / dn) j kk j = 0
        · refine ⟨_, ⟨upd c 10 (c 10 + 1), rfl, ?_, ?_, ?_, ?_⟩, fun post f hp => ?_⟩
          · rw [wy_Lc (fun x hx hx2 => pk_un (by omega))]
            exact h6
          · intro q hq2
            rw [pk_un (by have := wy_lt hq2; omega)]
            exact h7 q hq2
          · rw [if_pos z, pk_us, h8 10 (by omega)]
          · intro x hx hx2
            rw [pk_un hx]
            exact h8 x hx2
          · rw [wY_readIntoWindows_7]
            exact br_t wy_68 (br_t z (nm_e hp))
        · refine ⟨_, ⟨c, rfl, h6, h7, ?_, fun x _ hx2 => h8 x hx2⟩, fun post f hp => ?_⟩
          · rw [if_neg z, h8 10 (by omega)]
          · rw [wY_readIntoWindows_7]
            exact br_t wy_68 (br_f z hp)
      · have hwl : w < 68 := by omega
        obtain ⟨c1, c2⟩ := wy_wc (w := w) (dn := dn) (W := W) (tn := tn) hwl hd1 hd8 hW1 hW ht
        right
        by_cases a1 : w ≤ tn / dn + 4
        · have n1 : ¬ nI tn < (nI w - 4) * nI dn := Int32.not_lt.mpr (c1.mpr a1)
          by_cases a2 : tn / dn + 5 ≤ w + W
          · have n2 : ¬ (nI w - 4) * nI dn + nI dn * nI W ≤ nI tn := Int32.not_le.mpr (c2.mpr a2)
            have hj : j + (tn / dn + 5) = w + W := h4 a2 (by omega)
            have eq : zl_q (tn / dn) W kk j = 4 * w + kk := by
              unfold zl_q
              omega
            by_cases hm : (nI w - 4) * nI dn + nI dn * nI W ≤ b 9
            · have hm2 : ¬ b 9 < wy_s (nI dn) (zl_q (tn / dn) W kk j) + nI dn * nI W := by
                rw [eq, wy_s4 hk]
                exact Int32.not_lt.mpr hm
              have e1 : zl_L (nI dn) (nI dn * nI W) (b 9) v (tn / dn) W kk (wy_L (nI dn) (nI dn * nI W) b 272) (j + 1) = zl_L (nI dn) (nI dn * nI W) (b 9) v (tn / dn) W kk (wy_L (nI dn) (nI dn * nI W) b 272) j := if_neg hm2
              have e2 : zl_c (nI dn) (nI dn * nI W) (b 9) (tn / dn) W kk (j + 1) = zl_c (nI dn) (nI dn * nI W) (b 9) (tn / dn) W kk j := if_neg hm2
              refine ⟨x - 1, (w + 1, j + 1, c), by omega, ⟨by dsimp only; omega, by dsimp only; omega, by dsimp only; omega, by dsimp only; omega, by dsimp only; omega, by rw [e1]; exact h6, h7, h8⟩, fun post f hp => ?_⟩
              dsimp only at hp
              rw [e2] at hp
              rw [wY_readIntoWindows_7]
              refine br_f (wy_64 hwl) (br_f n1 ?_)
              simp only [wpY_endOf, wpY_windowAt]
              rw [h8 9 (by omega)]
              exact br_f n2 (br_t hm (nm_r (wy_n1 w) hp))
            · have hm2 : b 9 < wy_s (nI dn) (zl_q (tn / dn) W kk j) + nI dn * nI W := by
                rw [eq, wy_s4 hk]
                exact Int32.not_le.mp hm
              have e1 : zl_L (nI dn) (nI dn * nI W) (b 9) v (tn / dn) W kk (wy_L (nI dn) (nI dn * nI W) b 272) (j + 1) = ro_ws (zl_L (nI dn) (nI dn * nI W) (b 9) v (tn / dn) W kk (wy_L (nI dn) (nI dn * nI W) b 272) j) (nI kk) (wy_s (nI dn) (zl_q (tn / dn) W kk j)) (wy_s (nI dn) (zl_q (tn / dn) W kk j) + nI dn * nI W) v := if_pos hm2
              have e2 : zl_c (nI dn) (nI dn * nI W) (b 9) (tn / dn) W kk (j + 1) = 1 := if_pos hm2
              have hq2 : 4 * w + kk < 272 := by omega
              have hcs : ro_cs (wy_L (nI dn) (nI dn * nI W) c 272) < 900 := by
                rw [ro_cs_p h6]
                have := (hz j (by omega)).2.2.1
                omega
              obtain ⟨b', q0, q1, q2, q3, q4, q5⟩ := ya_cnt (kd := kd) (dd := nI dn) (pp := nI dn * nI W) (la := la) (sz := sz) (co := co) (va := va) (cp := cp) (b := c) (o := wy_a (4 * w + kk)) (by have := wy_lt hq2; omega) 1 v v v
              have hp2 := wy_ws (d := nI dn) (p := nI dn * nI W) (v := v) (by omega) (by omega) hq2 (h7 _ hq2) (by omega) q0 q1 q2 q3 q4
              refine ⟨x - 1, (w + 1, j + 1, b'), by omega, ⟨by dsimp only; omega, by dsimp only; omega, by dsimp only; omega, by dsimp only; omega, by dsimp only; omega, ?_, wy_wn hq2 h7 hcs q0 q4, ?_⟩, fun post f hp => ?_⟩
              · dsimp only
                rw [e1, eq]
                rw [show (4 * w + kk) % 4 = kk from by omega] at hp2
                exact hp2.trans (ws_p h6 _ _ _ _)
              · intro y hy
                dsimp only
                rw [q4 y (by have := wy_lt hq2; omega)]
                exact h8 y hy
              · dsimp only at hp
                rw [e2] at hp
                rw [wY_readIntoWindows_7]
                refine br_f (wy_64 hwl) (br_f n1 ?_)
                simp only [wpY_endOf, wpY_windowAt]
                rw [h8 9 (by omega), wy_wa hk]
                refine br_f n2 (br_f hm (q5 _ ?_))
                dsimp only
                exact nm_r (wy_n1 w) hp
          · have n2 : (nI w - 4) * nI dn + nI dn * nI W ≤ nI tn := Int32.not_lt.mp (fun z => a2 (c2.mp z))
            refine ⟨x - 1, (w + 1, j, c), by omega, ⟨by dsimp only; omega, by dsimp only; omega, by dsimp only; omega, by dsimp only; omega, by dsimp only; omega, h6, h7, h8⟩, fun post f hp => ?_⟩
            rw [wY_readIntoWindows_7]
            refine br_f (wy_64 hwl) (br_f n1 ?_)
            simp only [wpY_endOf, wpY_windowAt]
            exact br_t n2 (nm_r (wy_n1 w) hp)
        · have n1 : nI tn < (nI w - 4) * nI dn := Int32.not_le.mp (fun z => a1 (c1.mp z))
          refine ⟨x - 1, (w + 1, j, c), by omega, ⟨by dsimp only; omega, by dsimp only; omega, by dsimp only; omega, by dsimp only; omega, by dsimp only; omega, h6, h7, h8⟩, fun post f hp => ?_⟩
          rw [wY_readIntoWindows_7]
          exact br_f (wy_64 hwl) (br_t n1 (nm_r (wy_n1 w) hp)))
    68 (0, 0, b) ⟨rfl, by dsimp only; omega, by dsimp only; omega, by dsimp only; omega, by dsimp only; omega, List.Perm.refl _, h0, fun _ _ => rfl⟩
  obtain ⟨_, ⟨b', rfl, h1, h2, h3, h4⟩, h5⟩ := key
  exact ⟨b', h1, h2, h3, h4, fun post hp => ⟨69, h5 post 69 (by omega) hp⟩⟩
theorem ym_all (own idl : Nat → Int32) (ho : ∀ s, s < 3 → own s = mk_ow la (b (6 + s))) (hi : ∀ s, s < 3 → idl s = b (3 + s)) : ∃ b' : Nat → Int32, b' 9 = mk_nw (b 9) (mk_le own idl 3) ∧ (∀ j, j ≠ 9 → b' j = b j) ∧ ∀ post : SY → Prop, post (kd, dd, pp, la, sz, co, va, b', cp) → wpY_lookAtMark post (kd, dd, pp, la, sz, co, va, b, cp) := by
  have key := lo_ex (ρ := SY) (σ := Nat)
    (fun post f s => wY_lookAtMark_5 post kd dd pp la sz co va b cp f (mk_le own idl s) (nI s))
    (fun m s => m + s = 3)
    (fun r => ∃ b' : Nat → Int32, r = (kd, dd, pp, la, sz, co, va, b', cp) ∧ b' 9 = mk_nw (b 9) (mk_le own idl 3) ∧ (∀ j, j ≠ 9 → b' j = b j))
    (by
      rintro m s h1
      by_cases hs : s = 3
      · subst hs
        left
        by_cases z : mk_le own idl 3 < 100000 ∧ b 9 < mk_le own idl 3
        · refine ⟨_, ⟨upd b 9 (mk_le own idl 3), rfl, ?_, fun j hj => pk_un hj⟩, fun post f hp => ?_⟩
          · rw [pk_us]
            exact (if_pos z).symm
          · rw [wY_lookAtMark_5]
            exact br_t (nI_le (a := 3) (b := 3) (Nat.le_refl _) (by decide)) (br_f (Int32.not_le.mpr z.1) (br_f (Int32.not_le.mpr z.2) (nm_e hp)))
        · refine ⟨_, ⟨b, rfl, (if_neg z).symm, fun j hj => rfl⟩, fun post f hp => ?_⟩
          rw [wY_lookAtMark_5]
          refine br_t (nI_le (a := 3) (b := 3) (Nat.le_refl _) (by decide)) ?_
          by_cases y : (100000 : Int32) ≤ mk_le own idl 3
          · exact br_t y hp
          · exact br_f y (br_t (Int32.not_lt.mp (fun x => z ⟨Int32.not_le.mp y, x⟩)) hp)
      · have hlt : s < 3 := by omega
        refine Or.inr ⟨m - 1, s + 1, by omega, by omega, fun post f hp => ?_⟩
        have st : ∀ z0 : Int32, z0 = own s → wY_lookAtMark_42 post (wY_lookAtMark_5 post kd dd pp la sz co va b cp f) (mk_le own idl s) (nI s) z0 kd dd pp la sz co va b cp := by
          intro z0 hz
          subst hz
          have e : mk_le own idl (s + 1) = if idl s = 0 ∧ own s < mk_le own idl s then own s else mk_le own idl s := rfl
          rw [e, hi s hlt] at hp
          unfold wY_lookAtMark_42
          simp (disch := omega) only [forall_eq, vp_in_nI, nI_clamp, pk_us, pk_un, true_and, ix_a0, ix_a1, ix_a2, ix_a3, ix_a4, ix_a5, ix_a6, ix_n7, ix_m7, ix_p1104, ix_p1524, nI_add, ix_p3]
          by_cases y : b (3 + s) = 0
          · refine br_t y ?_
            by_cases x : own s < mk_le own idl s
            · rw [if_pos ⟨y, x⟩] at hp
              exact br_f (Int32.not_le.mpr x) hp
            · rw [if_neg (fun w => x w.2)] at hp
              exact br_t (Int32.not_lt.mp x) hp
          · rw [if_neg (fun w => y w.1)] at hp
            exact br_f y hp
        rw [wY_lookAtMark_5]
        refine br_f (nI_ge (a := s) (b := 3) hlt (by decide)) ?_
        simp (disch := omega) only [forall_eq, vp_in_nI, nI_clamp, pk_us, pk_un, true_and, ix_a0, ix_a1, ix_a2, ix_a3, ix_a4, ix_a5, ix_a6, ix_n7, ix_m7, ix_p1104, ix_p1524, nI_add, ix_p6]
        by_cases y : 0 ≤ b (6 + s)
        · refine br_t y (st _ ?_)
          rw [ho s hlt]
          exact (if_neg (Int32.not_lt.mpr y)).symm
        · refine br_f y (st _ ?_)
          rw [ho s hlt]
          exact (if_pos (Int32.not_le.mp y)).symm)
    3 0 (by omega)
  obtain ⟨_, ⟨b', rfl, h1, h2⟩, h5⟩ := key
  exact ⟨b', h1, h2, fun post hp => ⟨4, h5 post 4 (by omega) hp⟩⟩
end
