/-! the reference closes -/
section
variable {kd dd pp la : Int32} {sz co va b cp : Nat → Int32}
theorem ya_add {r o : Nat} (hr : r < 240) (ho : o + 4 ≤ 1524) (h11 : b 11 = nI r) (p0 p1 p2 : Int32) : ∃ b' : Nat → Int32, yr_r b' r = (p0, p1, p2, b o, b (o + 1), b (o + 2), b (o + 3)) ∧ b' 11 = nI (r + 1) ∧ (∀ j, j ≠ 11 → (j < 1524 + 7 * r ∨ 1524 + 7 * r + 7 ≤ j) → b' j = b j) ∧ ∀ post : SY → Prop, post (kd, dd, pp, la, sz, co, va, b', cp) → wpY_add post (kd, dd, pp, la, sz, co, va, b, cp) p0 p1 p2 (nI o) := by
  have key := lo_ex (ρ := SY) (σ := Nat × (Nat → Int32))
    (fun post f s => wY_add_47 post (nI o) (nI (1524 + 7 * r)) kd dd pp la f (nI s.1) sz co va (s.2) cp)
    (fun x s => x + s.1 = 4 ∧ s.2 (1524 + 7 * r) = p0 ∧ s.2 (1524 + 7 * r + 1) = p1 ∧ s.2 (1524 + 7 * r + 2) = p2 ∧ (∀ j, j < s.1 → s.2 (1524 + 7 * r + 3 + j) = b (o + j)) ∧ (∀ j, (j < 1524 + 7 * r ∨ 1524 + 7 * r + 7 ≤ j) → s.2 j = b j))
    (fun u => ∃ c : Nat → Int32, u = (kd, dd, pp, la, sz, co, va, upd c 11 (nI (r + 1)), cp) ∧ c (1524 + 7 * r) = p0 ∧ c (1524 + 7 * r + 1) = p1 ∧ c (1524 + 7 * r + 2) = p2 ∧ (∀ j, j < 4 → c (1524 + 7 * r + 3 + j) = b (o + j)) ∧ (∀ j, (j < 1524 + 7 * r ∨ 1524 + 7 * r + 7 ≤ j) → c j = b j))
    (by
      rintro y ⟨x, c⟩ ⟨h1, h2, h3, h4, h5, h6⟩
      dsimp only at *
      by_cases hx : x = 4
      · subst hx
        refine Or.inl ⟨_, ⟨c, rfl, h2, h3, h4, h5, h6⟩, fun post f hp => ?_⟩
        rw [wY_add_47]
        refine br_t (nI_le (a := 4) (b := 4) (Nat.le_refl _) (by decide)) ?_
        refine nm_r (e' := upd c 11 (nI (r + 1))) ?_ hp
        rw [h6 11 (by omega), h11, nI_1]
      · refine Or.inr ⟨y - 1, (x + 1, upd c (1524 + 7 * r + 3 + x) (b (o + x))), by omega, ⟨by dsimp only; omega, ?_, ?_, ?_, ?_, ?_⟩, fun post f hp => ?_⟩
        · dsimp only
          rw [pk_un (by omega)]
          exact h2
        · dsimp only
          rw [pk_un (by omega)]
          exact h3
        · dsimp only
          rw [pk_un (by omega)]
          exact h4
        · intro j hj
          dsimp only at *
          by_cases z : j = x
          · rw [z, pk_us]
          · rw [pk_un (by omega)]
            exact h5 j (by omega)
        · intro j hj
          dsimp only
          rw [pk_un (by omega)]
          exact h6 j hj
        · rw [wY_add_47]
          refine br_f (nI_ge (a := x) (b := 4) (by omega) (by decide)) ?_
          simp (disch := omega) only [forall_eq, vp_in_nI, nI_clamp, pk_us, pk_un, true_and, ix_a0, ix_a1, ix_a2, ix_a3, ix_a4, ix_a5, ix_a6, ix_n7, ix_m7, ix_p1104, ix_p1524, nI_add, h6 (o + x) (by omega)]
          exact hp)
    4 (0, upd (upd (upd b (1524 + 7 * r) p0) (1524 + 7 * r + 1) p1) (1524 + 7 * r + 2) p2) ⟨rfl, by simp (disch := omega) only [pk_us, pk_un], by simp (disch := omega) only [pk_us, pk_un], by simp (disch := omega) only [pk_us, pk_un], (fun j hj => absurd hj (Nat.not_lt_zero j)), fun j hj => by simp (disch := omega) only [pk_un]⟩
  obtain ⟨_, ⟨c, rfl, h0, h1, h2, h3, h4⟩, h5⟩ := key
  refine ⟨upd c 11 (nI (r + 1)), ?_, pk_us, ?_, fun post hp => ?_⟩
  · unfold yr_r ro_at
    simp (disch := omega) only [pk_un]
    rw [h0, h1, h2, show c (1524 + 7 * r + 3) = b o from h3 0 (by omega), show c (1524 + 7 * r + 4) = b (o + 1) from h3 1 (by omega), show c (1524 + 7 * r + 5) = b (o + 2) from h3 2 (by omega), show c (1524 + 7 * r + 6) = b (o + 3) from h3 3 (by omega)]
  · intro j hj hj2
    rw [pk_un hj]
    exact h4 j hj2
  · unfold wpY_add
    dsimp only
    rw [h11]
    simp (disch := omega) only [forall_eq, vp_in_nI, nI_clamp, pk_us, pk_un, true_and, ix_a0, ix_a1, ix_a2, ix_a3, ix_a4, ix_a5, ix_a6, ix_n7, ix_m7, ix_p1104, ix_p1524, nI_add]
    exact ⟨5, h5 post 5 (by omega) hp⟩
theorem yr_c {c c' : Nat → Int32} {n : Nat} (h : ∀ j, 1524 ≤ j → j < 1524 + 7 * n → c' j = c j) : yr_L c' n = yr_L c n :=
  li_cg (fun i hi => ro_at_cg (fun j h1 h2 => h j (by omega) (by omega)))
theorem wy_len (d p : Int32) (c : Nat → Int32) (n k : Nat) : (wy_L d p c n).length ≤ (wy_L d p c (n + k)).length := by
  induction k with
  | zero => exact Nat.le_refl _
  | succ k ih =>
    rw [← Nat.add_assoc, wy_Ls, List.length_append]
    omega
/-- the closing of windows up to q -/
def yc_I (d p : Int32) (b : Nat → Int32) (r q : Nat) (c : Nat → Int32) : Prop :=
  wy_C d p (b 9) b c q ∧ c 11 = nI (r + ((wy_L d p b q).filter (cl_du (b 9))).length) ∧ yr_L c (r + ((wy_L d p b q).filter (cl_du (b 9))).length) = yr_L b r ++ (wy_L d p b q).filter (cl_du (b 9)) ∧ (∀ j, j ≠ 11 → (j < 16 ∨ (1104 ≤ j ∧ j < 1524)) → c j = b j)
theorem yc_skip {d p : Int32} {c : Nat → Int32} {r q : Nat} (hq : q < 272) (h : yc_I d p b r q c) (hn : (wy_o d p b q).filter (cl_du (b 9)) = []) (hn2 : (wy_o d p b q).filter (fun r => !cl_du (b 9) r) = wy_o d p b q) : yc_I d p b r (q + 1) c := by
  obtain ⟨⟨a1, a2, a3⟩, a4, a5, a6⟩ := h
  have e : (wy_L d p b (q + 1)).filter (cl_du (b 9)) = (wy_L d p b q).filter (cl_du (b 9)) := by
    rw [wy_Ls, List.filter_append, hn, List.append_nil]
  refine ⟨⟨fun j hj => ?_, fun j hj => a2 j (by omega), a3⟩, ?_, ?_, a6⟩
  · by_cases z : j = q
    · rw [z, hn2]
      exact wy_cg (fun i hi => a2 q (Nat.le_refl _) hq i hi)
    · exact a1 j (by omega)
  · rw [e]; exact a4
  · rw [e]; exact a5
theorem yc_inner {dn W w r : Nat} (hw : w < 68) (hd1 : 1 ≤ dn) (hd8 : dn ≤ 8) (hr : r + (wy_L (nI dn) (nI dn * nI W) b 272).length ≤ 240) {c : Nat → Int32} (h : yc_I (nI dn) (nI dn * nI W) b r (4 * w) c) :
    ∃ c' : Nat → Int32, yc_I (nI dn) (nI dn * nI W) b r (4 * (w + 1)) c' ∧ ∀ (P : SY → Prop) (J : Int32 → Int32 → Int32 → Int32 → Int32 → (Nat → Int32) → (Nat → Int32) → (Nat → Int32) → (Nat → Int32) → (Nat → Int32) → Prop) (n : Nat), 4 < n → J (nI (w + 1) - 4) kd (nI dn) (nI dn * nI W) la sz co va (c') cp → wY_closeWindows_11 P J (nI w - 4) n 0 kd (nI dn) (nI dn * nI W) la sz co va (c) cp := by
  have key := lo_ex (ρ := Nat → Int32) (σ := Nat × (Nat → Int32))
    (fun post n s => ∀ (P : SY → Prop) (J : Int32 → Int32 → Int32 → Int32 → Int32 → (Nat → Int32) → (Nat → Int32) → (Nat → Int32) → (Nat → Int32) → (Nat → Int32) → Prop), (∀ c' : Nat → Int32, post c' → J (nI (w + 1) - 4) kd (nI dn) (nI dn * nI W) la sz co va (c') cp) → wY_closeWindows_11 P J (nI w - 4) n (nI s.1) kd (nI dn) (nI dn * nI W) la sz co va (s.2) cp)
    (fun x s => x + s.1 = 4 ∧ yc_I (nI dn) (nI dn * nI W) b r (4 * w + s.1) s.2)
    (fun c' => yc_I (nI dn) (nI dn * nI W) b r (4 * (w + 1)) c')
    (by
      rintro x ⟨k, c⟩ ⟨h1, h2⟩
      dsimp only at *
      by_cases hk : k = 4
      · subst hk
        refine Or.inl ⟨c, h2, fun post n hp P J hJ => ?_⟩
        rw [wY_closeWindows_11]
        exact br_t (nI_le (a := 4) (b := 4) (Nat.le_refl _) (by decide)) (nm_r (wy_n1 w) (hJ c hp))
      · have hk4 : k < 4 := by omega
        have hq : 4 * w + k < 272 := by omega
        have hne : ¬ (4 : Int32) ≤ nI k := nI_ge (a := k) (b := 4) hk4 (by decide)
        have hal := wy_lt hq
        have es : (nI w - 4) * nI dn = wy_s (nI dn) (4 * w + k) := (wy_s4 hk4).symm
        have h2' := h2
        obtain ⟨⟨a1, a2, a3⟩, a4, a5, a6⟩ := h2'
        have e9 : c 9 = b 9 := a6 9 (by omega) (by omega)
        have hcell : ∀ i, i < 4 → c (wy_a (4 * w + k) + i) = b (wy_a (4 * w + k) + i) := a2 _ (Nat.le_refl _) hq
        have hc0 : c (wy_a (4 * w + k)) = b (wy_a (4 * w + k)) := hcell 0 (by omega)
        right
        by_cases hdu : b 9 < wy_s (nI dn) (4 * w + k) + nI dn * nI W
        · have hfl : ∀ y, y ∈ wy_o (nI dn) (nI dn * nI W) b (4 * w + k) → cl_du (b 9) y = false := by
            intro y hy
            rw [(wy_om hy).2]
            exact decide_eq_false (Int32.not_le.mpr hdu)
          refine ⟨x - 1, (k + 1, c), by omega, ⟨by dsimp only; omega, yc_skip hq h2 (cl_fil hfl).1 (cl_fil hfl).2⟩, fun post n hp P J hJ => ?_⟩
          rw [wY_closeWindows_11]
          refine br_f hne ?_
          simp only [wpY_endOf, wpY_windowAt]
          rw [wy_wa hk4, es, e9]
          exact br_t hdu (nm_r (nI_1 k) (hp P J hJ))
        · by_cases hpos : c (wy_a (4 * w + k)) ≤ 0
          · have hemp : wy_o (nI dn) (nI dn * nI W) b (4 * w + k) = [] := by
              unfold wy_o
              rw [← hc0]
              exact if_neg (Int32.not_lt.mpr hpos)
            refine ⟨x - 1, (k + 1, c), by omega, ⟨by dsimp only; omega, yc_skip (q := 4 * w + k) hq h2 (by rw [hemp]; rfl) (by rw [hemp]; rfl)⟩, fun post n hp P J hJ => ?_⟩
            rw [wY_closeWindows_11]
            refine br_f hne ?_
            simp only [wpY_endOf, wpY_windowAt]
            rw [wy_wa hk4, es, e9]
            refine br_f hdu ⟨vp_in_nI (by omega) (by omega), ?_⟩
            rw [nI_clamp (by omega)]
            exact br_t hpos (nm_r (nI_1 k) (hp P J hJ))
          · have hone : wy_o (nI dn) (nI dn * nI W) b (4 * w + k) = [wy_r (nI dn) (nI dn * nI W) b (4 * w + k)] := by
              unfold wy_o
              rw [← hc0]
              exact if_pos (Int32.not_le.mp hpos)
            have hdt : cl_du (b 9) (wy_r (nI dn) (nI dn * nI W) b (4 * w + k)) = true := decide_eq_true (Int32.not_lt.mp hdu)
            have eL : (wy_L (nI dn) (nI dn * nI W) b (4 * w + k + 1)).filter (cl_du (b 9)) = (wy_L (nI dn) (nI dn * nI W) b (4 * w + k)).filter (cl_du (b 9)) ++ [wy_r (nI dn) (nI dn * nI W) b (4 * w + k)] := by
              rw [wy_Ls, List.filter_append, hone, List.filter_cons_of_pos hdt, List.filter_nil]
            have hlen : r + ((wy_L (nI dn) (nI dn * nI W) b (4 * w + k)).filter (cl_du (b 9))).length < 240 := by
              have l1 := wy_len (nI dn) (nI dn * nI W) b (4 * w + k + 1) (272 - (4 * w + k + 1))
              rw [show 4 * w + k + 1 + (272 - (4 * w + k + 1)) = 272 from by omega] at l1
              have l2 := List.length_filter_le (cl_du (b 9)) (wy_L (nI dn) (nI dn * nI W) b (4 * w + k + 1))
              rw [eL, List.length_append, List.length_singleton] at l2
              omega
            obtain ⟨b4, q1, q2, q3, q4⟩ := ya_add (kd := kd) (dd := nI dn) (pp := nI dn * nI W) (la := la) (sz := sz) (co := co) (va := va) (cp := cp) (b := c) (o := wy_a (4 * w + k)) hlen (by omega) a4 (nI k) (wy_s (nI dn) (4 * w + k)) (wy_s (nI dn) (4 * w + k) + nI dn * nI W)
            generalize hD : (wy_L (nI dn) (nI dn * nI W) b (4 * w + k)).filter (cl_du (b 9)) = D at *
            have hrow : yr_r b4 (r + D.length) = wy_r (nI dn) (nI dn * nI W) b (4 * w + k) := by
              rw [q1, hc0, hcell 1 (by omega), hcell 2 (by omega), hcell 3 (by omega)]
              unfold wy_r
              rw [show (4 * w + k) % 4 = k from by omega]
            refine ⟨x - 1, (k + 1, upd b4 (wy_a (4 * w + k)) 0), by omega, ⟨by dsimp only; omega, ⟨⟨?_, ?_, ?_⟩, ?_, ?_, ?_⟩⟩, fun post n hp P J hJ => ?_⟩
            · intro j hj
              dsimp only at hj ⊢
              by_cases z : j = 4 * w + k
              · subst z
                rw [hone, List.filter_cons_of_neg (by rw [hdt]; exact Bool.false_ne_true), List.filter_nil]
                unfold wy_o
                rw [pk_us]
                exact if_neg (by decide)
              · rw [← a1 j (by omega)]
                refine wy_cg (fun i hi => ?_)
                have hj2 := wy_lt (q := j) (by omega)
                have hj3 := wy_ne hq (by omega) z
                rw [pk_un (by omega), q3 _ (by omega) (by omega)]
            · intro j hj hj2 i hi
              dsimp only at hj ⊢
              have hj3 := wy_lt hj2
              have hj4 := wy_ne hq hj2 (by omega)
              rw [pk_un (by omega), q3 _ (by omega) (by omega)]
              exact a2 j (by omega) hj2 i hi
            · intro j hj
              dsimp only
              by_cases z : j = 4 * w + k
              · rw [z, pk_us]
                exact Int32.le_refl _
              · have hj3 := wy_lt hj
                have hj4 := wy_ne hq hj z
                rw [pk_un (by omega), q3 _ (by omega) (by omega)]
                exact a3 j hj
            · dsimp only
              rw [show 4 * w + (k + 1) = 4 * w + k + 1 from rfl, eL, List.length_append, List.length_singleton, pk_un (by omega)]
              exact q2
            · dsimp only
              rw [show 4 * w + (k + 1) = 4 * w + k + 1 from rfl, eL, List.length_append, List.length_singleton]
              rw [yr_c (fun j hj hj2 => pk_un (by omega)), ← Nat.add_assoc]
              have e5 : yr_L b4 (r + D.length + 1) = yr_L b4 (r + D.length) ++ [yr_r b4 (r + D.length)] := li_s _ _
              rw [e5, hrow, yr_c (c := c) (fun j hj hj2 => q3 j (by omega) (by omega)), a5, List.append_assoc]
            · intro j hj hj2
              dsimp only
              rw [pk_un (by omega), q3 j hj (by omega)]
              exact a6 j hj hj2
            · rw [wY_closeWindows_11]
              refine br_f hne ?_
              simp only [wpY_endOf, wpY_windowAt]
              rw [wy_wa hk4, es, e9]
              refine br_f hdu ⟨vp_in_nI (by omega) (by omega), ?_⟩
              rw [nI_clamp (by omega)]
              refine br_f hpos (q4 _ ?_)
              dsimp only
              refine ⟨vp_in_nI (by omega) (by omega), ?_⟩
              exact nm_e (nm_r (nI_1 k) (hp P J hJ)))
    4 (0, c) ⟨rfl, h⟩
  obtain ⟨c', h1, h2⟩ := key
  exact ⟨c', h1, fun P J n hn hJ => h2 (fun x => x = c') n hn rfl P J (fun x hx => by rw [hx]; exact hJ)⟩
theorem yc_win {dn W r : Nat} (hd1 : 1 ≤ dn) (hd8 : dn ≤ 8) (hW1 : 1 ≤ W) (hW : W ≤ 4) (h0 : ∀ q, q < 272 → 0 ≤ b (wy_a q)) (hr : r + (wy_L (nI dn) (nI dn * nI W) b 272).length ≤ 240) (h11 : b 11 = nI r) :
    ∃ (b' : Nat → Int32) (D : List ro_T), cl_R (b 9) (wy_L (nI dn) (nI dn * nI W) b 272) D (wy_L (nI dn) (nI dn * nI W) b' 272) ∧ (∀ q, q < 272 → 0 ≤ b' (wy_a q)) ∧ b' 11 = nI (r + D.length) ∧ yr_L b' (r + D.length) = yr_L b r ++ D ∧ (∀ j, j ≠ 11 → (j < 16 ∨ (1104 ≤ j ∧ j < 1524)) → b' j = b j) ∧ ∀ post : SY → Prop, post (kd, nI dn, nI dn * nI W, la, sz, co, va, b', cp) → wpY_closeWindows post (kd, nI dn, nI dn * nI W, la, sz, co, va, b, cp) := by
  have hdi : (nI dn).toInt = (dn : Int) := nI_toInt (by omega)
  have hWm : dn * W ≤ 8 * 4 := Nat.mul_le_mul hd8 hW
  have hWp : 1 * 1 ≤ dn * W := Nat.mul_le_mul hd1 hW1
  have hpi : (nI dn * nI W).toInt = ((dn * W : Nat) : Int) := by
    rw [pk_mul, nI_toInt (by omega)]
  have key := lo_ex (ρ := SY) (σ := Nat × (Nat → Int32))
    (fun post f s => wY_closeWindows_3 post f (nI s.1 - 4) kd (nI dn) (nI dn * nI W) la sz co va (s.2) cp)
    (fun x s => x + s.1 = 68 ∧ yc_I (nI dn) (nI dn * nI W) b r (4 * s.1) s.2)
    (fun u => ∃ b' : Nat → Int32, u = (kd, nI dn, nI dn * nI W, la, sz, co, va, b', cp) ∧ yc_I (nI dn) (nI dn * nI W) b r 272 b')
    (by
      rintro x ⟨w, c⟩ ⟨h1, h2⟩
      dsimp only at *
      by_cases hw : w = 68
      · subst hw
        refine Or.inl ⟨_, ⟨c, rfl, h2⟩, fun post f hp => ?_⟩
        rw [wY_closeWindows_3]
        exact br_t wy_68 hp
      · obtain ⟨c', q1, q2⟩ := yc_inner (kd := kd) (la := la) (sz := sz) (co := co) (va := va) (cp := cp) (w := w) (by omega) hd1 hd8 hr h2
        refine Or.inr ⟨x - 1, (w + 1, c'), by omega, ⟨by dsimp only; omega, q1⟩, fun post f hp => ?_⟩
        rw [wY_closeWindows_3]
        exact br_f (wy_64 (by omega)) ⟨5, q2 post (wY_closeWindows_3 post f) 5 (by omega) hp⟩)
    68 (0, b) ⟨rfl, ⟨⟨fun j hj => absurd hj (Nat.not_lt_zero j), fun _ _ _ _ _ => rfl, h0⟩, h11, (List.append_nil _).symm, fun _ _ _ => rfl⟩⟩
  obtain ⟨_, ⟨b', rfl, h1⟩, h5⟩ := key
  refine ⟨b', (wy_L (nI dn) (nI dn * nI W) b 272).filter (cl_du (b 9)), wy_Ce (by omega) (by omega) (by omega) (by omega) h1.1, h1.1.2.2, h1.2.1, h1.2.2.1, h1.2.2.2, fun post hp => ?_⟩
  exact ⟨69, h5 post 69 (by omega) hp⟩
end
