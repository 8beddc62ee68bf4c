/-! the reference closes sessions -/
section
variable {kd dd pp la : Int32} {sz co va b cp : Nat → Int32}
def yc_en (e : Option Nat) : Int32 := match e with
  | none => -1
  | some x => nI (1104 + 7 * x)
def yc_fl (e : Option Nat) : Int32 := match e with
  | none => 0
  | some _ => 1
theorem yc_bf {post : Int32 → Prop} {i j : Nat} (hd : 0 ≤ dd.toInt) (hd8 : dd.toInt ≤ 8) (hi : i < 60) (hj : j < 60) (ri : 0 ≤ (b (1104 + 7 * i + 2)).toInt ∧ (b (1104 + 7 * i + 2)).toInt ≤ 80) (rj : 0 ≤ (b (1104 + 7 * j + 2)).toInt ∧ (b (1104 + 7 * j + 2)).toInt ≤ 80) (h1 : cl_bf (ys_r dd b i) (ys_r dd b j) → post 1) (h0 : ¬ cl_bf (ys_r dd b i) (ys_r dd b j) → post 0) : wpY_isBefore post (kd, dd, pp, la, sz, co, va, b, cp) (nI (1104 + 7 * i)) (nI (1104 + 7 * j)) := by
  unfold wpY_isBefore
  dsimp only
  simp (disch := omega) only [forall_eq, vp_in_nI, nI_clamp, pk_us, pk_un, true_and, ix_a0, ix_a1, ix_a2, ix_a3, ix_a4, ix_a5, ix_a6, ix_n7, ix_m7, ix_p1104, ix_p1524, nI_add]
  have e : cl_bf (ys_r dd b i) (ys_r dd b j) ↔ (b (1104 + 7 * i + 2) + dd < b (1104 + 7 * j + 2) + dd ∨ (b (1104 + 7 * i + 2) + dd = b (1104 + 7 * j + 2) + dd ∧ (b (1104 + 7 * i) < b (1104 + 7 * j) ∨ (b (1104 + 7 * i) = b (1104 + 7 * j) ∧ b (1104 + 7 * i + 1) < b (1104 + 7 * j + 1))))) := Iff.rfl
  have ei : (b (1104 + 7 * i + 2) + dd).toInt = (b (1104 + 7 * i + 2)).toInt + dd.toInt := ii_add (by omega) (by omega)
  have ej : (b (1104 + 7 * j + 2) + dd).toInt = (b (1104 + 7 * j + 2)).toInt + dd.toInt := ii_add (by omega) (by omega)
  rw [e] at h1 h0
  by_cases a : b (1104 + 7 * i + 2) = b (1104 + 7 * j + 2)
  · refine br_t a ?_
    by_cases c : b (1104 + 7 * i) = b (1104 + 7 * j)
    · refine br_t c ?_
      by_cases d : b (1104 + 7 * j + 1) ≤ b (1104 + 7 * i + 1)
      · refine br_t d (h0 (fun z => ?_))
        simp only [ii_lt, ii_le, ii_eq] at *
        omega
      · refine br_f d (h1 ?_)
        simp only [ii_lt, ii_le, ii_eq] at *
        omega
    · refine br_f c ?_
      by_cases d : b (1104 + 7 * j) ≤ b (1104 + 7 * i)
      · refine br_t d (h0 (fun z => ?_))
        simp only [ii_lt, ii_le, ii_eq] at *
        omega
      · refine br_f d (h1 ?_)
        simp only [ii_lt, ii_le, ii_eq] at *
        omega
  · refine br_f a ?_
    by_cases d : b (1104 + 7 * j + 2) ≤ b (1104 + 7 * i + 2)
    · refine br_t d (h0 (fun z => ?_))
      simp only [ii_lt, ii_le, ii_eq] at *
      omega
    · refine br_f d (h1 ?_)
      simp only [ii_lt, ii_le, ii_eq] at *
      omega
theorem yc_fd {n : Nat} (hd : 0 ≤ dd.toInt) (hd8 : dd.toInt ≤ 8) (hn : n ≤ 60) (h12 : b 12 = nI n) (hok : ∀ i, i < n → ss_ok dd (ys_r dd b i)) :
    ∃ e : Option Nat, fd_I (b 9) (ys_r dd b) n e ∧ ∀ (P : SY → Prop) (J : Int32 → Int32 → Int32 → Int32 → Int32 → (Nat → Int32) → (Nat → Int32) → (Nat → Int32) → (Nat → Int32) → (Nat → Int32) → Prop), wY_closeSessions_87 P J (yc_en e) (yc_fl e) kd dd pp la sz co va b cp → ∃ f, wY_closeSessions_10 P J kd dd pp la sz co va b cp f (-1) 0 := by
  have key := lo_ex (ρ := Option Nat) (σ := Option Nat × Nat)
    (fun post f s => ∀ (P : SY → Prop) (J : Int32 → Int32 → Int32 → Int32 → Int32 → (Nat → Int32) → (Nat → Int32) → (Nat → Int32) → (Nat → Int32) → (Nat → Int32) → Prop), (∀ e, post e → wY_closeSessions_87 P J (yc_en e) (yc_fl e) kd dd pp la sz co va b cp) → wY_closeSessions_10 P J kd dd pp la sz co va b cp f (yc_en s.1) (nI s.2))
    (fun m s => m + s.2 = n ∧ fd_I (b 9) (ys_r dd b) s.2 s.1)
    (fun e => fd_I (b 9) (ys_r dd b) n e)
    (by
      rintro m ⟨e, i⟩ ⟨h1, h2⟩
      dsimp only at *
      by_cases hi : i = n
      · subst hi
        refine Or.inl ⟨e, h2, fun post f hp P J hJ => ?_⟩
        rw [wY_closeSessions_10, h12]
        refine br_t (nI_le (Nat.le_refl _) (by omega)) ?_
        cases e with
        | none => exact br_t (by decide) (hJ none hp)
        | some x => exact br_f (nI_pos (by have := h2.1; omega)) (hJ (some x) hp)
      · have hlt : i < n := by omega
        have hne : ¬ nI n ≤ nI i := nI_ge hlt (by omega)
        right
        cases hdu : cl_du (b 9) (ys_r dd b i) with
        | false =>
          have hm : b 9 < b (1104 + 7 * i + 2) + dd := Int32.not_le.mp (of_decide_eq_false hdu)
          refine ⟨m - 1, (e, i + 1), by omega, ⟨by dsimp only; omega, fd_In h2 hdu⟩, fun post f hp P J hJ => ?_⟩
          rw [wY_closeSessions_10, h12]
          refine br_f hne ?_
          simp (disch := omega) only [forall_eq, vp_in_nI, nI_clamp, pk_us, pk_un, true_and, ix_a0, ix_a1, ix_a2, ix_a3, ix_a4, ix_a5, ix_a6, ix_n7, ix_m7, ix_p1104, ix_p1524, nI_add]
          exact br_t hm (hp P J hJ)
        | true =>
          have hm : ¬ b 9 < b (1104 + 7 * i + 2) + dd := Int32.not_lt.mpr (of_decide_eq_true hdu)
          cases e with
          | none =>
            refine ⟨m - 1, (some i, i + 1), by omega, ⟨by dsimp only; omega, fd_I0 h2 hdu⟩, fun post f hp P J hJ => ?_⟩
            rw [wY_closeSessions_10, h12]
            refine br_f hne ?_
            simp (disch := omega) only [forall_eq, vp_in_nI, nI_clamp, pk_us, pk_un, true_and, ix_a0, ix_a1, ix_a2, ix_a3, ix_a4, ix_a5, ix_a6, ix_n7, ix_m7, ix_p1104, ix_p1524, nI_add]
            exact br_f hm (br_t (by decide) (hp P J hJ))
          | some x =>
            have hx : x < i := h2.1
            have rx := ys_raw hd hd8 (hok x (by omega))
            have ri := ys_raw hd hd8 (hok i hlt)
            by_cases hb : cl_bf (ys_r dd b i) (ys_r dd b x)
            · refine ⟨m - 1, (some i, i + 1), by omega, ⟨by dsimp only; omega, fd_I1 h2 hdu hb⟩, fun post f hp P J hJ => ?_⟩
              rw [wY_closeSessions_10, h12]
              refine br_f hne ?_
              simp (disch := omega) only [forall_eq, vp_in_nI, nI_clamp, pk_us, pk_un, true_and, ix_a0, ix_a1, ix_a2, ix_a3, ix_a4, ix_a5, ix_a6, ix_n7, ix_m7, ix_p1104, ix_p1524, nI_add]
              exact br_f hm (br_f (nI_pos (by omega)) (yc_bf hd hd8 (by omega) (by omega) ri rx (fun _ => br_f (by decide) (hp P J hJ)) (fun z => absurd hb z)))
            · refine ⟨m - 1, (some x, i + 1), by omega, ⟨by dsimp only; omega, fd_I2 h2 hb⟩, fun post f hp P J hJ => ?_⟩
              rw [wY_closeSessions_10, h12]
              refine br_f hne ?_
              simp (disch := omega) only [forall_eq, vp_in_nI, nI_clamp, pk_us, pk_un, true_and, ix_a0, ix_a1, ix_a2, ix_a3, ix_a4, ix_a5, ix_a6, ix_n7, ix_m7, ix_p1104, ix_p1524, nI_add]
              exact br_f hm (br_f (nI_pos (by omega)) (yc_bf hd hd8 (by omega) (by omega) ri rx (fun z => absurd z hb) (fun _ => br_t rfl (hp P J hJ)))))
    n (none, 0) ⟨by dsimp only; omega, lt_0⟩
  obtain ⟨e, h1, h3⟩ := key
  exact ⟨e, h1, fun P J hJ => ⟨n + 1, h3 (fun x => x = e) (n + 1) (by omega) rfl P J (fun x hx => by rw [hx]; exact hJ)⟩⟩
theorem yc_ses {n r : Nat} (hd : 0 ≤ dd.toInt) (hd8 : dd.toInt ≤ 8) (hn : n ≤ 60) (hr : r + n ≤ 240) (h12 : b 12 = nI n) (h11 : b 11 = nI r) (hok : ∀ q, q ∈ ys_L dd b n → ss_ok dd q) (hds : ro_ds (ys_L dd b n)) :
    ∃ (b' : Nat → Int32) (n' : Nat) (D : List ro_T), cl_R (b 9) (ys_L dd b n) D (ys_L dd b' n') ∧ b' 12 = nI n' ∧ b' 11 = nI (r + D.length) ∧ yr_L b' (r + D.length) = yr_L b r ++ D ∧ (∀ j, j ≠ 11 → j ≠ 12 → j < 1104 → b' j = b j) ∧ ∀ post : SY → Prop, post (kd, dd, pp, la, sz, co, va, b', cp) → wpY_closeSessions post (kd, dd, pp, la, sz, co, va, b, cp) := by
  have key := lo_ex (ρ := SY) (σ := Nat × Nat × (Nat → Int32))
    (fun post f s => wY_closeSessions_2 post f (nI s.1) kd dd pp la sz co va (s.2.2) cp)
    (fun x s => (s.1 = 1 ∧ x = s.2.1 + 1 ∨ s.1 = 0 ∧ x = 0 ∧ ∀ q, q ∈ ys_L dd s.2.2 s.2.1 → cl_du (b 9) q = false) ∧ ∃ D, cl_I (b 9) (ys_L dd b n) D (ys_L dd s.2.2 s.2.1) ∧ s.2.1 + D.length = n ∧ s.2.2 12 = nI s.2.1 ∧ s.2.2 11 = nI (r + D.length) ∧ yr_L s.2.2 (r + D.length) = yr_L b r ++ D ∧ (∀ j, j ≠ 11 → j ≠ 12 → j < 1104 → s.2.2 j = b j))
    (fun u => ∃ (b' : Nat → Int32) (n' : Nat) (D : List ro_T), u = (kd, dd, pp, la, sz, co, va, b', cp) ∧ cl_R (b 9) (ys_L dd b n) D (ys_L dd b' n') ∧ b' 12 = nI n' ∧ b' 11 = nI (r + D.length) ∧ yr_L b' (r + D.length) = yr_L b r ++ D ∧ (∀ j, j ≠ 11 → j ≠ 12 → j < 1104 → b' j = b j))
    (by
      rintro x ⟨fl, n', c⟩ ⟨h1, D, h2, h3, h4, h5, h6, h7⟩
      dsimp only at *
      rcases h1 with ⟨rfl, hx⟩ | ⟨rfl, hx, hno⟩
      · have e9 : c 9 = b 9 := h7 9 (by omega) (by omega) (by omega)
        have hmem : ∀ i, i < n' → ys_r dd c i ∈ ys_L dd b n := fun i hi => h2.1.mem_iff.mp (List.mem_append.mpr (Or.inr (li_mem.mpr ⟨i, hi, rfl⟩)))
        obtain ⟨e, f1, f2⟩ := yc_fd (kd := kd) (dd := dd) (pp := pp) (la := la) (sz := sz) (co := co) (va := va) (cp := cp) (b := c) (n := n') hd hd8 (by omega) h4 (fun i hi => hok _ (hmem i hi))
        rw [e9] at f1
        right
        cases e with
        | none =>
          refine ⟨0, (0, n', c), by omega, ⟨Or.inr ⟨rfl, rfl, ?_⟩, D, h2, h3, h4, h5, h6, h7⟩, fun post f hp => ?_⟩
          · intro q hq
            obtain ⟨j, hj, rfl⟩ := li_mem.mp hq
            exact f1 j hj
          · rw [wY_closeSessions_2]
            refine br_f (by decide) (f2 post _ ?_)
            unfold wY_closeSessions_87
            exact br_t rfl hp
        | some i =>
          have hi : i < n' := f1.1
          obtain ⟨k, rfl⟩ : ∃ k, n' = k + 1 := ⟨n' - 1, by omega⟩
          obtain ⟨b1, a1, a2, a3, a4⟩ := ya_add (kd := kd) (dd := dd) (pp := pp) (la := la) (sz := sz) (co := co) (va := va) (cp := cp) (b := c) (r := r + D.length) (o := 1104 + 7 * i + 3) (by omega) (by omega) h5 (c (1104 + 7 * i)) (c (1104 + 7 * i + 1)) (c (1104 + 7 * i + 2) + dd)
          obtain ⟨b2, c0, c1, c2, c3⟩ := ya_drop (kd := kd) (dd := dd) (pp := pp) (la := la) (sz := sz) (co := co) (va := va) (cp := cp) (b := b1) (m := k) (i := i) (by omega) (by omega) (by rw [a3 12 (by omega) (by omega)]; exact h4)
          have hrow : yr_r b1 (r + D.length) = ys_r dd c i := a1
          have hds2 : ro_ds (ys_L dd c (k + 1)) := (List.pairwise_append.mp (ro_ds_p h2.1.symm hds)).2.1
          have g1 : ∀ j, j < k → j ≠ i → ys_r dd b2 j = ys_r dd c j := by
            intro j hj hne
            refine ys_cg (fun y hy => ?_)
            rw [c2 _ (by omega) (by omega), a3 _ (by omega) (by omega)]
          have g2 : i < k → ys_r dd b2 i = ys_r dd c k := by
            intro _
            refine ys_cg (fun y hy => ?_)
            rw [c1 y hy, a3 _ (by omega) (by omega)]
          obtain ⟨w1, _⟩ := fd_st (g := ys_r dd b2) h2 hds2 f1 g1 g2
          refine ⟨k + 1, (1, k, b2), by omega, ⟨Or.inl ⟨rfl, rfl⟩, D ++ [ys_r dd c i], w1, ?_, c0, ?_, ?_, ?_⟩, fun post f hp => ?_⟩
          · dsimp only
            rw [List.length_append, List.length_singleton]
            omega
          · dsimp only
            rw [List.length_append, List.length_singleton, c2 11 (by omega) (by omega)]
            exact a2
          · dsimp only
            rw [List.length_append, List.length_singleton, yr_c (c := b1) (fun j hj hj2 => c2 j (by omega) (by omega)), ← Nat.add_assoc]
            have e5 : yr_L b1 (r + D.length + 1) = yr_L b1 (r + D.length) ++ [yr_r b1 (r + D.length)] := li_s _ _
            rw [e5, hrow, yr_c (c := c) (fun j hj hj2 => a3 j (by omega) (by omega)), h6, List.append_assoc]
          · intro j hj hj2 hj3
            dsimp only
            rw [c2 j hj2 (by omega), a3 j hj (by omega)]
            exact h7 j hj hj2 hj3
          · rw [wY_closeSessions_2]
            refine br_f (by decide) (f2 post _ ?_)
            unfold wY_closeSessions_87
            refine br_f (show ¬ (1 : Int32) = 0 by decide) ?_
            have en : yc_en (some i) = nI (1104 + 7 * i) := rfl
            rw [en]
            simp (disch := omega) only [forall_eq, vp_in_nI, nI_clamp, pk_us, pk_un, true_and, ix_a0, ix_a1, ix_a2, ix_a3, ix_a4, ix_a5, ix_a6, ix_n7, ix_m7, ix_p1104, ix_p1524, nI_add]
            refine a4 _ ?_
            dsimp only
            refine c3 _ ?_
            dsimp only
            exact hp
      · refine Or.inl ⟨_, ⟨c, n', D, rfl, cl_Ie h2 hno, h4, h5, h6, h7⟩, fun post f hp => ?_⟩
        rw [wY_closeSessions_2]
        exact br_t rfl hp)
    (n + 1) (1, n, b) ⟨Or.inl ⟨rfl, rfl⟩, [], cl_I0 _ _, rfl, h12, h11, (List.append_nil _).symm, fun _ _ _ _ => rfl⟩
  obtain ⟨_, ⟨b', n', D, rfl, h1, h2, h3, h4, h5⟩, h6⟩ := key
  exact ⟨b', n', D, h1, h2, h3, h4, h5, fun post hp => ⟨n + 2, h6 post (n + 2) (by omega) hp⟩⟩
end
