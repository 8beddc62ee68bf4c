/-! the component: the mark, the closing -/
section
variable {kd wd wn la mk lc xo xq km kl ko kq : Int32} {ek et ev ar tk ie oc rc kt ki kc : Nat → Int32}
theorem xm_own {s n ln : Nat} (hs : s < 3) (hn : n ≤ 20) (htk : tk s = nI n) (hla : la = nI ln) (hln : ln ≤ 20) (hb : ∀ i, i < n → 0 ≤ (et (s * 20 + i)).toInt ∧ (et (s * 20 + i)).toInt ≤ 63) : ∀ post : Int32 → Prop, post (mk_ow la (mk_tp (fun i => et (s * 20 + i)) n)) → wpX_markOfSource post (kd, wd, wn, la, mk, lc, xo, xq, km, kl, ko, kq, ek, et, ev, ar, tk, ie, oc, rc, kt, ki, kc) (nI s) := by
  have hlai : la.toInt = (ln : Int) := by rw [hla, nI_toInt (by omega)]
  have key := lo_ex (ρ := Int32) (σ := Nat)
    (fun post f i => wX_markOfSource_6 post (nI s) kd wd wn la mk lc xo xq km kl ko kq ek et ev ar tk ie oc rc kt ki kc f (mk_ow la (mk_tp (fun i => et (s * 20 + i)) i)) (nI i))
    (fun m i => m + i = n)
    (fun r => r = mk_ow la (mk_tp (fun i => et (s * 20 + i)) n))
    (by
      rintro m i h1
      by_cases hi : i = n
      · subst hi
        refine Or.inl ⟨_, rfl, fun post f hp => ?_⟩
        rw [wX_markOfSource_6]
        simp (disch := omega) only [forall_eq, vp_in_nI, nI_clamp, pk_us, pk_un, true_and, ix_a0, ix_a1, ix_a2, ix_a3, ix_a4, ix_a5, ix_a6, ix_n7, ix_m7, ix_p1104, ix_p1524, nI_add, htk]
        exact br_t (nI_le (Nat.le_refl _) (by omega)) hp
      · have hlt : i < n := by omega
        refine Or.inr ⟨m - 1, i + 1, by omega, by omega, fun post f hp => ?_⟩
        rw [mk_ows (l := la) (f := fun i => et (s * 20 + i)) (by omega) (by omega) (fun j hj => hb j (by omega))] at hp
        dsimp only at hp
        rw [wX_markOfSource_6]
        simp (disch := omega) only [forall_eq, vp_in_nI, nI_clamp, pk_us, pk_un, true_and, ix_a0, ix_a1, ix_a2, ix_a3, ix_a4, ix_a5, ix_a6, ix_n7, ix_m7, ix_p1104, ix_p1524, nI_add, htk, ix_n20]
        refine br_f (nI_ge hlt (by omega)) ?_
        by_cases z : mk_ow la (mk_tp (fun i => et (s * 20 + i)) i) < et (s * 20 + i) - la
        · rw [if_pos z] at hp
          exact br_f (Int32.not_le.mpr z) hp
        · rw [if_neg z] at hp
          exact br_t (Int32.not_lt.mp z) hp)
    n 0 (by omega)
  obtain ⟨_, rfl, h3⟩ := key
  exact fun post hp => ⟨n + 1, h3 post (n + 1) (by omega) hp⟩
theorem xm_least {tn : Nat → Nat} {ln : Nat} (htk : ∀ s, s < 3 → tk s = nI (tn s) ∧ tn s ≤ 20) (hla : la = nI ln) (hln : ln ≤ 20) (hb : ∀ s, s < 3 → ∀ i, i < tn s → 0 ≤ (et (s * 20 + i)).toInt ∧ (et (s * 20 + i)).toInt ≤ 63) : ∀ post : Int32 → Prop, post (if mk_le (fun s => mk_ow la (mk_tp (fun i => et (s * 20 + i)) (tn s))) ie 3 = 100000 then -1000 else mk_le (fun s => mk_ow la (mk_tp (fun i => et (s * 20 + i)) (tn s))) ie 3) → wpX_leastMarkOfSources post (kd, wd, wn, la, mk, lc, xo, xq, km, kl, ko, kq, ek, et, ev, ar, tk, ie, oc, rc, kt, ki, kc) := by
  have hlai : la.toInt = (ln : Int) := by rw [hla, nI_toInt (by omega)]
  have hown : ∀ s, s < 3 → -1000 ≤ (mk_ow la (mk_tp (fun i => et (s * 20 + i)) (tn s))).toInt ∧ (mk_ow la (mk_tp (fun i => et (s * 20 + i)) (tn s))).toInt ≤ 63 := by
    intro s hs
    have := mk_tpb (f := fun i => et (s * 20 + i)) (tn s) (hb s hs)
    exact mk_owb (by omega) (by omega) this.1 this.2
  generalize ho : (fun s => mk_ow la (mk_tp (fun i => et (s * 20 + i)) (tn s))) = own
  have hown2 : ∀ s, s < 3 → own s = mk_ow la (mk_tp (fun i => et (s * 20 + i)) (tn s)) := fun s _ => by rw [← ho]
  have hown3 : ∀ s, s < 3 → -1000 ≤ (own s).toInt ∧ (own s).toInt ≤ 63 := fun s hs => by rw [hown2 s hs]; exact hown s hs
  have key := lo_ex (ρ := Int32) (σ := Nat)
    (fun post f s => wX_leastMarkOfSources_8 post kd wd wn la mk lc xo xq km kl ko kq ek et ev ar tk ie oc rc kt ki kc f (if mk_le own ie s = 100000 then 0 else 1) (if mk_le own ie s = 100000 then -1000 else mk_le own ie s) (nI s))
    (fun m s => m + s = 3)
    (fun r => r = if mk_le own ie 3 = 100000 then -1000 else mk_le own ie 3)
    (by
      rintro m s h1
      by_cases hi : s = 3
      · subst hi
        refine Or.inl ⟨_, rfl, fun post f hp => ?_⟩
        rw [wX_leastMarkOfSources_8]
        exact br_t (nI_le (a := 3) (b := 3) (Nat.le_refl _) (by decide)) hp
      · have hlt : s < 3 := by omega
        refine Or.inr ⟨m - 1, s + 1, by omega, by omega, fun post f hp => ?_⟩
        rw [wX_leastMarkOfSources_8]
        refine br_f (nI_ge (a := s) (b := 3) hlt (by decide)) ?_
        simp (disch := omega) only [forall_eq, vp_in_nI, nI_clamp, pk_us, pk_un, true_and, ix_a0, ix_a1, ix_a2, ix_a3, ix_a4, ix_a5, ix_a6, ix_n7, ix_m7, ix_p1104, ix_p1524, nI_add]
        by_cases hid : ie s = 0
        · refine br_t hid (xm_own hlt (htk s hlt).2 (htk s hlt).1 hla hln (hb s hlt) _ ?_)
          rw [← hown2 s hlt]
          have hx := mk_xs (own := own) (idle := ie) (n := s) (fun i hi => hown3 i (by omega)) hid
          by_cases z : mk_le own ie s = 100000
          · have hy := hx.1 z
            rw [if_neg (by rw [hy.1]; exact hy.2), if_neg (by rw [hy.1]; exact hy.2), hy.1] at hp
            rw [if_pos z]
            exact br_t rfl hp
          · have hy := hx.2 z
            rw [if_neg hy.1, if_neg hy.1] at hp
            rw [if_neg z, if_neg z]
            refine br_f (by decide) ?_
            by_cases y : own s < mk_le own ie s
            · rw [hy.2, if_pos y] at hp
              exact br_f (Int32.not_le.mpr y) hp
            · rw [hy.2, if_neg y] at hp
              exact br_t (Int32.not_lt.mp y) hp
        · rw [mk_skip hid] at hp
          exact br_f hid hp)
    3 0 (by omega)
  obtain ⟨_, rfl, h3⟩ := key
  exact fun post hp => ⟨4, h3 post 4 (by omega) hp⟩
theorem xm_raise {tn : Nat → Nat} {ln : Nat} (htk : ∀ s, s < 3 → tk s = nI (tn s) ∧ tn s ≤ 20) (hla : la = nI ln) (hln : ln ≤ 20) (hb : ∀ s, s < 3 → ∀ i, i < tn s → 0 ≤ (et (s * 20 + i)).toInt ∧ (et (s * 20 + i)).toInt ≤ 63) (hm : -1000 ≤ mk.toInt) : ∀ post : SX → Prop, post (kd, wd, wn, la, mk_nw mk (mk_le (fun s => mk_ow la (mk_tp (fun i => et (s * 20 + i)) (tn s))) ie 3), lc, xo, xq, km, kl, ko, kq, ek, et, ev, ar, tk, ie, oc, rc, kt, ki, kc) → wpX_raiseMark post (kd, wd, wn, la, mk, lc, xo, xq, km, kl, ko, kq, ek, et, ev, ar, tk, ie, oc, rc, kt, ki, kc) := by
  intro post hp
  have hlai : la.toInt = (ln : Int) := by rw [hla, nI_toInt (by omega)]
  have hown : ∀ s, s < 3 → -1000 ≤ (mk_ow la (mk_tp (fun i => et (s * 20 + i)) (tn s))).toInt ∧ (mk_ow la (mk_tp (fun i => et (s * 20 + i)) (tn s))).toInt ≤ 63 := by
    intro s hs
    have := mk_tpb (f := fun i => et (s * 20 + i)) (tn s) (hb s hs)
    exact mk_owb (by omega) (by omega) this.1 this.2
  have hl := (mk_leb (own := fun s => mk_ow la (mk_tp (fun i => et (s * 20 + i)) (tn s))) (idle := ie) 3 hown).2
  rw [mk_fin hm hl] at hp
  unfold wpX_raiseMark
  dsimp only
  refine xm_least htk hla hln hb _ ?_
  generalize (if mk_le (fun s => mk_ow la (mk_tp (fun i => et (s * 20 + i)) (tn s))) ie 3 = 100000 then (-1000 : Int32) else mk_le (fun s => mk_ow la (mk_tp (fun i => et (s * 20 + i)) (tn s))) ie 3) = r at *
  by_cases z : mk < r
  · rw [if_pos z] at hp
    exact br_f (Int32.not_le.mpr z) hp
  · rw [if_neg z] at hp
    exact br_t (Int32.not_lt.mp z) hp
/-! closing -/
theorem xc_bf {post : Int32 → Prop} {i j : Nat} (hi : i < 240) (hj : j < 240) (h1 : cl_bf (xr_r oc i) (xr_r oc j) → post 1) (h0 : ¬ cl_bf (xr_r oc i) (xr_r oc j) → post 0) : wpX_closesBefore post (kd, wd, wn, la, mk, lc, xo, xq, km, kl, ko, kq, ek, et, ev, ar, tk, ie, oc, rc, kt, ki, kc) (nI i) (nI j) := by
  unfold wpX_closesBefore
  dsimp only
  simp (disch := omega) only [forall_eq, vp_in_nI, nI_clamp, pk_us, pk_un, true_and, ix_a0, ix_a1, ix_a2, ix_a3, ix_a4, ix_a5, ix_a6, ix_n7, ix_m7, ix_p1104, ix_p1524, nI_add]
  have e : cl_bf (xr_r oc i) (xr_r oc j) ↔ (oc (i * 7 + 2) < oc (j * 7 + 2) ∨ (oc (i * 7 + 2) = oc (j * 7 + 2) ∧ (oc (i * 7) < oc (j * 7) ∨ (oc (i * 7) = oc (j * 7) ∧ oc (i * 7 + 1) < oc (j * 7 + 1))))) := Iff.rfl
  rw [e] at h1 h0
  by_cases a : oc (i * 7 + 2) = oc (j * 7 + 2)
  · refine br_t a ?_
    by_cases c : oc (i * 7) = oc (j * 7)
    · refine br_t c ?_
      by_cases d : oc (j * 7 + 1) ≤ oc (i * 7 + 1)
      · refine br_t d (h0 (fun z => ?_))
        simp only [ii_lt, ii_le, ii_eq] at *
        omega
      · refine br_f d (h1 ?_)
        simp only [ii_lt, ii_le, ii_eq] at *
        omega
    · refine br_f c ?_
      by_cases d : oc (j * 7) ≤ oc (i * 7)
      · refine br_t d (h0 (fun z => ?_))
        simp only [ii_lt, ii_le, ii_eq] at *
        omega
      · refine br_f d (h1 ?_)
        simp only [ii_lt, ii_le, ii_eq] at *
        omega
  · refine br_f a ?_
    by_cases d : oc (j * 7 + 2) ≤ oc (i * 7 + 2)
    · refine br_t d (h0 (fun z => ?_))
      simp only [ii_lt, ii_le, ii_eq] at *
      omega
    · refine br_f d (h1 ?_)
      simp only [ii_lt, ii_le, ii_eq] at *
      omega
def xc_en (e : Option Nat) : Int32 := match e with
  | none => -1
  | some x => nI x
theorem xc_fd {n : Nat} (hn : n ≤ 240) : ∃ e : Option Nat, fd_I mk (xr_r oc) n e ∧ ∀ post : Int32 → Prop, post (xc_en e) → wpX_firstDueRow post (kd, wd, wn, la, mk, lc, nI n, xq, km, kl, ko, kq, ek, et, ev, ar, tk, ie, oc, rc, kt, ki, kc) := by
  have key := lo_ex (ρ := Option Nat) (σ := Option Nat × Nat)
    (fun post f s => wX_firstDueRow_4 (fun r => ∃ e, r = xc_en e ∧ post e) kd wd wn la mk lc (nI n) xq km kl ko kq ek et ev ar tk ie oc rc kt ki kc f (xc_en s.1) (nI s.2))
    (fun m s => m + s.2 = n ∧ fd_I mk (xr_r oc) s.2 s.1)
    (fun e => fd_I mk (xr_r oc) n e)
    (by sorry)
    n (none, 0) ⟨by dsimp only; omega, lt_0⟩
  sorry
end
