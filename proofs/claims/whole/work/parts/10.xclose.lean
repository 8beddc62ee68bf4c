/-! the component: the mark, the closing -/
section
variable {kd wd wn la mq lc xo xq km kl ko kq : Int32} {ek et ev ar tk ie oc rc kt ki kc : Nat → Int32}
theorem xm_own {s n ln : Nat} (hs : s < 3) (hn : n ≤ 20) (htk : tk s = nI n) (hla : la = nI ln) (hln : ln ≤ 20) (hb : ∀ i, i < n → 0 ≤ (et (s * 20 + i)).toInt ∧ (et (s * 20 + i)).toInt ≤ 63) : ∀ post : Int32 → Prop, post (mk_ow la (mk_tp (fun i => et (s * 20 + i)) n)) → wpX_markOfSource post (kd, wd, wn, la, mq, lc, xo, xq, km, kl, ko, kq, ek, et, ev, ar, tk, ie, oc, rc, kt, ki, kc) (nI s) := by
  have hlai : la.toInt = (ln : Int) := by rw [hla, nI_toInt (by omega)]
  have key := lo_ex (ρ := Int32) (σ := Nat)
    (fun post f i => wX_markOfSource_6 post (nI s) kd wd wn la mq lc xo xq km kl ko kq ek et ev ar tk ie oc rc kt ki kc f (mk_ow la (mk_tp (fun i => et (s * 20 + i)) i)) (nI i))
    (fun m i => m + i = n)
    (fun r => r = mk_ow la (mk_tp (fun i => et (s * 20 + i)) n))
    (by
      rintro m i h1
      by_cases hi : i = n
      · subst hi
        refine Or.inl ⟨_, rfl, fun post f hp => ?_⟩
        rw [wX_markOfSource_6]
        simp (disch := omega) only [forall_eq, vp_in_nI, nI_clamp, pk_us, pk_un, true_and, ix_a0, ix_a1, ix_a2, ix_a3, ix_a4, ix_a5, ix_a6, ix_n7, ix_m7, ix_p1104, ix_p1524, nI_add, htk]
        exact br_t (nI_le (Nat.le_refl _) (by omega)) hp
      · have hlt : i < n := by omega
        refine Or.inr ⟨m - 1, i + 1, by omega, by omega, fun post f hp => ?_⟩
        rw [mk_ows (l := la) (f := fun i => et (s * 20 + i)) (by omega) (by omega) (fun j hj => hb j (by omega))] at hp
        rw [wX_markOfSource_6]
        simp (disch := omega) only [forall_eq, vp_in_nI, nI_clamp, pk_us, pk_un, true_and, ix_a0, ix_a1, ix_a2, ix_a3, ix_a4, ix_a5, ix_a6, ix_n7, ix_m7, ix_p1104, ix_p1524, nI_add, htk, ix_n20]
        refine br_f (nI_ge hlt (by omega)) ?_
        by_cases z : mk_ow la (mk_tp (fun i => et (s * 20 + i)) i) < et (s * 20 + i) - la
        · rw [if_pos z] at hp
          exact br_f (Int32.not_le.mpr z) hp
        · rw [if_neg z] at hp
          exact br_t (Int32.not_lt.mp z) hp)
    n 0 (by omega)
  obtain ⟨_, rfl, h3⟩ := key
  exact fun post hp => ⟨n + 1, h3 post (n + 1) (by omega) hp⟩
theorem xm_least {tn : Nat → Nat} {ln : Nat} (htk : ∀ s, s < 3 → tk s = nI (tn s) ∧ tn s ≤ 20) (hla : la = nI ln) (hln : ln ≤ 20) (hb : ∀ s, s < 3 → ∀ i, i < tn s → 0 ≤ (et (s * 20 + i)).toInt ∧ (et (s * 20 + i)).toInt ≤ 63) : ∀ post : Int32 → Prop, post (if mk_le (fun s => mk_ow la (mk_tp (fun i => et (s * 20 + i)) (tn s))) ie 3 = 100000 then -1000 else mk_le (fun s => mk_ow la (mk_tp (fun i => et (s * 20 + i)) (tn s))) ie 3) → wpX_leastMarkOfSources post (kd, wd, wn, la, mq, lc, xo, xq, km, kl, ko, kq, ek, et, ev, ar, tk, ie, oc, rc, kt, ki, kc) := by
  have hlai : la.toInt = (ln : Int) := by rw [hla, nI_toInt (by omega)]
  have hown : ∀ s, s < 3 → -1000 ≤ (mk_ow la (mk_tp (fun i => et (s * 20 + i)) (tn s))).toInt ∧ (mk_ow la (mk_tp (fun i => et (s * 20 + i)) (tn s))).toInt ≤ 63 := by
    intro s hs
    have := mk_tpb (f := fun i => et (s * 20 + i)) (tn s) (hb s hs)
    exact mk_owb (by omega) (by omega) this.1 this.2
  generalize ho : (fun s => mk_ow la (mk_tp (fun i => et (s * 20 + i)) (tn s))) = own
  have hown2 : ∀ s, s < 3 → own s = mk_ow la (mk_tp (fun i => et (s * 20 + i)) (tn s)) := fun s _ => by rw [← ho]
  have hown3 : ∀ s, s < 3 → -1000 ≤ (own s).toInt ∧ (own s).toInt ≤ 63 := fun s hs => by rw [hown2 s hs]; exact hown s hs
  have key := lo_ex (ρ := Int32) (σ := Nat)
    (fun post f s => wX_leastMarkOfSources_8 post kd wd wn la mq lc xo xq km kl ko kq ek et ev ar tk ie oc rc kt ki kc f (if mk_le own ie s = 100000 then 0 else 1) (if mk_le own ie s = 100000 then -1000 else mk_le own ie s) (nI s))
    (fun m s => m + s = 3)
    (fun r => r = if mk_le own ie 3 = 100000 then -1000 else mk_le own ie 3)
    (by
      rintro m s h1
      by_cases hi : s = 3
      · subst hi
        refine Or.inl ⟨_, rfl, fun post f hp => ?_⟩
        rw [wX_leastMarkOfSources_8]
        exact br_t (nI_le (a := 3) (b := 3) (Nat.le_refl _) (by decide)) hp
      · have hlt : s < 3 := by omega
        refine Or.inr ⟨m - 1, s + 1, by omega, by omega, fun post f hp => ?_⟩
        rw [wX_leastMarkOfSources_8]
        refine br_f (nI_ge (a := s) (b := 3) hlt (by decide)) ?_
        simp (disch := omega) only [forall_eq, vp_in_nI, nI_clamp, pk_us, pk_un, true_and, ix_a0, ix_a1, ix_a2, ix_a3, ix_a4, ix_a5, ix_a6, ix_n7, ix_m7, ix_p1104, ix_p1524, nI_add]
        by_cases hid : ie s = 0
        · refine br_t hid (xm_own hlt (htk s hlt).2 (htk s hlt).1 hla hln (hb s hlt) _ ?_)
          rw [← hown2 s hlt]
          have hx := mk_xs (own := own) (idle := ie) (n := s) (fun i hi => hown3 i (by omega)) hid
          by_cases z : mk_le own ie s = 100000
          · have hy := hx.1 z
            rw [if_neg (by rw [hy.1]; exact hy.2), if_neg (by rw [hy.1]; exact hy.2), hy.1] at hp
            rw [if_pos z]
            exact br_t rfl hp
          · have hy := hx.2 z
            rw [if_neg hy.1, if_neg hy.1] at hp
            rw [if_neg z, if_neg z]
            refine br_f (by decide) ?_
            by_cases y : own s < mk_le own ie s
            · rw [hy.2, if_pos y] at hp
              exact br_f (Int32.not_le.mpr y) hp
            · rw [hy.2, if_neg y] at hp
              exact br_t (Int32.not_lt.mp y) hp
        · rw [mk_skip hid] at hp
          exact br_f hid hp)
    3 0 (by omega)
  obtain ⟨_, rfl, h3⟩ := key
  exact fun post hp => ⟨4, h3 post 4 (by omega) hp⟩
theorem xm_raise {tn : Nat → Nat} {ln : Nat} (htk : ∀ s, s < 3 → tk s = nI (tn s) ∧ tn s ≤ 20) (hla : la = nI ln) (hln : ln ≤ 20) (hb : ∀ s, s < 3 → ∀ i, i < tn s → 0 ≤ (et (s * 20 + i)).toInt ∧ (et (s * 20 + i)).toInt ≤ 63) (hm : -1000 ≤ mq.toInt) : ∀ post : SX → Prop, post (kd, wd, wn, la, mk_nw mq (mk_le (fun s => mk_ow la (mk_tp (fun i => et (s * 20 + i)) (tn s))) ie 3), lc, xo, xq, km, kl, ko, kq, ek, et, ev, ar, tk, ie, oc, rc, kt, ki, kc) → wpX_raiseMark post (kd, wd, wn, la, mq, lc, xo, xq, km, kl, ko, kq, ek, et, ev, ar, tk, ie, oc, rc, kt, ki, kc) := by
  intro post hp
  have hlai : la.toInt = (ln : Int) := by rw [hla, nI_toInt (by omega)]
  have hown : ∀ s, s < 3 → -1000 ≤ (mk_ow la (mk_tp (fun i => et (s * 20 + i)) (tn s))).toInt ∧ (mk_ow la (mk_tp (fun i => et (s * 20 + i)) (tn s))).toInt ≤ 63 := by
    intro s hs
    have := mk_tpb (f := fun i => et (s * 20 + i)) (tn s) (hb s hs)
    exact mk_owb (by omega) (by omega) this.1 this.2
  have hl := (mk_leb (own := fun s => mk_ow la (mk_tp (fun i => et (s * 20 + i)) (tn s))) (idle := ie) 3 hown).2
  rw [mk_fin hm hl] at hp
  unfold wpX_raiseMark
  dsimp only
  refine xm_least htk hla hln hb _ ?_
  generalize (if mk_le (fun s => mk_ow la (mk_tp (fun i => et (s * 20 + i)) (tn s))) ie 3 = 100000 then (-1000 : Int32) else mk_le (fun s => mk_ow la (mk_tp (fun i => et (s * 20 + i)) (tn s))) ie 3) = r at *
  by_cases z : mq < r
  · rw [if_pos z] at hp
    exact br_f (Int32.not_le.mpr z) hp
  · rw [if_neg z] at hp
    exact br_t (Int32.not_lt.mp z) hp
/-! closing -/
theorem xc_bf {post : Int32 → Prop} {i j : Nat} (hi : i < 240) (hj : j < 240) (h1 : cl_bf (xr_r oc i) (xr_r oc j) → post 1) (h0 : ¬ cl_bf (xr_r oc i) (xr_r oc j) → post 0) : wpX_closesBefore post (kd, wd, wn, la, mq, lc, xo, xq, km, kl, ko, kq, ek, et, ev, ar, tk, ie, oc, rc, kt, ki, kc) (nI i) (nI j) := by
  unfold wpX_closesBefore
  dsimp only
  simp (disch := omega) only [forall_eq, vp_in_nI, nI_clamp, pk_us, pk_un, true_and, ix_a0, ix_a1, ix_a2, ix_a3, ix_a4, ix_a5, ix_a6, ix_n7, ix_m7, ix_p1104, ix_p1524, nI_add]
  have e : cl_bf (xr_r oc i) (xr_r oc j) ↔ (oc (i * 7 + 2) < oc (j * 7 + 2) ∨ (oc (i * 7 + 2) = oc (j * 7 + 2) ∧ (oc (i * 7) < oc (j * 7) ∨ (oc (i * 7) = oc (j * 7) ∧ oc (i * 7 + 1) < oc (j * 7 + 1))))) := Iff.rfl
  rw [e] at h1 h0
  by_cases a : oc (i * 7 + 2) = oc (j * 7 + 2)
  · refine br_t a ?_
    by_cases c : oc (i * 7) = oc (j * 7)
    · refine br_t c ?_
      by_cases d : oc (j * 7 + 1) ≤ oc (i * 7 + 1)
      · refine br_t d (h0 (fun z => ?_))
        simp only [ii_lt, ii_le, ii_eq] at *
        omega
      · refine br_f d (h1 ?_)
        simp only [ii_lt, ii_le, ii_eq] at *
        omega
    · refine br_f c ?_
      by_cases d : oc (j * 7) ≤ oc (i * 7)
      · refine br_t d (h0 (fun z => ?_))
        simp only [ii_lt, ii_le, ii_eq] at *
        omega
      · refine br_f d (h1 ?_)
        simp only [ii_lt, ii_le, ii_eq] at *
        omega
  · refine br_f a ?_
    by_cases d : oc (j * 7 + 2) ≤ oc (i * 7 + 2)
    · refine br_t d (h0 (fun z => ?_))
      simp only [ii_lt, ii_le, ii_eq] at *
      omega
    · refine br_f d (h1 ?_)
      simp only [ii_lt, ii_le, ii_eq] at *
      omega
def xc_en (e : Option Nat) : Int32 := match e with
  | none => -1
  | some x => nI x
theorem xc_fd {n : Nat} (hn : n ≤ 240) : ∃ e : Option Nat, fd_I mq (xr_r oc) n e ∧ ∀ post : Int32 → Prop, post (xc_en e) → wpX_firstDueRow post (kd, wd, wn, la, mq, lc, nI n, xq, km, kl, ko, kq, ek, et, ev, ar, tk, ie, oc, rc, kt, ki, kc) := by
  have key := lo_ex (ρ := Int32) (σ := Option Nat × Nat)
    (fun post f s => wX_firstDueRow_4 post kd wd wn la mq lc (nI n) xq km kl ko kq ek et ev ar tk ie oc rc kt ki kc f (xc_en s.1) (nI s.2))
    (fun m s => m + s.2 = n ∧ fd_I mq (xr_r oc) s.2 s.1)
    (fun r => ∃ e, r = xc_en e ∧ fd_I mq (xr_r oc) n e)
    (by
      rintro m ⟨e, i⟩ ⟨h1, h2⟩
      dsimp only at *
      by_cases hi : i = n
      · subst hi
        refine Or.inl ⟨_, ⟨e, rfl, h2⟩, fun post f hp => ?_⟩
        rw [wX_firstDueRow_4]
        exact br_t (nI_le (Nat.le_refl _) (by omega)) hp
      · have hlt : i < n := by omega
        have hne : ¬ nI n ≤ nI i := nI_ge hlt (by omega)
        cases hdu : cl_du mq (xr_r oc i) with
        | false =>
          have hm : mq < oc (i * 7 + 2) := Int32.not_le.mp (of_decide_eq_false hdu)
          refine Or.inr ⟨m - 1, (e, i + 1), by omega, ⟨by dsimp only; omega, fd_In h2 hdu⟩, fun post f hp => ?_⟩
          rw [wX_firstDueRow_4]
          refine br_f hne ?_
          simp (disch := omega) only [forall_eq, vp_in_nI, nI_clamp, pk_us, pk_un, true_and, ix_a0, ix_a1, ix_a2, ix_a3, ix_a4, ix_a5, ix_a6, ix_n7, ix_m7, ix_p1104, ix_p1524, nI_add]
          refine br_t hm ?_
          unfold wX_firstDueRow_35
          exact br_t rfl (nm_r (nI_1 i) hp)
        | true =>
          have hm : ¬ mq < oc (i * 7 + 2) := Int32.not_lt.mpr (of_decide_eq_true hdu)
          cases e with
          | none =>
            refine Or.inr ⟨m - 1, (some i, i + 1), by omega, ⟨by dsimp only; omega, fd_I0 h2 hdu⟩, fun post f hp => ?_⟩
            rw [wX_firstDueRow_4]
            refine br_f hne ?_
            simp (disch := omega) only [forall_eq, vp_in_nI, nI_clamp, pk_us, pk_un, true_and, ix_a0, ix_a1, ix_a2, ix_a3, ix_a4, ix_a5, ix_a6, ix_n7, ix_m7, ix_p1104, ix_p1524, nI_add]
            refine br_f hm ?_
            unfold wX_firstDueRow_35
            exact br_f (by decide) (br_t (by decide) (nm_r (nI_1 i) hp))
          | some x =>
            have hx : x < i := h2.1
            by_cases hb : cl_bf (xr_r oc i) (xr_r oc x)
            · refine Or.inr ⟨m - 1, (some i, i + 1), by omega, ⟨by dsimp only; omega, fd_I1 h2 hdu hb⟩, fun post f hp => ?_⟩
              rw [wX_firstDueRow_4]
              refine br_f hne ?_
              simp (disch := omega) only [forall_eq, vp_in_nI, nI_clamp, pk_us, pk_un, true_and, ix_a0, ix_a1, ix_a2, ix_a3, ix_a4, ix_a5, ix_a6, ix_n7, ix_m7, ix_p1104, ix_p1524, nI_add]
              refine br_f hm ?_
              unfold wX_firstDueRow_35
              exact br_f (by decide) (br_f (nI_pos (by omega)) (xc_bf (by omega) (by omega) (fun _ => br_f (by decide) (nm_r (nI_1 i) hp)) (fun z => absurd hb z)))
            · refine Or.inr ⟨m - 1, (some x, i + 1), by omega, ⟨by dsimp only; omega, fd_I2 h2 hb⟩, fun post f hp => ?_⟩
              rw [wX_firstDueRow_4]
              refine br_f hne ?_
              simp (disch := omega) only [forall_eq, vp_in_nI, nI_clamp, pk_us, pk_un, true_and, ix_a0, ix_a1, ix_a2, ix_a3, ix_a4, ix_a5, ix_a6, ix_n7, ix_m7, ix_p1104, ix_p1524, nI_add]
              refine br_f hm ?_
              unfold wX_firstDueRow_35
              exact br_f (by decide) (br_f (nI_pos (by omega)) (xc_bf (by omega) (by omega) (fun z => absurd z hb) (fun _ => br_t rfl (nm_r (nI_1 i) hp)))))
    n (none, 0) ⟨by dsimp only; omega, lt_0⟩
  obtain ⟨_, ⟨e, rfl, h1⟩, h3⟩ := key
  exact ⟨e, h1, fun post hp => ⟨n + 1, h3 post (n + 1) (by omega) hp⟩⟩
theorem xc_app {r i : Nat} (hr : r < 240) (hi : i < 240) : ∃ rc' : Nat → Int32, xr_r rc' r = xr_r oc i ∧ (∀ j, (j < r * 7 ∨ r * 7 + 7 ≤ j) → rc' j = rc j) ∧ ∀ post : SX → Prop, post (kd, wd, wn, la, mq, lc, xo, nI (r + 1), km, kl, ko, kq, ek, et, ev, ar, tk, ie, oc, rc', kt, ki, kc) → wpX_appendResult post (kd, wd, wn, la, mq, lc, xo, nI r, km, kl, ko, kq, ek, et, ev, ar, tk, ie, oc, rc, kt, ki, kc) (nI i) := by
  have key := lo_ex (ρ := SX) (σ := Nat × (Nat → Int32))
    (fun post f s => wX_appendResult_13 post (nI i) kd wd wn la mq lc xo (nI r) km kl ko kq f (nI s.1) ek et ev ar tk ie oc (s.2) kt ki kc)
    (fun m s => m + s.1 = 7 ∧ (∀ j, j < s.1 → s.2 (r * 7 + j) = oc (i * 7 + j)) ∧ (∀ j, (j < r * 7 ∨ r * 7 + s.1 ≤ j) → s.2 j = rc j))
    (fun u => ∃ c : Nat → Int32, u = (kd, wd, wn, la, mq, lc, xo, nI (r + 1), km, kl, ko, kq, ek, et, ev, ar, tk, ie, oc, c, kt, ki, kc) ∧ (∀ j, j < 7 → c (r * 7 + j) = oc (i * 7 + j)) ∧ (∀ j, (j < r * 7 ∨ r * 7 + 7 ≤ j) → c j = rc j))
    (by
      rintro m ⟨x, c⟩ ⟨h1, h2, h3⟩
      dsimp only at *
      by_cases hx : x = 7
      · subst hx
        refine Or.inl ⟨_, ⟨c, rfl, h2, h3⟩, fun post f hp => ?_⟩
        rw [wX_appendResult_13]
        exact br_t (nI_le (a := 7) (b := 7) (Nat.le_refl _) (by decide)) (nm_r (nI_1 r) hp)
      · refine Or.inr ⟨m - 1, (x + 1, upd c (r * 7 + x) (oc (i * 7 + x))), by omega, ⟨by dsimp only; omega, ?_, ?_⟩, fun post f hp => ?_⟩
        · intro j hj
          dsimp only at *
          by_cases z : j = x
          · rw [z, pk_us]
          · rw [pk_un (by omega)]
            exact h2 j (by omega)
        · intro j hj
          dsimp only at *
          rw [pk_un (by omega)]
          exact h3 j (by omega)
        · rw [wX_appendResult_13]
          refine br_f (nI_ge (a := x) (b := 7) (by omega) (by decide)) ?_
          simp (disch := omega) only [forall_eq, vp_in_nI, nI_clamp, pk_us, pk_un, true_and, ix_a0, ix_a1, ix_a2, ix_a3, ix_a4, ix_a5, ix_a6, ix_n7, ix_m7, ix_p1104, ix_p1524, nI_add]
          exact hp)
    7 (0, rc) ⟨rfl, (fun j hj => absurd hj (Nat.not_lt_zero j)), fun _ _ => rfl⟩
  obtain ⟨_, ⟨c, rfl, h1, h2⟩, h3⟩ := key
  refine ⟨c, ro_at_o h1, h2, fun post hp => ?_⟩
  unfold wpX_appendResult
  dsimp only
  exact br_t (nI_lt (b := 240) hr (by decide)) ⟨8, h3 post 8 (by omega) hp⟩
theorem xc_all {n r : Nat} (hn : n + r ≤ 240) (hd : ro_ds (xr_L oc n)) : ∃ (oc' rc' : Nat → Int32) (n' r' : Nat) (D : List ro_T), cl_R mq (xr_L oc n) D (xr_L oc' n') ∧ r' = r + D.length ∧ n' + r' = n + r ∧ xr_L rc' r' = xr_L rc r ++ D ∧ (∀ j, j < r * 7 → rc' j = rc j) ∧ ∀ post : SX → Prop, post (kd, wd, wn, la, mq, lc, nI n', nI r', km, kl, ko, kq, ek, et, ev, ar, tk, ie, oc', rc', kt, ki, kc) → wpX_closeDueRows post (kd, wd, wn, la, mq, lc, nI n, nI r, km, kl, ko, kq, ek, et, ev, ar, tk, ie, oc, rc, kt, ki, kc) := by
  have key := lo_ex (ρ := SX) (σ := Nat × Nat × (Nat → Int32) × Nat × (Nat → Int32))
    (fun post f s => wX_closeDueRows_2 post f (nI s.1) kd wd wn la mq lc (nI s.2.1) (nI s.2.2.2.1) km kl ko kq ek et ev ar tk ie (s.2.2.1) (s.2.2.2.2) kt ki kc)
    (fun m s => m = s.2.1 ∧ s.1 + s.2.1 = n ∧ ∃ D, cl_I mq (xr_L oc n) D (xr_L s.2.2.1 s.2.1) ∧ s.2.2.2.1 = r + D.length ∧ s.2.1 + s.2.2.2.1 = n + r ∧ xr_L s.2.2.2.2 s.2.2.2.1 = xr_L rc r ++ D ∧ (∀ j, j < r * 7 → s.2.2.2.2 j = rc j))
    (fun u => ∃ (oc' rc' : Nat → Int32) (n' r' : Nat) (D : List ro_T), u = (kd, wd, wn, la, mq, lc, nI n', nI r', km, kl, ko, kq, ek, et, ev, ar, tk, ie, oc', rc', kt, ki, kc) ∧ cl_R mq (xr_L oc n) D (xr_L oc' n') ∧ r' = r + D.length ∧ n' + r' = n + r ∧ xr_L rc' r' = xr_L rc r ++ D ∧ (∀ j, j < r * 7 → rc' j = rc j))
    (by
      rintro m ⟨c0, n', c, r', q⟩ ⟨h1, h2, D, h3, h4, h5, h6, h7⟩
      dsimp only at *
      by_cases hc : c0 = 240
      · have hn0 : n' = 0 := by omega
        refine Or.inl ⟨_, ⟨c, q, n', r', D, rfl, cl_Ie h3 ?_, h4, h5, h6, h7⟩, fun post f hp => ?_⟩
        · rw [hn0]
          intro x hx
          cases hx
        · rw [wX_closeDueRows_2]
          exact br_t (nI_le (a := 240) (b := c0) (by omega) (by omega)) hp
      · have hne : ¬ (240 : Int32) ≤ nI c0 := nI_ge (a := c0) (b := 240) (by omega) (by decide)
        obtain ⟨e, f1, f2⟩ := xc_fd (kd := kd) (wd := wd) (wn := wn) (la := la) (mq := mq) (lc := lc) (xq := nI r') (km := km) (kl := kl) (ko := ko) (kq := kq) (ek := ek) (et := et) (ev := ev) (ar := ar) (tk := tk) (ie := ie) (oc := c) (rc := q) (kt := kt) (ki := ki) (kc := kc) (n := n') (by omega)
        cases e with
        | none =>
          refine Or.inl ⟨_, ⟨c, q, n', r', D, rfl, cl_Ie h3 ?_, h4, h5, h6, h7⟩, fun post f hp => ?_⟩
          · intro x hx
            obtain ⟨j, hj, rfl⟩ := li_mem.mp hx
            exact f1 j hj
          · rw [wX_closeDueRows_2]
            exact br_f hne (f2 _ (br_f (by decide) hp))
        | some x =>
          have hx : x < n' := f1.1
          obtain ⟨k, rfl⟩ : ∃ k, n' = k + 1 := ⟨n' - 1, by omega⟩
          obtain ⟨q', a1, a2, a3⟩ := xc_app (kd := kd) (wd := wd) (wn := wn) (la := la) (mq := mq) (lc := lc) (xo := nI (k + 1)) (km := km) (kl := kl) (ko := ko) (kq := kq) (ek := ek) (et := et) (ev := ev) (ar := ar) (tk := tk) (ie := ie) (oc := c) (rc := q) (kt := kt) (ki := ki) (kc := kc) (r := r') (i := x) (by omega) (by omega)
          obtain ⟨c', b1, b2, b3⟩ := xa_rm (kd := kd) (wd := wd) (wn := wn) (la := la) (mq := mq) (lc := lc) (xq := nI (r' + 1)) (km := km) (kl := kl) (ko := ko) (kq := kq) (ek := ek) (et := et) (ev := ev) (ar := ar) (tk := tk) (ie := ie) (oc := c) (rc := q') (kt := kt) (ki := ki) (kc := kc) (n := k) (i := x) (by omega) (by omega)
          have hds : ro_ds (xr_L c (k + 1)) := (List.pairwise_append.mp (ro_ds_p h3.1.symm hd)).2.1
          obtain ⟨g1, _⟩ := fd_st (g := xr_r c') h3 hds f1 (fun j _ hj => xr_f b2 j hj) (fun _ => b1)
          refine Or.inr ⟨k, (c0 + 1, k, c', r' + 1, q'), by omega, ⟨rfl, by dsimp only; omega, D ++ [xr_r c x], g1, ?_, by dsimp only; omega, ?_, ?_⟩, fun post f hp => ?_⟩
          · dsimp only
            rw [List.length_append, List.length_singleton]
            omega
          · dsimp only
            have e1 : xr_L q' (r' + 1) = xr_L q r' ++ [xr_r c x] := by
              unfold xr_L
              rw [li_s, a1, li_cg (f := xr_r q') (g := xr_r q) (fun j hj => xr_f a2 j (by omega))]
            rw [e1, h6, List.append_assoc]
          · dsimp only
            intro j hj
            rw [a2 j (by omega)]
            exact h7 j hj
          · rw [wX_closeDueRows_2]
            refine br_f hne (f2 _ (br_t (nI_pos' (by omega)) (a3 _ ?_)))
            dsimp only
            refine b3 _ ?_
            dsimp only
            exact nm_r (nI_1 c0) hp)
    n (0, n, oc, r, rc) ⟨rfl, by dsimp only; omega, [], cl_I0 _ _, rfl, rfl, (List.append_nil _).symm, fun _ _ => rfl⟩
  obtain ⟨_, ⟨oc', rc', n', r', D, rfl, h1, h2, h3, h4, h5⟩, h6⟩ := key
  exact ⟨oc', rc', n', r', D, h1, h2, h3, h4, h5, fun post hp => ⟨n + 1, h6 post (n + 1) (by omega) hp⟩⟩
end
