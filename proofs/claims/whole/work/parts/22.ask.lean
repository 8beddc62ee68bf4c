/-! the questions -/
section
theorem wy_nil {d p : Int32} {c : Nat → Int32} (h : ∀ q, q < 272 → c (wy_a q) = 0) : wy_L d p c 272 = [] := by
  unfold wy_L
  rw [wy_fc (f := fun _ => ([] : List ro_T)) (fun j hj => ?_)]
  · exact List.flatMap_eq_nil_iff.mpr (fun _ _ => rfl)
  · unfold wy_o
    rw [h j (List.mem_range.mp hj)]
    exact if_neg (by decide)
theorem ke_4 (x : Int32) : (x < 0 ∨ 4 ≤ x) ∨ ∃ s : Nat, s < 4 ∧ x = nI s := by
  by_cases h : x < 0
  · exact Or.inl (Or.inl h)
  · obtain ⟨j, hj, rfl⟩ := nI_of h
    by_cases h2 : j < 4
    · exact Or.inr ⟨j, h2, rfl⟩
    · exact Or.inl (Or.inr (nI_le (a := 4) (by omega) hj))
theorem ke_xb {post : Int32 → Prop} {x : Int32} (h : x < 0 ∨ 4 ≤ x) (hp : post 0) : wpX_isKey post x := by
  unfold wpX_isKey
  by_cases z : x < 0
  · exact br_t z hp
  · rcases h with h | h
    · exact absurd h z
    · exact br_f z (br_t h hp)
theorem ke_xg {post : Int32 → Prop} {s : Nat} (h : s < 4) (hp : post 1) : wpX_isKey post (nI s) := br_f (nI_pos (by omega)) (br_f (nI_ge (b := 4) h (by decide)) hp)
theorem ke_yb {post : Int32 → Prop} {x : Int32} {v : SY} (h : x < 0 ∨ 4 ≤ x) (hp : post 1) : wpY_badKey post v x := by
  obtain ⟨kd, dd, pp, la, sz, co, va, b, cp⟩ := v
  unfold wpY_badKey
  dsimp only
  by_cases z : x < 0
  · exact br_t z hp
  · rcases h with h | h
    · exact absurd h z
    · refine br_f z (br_f (fun y => ?_) hp)
      rw [ii_le] at h y
      have e3 : (4 : Int32).toInt = 4 := by decide
      have e2 : (3 : Int32).toInt = 3 := by decide
      omega
theorem ke_yg {post : Int32 → Prop} {s : Nat} {v : SY} (h : s < 4) (hp : post 0) : wpY_badKey post v (nI s) := by
  obtain ⟨kd, dd, pp, la, sz, co, va, b, cp⟩ := v
  exact br_f (nI_pos (by omega)) (br_t (nI_le (b := 3) (by omega) (by decide)) hp)
section
variable {kd wd wn la mq lc xo xq km kl ko kq : Int32} {ek et ev ar tk ie oc rc kt ki kc : Nat → Int32}
theorem op_x {n : Nat} (hn : n ≤ 240) (k : Int32) : ∀ post : Int32 → Prop, post (nI ((xr_L oc n).countP (op_k k))) → ∃ f, wX_open_15 post k kd wd wn la mq lc (nI n) xq km kl ko kq ek et ev ar tk ie oc rc kt ki kc f 0 0 := by
  have key := lo_ex (ρ := Int32) (σ := Nat)
    (fun post f i => wX_open_15 post k kd wd wn la mq lc (nI n) xq km kl ko kq ek et ev ar tk ie oc rc kt ki kc f (nI ((xr_L oc i).countP (op_k k))) (nI i))
    (fun m i => m + i = n)
    (fun r => r = nI ((xr_L oc n).countP (op_k k)))
    (by
      rintro m i h1
      by_cases hi : i = n
      · subst hi
        refine Or.inl ⟨_, rfl, fun post f hp => ?_⟩
        rw [wX_open_15]
        exact br_t (nI_le (Nat.le_refl _) (by omega)) hp
      · have hlt : i < n := by omega
        have e : (xr_L oc (i + 1)).countP (op_k k) = (xr_L oc i).countP (op_k k) + (if (xr_r oc i).1 = k then 1 else 0) := op_s k
        refine Or.inr ⟨m - 1, i + 1, by omega, by omega, fun post f hp => ?_⟩
        rw [e] at hp
        rw [wX_open_15]
        refine br_f (nI_ge hlt (by omega)) ?_
        simp (disch := omega) only [forall_eq, vp_in_nI, nI_clamp, pk_us, pk_un, true_and, ix_a0, ix_a1, ix_a2, ix_a3, ix_a4, ix_a5, ix_a6, ix_n7, ix_m7, ix_p1104, ix_p1524, nI_add]
        by_cases z : oc (i * 7) = k
        · rw [if_pos (show (xr_r oc i).1 = k from z)] at hp
          exact br_t z hp
        · rw [if_neg (show ¬ (xr_r oc i).1 = k from z)] at hp
          exact br_f z hp)
    n 0 (by omega)
  obtain ⟨_, rfl, h3⟩ := key
  exact fun post hp => ⟨n + 1, h3 post (n + 1) (by omega) hp⟩
theorem pd_x {n : Nat} (hn : n ≤ 240) (k : Int32) : ∃ v : Int32, pd_P (xr_L oc n) k v ∧ ∀ post : Int32 → Prop, post v → wpX_pending post (kd, wd, wn, la, mq, lc, nI n, xq, km, kl, ko, kq, ek, et, ev, ar, tk, ie, oc, rc, kt, ki, kc) k := by
  have key := lo_ex (ρ := Int32) (σ := Option Nat × Nat)
    (fun post f s => wX_pending_4 post k kd wd wn la mq lc (nI n) xq km kl ko kq ek et ev ar tk ie oc rc kt ki kc f (match s.1 with | none => -1 | some x => nI (x * 7)) (nI s.2))
    (fun m s => m + s.2 = n ∧ pd_I (xr_r oc) k s.2 s.1)
    (fun v => pd_P (xr_L oc n) k v)
    (by
      rintro m ⟨e, i⟩ ⟨h1, h2⟩
      dsimp only at *
      by_cases hi : i = n
      · subst hi
        have h3 := pd_Ie h2
        cases e with
        | none =>
          refine Or.inl ⟨_, h3, fun post f hp => ?_⟩
          rw [wX_pending_4]
          exact br_t (nI_le (Nat.le_refl _) (by omega)) (br_f (by decide) hp)
        | some x =>
          have hx : x < i := h2.1
          refine Or.inl ⟨_, h3, fun post f hp => ?_⟩
          rw [wX_pending_4]
          refine br_t (nI_le (Nat.le_refl _) (by omega)) (br_t (nI_pos' (by omega)) ?_)
          simp (disch := omega) only [forall_eq, vp_in_nI, nI_clamp, pk_us, pk_un, true_and, ix_a0, ix_a1, ix_a2, ix_a3, ix_a4, ix_a5, ix_a6, ix_n7, ix_m7, ix_p1104, ix_p1524, nI_add]
          exact hp
      · have hlt : i < n := by omega
        have hne : ¬ nI n ≤ nI i := nI_ge hlt (by omega)
        right
        by_cases hkey : oc (i * 7) = k
        · cases e with
          | none =>
            refine ⟨m - 1, (some i, i + 1), by omega, ⟨by dsimp only; omega, pd_I0 h2 hkey⟩, fun post f hp => ?_⟩
            rw [wX_pending_4]
            refine br_f hne ?_
            simp (disch := omega) only [forall_eq, vp_in_nI, nI_clamp, pk_us, pk_un, true_and, ix_a0, ix_a1, ix_a2, ix_a3, ix_a4, ix_a5, ix_a6, ix_n7, ix_m7, ix_p1104, ix_p1524, nI_add]
            exact br_t hkey (br_t (by decide) hp)
          | some x =>
            have hx : x < i := h2.1
            by_cases hl : oc (x * 7 + 1) ≤ oc (i * 7 + 1)
            · refine ⟨m - 1, (some x, i + 1), by omega, ⟨by dsimp only; omega, pd_I2 h2 (Int32.not_lt.mpr hl)⟩, fun post f hp => ?_⟩
              rw [wX_pending_4]
              refine br_f hne ?_
              simp (disch := omega) only [forall_eq, vp_in_nI, nI_clamp, pk_us, pk_un, true_and, ix_a0, ix_a1, ix_a2, ix_a3, ix_a4, ix_a5, ix_a6, ix_n7, ix_m7, ix_p1104, ix_p1524, nI_add]
              exact br_t hkey (br_f (nI_pos (by omega)) (br_t hl hp))
            · refine ⟨m - 1, (some i, i + 1), by omega, ⟨by dsimp only; omega, pd_I1 h2 hkey (Int32.not_le.mp hl)⟩, fun post f hp => ?_⟩
              rw [wX_pending_4]
              refine br_f hne ?_
              simp (disch := omega) only [forall_eq, vp_in_nI, nI_clamp, pk_us, pk_un, true_and, ix_a0, ix_a1, ix_a2, ix_a3, ix_a4, ix_a5, ix_a6, ix_n7, ix_m7, ix_p1104, ix_p1524, nI_add]
              exact br_t hkey (br_f (nI_pos (by omega)) (br_f hl hp))
        · refine ⟨m - 1, (e, i + 1), by omega, ⟨by dsimp only; omega, pd_In h2 hkey⟩, fun post f hp => ?_⟩
          rw [wX_pending_4]
          refine br_f hne ?_
          simp (disch := omega) only [forall_eq, vp_in_nI, nI_clamp, pk_us, pk_un, true_and, ix_a0, ix_a1, ix_a2, ix_a3, ix_a4, ix_a5, ix_a6, ix_n7, ix_m7, ix_p1104, ix_p1524, nI_add]
          exact br_f hkey hp)
    n (none, 0) ⟨by dsimp only; omega, lt_0⟩
  obtain ⟨v, h1, h3⟩ := key
  exact ⟨v, h1, fun post hp => ⟨n + 1, h3 post (n + 1) (by omega) hp⟩⟩
end
section
variable {kd dd pp la : Int32} {sz co va b cp : Nat → Int32}
theorem op_y {n k : Nat} (hn : n ≤ 60) (hk : k < 4) (h12 : b 12 = nI n) : ∀ post : Int32 → Prop, post (nI ((wy_L dd pp b 272).countP (op_k (nI k)) + (ys_L dd b n).countP (op_k (nI k)))) → ∃ f, wY_open_17 post (nI k) kd dd pp la sz co va b cp f 0 (-4) := by
  have key1 := lo_ex (ρ := Int32) (σ := Nat)
    (fun post f i => wY_open_48 post (nI k) kd dd pp la sz co va b cp f (nI ((wy_L dd pp b 272).countP (op_k (nI k)) + (ys_L dd b i).countP (op_k (nI k)))) (nI i))
    (fun m i => m + i = n)
    (fun r => r = nI ((wy_L dd pp b 272).countP (op_k (nI k)) + (ys_L dd b n).countP (op_k (nI k))))
    (by
      rintro m i h1
      by_cases hi : i = n
      · subst hi
        refine Or.inl ⟨_, rfl, fun post f hp => ?_⟩
        rw [wY_open_48, h12]
        exact br_t (nI_le (Nat.le_refl _) (by omega)) hp
      · have hlt : i < n := by omega
        have e : (ys_L dd b (i + 1)).countP (op_k (nI k)) = (ys_L dd b i).countP (op_k (nI k)) + (if (ys_r dd b i).1 = nI k then 1 else 0) := op_s (nI k)
        refine Or.inr ⟨m - 1, i + 1, by omega, by omega, fun post f hp => ?_⟩
        rw [e] at hp
        rw [wY_open_48, h12]
        refine br_f (nI_ge hlt (by omega)) ?_
        simp (disch := omega) only [forall_eq, vp_in_nI, nI_clamp, pk_us, pk_un, true_and, ix_a0, ix_a1, ix_a2, ix_a3, ix_a4, ix_a5, ix_a6, ix_n7, ix_m7, ix_p1104, ix_p1524, nI_add]
        by_cases z : b (1104 + 7 * i) = nI k
        · rw [if_pos (show (ys_r dd b i).1 = nI k from z)] at hp
          exact br_t z hp
        · rw [if_neg (show ¬ (ys_r dd b i).1 = nI k from z)] at hp
          exact br_f z hp)
    n 0 (by omega)
  obtain ⟨_, rfl, h3⟩ := key1
  have key2 := lo_ex (ρ := Int32) (σ := Nat)
    (fun post f w => wY_open_17 post (nI k) kd dd pp la sz co va b cp f (nI ((wy_L dd pp b (4 * w)).countP (op_k (nI k)))) (nI w - 4))
    (fun m w => m + w = 68)
    (fun r => r = nI ((wy_L dd pp b 272).countP (op_k (nI k)) + (ys_L dd b n).countP (op_k (nI k))))
    (by
      rintro m w h1
      by_cases hw : w = 68
      · subst hw
        refine Or.inl ⟨_, rfl, fun post f hp => ?_⟩
        rw [wY_open_17]
        exact br_t wy_68 ⟨n + 1, h3 post (n + 1) (by omega) hp⟩
      · have hlt : w < 68 := by omega
        have hq := wy_lt (q := 4 * w + k) (by omega)
        refine Or.inr ⟨m - 1, w + 1, by omega, by omega, fun post f hp => ?_⟩
        rw [op_w hk] at hp
        rw [wY_open_17]
        refine br_f (wy_64 hlt) ?_
        simp only [wpY_windowAt]
        rw [wy_wa hk, wy_n1]
        refine ⟨vp_in_nI (by omega) (by omega), ?_⟩
        rw [nI_clamp (by omega)]
        by_cases z : b (wy_a (4 * w + k)) ≤ 0
        · rw [if_neg (Int32.not_lt.mpr z)] at hp
          exact br_t z (nm_e hp)
        · rw [if_pos (Int32.not_le.mp z)] at hp
          exact br_f z (nm_r (nI_1 _) (nm_e hp)))
    68 0 (by omega)
  obtain ⟨_, rfl, h4⟩ := key2
  exact fun post hp => ⟨69, h4 post 69 (by omega) hp⟩
theorem pd_y {n k : Nat} (h1 : 1 ≤ dd.toInt) (h8 : dd.toInt ≤ 8) (hn : n ≤ 60) (hk : k < 4) (h12 : b 12 = nI n) (hor : (n = 0) ∨ (∀ q, q < 272 → b (wy_a q) = 0)) : ∃ v : Int32, pd_P (wy_L dd pp b 272 ++ ys_L dd b n) (nI k) v ∧ ∀ post : Int32 → Prop, post v → ∃ f, wY_pending_13 post (nI k) kd dd pp la sz co va b cp f (-4) := by
  -- the sessions
  have key1 := lo_ex (ρ := Int32) (σ := Option Nat × Nat)
    (fun post f s => wY_pending_57 post (nI k) kd dd pp la sz co va b cp f (match s.1 with | none => -1 | some x => nI (1104 + 7 * x)) (nI s.2))
    (fun m s => m + s.2 = n ∧ pd_I (ys_r dd b) (nI k) s.2 s.1)
    (fun v => pd_P (ys_L dd b n) (nI k) v)
    (by
      rintro m ⟨e, i⟩ ⟨h1, h2⟩
      dsimp only at *
      by_cases hi : i = n
      · subst hi
        have h3 := pd_Ie h2
        cases e with
        | none =>
          refine Or.inl ⟨_, h3, fun post f hp => ?_⟩
          rw [wY_pending_57, h12]
          exact br_t (nI_le (Nat.le_refl _) (by omega)) (br_f (by decide) hp)
        | some x =>
          have hx : x < i := h2.1
          refine Or.inl ⟨_, h3, fun post f hp => ?_⟩
          rw [wY_pending_57, h12]
          refine br_t (nI_le (Nat.le_refl _) (by omega)) (br_t (nI_pos' (by omega)) ?_)
          simp (disch := omega) only [forall_eq, vp_in_nI, nI_clamp, pk_us, pk_un, true_and, ix_a0, ix_a1, ix_a2, ix_a3, ix_a4, ix_a5, ix_a6, ix_n7, ix_m7, ix_p1104, ix_p1524, nI_add]
          exact hp
      · have hlt : i < n := by omega
        have hne : ¬ nI n ≤ nI i := nI_ge hlt (by omega)
        right
        by_cases hkey : b (1104 + 7 * i) = nI k
        · cases e with
          | none =>
            refine ⟨m - 1, (some i, i + 1), by omega, ⟨by dsimp only; omega, pd_I0 h2 hkey⟩, fun post f hp => ?_⟩
            rw [wY_pending_57, h12]
            refine br_f hne ?_
            simp (disch := omega) only [forall_eq, vp_in_nI, nI_clamp, pk_us, pk_un, true_and, ix_a0, ix_a1, ix_a2, ix_a3, ix_a4, ix_a5, ix_a6, ix_n7, ix_m7, ix_p1104, ix_p1524, nI_add]
            exact br_t hkey (br_t (by decide) hp)
          | some x =>
            have hx : x < i := h2.1
            by_cases hl : b (1104 + 7 * x + 1) ≤ b (1104 + 7 * i + 1)
            · refine ⟨m - 1, (some x, i + 1), by omega, ⟨by dsimp only; omega, pd_I2 h2 (Int32.not_lt.mpr hl)⟩, fun post f hp => ?_⟩
              rw [wY_pending_57, h12]
              refine br_f hne ?_
              simp (disch := omega) only [forall_eq, vp_in_nI, nI_clamp, pk_us, pk_un, true_and, ix_a0, ix_a1, ix_a2, ix_a3, ix_a4, ix_a5, ix_a6, ix_n7, ix_m7, ix_p1104, ix_p1524, nI_add]
              exact br_t hkey (br_f (nI_pos (by omega)) (br_t hl hp))
            · refine ⟨m - 1, (some i, i + 1), by omega, ⟨by dsimp only; omega, pd_I1 h2 hkey (Int32.not_le.mp hl)⟩, fun post f hp => ?_⟩
              rw [wY_pending_57, h12]
              refine br_f hne ?_
              simp (disch := omega) only [forall_eq, vp_in_nI, nI_clamp, pk_us, pk_un, true_and, ix_a0, ix_a1, ix_a2, ix_a3, ix_a4, ix_a5, ix_a6, ix_n7, ix_m7, ix_p1104, ix_p1524, nI_add]
              exact br_t hkey (br_f (nI_pos (by omega)) (br_f hl hp))
        · refine ⟨m - 1, (e, i + 1), by omega, ⟨by dsimp only; omega, pd_In h2 hkey⟩, fun post f hp => ?_⟩
          rw [wY_pending_57, h12]
          refine br_f hne ?_
          simp (disch := omega) only [forall_eq, vp_in_nI, nI_clamp, pk_us, pk_un, true_and, ix_a0, ix_a1, ix_a2, ix_a3, ix_a4, ix_a5, ix_a6, ix_n7, ix_m7, ix_p1104, ix_p1524, nI_add]
          exact br_f hkey hp)
    n (none, 0) ⟨by dsimp only; omega, lt_0⟩
  obtain ⟨vs, q1, q2⟩ := key1
  have key2 := lo_ex (ρ := Int32) (σ := Nat)
    (fun post f w => wY_pending_13 post (nI k) kd dd pp la sz co va b cp f (nI w - 4))
    (fun m w => m + w = 68 ∧ ∀ j, j < w → ¬ 0 < b (wy_a (4 * j + k)))
    (fun v => pd_P (wy_L dd pp b 272 ++ ys_L dd b n) (nI k) v)
    (by
      rintro m w ⟨h1', h2⟩
      by_cases hw : w = 68
      · subst hw
        have h0 := pd_0 (d := dd) (p := pp) hk h2
        refine Or.inl ⟨vs, ?_, fun post f hp => ?_⟩
        · have hno : ∀ q, q ∈ wy_L dd pp b 272 → ¬ q.1 = nI k := by
            rcases h0 with ⟨r, hr, hrk, _, _⟩ | ⟨h0, _⟩
            · intro q hq hqk
              obtain ⟨j, hj, hb, rfl⟩ := wy_m hq
              have e := (nI_eq (by omega) (by omega)).mp (show nI (j % 4) = nI k from hqk)
              refine h2 (j / 4) (by omega) ?_
              rw [show 4 * (j / 4) + k = j from by omega]
              exact hb
            · exact h0
          rcases q1 with ⟨r, hr, hrk, hmin, e⟩ | ⟨hn2, e⟩
          · refine Or.inl ⟨r, List.mem_append.mpr (Or.inr hr), hrk, fun q hq hqk => ?_, e⟩
            rcases List.mem_append.mp hq with hq | hq
            · exact absurd hqk (hno q hq)
            · exact hmin q hq hqk
          · refine Or.inr ⟨fun q hq => ?_, e⟩
            rcases List.mem_append.mp hq with hq | hq
            · exact hno q hq
            · exact hn2 q hq
        · rw [wY_pending_13]
          exact br_t wy_68 ⟨n + 1, q2 post (n + 1) (by omega) hp⟩
      · have hlt : w < 68 := by omega
        have hq := wy_lt (q := 4 * w + k) (by omega)
        by_cases z : b (wy_a (4 * w + k)) ≤ 0
        · refine Or.inr ⟨m - 1, w + 1, by omega, ⟨by omega, lt_s h2 (Int32.not_lt.mpr z)⟩, fun post f hp => ?_⟩
          rw [wY_pending_13]
          refine br_f (wy_64 hlt) ?_
          simp only [wpY_windowAt]
          rw [wy_wa hk, wy_n1]
          refine ⟨vp_in_nI (by omega) (by omega), ?_⟩
          rw [nI_clamp (by omega)]
          exact br_t z (nm_e hp)
        · have hpos := Int32.not_le.mp z
          have hp1 := pd_w (d := dd) (p := pp) h1 h8 hk hlt h2 hpos
          have hn0 : n = 0 := by
            rcases hor with h | h
            · exact h
            · rw [h (4 * w + k) (by omega)] at hpos
              exact absurd hpos (by decide)
          refine Or.inl ⟨b (wy_a (4 * w + k) + 1), ?_, fun post f hp => ?_⟩
          · rw [hn0]
            have e : wy_L dd pp b 272 ++ ys_L dd b 0 = wy_L dd pp b 272 := List.append_nil _
            rw [e]
            exact hp1
          · rw [wY_pending_13]
            refine br_f (wy_64 hlt) ?_
            simp only [wpY_windowAt]
            rw [wy_wa hk]
            refine ⟨vp_in_nI (by omega) (by omega), ?_⟩
            rw [nI_clamp (by omega)]
            refine br_f z ?_
            simp (disch := omega) only [forall_eq, vp_in_nI, nI_clamp, pk_us, pk_un, true_and, ix_a0, ix_a1, ix_a2, ix_a3, ix_a4, ix_a5, ix_a6, ix_n7, ix_m7, ix_p1104, ix_p1524, nI_add]
            exact hp)
    68 0 ⟨by omega, lt_0⟩
  obtain ⟨v, w1, w2⟩ := key2
  exact ⟨v, w1, fun post hp => ⟨69, w2 post 69 (by omega) hp⟩⟩
end
theorem i_vc_open {k : Nat} {u : SX} {v : SY} (I : i_Rel k u v) (hk : k + 3 ≤ 1540) (v1 : Int32) : wpX_open (fun r => wpY_open (fun r' => r' = r ∧ i_Rel (k + 3) u v) v v1) u v1 := by
  have I0 := I
  obtain ⟨kd, wd, wn, la, mq, lc, xo, xq, km, kl, ko, kq, ek, et, ev, ar, tk, ie, oc, rc, kt, ki, kc⟩ := u
  obtain ⟨kd', dd, pp, la', sz, co, va, b, cp⟩ := v
  obtain ⟨g1, g2, g3, g4, g5, dn, W, ln, an, n, r, n2, r2, e1, e2, e3, e4, e5, hr2, hS, hN, hK⟩ := I
  subst g1 g2 g3 g4 g5 e1 e2 e3 e4 e5
  have hnr := rl_nr hS hN
  obtain ⟨tn, sn, t1, ⟨t2, t3, t4, t5, t6⟩, t7, t8, t9, t10⟩ := hN
  have hT := rl_T hS (fun s hs => (t1 s hs).2.1)
  have hsn := bo_sn t7 hS.2.1 t8 hT.1
  unfold wpX_open wpY_open
  dsimp only
  rcases ke_4 v1 with h | ⟨s, hs, rfl⟩
  · refine ke_xb h ?_
    refine br_t rfl ?_
    refine ke_yb h ?_
    exact br_f (by decide) ⟨rfl, I0⟩
  · refine ke_xg hs ?_
    refine br_f (by decide) (op_x (by omega) (nI s) _ ?_)
    refine ke_yg hs ?_
    refine br_t rfl (op_y (n := sn) (by omega) hs t6 _ ⟨congrArg nI ?_, I0⟩)
    by_cases z : kd = 2
    · obtain ⟨c1, c2, _⟩ := t7.2.1 z
      rw [wy_nil c2, c1.countP_eq]
      exact Nat.zero_add _
    · obtain ⟨c1, c2, _⟩ := t7.2.2 z
      rw [c2, c1.countP_eq]
      rfl
theorem i_vc_pending {k : Nat} {u : SX} {v : SY} (I : i_Rel k u v) (hk : k + 3 ≤ 1540) (v1 : Int32) : wpX_pending (fun r => wpY_pending (fun r' => r' = r ∧ i_Rel (k + 3) u v) v v1) u v1 := by
  have I0 := I
  obtain ⟨kd, wd, wn, la, mq, lc, xo, xq, km, kl, ko, kq, ek, et, ev, ar, tk, ie, oc, rc, kt, ki, kc⟩ := u
  obtain ⟨kd', dd, pp, la', sz, co, va, b, cp⟩ := v
  obtain ⟨g1, g2, g3, g4, g5, dn, W, ln, an, n, r, n2, r2, e1, e2, e3, e4, e5, hr2, hS, hN, hK⟩ := I
  subst g1 g2 g3 g4 g5 e1 e2 e3 e4 e5
  have hnr := rl_nr hS hN
  obtain ⟨tn, sn, t1, ⟨t2, t3, t4, t5, t6⟩, t7, t8, t9, t10⟩ := hN
  have hT := rl_T hS (fun s hs => (t1 s hs).2.1)
  have hsn := bo_sn t7 hS.2.1 t8 hT.1
  have hwi : wd.toInt = (dn : Int) := by rw [hS.2.2.1, nI_toInt (by have := hS.2.2.2.2.1; omega)]
  have hd1 : 1 ≤ wd.toInt := by have := hS.2.2.2.1; omega
  have hd8 : wd.toInt ≤ 8 := by have := hS.2.2.2.2.1; omega
  obtain ⟨w, p1, p2⟩ := pd_x (kd := kd) (wd := wd) (wn := nI W) (la := la) (mq := mq) (lc := lc) (xq := nI r) (km := km) (kl := kl) (ko := nI n2) (kq := nI r2) (ek := ek) (et := et) (ev := ev) (ar := ar) (tk := tk) (ie := ie) (oc := oc) (rc := rc) (kt := kt) (ki := ki) (kc := kc) (n := n) (by omega) v1
  refine p2 _ ?_
  have hds := rl_ds hd1 hd8 t7
  have hperm : (xr_L oc n).Perm (wy_L wd pp b 272 ++ ys_L wd b sn) := by
    by_cases z : kd = 2
    · obtain ⟨c1, c2, _⟩ := t7.2.1 z
      rw [wy_nil c2]
      exact c1
    · obtain ⟨c1, c2, _⟩ := t7.2.2 z
      rw [c2]
      exact c1.trans (List.Perm.of_eq (List.append_nil _).symm)
  unfold wpY_pending
  dsimp only
  rcases ke_4 v1 with h | ⟨s, hs, rfl⟩
  · refine ke_yb h ?_
    refine br_f (by decide) ⟨?_, I0⟩
    rcases p1 with ⟨q, hq, hqk, _, _⟩ | ⟨_, e⟩
    · exfalso
      have hkb : 0 ≤ q.1.toInt ∧ q.1.toInt ≤ 3 := by
        by_cases z : kd = 2
        · have := (t7.2.1 z).2.2.2 q hq
          unfold ss_ok at this
          omega
        · obtain ⟨j, hj, _, rfl⟩ := wy_m ((t7.2.2 z).1.mem_iff.mp hq)
          show 0 ≤ (nI (j % 4)).toInt ∧ (nI (j % 4)).toInt ≤ 3
          rw [nI_toInt (by omega)]
          omega
      rw [hqk] at hkb
      have e0 : (0 : Int32).toInt = 0 := by decide
      have e4 : (4 : Int32).toInt = 4 := by decide
      rw [ii_lt, ii_le] at h
      omega
    · exact e.symm
  · refine ke_yg hs ?_
    have hor : sn = 0 ∨ (∀ q, q < 272 → b (wy_a q) = 0) := by
      by_cases z : kd = 2
      · exact Or.inr (t7.2.1 z).2.1
      · exact Or.inl (t7.2.2 z).2.1
    obtain ⟨w', y1, y2⟩ := pd_y (kd := kd) (dd := wd) (pp := pp) (la := la) (sz := ar) (co := co) (va := ev) (b := b) (cp := cp) (n := sn) hd1 hd8 (by omega) hs t6 hor
    exact br_t rfl (y2 _ ⟨pd_u hds hperm p1 y1, I0⟩)
end
