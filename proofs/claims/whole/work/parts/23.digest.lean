/-! digest, and the beginning -/
section
def dg_1 (r : ro_T) : Int32 := ((((((r.1) + (3 * (r.2.1))) + (5 * (r.2.2.1))) + (7 * (r.2.2.2.1))) + (11 * (r.2.2.2.2.1))) + (13 * (r.2.2.2.2.2.1))) + (17 * (r.2.2.2.2.2.2))
def dg_S (f : Nat → ro_T) : Nat → Int32
  | 0 => 0
  | i + 1 => dg_S f i + ((nI i + 1) * dg_1 (f i))
theorem dg_c {f g : Nat → ro_T} : ∀ n, (∀ i, i < n → f i = g i) → dg_S f n = dg_S g n := by
  intro n
  induction n with
  | zero => intro _; rfl
  | succ n ih =>
    intro h
    unfold dg_S
    rw [ih (fun i hi => h i (by omega)), h n (by omega)]
section
variable {kd wd wn la mq lc xo xq km kl ko kq : Int32} {ek et ev ar tk ie oc rc kt ki kc : Nat → Int32}
theorem dg_x {r : Nat} (hr : r ≤ 240) : ∀ post : Int32 → Prop, post (dg_S (xr_r rc) r) → wpX_digest post (kd, wd, wn, la, mq, lc, xo, nI r, km, kl, ko, kq, ek, et, ev, ar, tk, ie, oc, rc, kt, ki, kc) := by
  have key := lo_ex (ρ := Int32) (σ := Nat)
    (fun post f i => wX_digest_4 post kd wd wn la mq lc xo (nI r) km kl ko kq ek et ev ar tk ie oc rc kt ki kc f (dg_S (xr_r rc) i) (nI i))
    (fun m i => m + i = r)
    (fun v => v = dg_S (xr_r rc) r)
    (by
      rintro m i h1
      by_cases hi : i = r
      · subst hi
        refine Or.inl ⟨_, rfl, fun post f hp => ?_⟩
        rw [wX_digest_4]
        exact br_t (nI_le (Nat.le_refl _) (by omega)) hp
      · have hlt : i < r := by omega
        refine Or.inr ⟨m - 1, i + 1, by omega, by omega, fun post f hp => ?_⟩
        have e : dg_S (xr_r rc) (i + 1) = dg_S (xr_r rc) i + ((nI (i + 1)) * dg_1 (xr_r rc i)) := by
          rw [← nI_1]
          rfl
        rw [e] at hp
        rw [wX_digest_4]
        refine br_f (nI_ge hlt (by omega)) ?_
        simp (disch := omega) only [forall_eq, vp_in_nI, nI_clamp, pk_us, pk_un, true_and, ix_a0, ix_a1, ix_a2, ix_a3, ix_a4, ix_a5, ix_a6, ix_n7, ix_m7, ix_p1104, ix_p1524, nI_add]
        exact hp)
    r 0 (by omega)
  obtain ⟨_, rfl, h3⟩ := key
  exact fun post hp => ⟨r + 1, h3 post (r + 1) (by omega) hp⟩
end
def dg_f (j : Nat) : Int32 := match j with
  | 0 => 1
  | 1 => 3
  | 2 => 5
  | 3 => 7
  | 4 => 11
  | 5 => 13
  | _ => 17
def dg_I (x : Int32) (i : Nat) (c : Nat → Int32) : Nat → Int32
  | 0 => x
  | j + 1 => dg_I x i c j + (((nI i + 1) * dg_f j) * c j)
theorem dg_e (x : Int32) (i : Nat) (b : Nat → Int32) (o : Nat) : dg_I x i (fun j => b (o + j)) 7 = x + ((nI i + 1) * dg_1 (ro_at b o)) := by
  show x + ((nI i + 1) * 1 * b (o + 0)) + ((nI i + 1) * 3 * b (o + 1)) + ((nI i + 1) * 5 * b (o + 2)) + ((nI i + 1) * 7 * b (o + 3)) + ((nI i + 1) * 11 * b (o + 4)) + ((nI i + 1) * 13 * b (o + 5)) + ((nI i + 1) * 17 * b (o + 6)) = x + ((nI i + 1) * (((((((b o) + (3 * (b (o + 1)))) + (5 * (b (o + 2)))) + (7 * (b (o + 3)))) + (11 * (b (o + 4)))) + (13 * (b (o + 5)))) + (17 * (b (o + 6)))))
  rw [Nat.add_zero]
  generalize nI i + 1 = y
  generalize b o = b0
  generalize b (o + 1) = b1
  generalize b (o + 2) = b2
  generalize b (o + 3) = b3
  generalize b (o + 4) = b4
  generalize b (o + 5) = b5
  generalize b (o + 6) = b6
  grind
section
variable {kd dd pp la : Int32} {sz co va b cp : Nat → Int32}
theorem dg_fac {post : Int32 → Prop} {j : Nat} (hj : j < 7) (h : post (dg_f j)) : wpY_factor post (kd, dd, pp, la, sz, co, va, b, cp) (nI j) := by
  unfold wpY_factor
  dsimp only
  match j, hj with
  | 0, _ => exact br_t rfl h
  | 1, _ => exact br_f (by decide) (br_t rfl h)
  | 2, _ => exact br_f (by decide) (br_f (by decide) (br_t rfl h))
  | 3, _ => exact br_f (by decide) (br_f (by decide) (br_f (by decide) (br_t rfl h)))
  | 4, _ => exact br_f (by decide) (br_f (by decide) (br_f (by decide) (br_f (by decide) (br_t rfl h))))
  | 5, _ => exact br_f (by decide) (br_f (by decide) (br_f (by decide) (br_f (by decide) (br_f (by decide) (br_t rfl h)))))
  | 6, _ => exact br_f (by decide) (br_f (by decide) (br_f (by decide) (br_f (by decide) (br_f (by decide) (br_f (by decide) h)))))
theorem dg_in {i : Nat} (hi : i < 240) (x : Int32) : ∀ (P : Int32 → Prop) (J : Int32 → Int32 → Prop), J (x + ((nI i + 1) * dg_1 (yr_r b i))) (nI (i + 1)) → ∃ f, wY_digest_17 P J (nI i) kd dd pp la sz co va b cp f x 0 := by
  intro P J hJ
  have key := lo_ex (ρ := Unit) (σ := Nat)
    (fun post f j => post () → wY_digest_17 P J (nI i) kd dd pp la sz co va b cp f (dg_I x i (fun j => b (1524 + 7 * i + j)) j) (nI j))
    (fun m j => m + j = 7)
    (fun _ => True)
    (by
      rintro m j h1
      by_cases hj : j = 7
      · subst hj
        refine Or.inl ⟨(), trivial, fun post f _ _ => ?_⟩
        rw [wY_digest_17, dg_e]
        exact br_t (nI_le (a := 7) (b := 7) (Nat.le_refl _) (by decide)) (nm_r (nI_1 i) hJ)
      · have hlt : j < 7 := by omega
        refine Or.inr ⟨m - 1, j + 1, by omega, by omega, fun post f hp hq => ?_⟩
        have hp := hp hq
        rw [wY_digest_17]
        refine br_f (nI_ge (a := j) (b := 7) hlt (by decide)) (dg_fac hlt ?_)
        have e : dg_I x i (fun j => b (1524 + 7 * i + j)) (j + 1) = dg_I x i (fun j => b (1524 + 7 * i + j)) j + (((nI (i + 1)) * dg_f j) * b (1524 + 7 * i + j)) := by
          rw [← nI_1]
          rfl
        rw [e] at hp
        simp (disch := omega) only [forall_eq, vp_in_nI, nI_clamp, pk_us, pk_un, true_and, ix_a0, ix_a1, ix_a2, ix_a3, ix_a4, ix_a5, ix_a6, ix_n7, ix_m7, ix_p1104, ix_p1524, nI_add]
        exact hp)
    7 0 (by omega)
  obtain ⟨_, _, h3⟩ := key
  exact ⟨8, h3 (fun _ => True) 8 (by omega) trivial trivial⟩
theorem dg_y {r : Nat} (hr : r ≤ 240) (h11 : b 11 = nI r) : ∀ post : Int32 → Prop, post (dg_S (yr_r b) r) → wpY_digest post (kd, dd, pp, la, sz, co, va, b, cp) := by
  have key := lo_ex (ρ := Int32) (σ := Nat)
    (fun post f i => wY_digest_4 post kd dd pp la sz co va b cp f (dg_S (yr_r b) i) (nI i))
    (fun m i => m + i = r)
    (fun v => v = dg_S (yr_r b) r)
    (by
      rintro m i h1
      by_cases hi : i = r
      · subst hi
        refine Or.inl ⟨_, rfl, fun post f hp => ?_⟩
        rw [wY_digest_4, h11]
        exact br_t (nI_le (Nat.le_refl _) (by omega)) hp
      · have hlt : i < r := by omega
        refine Or.inr ⟨m - 1, i + 1, by omega, by omega, fun post f hp => ?_⟩
        rw [wY_digest_4, h11]
        exact br_f (nI_ge hlt (by omega)) (dg_in (by omega) _ _ _ hp))
    r 0 (by omega)
  obtain ⟨_, rfl, h3⟩ := key
  exact fun post hp => ⟨r + 1, h3 post (r + 1) (by omega) hp⟩
end
theorem i_vc_digest {k : Nat} {u : SX} {v : SY} (I : i_Rel k u v) (hk : k + 3 ≤ 1540) : wpX_digest (fun r => wpY_digest (fun r' => r' = r ∧ i_Rel (k + 3) u v) v) u := by
  have I0 := I
  obtain ⟨kd, wd, wn, la, mq, lc, xo, xq, km, kl, ko, kq, ek, et, ev, ar, tk, ie, oc, rc, kt, ki, kc⟩ := u
  obtain ⟨kd', dd, pp, la', sz, co, va, b, cp⟩ := v
  obtain ⟨g1, g2, g3, g4, g5, dn, W, ln, an, n, r, n2, r2, e1, e2, e3, e4, e5, hr2, hS, hN, hK⟩ := I
  subst g1 g2 g3 g4 g5 e1 e2 e3 e4 e5
  have hnr := rl_nr hS hN
  obtain ⟨tn, sn, t1, ⟨t2, t3, t4, t5, t6⟩, t7, t8, t9, t10⟩ := hN
  refine dg_x (by omega) _ (dg_y (r := r) (by omega) t5 _ ⟨?_, I0⟩)
  exact dg_c r (fun i hi => (li_inj t10 hi).symm)
/-! the beginning -/
theorem in_cl (x : Int32) (lo hi : Nat) (h : lo ≤ hi) (hh : hi < 1000) : ∃ m, lo ≤ m ∧ m ≤ hi ∧ (∀ post : Int32 → Prop, post (nI m) → wpX_clamp post x (nI lo) (nI hi)) ∧ (∀ (post : Int32 → Prop) (u : SY), post (nI m) → wpY_clamp post u x (nI lo) (nI hi)) := by
  by_cases a : nI lo ≤ x
  · by_cases c : x ≤ nI hi
    · obtain ⟨m, hm, rfl⟩ := nI_of (x := x) (by
        intro z
        have h0 := nI_pos (n := lo) (by omega)
        rw [ii_le] at a
        rw [ii_lt] at z h0
        omega)
      have a1 := (nI_leI (by omega) hm).mp a
      have c1 := (nI_leI hm (by omega)).mp c
      refine ⟨m, a1, c1, fun post hp => br_t a (br_t c hp), fun post u hp => ?_⟩
      obtain ⟨kd, dd, pp, la, sz, co, va, b, cp⟩ := u
      exact br_t a (br_t c hp)
    · refine ⟨hi, h, Nat.le_refl _, fun post hp => br_t a (br_f c hp), fun post u hp => ?_⟩
      obtain ⟨kd, dd, pp, la, sz, co, va, b, cp⟩ := u
      exact br_t a (br_f c hp)
  · refine ⟨lo, Nat.le_refl _, h, fun post hp => br_f a hp, fun post u hp => ?_⟩
    obtain ⟨kd, dd, pp, la, sz, co, va, b, cp⟩ := u
    exact br_f a hp
def in_b : Nat → Int32 := upd (upd (upd (upd (fun _ => 0) 6 (-1)) 7 (-1)) 8 (-1)) 9 (-1000)
theorem in_b0 (j : Nat) (h : j < 6 ∨ 10 ≤ j) : in_b j = 0 := by
  unfold in_b
  rw [pk_un (by omega), pk_un (by omega), pk_un (by omega), pk_un (by omega)]
theorem in_N {kd d p : Int32} {W : Nat} {et : Nat → Int32} {cc : Nat → Int32} (hc : ∀ j, j < 3316 → cc j = in_b j) : rl_N kd d p W et (fun _ => 0) (fun _ => 0) (fun _ => 0) (fun _ => 0) (fun _ => 0) (-1000) 0 0 0 cc := by
  have hw : ∀ q, q < 272 → cc (wy_a q) = 0 := fun q hq => by
    have := wy_lt hq
    rw [hc _ (by omega)]
    exact in_b0 _ (by omega)
  refine ⟨fun _ => 0, 0, ?_, ⟨?_, by decide, ?_, ?_, ?_⟩, ⟨fun r hr => (by cases hr), fun _ => ⟨List.Perm.refl _, hw, List.Pairwise.nil, fun r hr => (by cases hr)⟩, fun _ => ⟨?_, rfl, fun q hq => by rw [hw q hq]; exact Int32.le_refl _⟩⟩, Nat.zero_le _, Nat.zero_le _, rfl⟩
  · intro s hs
    refine ⟨rfl, Nat.le_refl _, ?_, ?_, Or.inl rfl, ?_⟩
    · rw [hc s (by omega)]
      exact in_b0 s (by omega)
    · rw [hc (3 + s) (by omega)]
      exact in_b0 (3 + s) (by omega)
    · rw [hc (6 + s) (by omega)]
      have hs3 : s = 0 ∨ s = 1 ∨ s = 2 := by omega
      rcases hs3 with rfl | rfl | rfl <;> rfl
  · rw [hc 9 (by omega)]; rfl
  · rw [hc 10 (by omega)]; rfl
  · rw [hc 11 (by omega)]; rfl
  · rw [hc 12 (by omega)]; rfl
  · rw [wy_nil hw]
    exact List.Perm.refl _
theorem in_y (kd dd pp la : Int32) : ∃ cp' : Nat → Int32, (∀ j, j < 3316 → cp' j = in_b j) ∧ ∀ post : SY → Prop, post (kd, dd, pp, la, (fun _ => 0), (fun _ => 0), (fun _ => 0), in_b, cp') → ∃ n, wY_init_115 post kd dd pp la n 0 (fun _ => 0) (fun _ => 0) (fun _ => 0) (fun _ => 0) (fun _ => 0) := by
  obtain ⟨cp', h1, h2⟩ := kp_y (kd := kd) (dd := dd) (pp := pp) (la := la) (sz := fun _ => 0) (co := fun _ => 0) (va := fun _ => 0) (b := in_b) (cp := fun _ => 0)
  refine ⟨cp', h1, fun post hp => ⟨4, ?_⟩⟩
  rw [wY_init_115]
  refine br_f (by decide) ⟨vp_in_iff.mpr (by decide), nm_e (nm_r (e' := nI 1) rfl ?_)⟩
  rw [wY_init_115]
  refine br_f (by decide) ⟨vp_in_iff.mpr (by decide), nm_e (nm_r (e' := nI 2) rfl ?_)⟩
  rw [wY_init_115]
  refine br_f (by decide) ⟨vp_in_iff.mpr (by decide), nm_e (nm_r (e' := nI 3) rfl ?_)⟩
  rw [wY_init_115]
  refine br_t (by decide) (nm_r (e' := in_b) ?_ (h2 _ hp))
  rfl
theorem in_all {m0 m1 W m3 : Nat} {p : Int32} (h0 : m0 ≤ 2) (hW2 : m0 = 2 → W = 1) (h1 : 1 ≤ m1) (h1' : m1 ≤ 8) (hW : 1 ≤ W) (hW4 : W ≤ 4) (h3 : m3 ≤ 20) (hp : p = nI m1 * nI W) {cp' : Nat → Int32} (hc : ∀ j, j < 3316 → cp' j = in_b j) : i_Rel 4 (nI m0, nI m1, nI W, nI m3, -1000, 0, 0, 0, -1000, 0, 0, 0, (fun _ => 0), (fun _ => 0), (fun _ => 0), (fun _ => 0), (fun _ => 0), (fun _ => 0), (fun _ => 0), (fun _ => 0), (fun _ => 0), (fun _ => 0), (fun _ => 0)) (nI m0, nI m1, p, nI m3, (fun _ => 0), (fun _ => 0), (fun _ => 0), in_b, cp') := by
  have hm : m0 = 0 ∨ m0 = 1 ∨ m0 = 2 := by omega
  refine ⟨rfl, rfl, rfl, rfl, rfl, m1, W, m3, fun _ => 0, 0, 0, 0, 0, rfl, rfl, rfl, rfl, rfl, Nat.le_refl _, ⟨?_, ?_, rfl, h1, h1', hW, hW4, hp, rfl, h3, fun s _ => ⟨rfl, Nat.zero_le _⟩, fun j => ⟨0, by omega, rfl, rfl, rfl⟩⟩, in_N (fun j _ => rfl), in_N hc⟩
  · rcases hm with rfl | rfl | rfl
    · exact Or.inl rfl
    · exact Or.inr (Or.inl rfl)
    · exact Or.inr (Or.inr rfl)
  · intro z
    exact hW2 ((nI_eq (b := 2) (by omega) (by omega)).mp z)
theorem i_vc0 (k0 : Int32) (k1 : Int32) (k2 : Int32) (k3 : Int32) : wpX_init (fun u => wpY_init (fun v => i_Rel 4 u v) k0 k1 k2 k3) k0 k1 k2 k3 := by
  obtain ⟨m0, _, a2, a3, a4⟩ := in_cl k0 0 2 (by omega) (by omega)
  obtain ⟨m1, b1, b2, b3, b4⟩ := in_cl k1 1 8 (by omega) (by omega)
  obtain ⟨m2, c1, c2, c3, c4⟩ := in_cl k2 1 4 (by omega) (by omega)
  obtain ⟨m3, _, d2, d3, d4⟩ := in_cl k3 0 20 (by omega) (by omega)
  unfold wpX_init wX_init_174
  refine a3 _ ?_
  refine b3 _ ?_
  by_cases z : nI m0 = 1
  · have hm0 : m0 = 1 := (nI_eq (b := 1) (by omega) (by omega)).mp z
    refine br_t z ?_
    refine c3 _ ?_
    refine d3 _ ?_
    unfold wpY_init wY_init_96
    refine a4 _ _ ?_
    refine b4 _ _ ?_
    refine br_t z ?_
    refine c4 _ _ ?_
    refine d4 _ _ ?_
    obtain ⟨cp', e1, e2⟩ := in_y (nI m0) (nI m1) (nI m1 * nI m2) (nI m3)
    exact e2 _ (in_all a2 (by omega) b1 b2 c1 c2 d2 rfl e1)
  · refine br_f z ?_
    refine d3 _ ?_
    unfold wpY_init wY_init_96
    refine a4 _ _ ?_
    refine b4 _ _ ?_
    refine br_f z ?_
    refine d4 _ _ ?_
    obtain ⟨cp', e1, e2⟩ := in_y (nI m0) (nI m1) (nI m1) (nI m3)
    exact e2 _ (in_all (W := 1) a2 (fun _ => rfl) b1 b2 (by omega) (by omega) d2 (Int32.mul_one _).symm e1)
end
