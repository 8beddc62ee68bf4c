/-! what is kept and the small answers -/
section
theorem rl_T {kd d p la : Int32} {dn W ln : Nat} {an : Nat → Nat} {ek et ar co : Nat → Int32} {tn : Nat → Nat} (hS : rl_S kd d p la dn W ln an ek et ar co) (h : ∀ s, s < 3 → tn s ≤ an s) : tn 0 + tn 1 + tn 2 ≤ 60 ∧ W * (tn 0 + tn 1 + tn 2) ≤ 240 := by
  have s11 := hS.2.2.2.2.2.2.2.2.2.2.1
  have s7 := hS.2.2.2.2.2.2.1
  have a0 := h 0 (by omega)
  have a1 := h 1 (by omega)
  have a2 := h 2 (by omega)
  have b0 := (s11 0 (by omega)).2
  have b1 := (s11 1 (by omega)).2
  have b2 := (s11 2 (by omega)).2
  have hT : tn 0 + tn 1 + tn 2 ≤ 60 := by omega
  have := Nat.mul_le_mul s7 hT
  omega
theorem rl_nr {kd d p la : Int32} {dn W ln : Nat} {an : Nat → Nat} {ek et ar co tk ie c rc b : Nat → Int32} {mq lt : Int32} {n r : Nat} (hS : rl_S kd d p la dn W ln an ek et ar co) (hN : rl_N kd d p W et an tk ie c rc mq lt n r b) : n + r ≤ 240 := by
  obtain ⟨tn, sn, t1, _, _, _, t9, _⟩ := hN
  have := rl_T hS (fun s hs => (t1 s hs).2.1)
  omega
theorem rl_Nc {kd d p la : Int32} {dn W ln : Nat} {an : Nat → Nat} {ek et ar co tk ie c rc b b' : Nat → Int32} {mq lt : Int32} {n r : Nat} (hS : rl_S kd d p la dn W ln an ek et ar co) (hN : rl_N kd d p W et an tk ie c rc mq lt n r b) (h : ∀ j, j < 3316 → b' j = b j) : rl_N kd d p W et an tk ie c rc mq lt n r b' := by
  have hnr := rl_nr hS hN
  obtain ⟨tn, sn, t1, ⟨t2, t3, t4, t5, t6⟩, t7, t8, t9, t10⟩ := hN
  have hT := rl_T hS (fun s hs => (t1 s hs).2.1)
  have hsn := bo_sn t7 hS.2.1 t8 hT.1
  refine ⟨tn, sn, ?_, ⟨?_, t3, ?_, ?_, ?_⟩, rl_Bc t7 (by omega) (fun j h1 h2 => h j (by omega)), t8, t9, ?_⟩
  · intro s hs
    rw [h s (by omega), h (3 + s) (by omega), h (6 + s) (by omega)]
    exact t1 s hs
  · rw [h 9 (by omega)]; exact t2
  · rw [h 10 (by omega)]; exact t4
  · rw [h 11 (by omega)]; exact t5
  · rw [h 12 (by omega)]; exact t6
  · rw [t10]
    exact (yr_c (fun j h1 h2 => h j (by omega))).symm
theorem rl_Nx {kd d p la : Int32} {dn W ln : Nat} {an : Nat → Nat} {ek et ar co tk ie c rc b tk' ie' c' : Nat → Int32} {mq lt : Int32} {n r : Nat} (hS : rl_S kd d p la dn W ln an ek et ar co) (hN : rl_N kd d p W et an tk ie c rc mq lt n r b) (h : ∀ s, s < 3 → tk' s = tk s ∧ ie' s = ie s) (h2 : ∀ j, j < 1680 → c' j = c j) : rl_N kd d p W et an tk' ie' c' rc mq lt n r b := by
  have hnr := rl_nr hS hN
  obtain ⟨tn, sn, t1, t2, t7, t8, t9, t10⟩ := hN
  have e : xr_L c' n = xr_L c n := li_cg (fun i hi => ro_at_cg (fun j h3 h4 => h2 j (by omega)))
  refine ⟨tn, sn, ?_, t2, by rw [e]; exact t7, by rw [e]; exact t8, t9, t10⟩
  intro s hs
  rw [(h s hs).1, (h s hs).2]
  exact t1 s hs
theorem rl_Nr {kd d p : Int32} {W : Nat} {an : Nat → Nat} {et tk ie c rc rc' b : Nat → Int32} {mq lt : Int32} {n r r2 : Nat} (hN : rl_N kd d p W et an tk ie c rc mq lt n r2 b) (hr : r2 ≤ r) (h : ∀ j, j < r * 7 → rc' j = rc j) : rl_N kd d p W et an tk ie c rc' mq lt n r2 b := by
  obtain ⟨tn, sn, t1, t2, t7, t8, t9, t10⟩ := hN
  refine ⟨tn, sn, t1, t2, t7, t8, t9, ?_⟩
  rw [← t10]
  exact li_cg (fun i hi => ro_at_cg (fun j h3 h4 => h j (by omega)))
theorem rl_Na {kd d p : Int32} {W : Nat} {an an' : Nat → Nat} {et et' tk ie c rc b : Nat → Int32} {mq lt : Int32} {n r : Nat} (hN : rl_N kd d p W et an tk ie c rc mq lt n r b) (h1 : ∀ s, s < 3 → an s ≤ an' s) (h2 : ∀ s, s < 3 → ∀ i, i < an s → et' (s * 20 + i) = et (s * 20 + i)) : rl_N kd d p W et' an' tk ie c rc mq lt n r b := by
  obtain ⟨tn, sn, t1, t2, t7, t8, t9, t10⟩ := hN
  refine ⟨tn, sn, ?_, t2, t7, t8, t9, t10⟩
  intro s hs
  obtain ⟨f1, f2, f3, f4, f5, f6⟩ := t1 s hs
  refine ⟨f1, Nat.le_trans f2 (h1 s hs), f3, f4, f5, ?_⟩
  rw [f6]
  exact mk_tpg (tn s) (fun i hi => (h2 s hs i (by omega)).symm)
theorem i_vc_mark {k : Nat} {u : SX} {v : SY} (I : i_Rel k u v) (hk : k + 3 ≤ 1540) : wpX_mark (fun r => wpY_mark (fun r' => r' = r ∧ i_Rel (k + 3) u v) v) u := by
  have I0 := I
  obtain ⟨kd, wd, wn, la, mq, lc, xo, xq, km, kl, ko, kq, ek, et, ev, ar, tk, ie, oc, rc, kt, ki, kc⟩ := u
  obtain ⟨kd', dd, pp, la', sz, co, va, b, cp⟩ := v
  obtain ⟨g1, g2, g3, g4, g5, dn, W, ln, an, n, r, n2, r2, e1, e2, e3, e4, e5, hr2, hS, hN, hK⟩ := I
  subst g1 g2 g3 g4 g5 e1 e2 e3 e4 e5
  obtain ⟨tn, sn, t1, ⟨t2, t3, t4, t5, t6⟩, t7, t8, t9, t10⟩ := hN
  exact ⟨t2, I0⟩
theorem i_vc_results {k : Nat} {u : SX} {v : SY} (I : i_Rel k u v) (hk : k + 3 ≤ 1540) : wpX_results (fun r => wpY_results (fun r' => r' = r ∧ i_Rel (k + 3) u v) v) u := by
  have I0 := I
  obtain ⟨kd, wd, wn, la, mq, lc, xo, xq, km, kl, ko, kq, ek, et, ev, ar, tk, ie, oc, rc, kt, ki, kc⟩ := u
  obtain ⟨kd', dd, pp, la', sz, co, va, b, cp⟩ := v
  obtain ⟨g1, g2, g3, g4, g5, dn, W, ln, an, n, r, n2, r2, e1, e2, e3, e4, e5, hr2, hS, hN, hK⟩ := I
  subst g1 g2 g3 g4 g5 e1 e2 e3 e4 e5
  obtain ⟨tn, sn, t1, ⟨t2, t3, t4, t5, t6⟩, t7, t8, t9, t10⟩ := hN
  exact ⟨t5, I0⟩
theorem i_vc_late {k : Nat} {u : SX} {v : SY} (I : i_Rel k u v) (hk : k + 3 ≤ 1540) : wpX_late (fun r => wpY_late (fun r' => r' = r ∧ i_Rel (k + 3) u v) v) u := by
  have I0 := I
  obtain ⟨kd, wd, wn, la, mq, lc, xo, xq, km, kl, ko, kq, ek, et, ev, ar, tk, ie, oc, rc, kt, ki, kc⟩ := u
  obtain ⟨kd', dd, pp, la', sz, co, va, b, cp⟩ := v
  obtain ⟨g1, g2, g3, g4, g5, dn, W, ln, an, n, r, n2, r2, e1, e2, e3, e4, e5, hr2, hS, hN, hK⟩ := I
  subst g1 g2 g3 g4 g5 e1 e2 e3 e4 e5
  obtain ⟨tn, sn, t1, ⟨t2, t3, t4, t5, t6⟩, t7, t8, t9, t10⟩ := hN
  exact ⟨t4, I0⟩
theorem i_vc_kept {k : Nat} {u : SX} {v : SY} (I : i_Rel k u v) (hk : k + 3 ≤ 1540) : wpX_kept (fun r => wpY_kept (fun r' => r' = r ∧ i_Rel (k + 3) u v) v) u := by
  have I0 := I
  obtain ⟨kd, wd, wn, la, mq, lc, xo, xq, km, kl, ko, kq, ek, et, ev, ar, tk, ie, oc, rc, kt, ki, kc⟩ := u
  obtain ⟨kd', dd, pp, la', sz, co, va, b, cp⟩ := v
  obtain ⟨g1, g2, g3, g4, g5, dn, W, ln, an, n, r, n2, r2, e1, e2, e3, e4, e5, hr2, hS, hN, hK⟩ := I
  subst g1 g2 g3 g4 g5 e1 e2 e3 e4 e5
  obtain ⟨tn, sn, t1, ⟨t2, t3, t4, t5, t6⟩, t7, t8, t9, t10⟩ := hK
  exact ⟨t5, I0⟩
/-- good sources -/
theorem so_3 (x : Int32) : (x < 0 ∨ 3 ≤ x) ∨ ∃ s : Nat, s < 3 ∧ x = nI s := by
  by_cases h : x < 0
  · exact Or.inl (Or.inl h)
  · obtain ⟨j, hj, rfl⟩ := nI_of h
    by_cases h2 : j < 3
    · exact Or.inr ⟨j, h2, rfl⟩
    · exact Or.inl (Or.inr (nI_le (a := 3) (by omega) hj))
theorem so_xb {post : Int32 → Prop} {x : Int32} (h : x < 0 ∨ 3 ≤ x) (hp : post 0) : wpX_isSource post x := by
  unfold wpX_isSource
  by_cases z : x < 0
  · exact br_t z hp
  · rcases h with h | h
    · exact absurd h z
    · exact br_f z (br_t h hp)
theorem so_xg {post : Int32 → Prop} {s : Nat} (h : s < 3) (hp : post 1) : wpX_isSource post (nI s) := br_f (nI_pos (by omega)) (br_f (nI_ge (b := 3) h (by decide)) hp)
theorem so_yb {post : Int32 → Prop} {x : Int32} {v : SY} (h : x < 0 ∨ 3 ≤ x) (hp : post 1) : wpY_badSource post v x := by
  obtain ⟨kd, dd, pp, la, sz, co, va, b, cp⟩ := v
  unfold wpY_badSource
  dsimp only
  by_cases z : x < 0
  · exact br_t z hp
  · rcases h with h | h
    · exact absurd h z
    · refine br_f z (br_f (fun y => ?_) hp)
      rw [ii_le] at h y
      have e3 : (3 : Int32).toInt = 3 := by decide
      have e2 : (2 : Int32).toInt = 2 := by decide
      omega
theorem so_yg {post : Int32 → Prop} {s : Nat} {v : SY} (h : s < 3) (hp : post 0) : wpY_badSource post v (nI s) := by
  obtain ⟨kd, dd, pp, la, sz, co, va, b, cp⟩ := v
  exact br_f (nI_pos (by omega)) (br_t (nI_le (b := 2) (by omega) (by decide)) hp)
theorem i_vc_position {k : Nat} {u : SX} {v : SY} (I : i_Rel k u v) (hk : k + 3 ≤ 1540) (v1 : Int32) : wpX_position (fun r => wpY_position (fun r' => r' = r ∧ i_Rel (k + 3) u v) v v1) u v1 := by
  have I0 := I
  obtain ⟨kd, wd, wn, la, mq, lc, xo, xq, km, kl, ko, kq, ek, et, ev, ar, tk, ie, oc, rc, kt, ki, kc⟩ := u
  obtain ⟨kd', dd, pp, la', sz, co, va, b, cp⟩ := v
  obtain ⟨g1, g2, g3, g4, g5, dn, W, ln, an, n, r, n2, r2, e1, e2, e3, e4, e5, hr2, hS, hN, hK⟩ := I
  subst g1 g2 g3 g4 g5 e1 e2 e3 e4 e5
  obtain ⟨tn, sn, t1, t2, t7, t8, t9, t10⟩ := hN
  unfold wpX_position wpY_position
  dsimp only
  rcases so_3 v1 with h | ⟨s, hs, rfl⟩
  · refine so_xb h ?_
    refine br_t rfl ?_
    refine so_yb h ?_
    exact br_f (by decide) ⟨rfl, I0⟩
  · refine so_xg hs ?_
    refine br_f (by decide) ⟨vp_in_nI hs (by omega), ?_⟩
    refine so_yg hs ?_
    refine br_t rfl ⟨vp_in_nI (by omega) (by omega), ?_, I0⟩
    rw [nI_clamp (by omega), (t1 s hs).1]
    exact (t1 s hs).2.2.1
theorem i_vc_result {k : Nat} {u : SX} {v : SY} (I : i_Rel k u v) (hk : k + 3 ≤ 1540) (v1 : Int32) (v2 : Int32) : wpX_result (fun r => wpY_result (fun r' => r' = r ∧ i_Rel (k + 3) u v) v v1 v2) u v1 v2 := by
  have I0 := I
  obtain ⟨kd, wd, wn, la, mq, lc, xo, xq, km, kl, ko, kq, ek, et, ev, ar, tk, ie, oc, rc, kt, ki, kc⟩ := u
  obtain ⟨kd', dd, pp, la', sz, co, va, b, cp⟩ := v
  obtain ⟨g1, g2, g3, g4, g5, dn, W, ln, an, n, r, n2, r2, e1, e2, e3, e4, e5, hr2, hS, hN, hK⟩ := I
  subst g1 g2 g3 g4 g5 e1 e2 e3 e4 e5
  have hnr := rl_nr hS hN
  obtain ⟨tn, sn, t1, ⟨t2, t3, t4, t5, t6⟩, t7, t8, t9, t10⟩ := hN
  unfold wpX_result wpY_result
  dsimp only
  rw [t5]
  by_cases a : v1 < 0
  · exact br_t a (br_t a ⟨rfl, I0⟩)
  · obtain ⟨i, hi, rfl⟩ := nI_of a
    by_cases c : nI r ≤ nI i
    · exact br_f a (br_t c (br_f a (br_t c ⟨rfl, I0⟩)))
    · by_cases d : v2 < 0
      · exact br_f a (br_f c (br_t d (br_f a (br_f c (br_t d ⟨rfl, I0⟩)))))
      · obtain ⟨w, hw, rfl⟩ := nI_of d
        have hir : i < r := by
          refine Nat.lt_of_not_le (fun z => c (nI_le z hi))
        by_cases e : w < 7
        · have x7 : nI w < 7 := nI_lt (b := 7) e (by decide)
          have x6 : nI w ≤ 6 := nI_le (b := 6) (by omega) (by decide)
          refine br_f a (br_f c (br_f d (br_t x7 ?_)))
          simp (disch := omega) only [forall_eq, vp_in_nI, nI_clamp, pk_us, pk_un, true_and, ix_a0, ix_a1, ix_a2, ix_a3, ix_a4, ix_a5, ix_a6, ix_n7, ix_m7, ix_p1104, ix_p1524, nI_add]
          refine br_f a (br_f c (br_f d (br_t x6 ⟨?_, I0⟩)))
          have h1 := li_inj t10 hir
          exact (ro_at_i h1 w e).symm
        · have x7 : ¬ nI w < 7 := fun z => e ((nI_ltI (b := 7) hw (by decide)).mp z)
          have x6 : ¬ nI w ≤ 6 := fun z => e (by have := (nI_leI (b := 6) hw (by decide)).mp z; omega)
          exact br_f a (br_f c (br_f d (br_f x7 (br_f a (br_f c (br_f d (br_f x6 ⟨rfl, I0⟩)))))))
end
