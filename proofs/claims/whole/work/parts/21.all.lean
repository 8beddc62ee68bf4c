/-! readAll -/
section
def mo_s (un : Nat → Nat) : Nat → Nat
  | 0 => 0
  | 1 => 0
  | k + 2 => if un (k + 1) ≤ un (mo_s un (k + 1)) then mo_s un (k + 1) else k + 1
theorem mo_p (un : Nat → Nat) : ∀ k, mo_s un (k + 1) ≤ k ∧ ∀ s, s ≤ k → un s ≤ un (mo_s un (k + 1)) := by
  intro k
  induction k with
  | zero =>
    refine ⟨Nat.le_refl _, fun s hs => ?_⟩
    have : s = 0 := by omega
    subst this
    exact Nat.le_refl _
  | succ k ih =>
    obtain ⟨h1, h2⟩ := ih
    by_cases z : un (k + 1) ≤ un (mo_s un (k + 1))
    · have e : mo_s un (k + 1 + 1) = mo_s un (k + 1) := if_pos z
      rw [e]
      refine ⟨by omega, fun s hs => ?_⟩
      by_cases y : s = k + 1
      · rw [y]; exact z
      · exact h2 s (by omega)
    · have e : mo_s un (k + 1 + 1) = k + 1 := if_neg z
      rw [e]
      refine ⟨Nat.le_refl _, fun s hs => ?_⟩
      by_cases y : s = k + 1
      · rw [y]; exact Nat.le_refl _
      · have := h2 s (by omega)
        omega
section
variable {kd wd wn la mq lc xo xq km kl ko kq : Int32} {ek et ev ar tk ie oc rc kt ki kc : Nat → Int32}
theorem mo_x {un : Nat → Nat} (hu : ∀ s, s < 3 → ar s - tk s = nI (un s) ∧ un s ≤ 20) : ∀ post : Int32 → Prop, post (nI (mo_s un 3)) → wpX_sourceWithMostUnread post (kd, wd, wn, la, mq, lc, xo, xq, km, kl, ko, kq, ek, et, ev, ar, tk, ie, oc, rc, kt, ki, kc) := by
  have key := lo_ex (ρ := Int32) (σ := Nat)
    (fun post f s => wX_sourceWithMostUnread_4 post kd wd wn la mq lc xo xq km kl ko kq ek et ev ar tk ie oc rc kt ki kc f (nI (mo_s un (s + 1))) (nI (s + 1)))
    (fun m s => m + s = 2)
    (fun r => r = nI (mo_s un 3))
    (by
      rintro m s h1
      by_cases hs : s = 2
      · subst hs
        refine Or.inl ⟨_, rfl, fun post f hp => ?_⟩
        rw [wX_sourceWithMostUnread_4]
        exact br_t (nI_le (a := 3) (b := 3) (Nat.le_refl _) (by decide)) hp
      · have hlt : s + 1 < 3 := by omega
        have hmo : mo_s un (s + 1) < 3 := by have := (mo_p un s).1; omega
        refine Or.inr ⟨m - 1, s + 1, by omega, by omega, fun post f hp => ?_⟩
        rw [wX_sourceWithMostUnread_4]
        refine br_f (nI_ge (a := s + 1) (b := 3) hlt (by decide)) ?_
        unfold wpX_unread
        dsimp only
        simp (disch := omega) only [forall_eq, vp_in_nI, nI_clamp, pk_us, pk_un, true_and, ix_a0, ix_a1, ix_a2, ix_a3, ix_a4, ix_a5, ix_a6, ix_n7, ix_m7, ix_p1104, ix_p1524, nI_add, (hu (s + 1) hlt).1, (hu _ hmo).1]
        have e : mo_s un (s + 1 + 1) = if un (s + 1) ≤ un (mo_s un (s + 1)) then mo_s un (s + 1) else s + 1 := rfl
        rw [e] at hp
        by_cases z : un (s + 1) ≤ un (mo_s un (s + 1))
        · rw [if_pos z] at hp
          exact br_t (nI_le z (by have := (hu _ hmo).2; omega)) hp
        · rw [if_neg z] at hp
          exact br_f (nI_ge (by omega) (by have := (hu _ hlt).2; omega)) hp)
    2 0 (by omega)
  obtain ⟨_, rfl, h3⟩ := key
  exact fun post hp => ⟨3, h3 post 3 (by omega) hp⟩
end
section
variable {kd dd pp la : Int32} {sz co va b cp : Nat → Int32}
theorem mo_y {un : Nat → Nat} (hu : ∀ s, s < 3 → sz s - b s = nI (un s) ∧ un s ≤ 20) : ∀ (P : Int32 → SY → Prop) (J : Int32 → Int32 → Int32 → Int32 → Int32 → (Nat → Int32) → (Nat → Int32) → (Nat → Int32) → (Nat → Int32) → (Nat → Int32) → Prop) (x1 : Int32), wpY_read (fun r u => match u with | (kd, dd, pp, la, sz, co, va, b, cp) => ∀ x : Int32, x = x1 + 1 → J x kd dd pp la sz co va b cp) (kd, dd, pp, la, sz, co, va, b, cp) (nI (mo_s un 3)) → ∃ f, wY_readAll_49 P J x1 kd dd pp la sz co va b cp f 0 1 := by
  intro P J x1 hJ
  have key := lo_ex (ρ := Unit) (σ := Nat)
    (fun post f s => post () → wY_readAll_49 P J x1 kd dd pp la sz co va b cp f (nI (mo_s un (s + 1))) (nI (s + 1)))
    (fun m s => m + s = 2)
    (fun _ => True)
    (by
      rintro m s h1
      by_cases hs : s = 2
      · subst hs
        refine Or.inl ⟨(), trivial, fun post f _ _ => ?_⟩
        rw [wY_readAll_49]
        exact br_t (nI_le (a := 3) (b := 3) (Nat.le_refl _) (by decide)) hJ
      · have hlt : s + 1 < 3 := by omega
        have hmo : mo_s un (s + 1) < 3 := by have := (mo_p un s).1; omega
        refine Or.inr ⟨m - 1, s + 1, by omega, by omega, fun post f hp hq => ?_⟩
        have hp := hp hq
        rw [wY_readAll_49]
        refine br_f (nI_ge (a := s + 1) (b := 3) hlt (by decide)) ?_
        simp (disch := omega) only [forall_eq, vp_in_nI, nI_clamp, pk_us, pk_un, true_and, ix_a0, ix_a1, ix_a2, ix_a3, ix_a4, ix_a5, ix_a6, ix_n7, ix_m7, ix_p1104, ix_p1524, nI_add, (hu (s + 1) hlt).1, (hu _ hmo).1]
        have e : mo_s un (s + 1 + 1) = if un (s + 1) ≤ un (mo_s un (s + 1)) then mo_s un (s + 1) else s + 1 := rfl
        rw [e] at hp
        by_cases z : un (s + 1) ≤ un (mo_s un (s + 1))
        · rw [if_pos z] at hp
          exact br_t (nI_le z (by have := (hu _ hmo).2; omega)) hp
        · rw [if_neg z] at hp
          exact br_f (nI_ge (by omega) (by have := (hu _ hlt).2; omega)) hp)
    2 0 (by omega)
  obtain ⟨_, _, h3⟩ := key
  exact ⟨3, h3 (fun _ => True) 3 (by omega) trivial trivial⟩
end
section
variable {kd wd la km kl : Int32} {ek et ev ar ie kt ki kc : Nat → Int32}
variable {pp : Int32} {co cp : Nat → Int32} {dn W ln n2 r2 : Nat} {an : Nat → Nat}
theorem mo_all (hS : rl_S kd wd pp la dn W ln an ek et ar co) : ∀ (U i n r : Nat) (mq lc : Int32) (tk oc rc b : Nat → Int32), i + U ≤ 60 → r2 ≤ r → rl_N kd wd pp W et an tk ie oc rc mq lc n r b → rl_N kd wd pp W et an kt ki kc rc km kl n2 r2 cp → (∃ tn : Nat → Nat, (∀ s, s < 3 → tk s = nI (tn s) ∧ b s = nI (tn s) ∧ tn s ≤ an s) ∧ tn 0 + tn 1 + tn 2 + U = an 0 + an 1 + an 2) →
    ∃ (u' : SX) (v' : SY), rl_P u' v' ∧ (∀ (post : Int32 → SX → Prop) (f : Nat), U < f → post (nI (i + U)) u' → wX_readAll_4 post f (nI i) (nI i) kd wd (nI W) la mq lc (nI n) (nI r) km kl (nI n2) (nI r2) ek et ev ar tk ie oc rc kt ki kc) ∧ (∀ (post : Int32 → SY → Prop) (f : Nat), U < f → post (nI (i + U)) v' → wY_readAll_2 post f (nI i) kd (wd) pp la (ar) co (ev) b cp) := by
  intro U
  have s11 := hS.2.2.2.2.2.2.2.2.2.2.1
  induction U with
  | zero =>
    intro i n r mq lc tk oc rc b hi hr hN hK ⟨tn, h1, h2⟩
    have hall : ∀ s, s < 3 → tn s = an s := by
      have a0 := (h1 0 (by omega)).2.2
      have a1 := (h1 1 (by omega)).2.2
      have a2 := (h1 2 (by omega)).2.2
      intro s hs
      have hs3 : s = 0 ∨ s = 1 ∨ s = 2 := by omega
      rcases hs3 with rfl | rfl | rfl <;> omega
    have hun : ∀ s, s < 3 → ar s - tk s = nI 0 ∧ 0 ≤ 20 := by
      intro s hs
      rw [(s11 s hs).1, (h1 s hs).1, hall s hs, Int32.sub_self]
      exact ⟨rfl, by omega⟩
    refine ⟨(kd, wd, nI W, la, mq, lc, nI n, nI r, km, kl, nI n2, nI r2, ek, et, ev, ar, tk, ie, oc, rc, kt, ki, kc), (kd, wd, pp, la, ar, co, ev, b, cp), ⟨rfl, rfl, rfl, rfl, rfl, dn, W, ln, an, n, r, n2, r2, rfl, rfl, rfl, rfl, rfl, hr, hS, hN, hK⟩, fun post f hf hp => ?_, fun post f hf hp => ?_⟩
    · obtain ⟨f, rfl⟩ : ∃ k, f = k + 1 := ⟨f - 1, by omega⟩
      rw [wX_readAll_4]
      by_cases z : i = 60
      · subst z
        exact br_t (nI_le (a := 60) (b := 60) (Nat.le_refl _) (by decide)) hp
      · refine br_f (nI_ge (a := i) (b := 60) (by omega) (by decide)) ?_
        refine mo_x (un := fun _ => 0) hun _ ?_
        have hmo : mo_s (fun _ => 0) 3 ≤ 2 := (mo_p (fun _ => 0) 2).1
        unfold wpX_unread
        dsimp only
        simp (disch := omega) only [forall_eq, vp_in_nI, nI_clamp, pk_us, pk_un, true_and, ix_a0, ix_a1, ix_a2, ix_a3, ix_a4, ix_a5, ix_a6, ix_n7, ix_m7, ix_p1104, ix_p1524, nI_add]
        rw [(hun _ (by omega)).1]
        exact br_t rfl hp
    · obtain ⟨f, rfl⟩ : ∃ k, f = k + 1 := ⟨f - 1, by omega⟩
      rw [wY_readAll_2]
      refine br_t ?_ hp
      rw [(h1 0 (by omega)).2.1, (h1 1 (by omega)).2.1, (h1 2 (by omega)).2.1, (s11 0 (by omega)).1, (s11 1 (by omega)).1, (s11 2 (by omega)).1, hall 0 (by omega), hall 1 (by omega), hall 2 (by omega)]
      exact Int32.le_refl _
  | succ U ih =>
    intro i n r mq lc tk oc rc b hi hr hN hK ⟨tn, h1, h2⟩
    have hun : ∀ s, s < 3 → ar s - tk s = nI (an s - tn s) ∧ an s - tn s ≤ 20 := by
      intro s hs
      have := (s11 s hs).2
      rw [(s11 s hs).1, (h1 s hs).1, pk_sub (h1 s hs).2.2]
      exact ⟨rfl, by omega⟩
    have hun2 : ∀ s, s < 3 → ar s - b s = nI (an s - tn s) ∧ an s - tn s ≤ 20 := by
      intro s hs
      rw [(h1 s hs).2.1, ← (h1 s hs).1]
      exact hun s hs
    obtain ⟨m1, m2⟩ := mo_p (fun s => an s - tn s) 2
    generalize hm : mo_s (fun s => an s - tn s) 3 = m at *
    have hm3 : m < 3 := by omega
    have hpos : 0 < an m - tn m := by
      have a0 := (h1 0 (by omega)).2.2
      have a1 := (h1 1 (by omega)).2.2
      have a2 := (h1 2 (by omega)).2.2
      have c0 : an 0 - tn 0 ≤ an m - tn m := m2 0 (by omega)
      have c1 : an 1 - tn 1 ≤ an m - tn m := m2 1 (by omega)
      have c2 : an 2 - tn 2 ≤ an m - tn m := m2 2 (by omega)
      omega
    have hne : ¬ tk m = ar m := by
      intro z
      rw [(h1 m hm3).1, (s11 m hm3).1] at z
      have := (s11 m hm3).2
      have := (nI_eq (by omega) (by omega)).mp z
      omega
    obtain ⟨oc', rc', b', mq', lc', n', r', q1, q2, q3, q4, q5⟩ := bo_read (km := km) (kl := kl) (ko := nI n2) (kq := nI r2) (ev := ev) (kt := kt) (ki := ki) (kc := kc) (cp := cp) hS hN hm3 hne
    have htn : ∃ tn' : Nat → Nat, (∀ s, s < 3 → upd tk m (tk m + 1) s = nI (tn' s) ∧ b' s = nI (tn' s) ∧ tn' s ≤ an s) ∧ tn' 0 + tn' 1 + tn' 2 + U = an 0 + an 1 + an 2 := by
      obtain ⟨tn', sn', t1, _⟩ := q1
      refine ⟨tn', fun s hs => ⟨(t1 s hs).1, (t1 s hs).2.2.1, (t1 s hs).2.1⟩, ?_⟩
      have ev1 : ∀ s, s < 3 → tn' s = if s = m then tn s + 1 else tn s := by
        intro s hs
        have e1 := (t1 s hs).1
        have e2 := (t1 s hs).2.1
        have e3 := (s11 s hs).2
        have e4 := (h1 s hs).2.2
        by_cases z : s = m
        · subst z
          rw [pk_us, (h1 s hs).1, nI_1] at e1
          rw [if_pos rfl]
          exact ((nI_eq (by omega) (by omega)).mp e1).symm
        · rw [pk_un z, (h1 s hs).1] at e1
          rw [if_neg z]
          exact ((nI_eq (by omega) (by omega)).mp e1).symm
      rw [ev1 0 (by omega), ev1 1 (by omega), ev1 2 (by omega)]
      have hs3 : m = 0 ∨ m = 1 ∨ m = 2 := by omega
      rcases hs3 with z | z | z <;> rw [z] <;> simp <;> omega
    obtain ⟨u', v', w1, w2, w3⟩ := ih (i + 1) n' r' mq' lc' (upd tk m (tk m + 1)) oc' rc' b' (by omega) (by omega) q1 (rl_Nr hK hr q3) htn
    rw [show i + 1 + U = i + (U + 1) from by omega] at w2 w3
    refine ⟨u', v', w1, fun post f hf hp => ?_, fun post f hf hp => ?_⟩
    · obtain ⟨f, rfl⟩ : ∃ k, f = k + 1 := ⟨f - 1, by omega⟩
      rw [wX_readAll_4]
      refine br_f (nI_ge (a := i) (b := 60) (by omega) (by decide)) ?_
      refine mo_x (un := fun s => an s - tn s) hun _ ?_
      rw [hm]
      unfold wpX_unread
      dsimp only
      simp (disch := omega) only [forall_eq, vp_in_nI, nI_clamp, pk_us, pk_un, true_and, ix_a0, ix_a1, ix_a2, ix_a3, ix_a4, ix_a5, ix_a6, ix_n7, ix_m7, ix_p1104, ix_p1524, nI_add]
      rw [(hun m hm3).1]
      refine br_f (nI_ne0 hpos (by have := (s11 m hm3).2; omega)) (q4 _ ?_)
      dsimp only
      exact w2 post f (by omega) hp
    · obtain ⟨f, rfl⟩ : ∃ k, f = k + 1 := ⟨f - 1, by omega⟩
      rw [wY_readAll_2]
      have hnle : ¬ ar 0 + ar 1 + ar 2 ≤ b 0 + b 1 + b 2 := by
        rw [(h1 0 (by omega)).2.1, (h1 1 (by omega)).2.1, (h1 2 (by omega)).2.1, (s11 0 (by omega)).1, (s11 1 (by omega)).1, (s11 2 (by omega)).1, nI_add, nI_add, nI_add, nI_add]
        have a0 := (s11 0 (by omega)).2
        have a1 := (s11 1 (by omega)).2
        have a2 := (s11 2 (by omega)).2
        exact nI_ge (by omega) (by omega)
      refine br_f hnle (mo_y (un := fun s => an s - tn s) hun2 post _ (nI i) ?_)
      rw [hm]
      refine q5 _ ?_
      dsimp only
      exact nm_r (nI_1 i) (w3 post f (by omega) hp)
end
theorem i_vc_readAll {k : Nat} {u : SX} {v : SY} (I : i_Rel k u v) (hk : k + 3 ≤ 1540) : wpX_readAll (fun r u' => wpY_readAll (fun r' v' => r' = r ∧ i_Rel (k + 3) u' v') v) u := by
  obtain ⟨kd, wd, wn, la, mq, lc, xo, xq, km, kl, ko, kq, ek, et, ev, ar, tk, ie, oc, rc, kt, ki, kc⟩ := u
  obtain ⟨kd', dd, pp, la', sz, co, va, b, cp⟩ := v
  obtain ⟨g1, g2, g3, g4, g5, dn, W, ln, an, n, r, n2, r2, e1, e2, e3, e4, e5, hr2, hS, hN, hK⟩ := I
  subst g1 g2 g3 g4 g5 e1 e2 e3 e4 e5
  have s11 := hS.2.2.2.2.2.2.2.2.2.2.1
  have hex : ∃ U, U ≤ 60 ∧ ∃ tn : Nat → Nat, (∀ s, s < 3 → tk s = nI (tn s) ∧ b s = nI (tn s) ∧ tn s ≤ an s) ∧ tn 0 + tn 1 + tn 2 + U = an 0 + an 1 + an 2 := by
    have hN2 := hN
    obtain ⟨tn, sn, t1, _⟩ := hN2
    have a0 := (s11 0 (by omega)).2
    have a1 := (s11 1 (by omega)).2
    have a2 := (s11 2 (by omega)).2
    have c0 := (t1 0 (by omega)).2.1
    have c1 := (t1 1 (by omega)).2.1
    have c2 := (t1 2 (by omega)).2.1
    exact ⟨an 0 + an 1 + an 2 - (tn 0 + tn 1 + tn 2), by omega, tn, fun s hs => ⟨(t1 s hs).1, (t1 s hs).2.2.1, (t1 s hs).2.1⟩, by omega⟩
  obtain ⟨U, hU, htn⟩ := hex
  obtain ⟨u', v', w1, w2, w3⟩ := mo_all (ev := ev) hS U 0 n r mq lc tk oc rc b (by omega) hr2 hN hK htn
  exact ⟨U + 1, w2 _ (U + 1) (by omega) ⟨U + 1, w3 _ (U + 1) (by omega) ⟨rfl, w1⟩⟩⟩
end
