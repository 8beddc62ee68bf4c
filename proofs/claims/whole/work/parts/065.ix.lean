/-! indices: a natural and a literal -/
theorem ix_a0 (a : Nat) : nI a + 0 = nI a := nI_add a 0
theorem ix_a1 (a : Nat) : nI a + 1 = nI (a + 1) := nI_add a 1
theorem ix_a2 (a : Nat) : nI a + 2 = nI (a + 2) := nI_add a 2
theorem ix_a3 (a : Nat) : nI a + 3 = nI (a + 3) := nI_add a 3
theorem ix_a4 (a : Nat) : nI a + 4 = nI (a + 4) := nI_add a 4
theorem ix_a5 (a : Nat) : nI a + 5 = nI (a + 5) := nI_add a 5
theorem ix_a6 (a : Nat) : nI a + 6 = nI (a + 6) := nI_add a 6
theorem ix_a7 (a : Nat) : nI a + 7 = nI (a + 7) := nI_add a 7
theorem ix_p3 (a : Nat) : 3 + nI a = nI (3 + a) := nI_add 3 a
theorem ix_p6 (a : Nat) : 6 + nI a = nI (6 + a) := nI_add 6 a
theorem ix_p16 (a : Nat) : 16 + nI a = nI (16 + a) := nI_add 16 a
theorem ix_p1104 (a : Nat) : 1104 + nI a = nI (1104 + a) := nI_add 1104 a
theorem ix_p1524 (a : Nat) : 1524 + nI a = nI (1524 + a) := nI_add 1524 a
theorem ix_m4 (a : Nat) : 4 * nI a = nI (4 * a) := pk_mul 4 a
theorem ix_m7 (a : Nat) : 7 * nI a = nI (7 * a) := pk_mul 7 a
theorem ix_m20 (a : Nat) : 20 * nI a = nI (20 * a) := pk_mul 20 a
theorem ix_m68 (a : Nat) : 68 * nI a = nI (68 * a) := pk_mul 68 a
theorem ix_n7 (a : Nat) : nI a * 7 = nI (a * 7) := pk_mul a 7
theorem ix_n20 (a : Nat) : nI a * 20 = nI (a * 20) := pk_mul a 20
theorem ix_s1 {a : Nat} (h : 1 ≤ a) : nI a - 1 = nI (a - 1) := pk_sub (b := 1) h
theorem ix_s2 {a : Nat} (h : 2 ≤ a) : nI a - 2 = nI (a - 2) := pk_sub (b := 2) h
theorem ix_s3 {a : Nat} (h : 3 ≤ a) : nI a - 3 = nI (a - 3) := pk_sub (b := 3) h
theorem ix_s7 {a : Nat} (h : 7 ≤ a) : nI a - 7 = nI (a - 7) := pk_sub (b := 7) h
theorem ix_d {a : Nat} (h : 1 ≤ a) : nI a + (-1) = nI (a - 1) := by
  obtain ⟨m, rfl⟩ : ∃ m, a = m + 1 := ⟨a - 1, by omega⟩
  exact pk_m1 m
theorem ix_d2 {a : Nat} (h : 1 ≤ a) : nI a + -1 = nI (a - 1) := ix_d h
