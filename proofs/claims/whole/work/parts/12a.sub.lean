theorem sb_half (a b : Nat) : (a &&& b) / 2 = a / 2 &&& b / 2 := by
  apply Nat.eq_of_testBit_eq
  intro i
  rw [Nat.testBit_and, ← Nat.testBit_succ, ← Nat.testBit_succ, ← Nat.testBit_succ, Nat.testBit_and]
theorem sb_low (a b : Nat) : (a &&& b) % 2 = (a % 2) * (b % 2) := by
  have e := Nat.testBit_and a b 0
  rw [Nat.testBit_zero, Nat.testBit_zero, Nat.testBit_zero] at e
  rcases Nat.mod_two_eq_zero_or_one a with p | p <;> rcases Nat.mod_two_eq_zero_or_one b with q | q <;> rcases Nat.mod_two_eq_zero_or_one (a &&& b) with r | r <;> rw [p, q, r] at e <;> rw [p, q, r] <;> exact absurd e (by decide)
theorem sb_next : ∀ (n M y z : Nat), y < n → y &&& M = y → z &&& M = z → z < y → z ≤ (y - 1) &&& M
  | 0, _, _, _, h, _, _, _ => absurd h (Nat.not_lt_zero _)
  | n + 1, M, y, z, h, hy, hz, hlt => by
    have hy2 : y / 2 &&& M / 2 = y / 2 := by rw [← sb_half, hy]
    have hz2 : z / 2 &&& M / 2 = z / 2 := by rw [← sb_half, hz]
    have hz1 : z % 2 = (z % 2) * (M % 2) := by rw [← sb_low, hz]
    have e1 := sb_half (y - 1) M
    have e2 := sb_low (y - 1) M
    generalize hX : (y - 1) &&& M = X at e1 e2 ⊢
    rcases Nat.mod_two_eq_zero_or_one y with p | p
    · have ih := sb_next n (M / 2) (y / 2) (z / 2) (by omega) hy2 hz2 (by omega)
      have e3 : (y - 1) / 2 = y / 2 - 1 := by omega
      have e4 : (y - 1) % 2 = 1 := by omega
      rw [e3] at e1
      rw [e4, Nat.one_mul] at e2
      rw [← e1] at ih
      have hc : z % 2 ≤ M % 2 := by
        rcases Nat.mod_two_eq_zero_or_one M with q | q
        · rw [q, Nat.mul_zero] at hz1
          omega
        · omega
      omega
    · have e3 : (y - 1) / 2 = y / 2 := by omega
      rw [e3, hy2] at e1
      omega
theorem sb_in (y M : Nat) : (y &&& M) &&& M = y &&& M := by
  rw [Nat.and_assoc, Nat.and_self]
theorem sb_lt {y : Nat} (M : Nat) (h : 0 < y) : (y - 1) &&& M < y := Nat.lt_of_le_of_lt Nat.and_le_left (by omega)
