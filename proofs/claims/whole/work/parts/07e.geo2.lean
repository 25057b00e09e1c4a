/-! what the counted facts of the field give -/
theorem orF_lt {f : Nat → Nat} {m : Nat} : ∀ {n set : Nat}, (∀ s, s < n → f s < 2 ^ m) → orF f n set < 2 ^ m
  | 0, _, _ => Nat.two_pow_pos m
  | n + 1, set, h => by
    rw [orF]
    apply Nat.or_lt_two_pow (orF_lt (fun s hs => h s (by omega)))
    split
    · exact h n (by omega)
    · exact Nat.two_pow_pos m
theorem xorF_lt {f : Nat → Nat} {m : Nat} : ∀ {n set : Nat}, (∀ s, s < n → f s < 2 ^ m) → xorF f n set < 2 ^ m
  | 0, _, _ => Nat.two_pow_pos m
  | n + 1, set, h => by
    rw [xorF]
    apply Nat.xor_lt_two_pow (xorF_lt (fun s hs => h s (by omega)))
    split
    · exact h n (by omega)
    · exact Nat.two_pow_pos m
theorem orF_or (f : Nat → Nat) (a b : Nat) : ∀ n, orF f n (a ||| b) = orF f n a ||| orF f n b
  | 0 => by simp [orF]
  | n + 1 => by
    simp only [orF]
    rw [orF_or f a b n, Nat.testBit_or]
    apply Nat.eq_of_testBit_eq
    intro i
    simp only [Nat.testBit_or]
    cases a.testBit n <;> cases b.testBit n <;> simp <;> cases (orF f n a).testBit i <;> cases (orF f n b).testBit i <;> cases (f n).testBit i <;> rfl
theorem xorF_xor (f : Nat → Nat) (a b : Nat) : ∀ n, xorF f n (a ^^^ b) = xorF f n a ^^^ xorF f n b
  | 0 => by simp [xorF]
  | n + 1 => by
    simp only [xorF]
    rw [xorF_xor f a b n, Nat.testBit_xor]
    apply Nat.eq_of_testBit_eq
    intro i
    simp only [Nat.testBit_xor]
    cases a.testBit n <;> cases b.testBit n <;> simp <;> cases (xorF f n a).testBit i <;> cases (xorF f n b).testBit i <;> cases (f n).testBit i <;> rfl
theorem sumF_dis (f : Nat → Nat) {a b : Nat} (hab : a &&& b = 0) : ∀ n, sumF f n (a ^^^ b) = sumF f n a + sumF f n b
  | 0 => rfl
  | n + 1 => by
    simp only [sumF]
    rw [sumF_dis f hab n, Nat.testBit_xor]
    have h : (a &&& b).testBit n = false := by rw [hab, Nat.zero_testBit]
    rw [Nat.testBit_and] at h
    cases ha : a.testBit n <;> cases hb : b.testBit n <;> simp [ha, hb] at h ⊢ <;> omega
theorem tb_pow (s i : Nat) : (2 ^ s).testBit i = decide (s = i) := Nat.testBit_two_pow
theorem orF_one (f : Nat → Nat) {s : Nat} : ∀ n, orF f n (2 ^ s) = if s < n then f s else 0
  | 0 => rfl
  | n + 1 => by
    rw [orF, orF_one f n, tb_pow]
    by_cases h1 : s = n
    · subst h1; simp
    · by_cases h2 : s < n
      · simp [h1, h2, show s < n + 1 by omega]
      · simp [h1, h2, show ¬ s < n + 1 by omega]
theorem xorF_one (f : Nat → Nat) {s : Nat} : ∀ n, xorF f n (2 ^ s) = if s < n then f s else 0
  | 0 => rfl
  | n + 1 => by
    rw [xorF, xorF_one f n, tb_pow]
    by_cases h1 : s = n
    · subst h1; simp
    · by_cases h2 : s < n
      · simp [h1, h2, show s < n + 1 by omega]
      · simp [h1, h2, show ¬ s < n + 1 by omega]
theorem sumF_one (f : Nat → Nat) {s : Nat} : ∀ n, sumF f n (2 ^ s) = if s < n then f s else 0
  | 0 => rfl
  | n + 1 => by
    rw [sumF, sumF_one f n, tb_pow]
    by_cases h1 : s = n
    · subst h1; simp
    · by_cases h2 : s < n
      · simp [h1, h2, show s < n + 1 by omega]
      · simp [h1, h2, show ¬ s < n + 1 by omega]
theorem orF_bit (f : Nat → Nat) (set i : Nat) : ∀ n, (orF f n set).testBit i = true ↔ ∃ s, s < n ∧ set.testBit s = true ∧ (f s).testBit i = true
  | 0 => by simp [orF]
  | n + 1 => by
    rw [orF, Nat.testBit_or, Bool.or_eq_true, orF_bit f set i n]
    constructor
    · rintro (⟨s, h1, h2, h3⟩ | h)
      · exact ⟨s, by omega, h2, h3⟩
      · by_cases hn : set.testBit n = true
        · rw [if_pos hn] at h
          exact ⟨n, by omega, hn, h⟩
        · rw [if_neg hn, Nat.zero_testBit] at h
          cases h
    · rintro ⟨s, h1, h2, h3⟩
      by_cases hs : s = n
      · subst hs
        exact Or.inr (by rw [if_pos h2]; exact h3)
      · exact Or.inl ⟨s, by omega, h2, h3⟩
theorem geo_nb : allS (fun w h => allB (w * h) fun s => nb1 w h s < 2 ^ (w * h)) = true := by decide +kernel
theorem geo_e4 : allS (fun w h => allB (w * h) fun s => e4 w h s < 2 ^ 31) = true := by decide +kernel
theorem geo_nbr : allS (fun w h => allB (w * h) fun s => allB 4 fun d => match nbr w h s d with
  | none => true
  | some q => q < w * h) = true := by decide +kernel
