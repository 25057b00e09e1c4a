/-! both find the same edges -/
section ND
variable {w h : Nat}
theorem ped_bit (H : Nat) (sq : Nat → Nat) (set s i : Nat) : (ped w h H sq set s 4).testBit i = true ↔ ∃ d, d < 4 ∧ (ed1 w h H sq set s d).testBit i = true := by
  simp only [ped, Nat.testBit_or, Nat.zero_testBit, Bool.false_or, Bool.or_eq_true]
  constructor
  · rintro (((h0 | h1) | h2) | h3)
    · exact ⟨0, by decide, h0⟩
    · exact ⟨1, by decide, h1⟩
    · exact ⟨2, by decide, h2⟩
    · exact ⟨3, by decide, h3⟩
  · rintro ⟨d, hd, hb⟩
    rcases (show d = 0 ∨ d = 1 ∨ d = 2 ∨ d = 3 by omega) with rfl | rfl | rfl | rfl
    · exact Or.inl (Or.inl (Or.inl hb))
    · exact Or.inl (Or.inl (Or.inr hb))
    · exact Or.inl (Or.inr hb)
    · exact Or.inr hb
theorem bd_bit (set s i : Nat) : (bd1 w h set s 0 ||| bd1 w h set s 1 ||| bd1 w h set s 2 ||| bd1 w h set s 3).testBit i = true ↔ ∃ d, d < 4 ∧ (bd1 w h set s d).testBit i = true := by
  simp only [Nat.testBit_or, Bool.or_eq_true]
  constructor
  · rintro (((h0 | h1) | h2) | h3)
    · exact ⟨0, by decide, h0⟩
    · exact ⟨1, by decide, h1⟩
    · exact ⟨2, by decide, h2⟩
    · exact ⟨3, by decide, h3⟩
  · rintro ⟨d, hd, hb⟩
    rcases (show d = 0 ∨ d = 1 ∨ d = 2 ∨ d = 3 by omega) with rfl | rfl | rfl | rfl
    · exact Or.inl (Or.inl (Or.inl hb))
    · exact Or.inl (Or.inl (Or.inr hb))
    · exact Or.inl (Or.inr hb)
    · exact Or.inr hb
theorem if_bit (c : Bool) (e i : Nat) : (if c = true then 0 else 2 ^ e).testBit i = true ↔ c = false ∧ e = i := by
  cases c
  · simp [tb_pow]
  · simp
theorem pe_bit (sq : Nat → Nat) (i : Nat) : ∀ n, (pe w h sq n).testBit i = true ↔ ∃ p, p < n ∧ sq p = 10 ∧ (e4 w h p).testBit i = true
  | 0 => by simp [pe]
  | n + 1 => by
    rw [pe, Nat.testBit_or, Bool.or_eq_true, pe_bit sq i n]
    constructor
    · rintro (⟨p, h1, h2, h3⟩ | h1)
      · exact ⟨p, by omega, h2, h3⟩
      · by_cases hq : sq n = 10
        · rw [if_pos hq] at h1
          exact ⟨n, by omega, hq, h1⟩
        · rw [if_neg hq, Nat.zero_testBit] at h1
          cases h1
    · rintro ⟨p, h1, h2, h3⟩
      by_cases hp : p = n
      · subst hp
        exact Or.inr (by rw [if_pos h2]; exact h3)
      · exact Or.inl ⟨p, by omega, h2, h3⟩
theorem edM_nds {H set : Nat} {sq : Nat → Nat} (k : okS w h) (hs : set < 2 ^ (w * h)) (hf : isFd w h (mk (pBar sq) (w * h)) set = true) : edM w h H sq set = nds w h (H ||| pe w h sq (w * h)) set := by
  have hbar : ∀ s, s < w * h → set.testBit s = true → sq s ≤ 9 := by
    simp only [isFd, Bool.and_eq_true, beq_iff_eq] at hf
    exact (and_bar hs).mp hf.1.2
  apply Nat.eq_of_testBit_eq
  intro i
  have key : (edM w h H sq set).testBit i = true ↔ (nds w h (H ||| pe w h sq (w * h)) set).testBit i = true := by
    unfold edM nds
    rw [andn_bit, Bool.and_eq_true, orF_bit]
    unfold bnd
    rw [orF_bit]
    have pond : ∀ s d, s < w * h → d < 4 → set.testBit s = true → ((pe w h sq (w * h)).testBit (edn w h s d) = true ↔ isPo sq (nbr w h s d) = true) := by
      intro s d hsn hd hb
      rw [pe_bit]
      constructor
      · rintro ⟨p, h1, h2, h3⟩
        rw [own_bit k hsn hd h1] at h3
        simp only [Bool.or_eq_true, beq_iff_eq] at h3
        rcases h3 with h3 | h3
        · have := hbar s hsn hb
          rw [h3] at h2
          omega
        · rw [h3]
          simp [isPo, h2]
      · intro hm
        cases hnb : nbr w h s d with
        | none => rw [hnb] at hm; cases hm
        | some q =>
          rw [hnb] at hm
          have h10 : sq q = 10 := of_decide_eq_true hm
          have hql := nbr_lt k hsn hd hnb
          refine ⟨q, hql, h10, ?_⟩
          rw [own_bit k hsn hd hql, hnb]
          simp
    constructor
    · rintro ⟨s, h1, h2, h3⟩
      obtain ⟨d, hd, h4⟩ := (ped_bit H sq set s i).mp h3
      unfold ed1 at h4
      obtain ⟨h5, h6⟩ := (if_bit _ _ _).mp h4
      simp only [Bool.or_eq_false_iff] at h5
      refine ⟨⟨s, h1, h2, (bd_bit set s i).mpr ⟨d, hd, ?_⟩⟩, ?_⟩
      · unfold bd1
        exact (if_bit _ _ _).mpr ⟨h5.1.1, h6⟩
      · rw [← h6, Nat.testBit_or, h5.2]
        have := pond s d h1 hd h2
        rw [h5.1.2] at this
        cases hx : (pe w h sq (w * h)).testBit (edn w h s d)
        · rfl
        · exact absurd (this.mp hx) (by simp)
    · rintro ⟨⟨s, h1, h2, h3⟩, h7⟩
      obtain ⟨d, hd, h4⟩ := (bd_bit set s i).mp h3
      unfold bd1 at h4
      obtain ⟨h5, h6⟩ := (if_bit _ _ _).mp h4
      refine ⟨s, h1, h2, (ped_bit H sq set s i).mpr ⟨d, hd, ?_⟩⟩
      unfold ed1
      rw [← h6, Nat.testBit_or] at h7
      simp only [Bool.not_eq_true', Bool.or_eq_false_iff] at h7
      refine (if_bit _ _ _).mpr ⟨?_, h6⟩
      have := pond s d h1 hd h2
      rw [h7.2] at this
      cases hx : isPo sq (nbr w h s d)
      · rw [h5, h7.1]; rfl
      · exact absurd (this.mpr hx) (by simp)
  cases h1 : (edM w h H sq set).testBit i <;> cases h2 : (nds w h (H ||| pe w h sq (w * h)) set).testBit i
  · rfl
  · rw [key.mpr h2] at h1; cases h1
  · rw [key.mp h1] at h2; cases h2
  · rfl
end ND
