/-! the small calls, both sides at once -/
def EqK {α : Type} (r r' : α) (K : Prop) : Prop := (r = r' → K) ∧ (¬ r = r' → False)
theorem eqk {α : Type} (v : α) {K : Prop} (h : K) : EqK v v K := ⟨fun _ => h, fun q => q rfl⟩
theorem tri (p : Int32) {N : Nat} (h0 : 0 < N) (hN : N < 2 ^ 31) : (p < 0 ∧ inI p 0 (nI (N - 1)) = 0) ∨ (¬ p < 0 ∧ nI (N - 1) < p ∧ ¬ p < nI N ∧ inI p 0 (nI (N - 1)) = 0) ∨ ∃ j, j < N ∧ p = nI j ∧ inI p 0 (nI (N - 1)) = 1 := by
  rcases pk_ix p hN with h | h | ⟨j, hj, rfl⟩
  · refine Or.inl ⟨h, ?_⟩
    unfold inI
    rw [if_pos h]
  · refine Or.inr (Or.inl ?_)
    have e1 : (nI N).toInt = N := nI_toInt hN
    have e2 : (nI (N - 1)).toInt = ((N - 1 : Nat) : Int) := nI_toInt (by omega)
    have h1 := Int32.le_iff_toInt_le.mp h
    rw [e1] at h1
    have q1 : ¬ p < 0 := by
      intro z
      have := Int32.lt_iff_toInt_lt.mp z
      rw [Int32.toInt_zero] at this
      omega
    have q2 : nI (N - 1) < p := Int32.lt_iff_toInt_lt.mpr (by rw [e2]; omega)
    have q3 : ¬ p < nI N := by
      intro z
      have := Int32.lt_iff_toInt_lt.mp z
      rw [e1] at this
      omega
    refine ⟨q1, q2, q3, ?_⟩
    unfold inI
    rw [if_neg q1, if_pos q2]
  · refine Or.inr (Or.inr ⟨j, hj, rfl, ?_⟩)
    have e1 : inI (nI j) 0 (nI (N - 1)) = if 0 ≤ j ∧ j ≤ N - 1 then 1 else 0 := inI_nat (lo := 0) (by omega) (by decide) (by omega)
    rw [e1, if_pos (by omega)]
section OPS
variable {w h : Nat}
theorem s_isSetI {p : Int32} {Q : Int32 → Prop} (k : okS w h) (hQ : Q (inI p 0 (nI (2 ^ (w * h) - 1)))) : wp_X11_isSet p (nI w) (nI h) Q := by
  have hn := k.2.2
  have hp0 : 0 < 2 ^ (w * h) := Nat.two_pow_pos _
  unfold wp_X11_isSet
  refine s_squares (s_in ?_)
  rw [z_shl1 (w * h) (by omega), show nI (2 ^ (w * h)) - 1 = nI (2 ^ (w * h) - 1) from z_sub (a := 2 ^ (w * h)) (b := 1) hp0]
  refine ⟨?_, hQ⟩
  unfold inI
  split
  · exact Or.inl rfl
  · split
    · exact Or.inl rfl
    · exact Or.inr rfl
theorem s_knows {p al : Int32} {Q : Int32 → Prop} (hQ : Q (inI p 0 al)) : wp_X3_knows p al Q := by
  unfold wp_X3_knows
  unfold inI at hQ
  refine ⟨fun c => ?_, fun c => ⟨fun c2 => ?_, fun c2 => ?_⟩⟩
  · rw [if_pos c] at hQ; exact hQ
  · rw [if_neg c, if_pos c2] at hQ; exact hQ
  · rw [if_neg c, if_neg c2] at hQ; exact hQ
theorem tri_set (k : okS w h) (p : Int32) : inI p 0 (nI (2 ^ (w * h) - 1)) = 0 ∨ ∃ j, j < 2 ^ (w * h) ∧ p = nI j ∧ inI p 0 (nI (2 ^ (w * h) - 1)) = 1 := by
  have hp := pow10 k
  rcases tri p (N := 2 ^ (w * h)) (Nat.two_pow_pos _) (by omega) with ⟨-, h1⟩ | ⟨-, -, -, h1⟩ | h1
  · exact Or.inl h1
  · exact Or.inl h1
  · exact Or.inr h1
theorem op_yards {H : Nat} {sq : Nat → Nat} {p al wa mo : Int32} {fn fs fy fb gk : Nat → Int32} {K : Prop} (k : okS w h) (hT : TabOK w h H sq false al wa mo fn fs fy fb) (hgk : ∀ s, s < w * h → gk s = nI (sq s) ∧ sq s ≤ 11) (hK : K) : wp_X10_yards p al fy (fun r => wp_X11_yards p (nI w) (nI h) gk (fun r' => EqK r r' K)) := by
  have hp := pow10 k
  obtain ⟨t1, t2, t3, t4⟩ := hT
  rw [t1]
  unfold wp_X10_yards wp_X11_yards
  refine s_knows ?_
  rcases tri_set k p with h0 | ⟨j, hj, rfl, h1⟩
  · rw [h0]
    refine ⟨fun _ => s_isSetI k ?_, fun z => absurd rfl z⟩
    rw [h0]
    exact ⟨fun _ => eqk _ hK, fun z => absurd rfl z⟩
  · rw [h1]
    refine ⟨fun z => absurd z (by decide), fun _ => ⟨pk_in j 1024 (by omega), s_isSetI k ?_⟩⟩
    rw [h1, z_cl (show j < 2 ^ 31 by omega), (t4 j hj).2.2.1]
    exact ⟨fun z => absurd z (by decide), fun _ => s_yardsOf k (by omega) hgk (eqk _ hK)⟩
theorem op_sides {H : Nat} {sq : Nat → Nat} {p al wa mo : Int32} {fn fs fy fb gk : Nat → Int32} {K : Prop} (k : okS w h) (hT : TabOK w h H sq false al wa mo fn fs fy fb) (hgk : ∀ s, s < w * h → gk s = nI (sq s) ∧ sq s ≤ 11) (hK : K) : wp_X10_sides p al fs (fun r => wp_X11_sides p (nI w) (nI h) (lN H) gk (fun r' => EqK r r' K)) := by
  have hp := pow10 k
  obtain ⟨t1, t2, t3, t4⟩ := hT
  rw [t1]
  unfold wp_X10_sides wp_X11_sides
  refine s_knows ?_
  rcases tri_set k p with h0 | ⟨j, hj, rfl, h1⟩
  · rw [h0]
    refine ⟨fun _ => s_isSetI k ?_, fun z => absurd rfl z⟩
    rw [h0]
    exact ⟨fun z => absurd rfl z, fun _ => eqk _ hK⟩
  · rw [h1]
    refine ⟨fun z => absurd z (by decide), fun _ => ⟨pk_in j 1024 (by omega), s_isSetI k ?_⟩⟩
    rw [h1, z_cl (show j < 2 ^ 31 by omega), (t4 j hj).2.1]
    refine ⟨fun _ => s_misFold k hj hgk ?_, fun z => absurd z (by decide)⟩
    show _ ∧ _
    by_cases hf : isFd w h (mk (pBar sq) (w * h)) j = true
    · rw [if_pos hf, if_pos (show isFd w h (barP false sq (w * h)) j = true from hf)]
      refine ⟨fun z => absurd z (by decide), fun _ => s_edgesOf k hj hgk ?_⟩
      rw [edM_nds k hj hf]
      exact s_bits (nds_lt k _ hj) (eqk _ hK)
    · rw [if_neg hf, if_neg (show ¬ isFd w h (barP false sq (w * h)) j = true from hf)]
      exact ⟨fun _ => eqk _ hK, fun z => absurd rfl z⟩
theorem op_edges {H : Nat} {sq : Nat → Nat} {p al wa mo : Int32} {fn fs fy fb gk : Nat → Int32} {K : Prop} (k : okS w h) (hT : TabOK w h H sq false al wa mo fn fs fy fb) (hgk : ∀ s, s < w * h → gk s = nI (sq s) ∧ sq s ≤ 11) (hK : K) : wp_X10_edges p al fn (fun r => wp_X11_edges p (nI w) (nI h) (lN H) gk (fun r' => EqK r r' K)) := by
  have hp := pow10 k
  obtain ⟨t1, t2, t3, t4⟩ := hT
  rw [t1]
  unfold wp_X10_edges wp_X11_edges
  refine s_knows ?_
  rcases tri_set k p with h0 | ⟨j, hj, rfl, h1⟩
  · rw [h0]
    refine ⟨fun _ => s_isSetI k ?_, fun z => absurd rfl z⟩
    rw [h0]
    exact ⟨fun z => absurd rfl z, fun _ => eqk _ hK⟩
  · rw [h1]
    refine ⟨fun z => absurd z (by decide), fun _ => ⟨pk_in j 1024 (by omega), s_isSetI k ?_⟩⟩
    rw [h1, z_cl (show j < 2 ^ 31 by omega), (t4 j hj).1]
    refine ⟨fun _ => s_misFold k hj hgk ?_, fun z => absurd z (by decide)⟩
    show _ ∧ _
    by_cases hf : isFd w h (mk (pBar sq) (w * h)) j = true
    · rw [if_pos hf, if_pos (show isFd w h (barP false sq (w * h)) j = true from hf)]
      refine ⟨fun z => absurd z (by decide), fun _ => s_edgesOf k hj hgk ?_⟩
      rw [edM_nds k hj hf, nI_l (nds_lt k _ hj)]
      exact eqk _ hK
    · rw [if_neg hf, if_neg (show ¬ isFd w h (barP false sq (w * h)) j = true from hf)]
      exact ⟨fun _ => eqk _ hK, fun z => absurd rfl z⟩
end OPS
