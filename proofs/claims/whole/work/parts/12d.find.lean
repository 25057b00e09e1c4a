section TWO2
variable {w h : Nat}
theorem s_cfind {H P1 P2 : Nat} {sq : Nat → Nat} {al wa mo : Int32} {fn fs fy fb : Nat → Int32} {Q : Int32 × Int32 × Int32 → Prop} (k : okS w h) (hT : TabOK w h H sq false al wa mo fn fs fy fb) (hP1 : P1 < 2 ^ 31) (hP : P2 < 2 ^ 31) (hQ : ∀ o' p' q' r', Best (gd w h sq P1 P2) (ct w h (H ||| pe w h sq (w * h))) o' → CR (ct w h (H ||| pe w h sq (w * h))) o' p' q' r' → Q (p', q', r')) : wp_X5_find (nI P1) (nI P2) al fn fs fy Q := by
  have hp := pow10 k
  have h2 : 0 < 2 ^ (w * h) := Nat.two_pow_pos _
  unfold wp_X5_find lp_X5_find_18
  refine ⟨fun m p q r z => ∃ F o, 0 < F ∧ F ≤ 2 ^ (w * h) ∧ m = 2 ^ (w * h) - F ∧ z = nI F ∧ Best (fun a b => gd w h sq P1 P2 a b ∧ a < F) (ct w h (H ||| pe w h sq (w * h))) o ∧ CR (ct w h (H ||| pe w h sq (w * h))) o p q r, ⟨2 ^ (w * h) - 1, 1, none, by omega, by omega, rfl, rfl, ?_, rfl, rfl, rfl⟩, ?_⟩
  · rintro a b ⟨g, g2⟩
    have := isFd_pos g.2.2.1
    omega
  rintro m p q r z ⟨F, o, hF0, hF, rfl, rfl, hb, hc⟩
  unfold bd_X5_find_18
  rw [hT.1]
  refine pk_lt (2 ^ (w * h) - 1) F (fun l => ?_) (fun l => ?_) rfl rfl
  · refine hQ o p q r (best_ext (fun a b => ?_) hb) hc
    exact ⟨fun g => ⟨g, by have := g.1; omega⟩, fun g => g.1⟩
  · obtain ⟨B, hB⟩ : ∃ B : Int32 → Int32 → Int32 → Int32 → Prop, B = fun p' q' r' z' => ∃ n', n' < 2 ^ (w * h) - F ∧ ∃ F o, 0 < F ∧ F ≤ 2 ^ (w * h) ∧ n' = 2 ^ (w * h) - F ∧ z' = nI F ∧ Best (fun a b => gd w h sq P1 P2 a b ∧ a < F) (ct w h (H ||| pe w h sq (w * h))) o ∧ CR (ct w h (H ||| pe w h sq (w * h))) o p' q' r' := ⟨_, rfl⟩
    rw [← hB]
    have hl : F < 2 ^ (w * h) := by omega
    have go : ∀ o' p' q' r', Best (fun a b => gd w h sq P1 P2 a b ∧ a < F + 1) (ct w h (H ||| pe w h sq (w * h))) o' → CR (ct w h (H ||| pe w h sq (w * h))) o' p' q' r' → bk_X5_find_55 Q B (nI F) p' q' r' := by
      intro o' p' q' r' g1 g2
      unfold bk_X5_find_55
      intro y4 e4
      rw [e4, hB, nI_1]
      exact ⟨2 ^ (w * h) - (F + 1), by omega, F + 1, o', by omega, by omega, rfl, rfl, g1, g2⟩
    have skip : (∀ b, ¬ gd w h sq P1 P2 F b) → bk_X5_find_55 Q B (nI F) p q r := by
      intro ng
      refine go o p q r (best_ext (fun a b => ?_) hb) hc
      constructor
      · rintro ⟨g, g2⟩
        refine ⟨g, ?_⟩
        have : a ≠ F := fun e => ng b (by rw [← e]; exact g)
        omega
      · rintro ⟨g, g2⟩
        exact ⟨g, by omega⟩
    obtain ⟨_, tb, tc, _⟩ := tab_f hT hl
    have hi := pk_in F 1024 (by omega)
    unfold wp_X3_isFold
    rw [z_cl (show F < 2 ^ 31 by omega), tb, tc]
    by_cases hf : isFd w h (mk (pBar sq) (w * h)) F = true
    · rw [if_pos hf]
      have hpc := pc_le (nds_lt k (H ||| pe w h sq (w * h)) hl)
      have hyd := yards_le k sq F
      refine ⟨hi, fun z => absurd z (z_m1 (by omega)), fun _ => ⟨fun z => absurd z (by decide), fun _ => ⟨hi, ?_⟩⟩⟩
      refine pk_lt (sumF (yd sq) (w * h) F) P1 (fun l => ?_) (fun l => ?_) rfl rfl
      · exact skip (fun b g => absurd g.2.2.2.2.2.1 (by omega))
      · have hT2 := hT
        rw [hT.1] at hT2
        exact s_second k hT2 hl hf l hP hb hc (fun o' p' q' r' g1 g2 => go o' p' q' r' g1 g2)
    · rw [if_neg hf]
      exact ⟨hi, fun _ => ⟨fun _ => skip (fun b g => hf g.2.2.1), fun z => absurd rfl z⟩, fun z => absurd rfl z⟩
end TWO2
