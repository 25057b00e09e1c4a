/-! FEW -/
def fwS (N Y : Nat → Nat) (n : Nat) (o : Option Nat) (g : Nat) : Option Nat := if Y g < n then o else match o with
  | none => some g
  | some b => if N g < N b then some g else some b
def fwL (N Y : Nat → Nat) (n : Nat) (L : List Nat) : Option Nat := L.foldl (fwS N Y n) none
theorem fwL_push (N Y : Nat → Nat) (n : Nat) (L : List Nat) (g : Nat) : fwL N Y n (L ++ [g]) = fwS N Y n (fwL N Y n L) g := by
  unfold fwL
  rw [List.foldl_append]
  rfl
theorem fwS_mem {N Y : Nat → Nat} {n : Nat} {o : Option Nat} {g b : Nat} (h : fwS N Y n o g = some b) : o = some b ∨ b = g := by
  unfold fwS at h
  split at h
  · exact Or.inl h
  · split at h
    · exact Or.inr (by cases h; rfl)
    · split at h
      · exact Or.inr (by cases h; rfl)
      · exact Or.inl h
theorem resO_none : resO none = -1 := rfl
theorem resO_some (q : Nat) : resO (some q) = nI q := rfl
/-- the component's search -/
theorem s_leastSided {w h H n : Nat} {sq : Nat → Nat} {al wa mo : Int32} {fn fs fy fb : Nat → Int32} {Q : Int32 → Prop} (k : okS w h) (hn : n ≤ 90) (hT : TabOK w h H sq false al wa mo fn fs fy fb) (hY : ∀ g, g < 2 ^ (w * h) → sumF (yd sq) (w * h) g < 2 ^ 31)
    (hQ : Q (resO (fwL (fun g => pc (nds w h (H ||| pe w h sq (w * h)) g)) (sumF (yd sq) (w * h)) n (flS w h (mk (pBar sq) (w * h)) (2 ^ (w * h)))))) : wp_X3_leastSided (nI n) al fs fy Q := by
  have hp := pow10 k
  have hp0 : 0 < 2 ^ (w * h) := Nat.two_pow_pos _
  obtain ⟨t1, t2, t3, t4⟩ := hT
  obtain ⟨bar, hbar⟩ : ∃ b, b = mk (pBar sq) (w * h) := ⟨_, rfl⟩
  obtain ⟨N, hN⟩ : ∃ N : Nat → Nat, N = fun g => pc (nds w h (H ||| pe w h sq (w * h)) g) := ⟨_, rfl⟩
  have hb1 : barP false sq (w * h) = bar := by rw [hbar]; rfl
  have hu1 : unnP w h H false sq (w * h) = H ||| pe w h sq (w * h) := rfl
  rw [← hN, ← hbar] at hQ
  have hNle : ∀ g, g < 2 ^ (w * h) → N g ≤ 31 := fun g hg => by rw [hN]; exact pc_le (nds_lt k _ hg)
  obtain ⟨o, ho⟩ : ∃ o : Nat → Option Nat, o = fun j => fwL N (sumF (yd sq) (w * h)) n (flS w h bar j) := ⟨_, rfl⟩
  have hom : ∀ j b, o j = some b → b < j := by
    intro j
    induction j with
    | zero => intro b hb; rw [ho] at hb; cases hb
    | succ j ih =>
      intro b hb
      rw [ho] at hb
      simp only [flS_succ] at hb
      by_cases hf : isFd w h bar j = true
      · rw [if_pos hf, fwL_push] at hb
        rcases fwS_mem hb with h1 | h1
        · have := ih b (by rw [ho]; exact h1)
          omega
        · omega
      · rw [if_neg hf] at hb
        have := ih b (by rw [ho]; exact hb)
        omega
  rw [t1]
  unfold wp_X3_leastSided lp_X3_leastSided_8
  have o1 : o 1 = none := by
    have : isFd w h bar 0 = false := by simp [isFd]
    rw [ho]
    simp only [flS_succ, this]
    rfl
  refine ⟨fun m a l z => ∃ j, 0 < j ∧ j ≤ 2 ^ (w * h) ∧ m = 2 ^ (w * h) - j ∧ z = nI j ∧ a = resO (o j) ∧ l = nI (match o j with | none => 1048576 | some b => N b), ⟨_, 1, by decide, hp0, rfl, rfl, by rw [o1]; rfl, by rw [o1]; rfl⟩, ?_⟩
  rintro m a l z ⟨j, hj0, hj, rfl, rfl, rfl, rfl⟩
  obtain ⟨B, hB⟩ : ∃ B : Int32 → Int32 → Int32 → Prop, B = fun a l z => ∃ n', n' < 2 ^ (w * h) - j ∧ ∃ j, 0 < j ∧ j ≤ 2 ^ (w * h) ∧ n' = 2 ^ (w * h) - j ∧ z = nI j ∧ a = resO (o j) ∧ l = nI (match o j with | none => 1048576 | some b => N b) := ⟨_, rfl⟩
  rw [← hB]
  unfold bd_X3_leastSided_8
  refine pk_lt (2 ^ (w * h) - 1) j (fun q => ?_) (fun q => ?_) rfl rfl
  · have : j = 2 ^ (w * h) := by omega
    rw [this, ho]
    exact hQ
  · have hj2 : j < 2 ^ (w * h) := by omega
    have cj : (nI j).toNatClampNeg = j := z_cl (by omega)
    have ij : vp_in (nI j) 1024 := pk_in j 1024 (by omega)
    have next : ∀ a l : Int32, a = resO (o (j + 1)) → l = nI (match o (j + 1) with | none => 1048576 | some b => N b) → bk_X3_leastSided_59 Q B a l (nI j) := by
      intro a l ha hl
      unfold bk_X3_leastSided_59
      intro y4 e4
      rw [hB]
      exact ⟨2 ^ (w * h) - (j + 1), by omega, j + 1, by omega, by omega, rfl, by rw [e4]; exact nI_1 j, ha, hl⟩
    have same : o (j + 1) = o j → bk_X3_leastSided_59 Q B (resO (o j)) (nI (match o j with | none => 1048576 | some b => N b)) (nI j) := fun hs => next _ _ (by rw [hs]) (by rw [hs])
    unfold wp_X3_isFold
    refine ⟨ij, ?_⟩
    rw [cj, (t4 j hj2).2.1, hb1, hu1, (t4 j hj2).2.2.1]
    by_cases hf : isFd w h bar j = true
    · rw [if_pos hf]
      have hNj : N j = pc (nds w h (H ||| pe w h sq (w * h)) j) := by rw [hN]
      rw [← hNj]
      have hNj31 := hNle j hj2
      have hs1 : o (j + 1) = fwS N (sumF (yd sq) (w * h)) n (o j) j := by
        rw [ho]
        simp only [flS_succ]
        rw [if_pos hf, fwL_push]
      refine ⟨fun z => absurd z (z_m1 (by omega)), fun _ => ⟨fun z => absurd z (by decide), fun _ => ⟨ij, ?_⟩⟩⟩
      have hYj := hY j hj2
      refine pk_lt (sumF (yd sq) (w * h) j) n (fun q2 => ?_) (fun q2 => ⟨ij, ?_⟩) rfl rfl
      · exact same (by rw [hs1]; unfold fwS; rw [if_pos q2])
      · have hs2 : o (j + 1) = match o j with | none => some j | some b => if N j < N b then some j else some b := by
          rw [hs1]; unfold fwS; rw [if_neg (by omega)]
        cases hoj : o j with
        | none =>
          rw [hoj] at hs2 same
          refine pk_le 1048576 (N j) (fun z => by omega) (fun _ => ⟨ij, fun y7 e7 => ?_⟩) rfl rfl
          exact next _ _ (by rw [hs2]; rfl) (by rw [hs2, e7])
        | some b =>
          rw [hoj] at hs2 same
          have hbj := hom j b hoj
          have hNb := hNle b (by omega)
          refine pk_le (N b) (N j) (fun z => same ?_) (fun z => ⟨ij, fun y7 e7 => ?_⟩) rfl rfl
          · rw [hs2]
            show (if N j < N b then some j else some b) = some b
            rw [if_neg (by omega)]
          · have hs3 : o (j + 1) = some j := by
              rw [hs2]
              show (if N j < N b then some j else some b) = some j
              rw [if_pos z]
            exact next _ _ (by rw [hs3]; rfl) (by rw [hs3, e7])
    · rw [if_neg hf]
      refine ⟨fun _ => ⟨fun _ => same ?_, fun z => absurd rfl z⟩, fun z => absurd rfl z⟩
      rw [ho]
      simp only [flS_succ]
      rw [if_neg hf]
