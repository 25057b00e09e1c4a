/-! the reference's list of folds -/
def flS (w h bar k : Nat) : List Nat := (List.range k).filter (isFd w h bar)
theorem flS_succ (w h bar k : Nat) : flS w h bar (k + 1) = if isFd w h bar k then flS w h bar k ++ [k] else flS w h bar k := by
  unfold flS
  rw [List.range_succ, List.filter_append]
  cases hf : isFd w h bar k <;> simp [hf]
theorem flS_mem {w h bar k g : Nat} : g ∈ flS w h bar k ↔ g < k ∧ isFd w h bar g = true := by
  unfold flS
  rw [List.mem_filter, List.mem_range]
theorem flS_len {w h bar k : Nat} (ok : okS w h) (hk : k ≤ 2 ^ (w * h)) : (flS w h bar k).length ≤ 280 := by
  unfold flS
  rw [← List.countP_eq_length_filter]
  have h1 : (List.range k).countP (isFd w h bar) ≤ (List.range (2 ^ (w * h))).countP (isFd w h bar) := List.Sublist.countP_le (List.range_sublist.mpr hk)
  have h2 : (List.range (2 ^ (w * h))).countP (isFd w h bar) ≤ (List.range (2 ^ (w * h))).countP (fun s => 0 < s && conn w h s) := by
    apply List.countP_mono_left
    intro g _ hg
    simp only [isFd, Bool.and_eq_true] at hg ⊢
    exact ⟨hg.1.1, hg.2⟩
  have h3 := cl_280 ok
  rw [cl_eq ok, ← List.countP_eq_length_filter] at h3
  omega
def FLok (w h unn : Nat) (Y : Nat → Nat) (L : List Nat) (cnt : Int32) (aS : Nat → Int32) (aE : Nat → Int64) (aN aY : Nat → Int32) : Prop :=
  cnt = nI L.length ∧ ∀ i, i < L.length → aS i = nI (L.getD i 0) ∧ aE i = lN (nds w h unn (L.getD i 0)) ∧ aN i = nI (pc (nds w h unn (L.getD i 0))) ∧ aY i = nI (Y (L.getD i 0))
theorem z_updL_eq (f : Nat → Int64) (k : Nat) (x : Int64) : vp_updL f k x k = x := if_pos rfl
theorem z_updL_ne (f : Nat → Int64) {k j : Nat} (x : Int64) (h : j ≠ k) : vp_updL f k x j = f j := if_neg h
theorem s_findFolds {w h H : Nat} {sq : Nat → Nat} {gk aS aN aY : Nat → Int32} {aE : Nat → Int64} {Q : (Int32 × (Nat → Int32) × (Nat → Int64) × (Nat → Int32) × (Nat → Int32)) → Prop} (k : okS w h) (hgk : ∀ s, s < w * h → gk s = nI (sq s) ∧ sq s ≤ 11)
    (hQ : ∀ c a1 a2 a3 a4, FLok w h (H ||| pe w h sq (w * h)) (sumF (yd sq) (w * h)) (flS w h (mk (pBar sq) (w * h)) (2 ^ (w * h))) c a1 a2 a3 a4 → Q (c, a1, a2, a3, a4)) : wp_X11_findFolds (nI w) (nI h) (lN H) gk aS aE aN aY Q := by
  have hn := k.2.2
  have hp := pow10 k
  have hp0 : 0 < 2 ^ (w * h) := Nat.two_pow_pos _
  obtain ⟨bar, hbar⟩ : ∃ b, b = mk (pBar sq) (w * h) := ⟨_, rfl⟩
  obtain ⟨unn, hunn⟩ : ∃ b, b = H ||| pe w h sq (w * h) := ⟨_, rfl⟩
  rw [← hbar, ← hunn] at hQ
  have f0 : flS w h bar 1 = [] := by
    have : isFd w h bar 0 = false := by simp [isFd]
    rw [flS_succ, this]
    rfl
  unfold wp_X11_findFolds lp_X11_findFolds_7
  refine ⟨fun m c a1 a2 a3 a4 z => ∃ g, 0 < g ∧ g ≤ 2 ^ (w * h) ∧ m = 2 ^ (w * h) - g ∧ z = nI g ∧ FLok w h unn (sumF (yd sq) (w * h)) (flS w h bar g) c a1 a2 a3 a4, ⟨_, 1, by decide, hp0, rfl, rfl, by rw [f0]; rfl, fun i hi => by rw [f0] at hi; exact absurd hi (Nat.not_lt_zero i)⟩, ?_⟩
  rintro m c a1 a2 a3 a4 z ⟨g, hg0, hg, rfl, rfl, hF⟩
  obtain ⟨B, hB⟩ : ∃ B : Int32 → (Nat → Int32) → (Nat → Int64) → (Nat → Int32) → (Nat → Int32) → Int32 → Prop, B = fun c a1 a2 a3 a4 z => ∃ n', n' < 2 ^ (w * h) - g ∧ ∃ g, 0 < g ∧ g ≤ 2 ^ (w * h) ∧ n' = 2 ^ (w * h) - g ∧ z = nI g ∧ FLok w h unn (sumF (yd sq) (w * h)) (flS w h bar g) c a1 a2 a3 a4 := ⟨_, rfl⟩
  rw [← hB]
  unfold bd_X11_findFolds_7
  refine s_squares ?_
  rw [z_shl1 (w * h) (by omega)]
  refine pk_le (2 ^ (w * h)) g (fun q => ?_) (fun q => ?_) rfl rfl
  · have : g = 2 ^ (w * h) := by omega
    rw [this] at hF
    exact hQ _ _ _ _ _ hF
  · have next : ∀ c' b1 b2 b3 b4, FLok w h unn (sumF (yd sq) (w * h)) (flS w h bar (g + 1)) c' b1 b2 b3 b4 → bk_X11_findFolds_94 Q B (nI g) c' b1 b2 b3 b4 := by
      intro c' b1 b2 b3 b4 hF'
      unfold bk_X11_findFolds_94
      intro y5 e5
      rw [hB]
      exact ⟨2 ^ (w * h) - (g + 1), by omega, g + 1, by omega, q, rfl, by rw [e5]; exact nI_1 g, hF'⟩
    refine s_misFold k q hgk ?_
    rw [← hbar]
    by_cases hf : isFd w h bar g = true
    · rw [if_pos hf]
      have hlen := flS_len (bar := bar) k (show g + 1 ≤ 2 ^ (w * h) from q)
      rw [flS_succ, if_pos hf, List.length_append, List.length_singleton] at hlen
      obtain ⟨F1, F2⟩ := hF
      have ci : c.toNatClampNeg = (flS w h bar g).length := pk_cl _ F1 (by omega)
      have ii : vp_in c 280 := pk_in (flS w h bar g).length 280 (by omega) F1
      refine ⟨fun z => absurd z (by decide), fun _ => ⟨ii, fun f6 e6 => s_edgesOf k q hgk ⟨ii, fun f8 e8 => ⟨ii, ?_⟩⟩⟩⟩
      rw [hbar] at hf
      rw [ci] at e6 e8 ⊢
      rw [edM_nds k q hf, ← hunn] at e8
      rw [← hbar] at hf
      rw [e8, z_updL_eq]
      refine s_bits (nds_lt k _ q) ⟨ii, fun f10 e10 => s_yardsOf k (by omega) hgk ⟨ii, fun f12 e12 y13 e13 => ?_⟩⟩
      refine next _ _ _ _ _ ⟨?_, ?_⟩
      · rw [e13, F1, nI_1, flS_succ, if_pos hf, List.length_append]; rfl
      · intro i hi
        rw [flS_succ, if_pos hf, List.length_append, List.length_singleton] at hi
        rw [flS_succ, if_pos hf, getD_push, e6, e10, e12]
        by_cases hl : i < (flS w h bar g).length
        · rw [if_pos hl, z_upd_ne _ _ (by omega), z_updL_ne _ _ (by omega), z_upd_ne _ _ (by omega), z_upd_ne _ _ (by omega)]
          exact F2 i hl
        · have hie : i = (flS w h bar g).length := by omega
          rw [if_neg hl, if_pos hie, hie, z_upd_eq, z_updL_eq, z_upd_eq, z_upd_eq]
          exact ⟨rfl, rfl, rfl, rfl⟩
    · rw [if_neg hf]
      refine ⟨fun _ => next _ _ _ _ _ ?_, fun z => absurd rfl z⟩
      rw [flS_succ, if_neg hf]
      exact hF
