section MLAY
variable {w h bar U rich : Nat} {Y : Nat → Nat}
theorem omin_0 (b : Option Nat) : omin (some 0) b = some 0 := by
  cases b with
  | none => rfl
  | some y =>
    show some (if y < 0 then y else 0) = some 0
    rw [if_neg (by omega)]
theorem RLs_keep {lf : Bool} {wy hb had i : Nat} {le wa le' wa' : Nat → Int32} (k : okS w h) (hi : i < 280) (hR : RLs w h bar U rich Y lf wy hb (had + 1) le wa) (h1 : ∀ j, j ≠ 280 * had + i → le' j = le j) (h2 : ∀ j, j ≠ 280 * had + i → wa' j = wa j) : RLs w h bar U rich Y lf wy hb (had + 1) le' wa' := by
  intro had' h3 h4 i' hi' a b
  rw [h1 _ (by omega), h2 _ (by omega)]
  exact hR had' h3 h4 i' hi' a b
theorem s_layIn {lf : Bool} {wy hb had : Nat} {fo : Int32} {aS aN aY le wa : Nat → Int32} {aE : Nat → Int64} {Q : (Int32 × (Nat → Int32) × (Nat → Int64) × (Nat → Int32) × (Nat → Int32) × (Nat → Int32) × (Nat → Int32)) → Prop} {B20 : (Nat → Int32) → (Nat → Int32) → Int32 → Prop} (k : okS w h) (hF : FLok w h U Y (flS w h bar (2 ^ (w * h))) fo aS aE aN aY) (hri : rich < 2 ^ 31) (hY : ∀ g, Y g ≤ 90) (hwy : wy ≤ 90) (hhb : hb ≤ 60) (hh : had < 2 ^ (w * h)) (hR : RLs w h bar U rich Y lf wy hb (had + 1) le wa) (hB : ∀ le' wa', RLs w h bar U rich Y lf wy hb had le' wa' → B20 le' wa' (nI had + (-1))) : lp_X11_layCourses_28 Q B20 (nI wy) (nI hb) (gI lf) (nI rich) (nI had) (nI w) (nI h) fo aS aE aN aY le wa 0 := by
  have hp := pow10 k
  have hlen := flS_len (bar := bar) k (Nat.le_refl (2 ^ (w * h)))
  have hfo := hF.1
  have hFa := hF.2
  have hLat : ∀ i, i < (flS w h bar (2 ^ (w * h))).length → (flS w h bar (2 ^ (w * h))).getD i 0 < 2 ^ (w * h) ∧ isFd w h bar ((flS w h bar (2 ^ (w * h))).getD i 0) = true := fun i hi => fl_at hi
  unfold lp_X11_layCourses_28
  refine ⟨fun m le wa x6 => ∃ i, i ≤ (flS w h bar (2 ^ (w * h))).length ∧ m = (flS w h bar (2 ^ (w * h))).length - i ∧ x6 = nI i ∧ RLs w h bar U rich Y lf wy hb (had + 1) le wa ∧ ∀ i', i' < i → andn ((flS w h bar (2 ^ (w * h))).getD i' 0) had = 0 → okH w h U hb ((flS w h bar (2 ^ (w * h))).getD i' 0) = true → le (280 * had + i') = eO 100000 (LDP w h bar U rich Y lf wy hb had ((flS w h bar (2 ^ (w * h))).getD i' 0)) ∧ wa (280 * had + i') = nI (WDP w h bar U rich Y wy hb had ((flS w h bar (2 ^ (w * h))).getD i' 0)), ⟨_, 0, Nat.zero_le _, rfl, rfl, hR, fun i' hi' => absurd hi' (Nat.not_lt_zero i')⟩, ?_⟩
  clear hR
  rintro m le wa x6 ⟨i, hi, rfl, rfl, hR, hdone⟩
  unfold bd_X11_layCourses_28
  rw [hfo]
  refine pk_le (flS w h bar (2 ^ (w * h))).length i (fun q y7 e7 => ?_) (fun q => ⟨pk_in i 280 (by omega), ?_⟩) rfl rfl
  · rw [e7]
    refine hB le wa (fun had' h1 h2 i' hi' a b => ?_)
    by_cases e : had' = had
    · subst e
      exact hdone i' (by omega) a b
    · exact hR had' (by omega) h2 i' hi' a b
  · obtain ⟨f, hf⟩ : ∃ f, (flS w h bar (2 ^ (w * h))).getD i 0 = f := ⟨_, rfl⟩
    obtain ⟨hfl, hff⟩ := hLat i q
    obtain ⟨f1, f2, f3, f4⟩ := hFa i q
    rw [hf] at hfl hff f1 f2 f3 f4
    have hpc := pc_le (nds_lt k U hfl)
    have hYf := hY f
    have hin := pk_in i 280 (by omega)
    rw [z_cl (show i < 2 ^ 31 by omega), f1, f3, z_andn]
    have h150 : ∀ le' wa', RLs w h bar U rich Y lf wy hb (had + 1) le' wa' → (∀ j, j ≠ 280 * had + i → le' j = le j) → (∀ j, j ≠ 280 * had + i → wa' j = wa j) → (andn f had = 0 → okH w h U hb f = true → le' (280 * had + i) = eO 100000 (LDP w h bar U rich Y lf wy hb had f) ∧ wa' (280 * had + i) = nI (WDP w h bar U rich Y wy hb had f)) → bk_X11_layCourses_150 Q B20 (fun M_least' M_ways' x6' => ∃ n', n' < (flS w h bar (2 ^ (w * h))).length - i ∧ ∃ i, i ≤ (flS w h bar (2 ^ (w * h))).length ∧ n' = (flS w h bar (2 ^ (w * h))).length - i ∧ x6' = nI i ∧ RLs w h bar U rich Y lf wy hb (had + 1) M_least' M_ways' ∧ ∀ i', i' < i → andn ((flS w h bar (2 ^ (w * h))).getD i' 0) had = 0 → okH w h U hb ((flS w h bar (2 ^ (w * h))).getD i' 0) = true → M_least' (280 * had + i') = eO 100000 (LDP w h bar U rich Y lf wy hb had ((flS w h bar (2 ^ (w * h))).getD i' 0)) ∧ M_ways' (280 * had + i') = nI (WDP w h bar U rich Y wy hb had ((flS w h bar (2 ^ (w * h))).getD i' 0))) (nI i) le' wa' := by
      intro le' wa' hR' hk1 hk2 hat
      unfold bk_X11_layCourses_150
      refine fun y9 e9 => ⟨(flS w h bar (2 ^ (w * h))).length - (i + 1), by omega, i + 1, by omega, rfl, by rw [e9, nI_1], hR', fun i' hi' a b => ?_⟩
      by_cases e : i' = i
      · subst e
        rw [hf] at a b ⊢
        exact hat a b
      · rw [hk1 _ (by omega), hk2 _ (by omega)]
        exact hdone i' (by omega) a b
    have hal : andn f had < 2 ^ 31 := Nat.lt_of_le_of_lt (andn_le _ _) (by omega)
    by_cases q1 : andn f had = 0
    · rw [q1]
      refine ⟨fun z => absurd rfl z, fun _ => ⟨hin, pk_lt hb (pc (nds w h U f)) (fun q2 => h150 le wa hR (fun _ _ => rfl) (fun _ _ => rfl) (fun _ b => ?_)) (fun q2 y11 e11 => ?_) rfl rfl⟩⟩
      · have : pc (nds w h U f) ≤ hb := of_decide_eq_true b
        omega
      · have e280 : (280 : Int32) * nI had = nI (280 * had) := z_mul 280 _
        rw [e280, nI_add] at e11
        subst e11
        have hA1 : 280 * had + i < 286720 := by omega
        have hinA := pk_in (280 * had + i) 286720 hA1
        have hLE := LDP_eq (bar := bar) (U := U) (rich := rich) (Y := Y) (lf := lf) (wy := wy) (hb := hb) (last := f) hh
        have hWE := WDP_eq (bar := bar) (U := U) (rich := rich) (Y := Y) (wy := wy) (hb := hb) (last := f) hh
        unfold EL at hLE
        unfold EW at hWE
        have h89 : ∀ (s0 : Int32) (ini : Option Nat) (en : Nat), (s0 = 0 ∧ ini = none ∧ en = 0 ∧ andn rich had ≠ 0 ∨ s0 = 1 ∧ ini = some 0 ∧ en = 1 ∧ andn rich had = 0) → bk_X11_layCourses_89 Q B20 (fun M_least' M_ways' x6' => ∃ n', n' < (flS w h bar (2 ^ (w * h))).length - i ∧ ∃ i, i ≤ (flS w h bar (2 ^ (w * h))).length ∧ n' = (flS w h bar (2 ^ (w * h))).length - i ∧ x6' = nI i ∧ RLs w h bar U rich Y lf wy hb (had + 1) M_least' M_ways' ∧ ∀ i', i' < i → andn ((flS w h bar (2 ^ (w * h))).getD i' 0) had = 0 → okH w h U hb ((flS w h bar (2 ^ (w * h))).getD i' 0) = true → M_least' (280 * had + i') = eO 100000 (LDP w h bar U rich Y lf wy hb had ((flS w h bar (2 ^ (w * h))).getD i' 0)) ∧ M_ways' (280 * had + i') = nI (WDP w h bar U rich Y wy hb had ((flS w h bar (2 ^ (w * h))).getD i' 0))) (nI wy) (nI hb) (gI lf) (nI had) (nI i) (nI (280 * had + i)) (nI w) (nI h) (nI (flS w h bar (2 ^ (w * h))).length) aS aE aN aY le wa s0 := by
          intro s0 ini en hcase
          have h126 : ∀ f14 : Nat → Int32, f14 = upd le (280 * had + i) (eO 100000 ini) → bk_X11_layCourses_126 Q B20 (fun M_least' M_ways' x6' => ∃ n', n' < (flS w h bar (2 ^ (w * h))).length - i ∧ ∃ i, i ≤ (flS w h bar (2 ^ (w * h))).length ∧ n' = (flS w h bar (2 ^ (w * h))).length - i ∧ x6' = nI i ∧ RLs w h bar U rich Y lf wy hb (had + 1) M_least' M_ways' ∧ ∀ i', i' < i → andn ((flS w h bar (2 ^ (w * h))).getD i' 0) had = 0 → okH w h U hb ((flS w h bar (2 ^ (w * h))).getD i' 0) = true → M_least' (280 * had + i') = eO 100000 (LDP w h bar U rich Y lf wy hb had ((flS w h bar (2 ^ (w * h))).getD i' 0)) ∧ M_ways' (280 * had + i') = nI (WDP w h bar U rich Y wy hb had ((flS w h bar (2 ^ (w * h))).getD i' 0))) (nI wy) (nI hb) (gI lf) (nI had) (nI i) (nI (280 * had + i)) (nI w) (nI h) (nI (flS w h bar (2 ^ (w * h))).length) aS aE aN aY f14 wa (nI en) (nI (280 * had + i)) := by
            intro f14 e14
            have hen : en ≤ 1 := by rcases hcase with ⟨_, _, e, _⟩ | ⟨_, _, e, _⟩ <;> omega
            have hini : bdO 0 ini := by
              intro x hx
              rcases hcase with ⟨_, e, _, _⟩ | ⟨_, e, _, _⟩
              · rw [e] at hx; cases hx
              · rw [e] at hx; cases hx; exact Nat.le_refl 0
            unfold bk_X11_layCourses_126
            rw [z_cl (show 280 * had + i < 2 ^ 31 by omega), z_cl (show i < 2 ^ 31 by omega), f4]
            refine ⟨hinA, fun f16 e16 => ⟨hin, ?_⟩⟩
            have k1 : ∀ j, j ≠ 280 * had + i → f14 j = le j := fun j hj => by rw [e14, z_upd_ne _ _ hj]
            have k2 : ∀ j, j ≠ 280 * had + i → f16 j = wa j := fun j hj => by rw [e16, z_upd_ne _ _ hj]
            have v1 : f14 (280 * had + i) = eO 100000 ini := by rw [e14, z_upd_eq]
            have v2 : f16 (280 * had + i) = nI en := by rw [e16, z_upd_eq]
            have hR' := RLs_keep k (by omega) hR k1 k2
            refine pk_lt (Y f) wy (fun q3 => h150 f14 f16 hR' k1 k2 (fun _ _ => ?_)) (fun q3 => ?_) rfl rfl
            · rw [if_pos q3] at hLE
              rw [if_pos q3] at hWE
              rw [v1, v2, hLE, hWE]
              rcases hcase with ⟨_, e2, e3, e4⟩ | ⟨_, e2, e3, e4⟩
              · rw [if_neg e4, if_neg e4, e2, e3]
                exact ⟨rfl, rfl⟩
              · rw [if_pos e4, if_pos e4, e2, e3]
                exact ⟨rfl, rfl⟩
            · rw [← hfo]
              refine s_goOn k hF hhb hh q hen hini v1 v2 hR' (fun le' wa' g1 g2 g3 g4 => ?_)
              rw [hf] at g1 g3
              have k1' : ∀ j, j ≠ 280 * had + i → le' j = le j := fun j hj => by rw [g2 j hj, k1 j hj]
              have k2' : ∀ j, j ≠ 280 * had + i → wa' j = wa j := fun j hj => by rw [g4 j hj, k2 j hj]
              refine h150 le' wa' (RLs_keep k (by omega) hR k1' k2') k1' k2' (fun _ _ => ?_)
              have q4 : ¬ Y f < wy := by omega
              rw [if_neg q4] at hLE
              rw [if_neg q4] at hWE
              rw [g1, g3, hLE, hWE]
              rcases hcase with ⟨_, e2, e3, e4⟩ | ⟨_, e2, e3, e4⟩
              · rw [if_neg e4, if_neg e4, e2, e3]
                exact ⟨rfl, rfl⟩
              · rw [if_pos e4, if_pos e4, e2, e3, omin_0]
                exact ⟨rfl, rfl⟩
          have h109 : ∀ (F : Int32), F = eO 100000 ini → bk_X11_layCourses_109 Q B20 (fun M_least' M_ways' x6' => ∃ n', n' < (flS w h bar (2 ^ (w * h))).length - i ∧ ∃ i, i ≤ (flS w h bar (2 ^ (w * h))).length ∧ n' = (flS w h bar (2 ^ (w * h))).length - i ∧ x6' = nI i ∧ RLs w h bar U rich Y lf wy hb (had + 1) M_least' M_ways' ∧ ∀ i', i' < i → andn ((flS w h bar (2 ^ (w * h))).getD i' 0) had = 0 → okH w h U hb ((flS w h bar (2 ^ (w * h))).getD i' 0) = true → M_least' (280 * had + i') = eO 100000 (LDP w h bar U rich Y lf wy hb had ((flS w h bar (2 ^ (w * h))).getD i' 0)) ∧ M_ways' (280 * had + i') = nI (WDP w h bar U rich Y wy hb had ((flS w h bar (2 ^ (w * h))).getD i' 0))) (nI wy) (nI hb) (gI lf) (nI had) (nI i) (nI (280 * had + i)) s0 (nI w) (nI h) (nI (flS w h bar (2 ^ (w * h))).length) aS aE aN aY le wa F (nI (280 * had + i)) := by
            intro F eF
            unfold bk_X11_layCourses_109
            rw [z_cl (show 280 * had + i < 2 ^ 31 by omega)]
            refine ⟨hinA, fun f14 e14 => ?_⟩
            rw [eF] at e14
            have := h126 f14 e14
            rcases hcase with ⟨e1, e2, e3, e4⟩ | ⟨e1, e2, e3, e4⟩
            · rw [e1]
              rw [e3] at this
              exact ⟨fun _ => this, fun z => absurd rfl z⟩
            · rw [e1]
              rw [e3] at this
              exact ⟨fun z => absurd z (by decide), fun _ => this⟩
          unfold bk_X11_layCourses_89
          rcases hcase with ⟨e1, e2, e3, e4⟩ | ⟨e1, e2, e3, e4⟩
          · exact ⟨fun _ => h109 _ (by rw [e2]; rfl), fun z => absurd e1 z⟩
          · refine ⟨fun z => ?_, fun _ => h109 _ (by rw [e2]; rfl)⟩
            rw [e1] at z
            exact absurd z (by decide)
        rw [z_andn]
        have hrl : andn rich had < 2 ^ 31 := Nat.lt_of_le_of_lt (andn_le _ _) hri
        by_cases e : andn rich had = 0
        · rw [e]
          exact ⟨fun z => absurd rfl z, fun _ => h89 1 (some 0) 1 (Or.inr ⟨rfl, rfl, rfl, e⟩)⟩
        · exact ⟨fun _ => h89 0 none 0 (Or.inl ⟨rfl, rfl, rfl, e⟩), fun z => absurd z (nI_ne0 (by omega) hrl)⟩
    · exact ⟨fun _ => h150 le wa hR (fun _ _ => rfl) (fun _ _ => rfl) (fun a _ => absurd a q1), fun z => absurd z (nI_ne0 (by omega) hal)⟩
theorem rich_lt {sq : Nat → Nat} (k : okS w h) : mk (pRich sq) (w * h) < 2 ^ 31 := by
  have := mk_lt (pRich sq) (w * h)
  have := pow10 k
  omega
theorem s_layC {lf : Bool} {H wy hb : Nat} {sq : Nat → Nat} {gk aS aN aY le wa : Nat → Int32} {aE : Nat → Int64} {Q : (Int32 × (Nat → Int32) × (Nat → Int64) × (Nat → Int32) × (Nat → Int32) × (Nat → Int32) × (Nat → Int32)) → Prop} (k : okS w h) (hgk : ∀ s, s < w * h → gk s = nI (sq s) ∧ sq s ≤ 11) (hwy : wy ≤ 90) (hhb : hb ≤ 60) (hQ : ∀ c a1 a2 a3 a4 le' wa', FLok w h (H ||| pe w h sq (w * h)) (sumF (yd sq) (w * h)) (flS w h (mk (pBar sq) (w * h)) (2 ^ (w * h))) c a1 a2 a3 a4 → RLs w h (mk (pBar sq) (w * h)) (H ||| pe w h sq (w * h)) (mk (pRich sq) (w * h)) (sumF (yd sq) (w * h)) lf wy hb 1 le' wa' → Q (c, a1, a2, a3, a4, le', wa')) : wp_X11_layCourses (nI wy) (nI hb) (gI lf) (nI w) (nI h) (lN H) gk aS aE aN aY le wa Q := by
  have hp := pow10 k
  have hp0 := Nat.two_pow_pos (w * h)
  have hn := n10 k
  unfold wp_X11_layCourses
  refine s_findFolds k hgk (fun c a1 a2 a3 a4 hF => s_rich k hgk (s_squares (fun y4 e4 => ?_)))
  rw [z_shl1 _ (by omega), z_minus1 hp0] at e4
  subst e4
  dsimp only
  unfold lp_X11_layCourses_20
  refine ⟨fun m le wa x5 => ∃ had, had < 2 ^ (w * h) ∧ m = had ∧ x5 = nI had ∧ RLs w h (mk (pBar sq) (w * h)) (H ||| pe w h sq (w * h)) (mk (pRich sq) (w * h)) (sumF (yd sq) (w * h)) lf wy hb (had + 1) le wa, ⟨_, 2 ^ (w * h) - 1, by omega, rfl, rfl, fun had' h1 h2 => by omega⟩, ?_⟩
  rintro m le wa x5 ⟨had, hh, rfl, rfl, hR⟩
  unfold bd_X11_layCourses_20
  refine pk_le m 0 (fun q => ?_) (fun q => ?_) rfl rfl
  · have e0 : m = 0 := by omega
    subst e0
    exact hQ _ _ _ _ _ _ _ hF hR
  · refine s_layIn k hF (rich_lt k) (fun g => yards_le k sq g) hwy hhb hh hR (fun le' wa' hR' => ⟨m - 1, by omega, m - 1, by omega, rfl, ?_, ?_⟩)
    · obtain ⟨c, rfl⟩ : ∃ c, m = c + 1 := ⟨m - 1, by omega⟩
      rw [z_m1a]
      rfl
    · rw [show m - 1 + 1 = m by omega]
      exact hR'
end MLAY
