section TOPS
variable {w h bar U rich : Nat} {Y : Nat → Nat}
theorem resO_eO {F B : Nat} {o : Option Nat} (hF : F < 2 ^ 31) (hB : B < F) (ho : bdO B o) : (eO F o = nI F ↔ o = none) ∧ (nI F ≤ eO F o ↔ o = none) := by
  cases o with
  | none => exact ⟨⟨fun _ => rfl, fun _ => rfl⟩, ⟨fun _ => rfl, fun _ => nI_le (Nat.le_refl F) hF⟩⟩
  | some x =>
    have := ho x rfl
    refine ⟨⟨fun q => ?_, fun q => by cases q⟩, ⟨fun q => ?_, fun q => by cases q⟩⟩
    · have := z_inj (a := x) (b := F) (by omega) hF q
      omega
    · exfalso
      have h1 := (fa_le _ _).mp q
      change (nI F).toInt ≤ (nI x).toInt at h1
      rw [nI_toInt hF, nI_toInt (by omega)] at h1
      omega
theorem nda_f {g : Nat} (hf : isFd w h bar g = true) : nda w h bar U g = nds w h U g := by
  unfold nda
  rw [if_pos hf]
theorem andn_0 (a : Nat) : andn a 0 = a := by
  unfold andn
  rw [Nat.and_zero, Nat.xor_zero]
theorem cb_0 {lf : Bool} {g v : Nat} (hf : isFd w h bar g = true) : cbF w h bar U lf 0 g v = if lf then pc (nds w h U g) + v else (if pc (nds w h U g) < v then v else pc (nds w h U g)) := by
  cases lf with
  | true =>
    show pc (andn (nda w h bar U g) (nda w h bar U 0)) + v = _
    rw [nda_0, andn_0, nda_f hf]
    rfl
  | false => rfl
def tC (w h bar U rich : Nat) (Y : Nat → Nat) (lf : Bool) (wy hb : Nat) : Nat → Option Nat := fun g => if okH w h U hb g then (LDP w h bar U rich Y lf wy hb g g).map (cbF w h bar U lf 0 g) else none
theorem tC_bd (k : okS w h) {lf : Bool} {wy hb g : Nat} (hg : g ∈ flS w h bar (2 ^ (w * h))) : bdO 31775 (tC w h bar U rich Y lf wy hb g) := by
  intro x hx
  unfold tC at hx
  split at hx
  · cases e : LDP w h bar U rich Y lf wy hb g g with
    | none => rw [e] at hx; cases hx
    | some y =>
      rw [e] at hx
      change some (cbF w h bar U lf 0 g y) = some x at hx
      cases hx
      have h1 := LDP_bd k e
      have h2 := cbF_b (U := U) k lf 0 g y hg
      omega
  · cases hx
theorem mL_bd {B : Nat} {c : Nat → Option Nat} {l : List Nat} (hc : ∀ g, g ∈ l → bdO B (c g)) : bdO B (mL c l) := by
  intro x hx
  obtain ⟨g, h1, h2⟩ := mL_some hx
  exact hc g h1 x h2
theorem LTop_bd (k : okS w h) {lf : Bool} {wy hb : Nat} : bdO 31775 (LTop w h bar U rich Y lf wy hb) := mL_bd (fun g hg => tC_bd k hg)
theorem s_mfew0 {wy : Nat} {fo : Int32} {aS aN aY le wa : Nat → Int32} {aE : Nat → Int64} {Q : Int32 → (Int32 × (Nat → Int32) × (Nat → Int64) × (Nat → Int32) × (Nat → Int32) × (Nat → Int32) × (Nat → Int32)) → Prop} (k : okS w h) (hF : FLok w h U Y (flS w h bar (2 ^ (w * h))) fo aS aE aN aY) (hR : RLs w h bar U rich Y false wy 60 1 le wa) (hQ : Q (resO (LTop w h bar U rich Y false wy 60)) (fo, aS, aE, aN, aY, le, wa)) : lp_X11_fewestOf_14 Q fo aS aE aN aY le wa 100000 0 := by
  have hp := pow10 k
  have hlen := flS_len (bar := bar) k (Nat.le_refl (2 ^ (w * h)))
  have hfo := hF.1
  have hFa := hF.2
  obtain ⟨L, hL⟩ : ∃ L, flS w h bar (2 ^ (w * h)) = L := ⟨_, rfl⟩
  have hLat : ∀ i, i < L.length → L.getD i 0 < 2 ^ (w * h) ∧ isFd w h bar (L.getD i 0) = true := fun i hi => by
    rw [← hL] at hi ⊢
    exact fl_at hi
  have hLm : ∀ g, g ∈ L → bdO 31775 (tC w h bar U rich Y false wy 60 g) := fun g hg => tC_bd k (by rw [hL]; exact hg)
  have hTop : LTop w h bar U rich Y false wy 60 = mL (tC w h bar U rich Y false wy 60) L := by rw [← hL]; rfl
  rw [hTop] at hQ
  unfold RLs at hR
  rw [hL] at hfo hFa hlen hR
  unfold lp_X11_fewestOf_14
  refine ⟨fun m x2 x3 => ∃ i, i ≤ L.length ∧ m = L.length - i ∧ x3 = nI i ∧ x2 = eO 100000 (mL (tC w h bar U rich Y false wy 60) (L.take i)), ⟨_, 0, Nat.zero_le _, rfl, rfl, rfl⟩, ?_⟩
  rintro m x2 x3 ⟨i, hi, rfl, rfl, rfl⟩
  have hbi : bdO 31775 (mL (tC w h bar U rich Y false wy 60) (L.take i)) := mL_bd (fun g hg => hLm g (List.mem_of_mem_take hg))
  unfold bd_X11_fewestOf_14
  rw [hfo]
  refine pk_le L.length i (fun q => ?_) (fun q => ⟨pk_in i 280 (by omega), ?_⟩) rfl rfl
  · rw [List.take_of_length_le (by omega)] at hbi ⊢
    have hn := (resO_eO (F := 100000) (B := 31775) (by decide) (by decide) hbi).1
    rw [← hfo]
    cases eT : mL (tC w h bar U rich Y false wy 60) L with
    | none =>
      rw [eT] at hQ
      exact ⟨fun z => absurd rfl z, fun _ => hQ⟩
    | some x =>
      rw [eT] at hQ hn
      exact ⟨fun _ => hQ, fun z => by have := hn.mp z; cases this⟩
  · obtain ⟨g, hg⟩ : ∃ g, L.getD i 0 = g := ⟨_, rfl⟩
    obtain ⟨hgl, hgf⟩ := hLat i q
    obtain ⟨g1, g2, g3, g4⟩ := hFa i q
    rw [hg] at hgl hgf g1 g2 g3 g4
    have hgp := isFd_pos hgf
    have hpc := pc_le (nds_lt k U hgl)
    have hin := pk_in i 280 (by omega)
    have hok : okH w h U 60 g = true := decide_eq_true (by omega)
    have hr := hR g (by omega) hgl i q (by rw [hg]; have := andn_or 0 g; rw [Nat.zero_or] at this; exact this) (by rw [hg]; exact hok)
    rw [hg] at hr
    have e280 : (280 : Int32) * nI g = nI (280 * g) := z_mul 280 _
    rw [z_cl (show i < 2 ^ 31 by omega), g1, g3, e280, nI_add, z_cl (show 280 * g + i < 2 ^ 31 by omega), hr.1]
    have hpush : mL (tC w h bar U rich Y false wy 60) (L.take (i + 1)) = omin (mL (tC w h bar U rich Y false wy 60) (L.take i)) ((LDP w h bar U rich Y false wy 60 g g).map (cbF w h bar U false 0 g)) := by
      rw [take_push q, mL_push, hg]
      unfold tC
      rw [if_pos hok]
    refine ⟨pk_in (280 * g + i) 286720 (by omega), fun y4 e4 => ⟨hin, ?_⟩⟩
    subst e4
    have h63 : ∀ s0, SO s0 (LDP w h bar U rich Y false wy 60 g g) (cbF w h bar U false 0 g) → bk_X11_fewestOf_63 Q (fun x2' x3' => ∃ n', n' < L.length - i ∧ ∃ i, i ≤ L.length ∧ n' = L.length - i ∧ x3' = nI i ∧ x2' = eO 100000 (mL (tC w h bar U rich Y false wy 60) (L.take i))) (eO 100000 (mL (tC w h bar U rich Y false wy 60) (L.take i))) (nI i) s0 := by
      intro s0 hs
      have hso := so_le hbi hs
      unfold bk_X11_fewestOf_63 bk_X11_fewestOf_77
      refine ⟨fun z y7 e7 => ⟨L.length - (i + 1), by omega, i + 1, by omega, rfl, by rw [e7, nI_1], by rw [hpush, hso.1 z]⟩, fun z y7 e7 => ⟨L.length - (i + 1), by omega, i + 1, by omega, rfl, by rw [e7, nI_1], by rw [hpush]; exact (hso.2 z).1⟩⟩
    cases eD : LDP w h bar U rich Y false wy 60 g g with
    | none =>
      rw [eD] at h63
      refine ⟨fun _ => h63 _ ⟨fun y hy => (by cases hy), fun _ => ⟨100000, rfl, by omega, by omega⟩⟩, fun z => absurd (nI_le (by omega) (by decide)) z⟩
    | some y =>
      have hyb := LDP_bd k eD
      rw [eD] at h63
      have hcbv := cb_0 (lf := false) (U := U) (v := y) hgf
      refine pk_le (pc (nds w h U g)) y (fun q4 => h63 _ ⟨fun y' hy' => ?_, fun z => (by cases z)⟩) (fun q4 => ⟨hin, h63 _ ⟨fun y' hy' => ?_, fun z => (by cases z)⟩⟩) rfl rfl
      · cases hy'
        rw [hcbv]
        by_cases q5 : pc (nds w h U g) < y
        · rw [if_neg (by decide), if_pos q5]
          exact ⟨rfl, by omega⟩
        · rw [if_neg (by decide), if_neg q5, show pc (nds w h U g) = y by omega]
          exact ⟨rfl, by omega⟩
      · cases hy'
        rw [hcbv, if_neg (by decide), if_neg (by omega)]
        exact ⟨rfl, by omega⟩
theorem s_mfewestOf {H wy : Nat} {sq : Nat → Nat} {gk aS aN aY le wa : Nat → Int32} {aE : Nat → Int64} {Q : Int32 → (Int32 × (Nat → Int32) × (Nat → Int64) × (Nat → Int32) × (Nat → Int32) × (Nat → Int32) × (Nat → Int32)) → Prop} (k : okS w h) (hgk : ∀ s, s < w * h → gk s = nI (sq s) ∧ sq s ≤ 11) (hwy : wy ≤ 90) (hQ : ∀ u, Q (resO (LTop w h (mk (pBar sq) (w * h)) (H ||| pe w h sq (w * h)) (mk (pRich sq) (w * h)) (sumF (yd sq) (w * h)) false wy 60)) u) : wp_X11_fewestOf (nI wy) (nI w) (nI h) (lN H) gk aS aE aN aY le wa Q := by
  unfold wp_X11_fewestOf
  exact s_layC (lf := false) (hb := 60) k hgk hwy (by decide) (fun c a1 a2 a3 a4 le' wa' hF hR => s_mfew0 k hF hR (hQ _))
theorem s_mll0 {wy hb : Nat} {fo : Int32} {aS aN aY le wa : Nat → Int32} {aE : Nat → Int64} {Q : Int32 → (Int32 × (Nat → Int32) × (Nat → Int64) × (Nat → Int32) × (Nat → Int32) × (Nat → Int32) × (Nat → Int32)) → Prop} (k : okS w h) (hhb : hb ≤ 60) (hF : FLok w h U Y (flS w h bar (2 ^ (w * h))) fo aS aE aN aY) (hR : RLs w h bar U rich Y true wy hb 1 le wa) (hQ : Q (resO (LTop w h bar U rich Y true wy hb)) (fo, aS, aE, aN, aY, le, wa)) : lp_X11_leastLifted_14 Q (nI hb) fo aS aE aN aY le wa 100000 0 := by
  have hp := pow10 k
  have hlen := flS_len (bar := bar) k (Nat.le_refl (2 ^ (w * h)))
  have hfo := hF.1
  have hFa := hF.2
  obtain ⟨L, hL⟩ : ∃ L, flS w h bar (2 ^ (w * h)) = L := ⟨_, rfl⟩
  have hLat : ∀ i, i < L.length → L.getD i 0 < 2 ^ (w * h) ∧ isFd w h bar (L.getD i 0) = true := fun i hi => by
    rw [← hL] at hi ⊢
    exact fl_at hi
  have hLm : ∀ g, g ∈ L → bdO 31775 (tC w h bar U rich Y true wy hb g) := fun g hg => tC_bd k (by rw [hL]; exact hg)
  have hTop : LTop w h bar U rich Y true wy hb = mL (tC w h bar U rich Y true wy hb) L := by rw [← hL]; rfl
  rw [hTop] at hQ
  unfold RLs at hR
  rw [hL] at hfo hFa hlen hR
  unfold lp_X11_leastLifted_14
  refine ⟨fun m x2 x3 => ∃ i, i ≤ L.length ∧ m = L.length - i ∧ x3 = nI i ∧ x2 = eO 100000 (mL (tC w h bar U rich Y true wy hb) (L.take i)), ⟨_, 0, Nat.zero_le _, rfl, rfl, rfl⟩, ?_⟩
  rintro m x2 x3 ⟨i, hi, rfl, rfl, rfl⟩
  have hbi : bdO 31775 (mL (tC w h bar U rich Y true wy hb) (L.take i)) := mL_bd (fun g hg => hLm g (List.mem_of_mem_take hg))
  unfold bd_X11_leastLifted_14
  rw [hfo]
  refine pk_le L.length i (fun q => ?_) (fun q => ⟨pk_in i 280 (by omega), ?_⟩) rfl rfl
  · rw [List.take_of_length_le (by omega)] at hbi ⊢
    rw [← hfo]
    cases eT : mL (tC w h bar U rich Y true wy hb) L with
    | none =>
      rw [eT] at hQ
      exact ⟨fun z => absurd z (by decide), fun _ => hQ⟩
    | some x =>
      rw [eT] at hQ hbi
      have := hbi x rfl
      exact ⟨fun _ => hQ, fun z => absurd (nI_lt (show x < 100000 by omega) (by decide)) z⟩
  · obtain ⟨g, hg⟩ : ∃ g, L.getD i 0 = g := ⟨_, rfl⟩
    obtain ⟨hgl, hgf⟩ := hLat i q
    obtain ⟨g1, g2, g3, g4⟩ := hFa i q
    rw [hg] at hgl hgf g1 g2 g3 g4
    have hgp := isFd_pos hgf
    have hpc := pc_le (nds_lt k U hgl)
    have hin := pk_in i 280 (by omega)
    have e280 : (280 : Int32) * nI g = nI (280 * g) := z_mul 280 _
    rw [z_cl (show i < 2 ^ 31 by omega), g1, g3, e280, nI_add, z_cl (show 280 * g + i < 2 ^ 31 by omega)]
    have hpush : mL (tC w h bar U rich Y true wy hb) (L.take (i + 1)) = omin (mL (tC w h bar U rich Y true wy hb) (L.take i)) (tC w h bar U rich Y true wy hb g) := by
      rw [take_push q, mL_push, hg]
    have h67 : ∀ s0 b f, tC w h bar U rich Y true wy hb g = b.map f → SO s0 b f → bk_X11_leastLifted_67 Q (fun x2' x3' => ∃ n', n' < L.length - i ∧ ∃ i, i ≤ L.length ∧ n' = L.length - i ∧ x3' = nI i ∧ x2' = eO 100000 (mL (tC w h bar U rich Y true wy hb) (L.take i))) (eO 100000 (mL (tC w h bar U rich Y true wy hb) (L.take i))) (nI i) s0 := by
      intro s0 b f hbf hs
      rw [hbf] at hpush
      have hso := so_le hbi hs
      unfold bk_X11_leastLifted_67 bk_X11_leastLifted_81
      refine ⟨fun z y7 e7 => ⟨L.length - (i + 1), by omega, i + 1, by omega, rfl, by rw [e7, nI_1], by rw [hpush, hso.1 z]⟩, fun z y7 e7 => ⟨L.length - (i + 1), by omega, i + 1, by omega, rfl, by rw [e7, nI_1], by rw [hpush]; exact (hso.2 z).1⟩⟩
    refine pk_lt hb (pc (nds w h U g)) (fun q2 => h67 _ none id ?_ ⟨fun y hy => (by cases hy), fun _ => ⟨100000, rfl, by omega, by omega⟩⟩) (fun q2 => ⟨hin, hin, pk_in (280 * g + i) 286720 (by omega), ?_⟩) rfl rfl
    · unfold tC okH
      rw [decide_eq_false (by omega)]
      rfl
    · have hok : okH w h U hb g = true := decide_eq_true q2
      have hr := hR g (by omega) hgl i q (by rw [hg]; have := andn_or 0 g; rw [Nat.zero_or] at this; exact this) (by rw [hg]; exact hok)
      rw [hg] at hr
      rw [hr.1]
      refine h67 _ (LDP w h bar U rich Y true wy hb g g) (cbF w h bar U true 0 g) (by unfold tC; rw [if_pos hok]) ?_
      cases eD : LDP w h bar U rich Y true wy hb g g with
      | none =>
        refine ⟨fun y hy => (by cases hy), fun _ => ⟨pc (nds w h U g) + 100000, ?_, by omega, by omega⟩⟩
        show nI (pc (nds w h U g)) + nI 100000 = _
        rw [nI_add]
      | some y =>
        have hyb := LDP_bd k eD
        refine ⟨fun y' hy' => ?_, fun z => (by cases z)⟩
        cases hy'
        rw [cb_0 (lf := true) hgf, if_pos rfl]
        refine ⟨?_, by omega⟩
        show nI (pc (nds w h U g)) + nI y = _
        rw [nI_add]
theorem s_mleastL {H wy hb : Nat} {sq : Nat → Nat} {gk aS aN aY le wa : Nat → Int32} {aE : Nat → Int64} {Q : Int32 → (Int32 × (Nat → Int32) × (Nat → Int64) × (Nat → Int32) × (Nat → Int32) × (Nat → Int32) × (Nat → Int32)) → Prop} (k : okS w h) (hgk : ∀ s, s < w * h → gk s = nI (sq s) ∧ sq s ≤ 11) (hwy : wy ≤ 90) (hhb : hb ≤ 60) (hQ : ∀ c a1 a2 a3 a4 le' wa', FLok w h (H ||| pe w h sq (w * h)) (sumF (yd sq) (w * h)) (flS w h (mk (pBar sq) (w * h)) (2 ^ (w * h))) c a1 a2 a3 a4 → RLs w h (mk (pBar sq) (w * h)) (H ||| pe w h sq (w * h)) (mk (pRich sq) (w * h)) (sumF (yd sq) (w * h)) true wy hb 1 le' wa' → Q (resO (LTop w h (mk (pBar sq) (w * h)) (H ||| pe w h sq (w * h)) (mk (pRich sq) (w * h)) (sumF (yd sq) (w * h)) true wy hb)) (c, a1, a2, a3, a4, le', wa')) : wp_X11_leastLifted (nI wy) (nI hb) (nI w) (nI h) (lN H) gk aS aE aN aY le wa Q := by
  unfold wp_X11_leastLifted
  exact s_layC (lf := true) k hgk hwy hhb (fun c a1 a2 a3 a4 le' wa' hF hR => s_mll0 k hhb hF hR (hQ _ _ _ _ _ _ _ hF hR))
theorem s_mwy0 {lf : Bool} {wy hb : Nat} {fo : Int32} {aS aN aY le wa : Nat → Int32} {aE : Nat → Int64} {Q : Int32 → (Int32 × (Nat → Int32) × (Nat → Int64) × (Nat → Int32) × (Nat → Int32) × (Nat → Int32) × (Nat → Int32)) → Prop} (k : okS w h) (hhb : hb ≤ 60) (hF : FLok w h U Y (flS w h bar (2 ^ (w * h))) fo aS aE aN aY) (hR : RLs w h bar U rich Y lf wy hb 1 le wa) (hQ : Q (nI (WTop w h bar U rich Y wy hb)) (fo, aS, aE, aN, aY, le, wa)) : lp_X11_courses_35 Q (nI hb) fo aS aE aN aY le wa 0 0 := by
  have hp := pow10 k
  have hlen := flS_len (bar := bar) k (Nat.le_refl (2 ^ (w * h)))
  have hfo := hF.1
  have hFa := hF.2
  obtain ⟨L, hL⟩ : ∃ L, flS w h bar (2 ^ (w * h)) = L := ⟨_, rfl⟩
  have hLat : ∀ i, i < L.length → L.getD i 0 < 2 ^ (w * h) ∧ isFd w h bar (L.getD i 0) = true := fun i hi => by
    rw [← hL] at hi ⊢
    exact fl_at hi
  obtain ⟨cW, hcW⟩ : ∃ cW : Nat → Nat, (fun g => if okH w h U hb g then WDP w h bar U rich Y wy hb g g else 0) = cW := ⟨_, rfl⟩
  have hcWc : ∀ g, cW g = if okH w h U hb g then WDP w h bar U rich Y wy hb g g else 0 := fun g => by rw [← hcW]
  have hTop : WTop w h bar U rich Y wy hb = sumL cW L % 1000000007 := by rw [← hL, ← hcW]; rfl
  have hWl : ∀ g, cW g ≤ 1000000007 := by
    intro g
    rw [hcWc]
    split
    · exact Nat.le_of_lt WDP_lt
    · exact Nat.zero_le _
  rw [hTop] at hQ
  unfold RLs at hR
  rw [hL] at hfo hFa hlen hR
  unfold lp_X11_courses_35
  refine ⟨fun m xl x5 => ∃ i, i ≤ L.length ∧ m = L.length - i ∧ x5 = nI i ∧ xl = lN (sumL cW (L.take i)), ⟨_, 0, Nat.zero_le _, rfl, rfl, rfl⟩, ?_⟩
  rintro m xl x5 ⟨i, hi, rfl, rfl, rfl⟩
  unfold bd_X11_courses_35
  rw [hfo]
  refine pk_le L.length i (fun q => ?_) (fun q => ⟨pk_in i 280 (by omega), ?_⟩) rfl rfl
  · rw [List.take_of_length_le (by omega)]
    have hsum := sumL_le hWl L
    have hmul : L.length * 1000000007 ≤ 280 * 1000000007 := Nat.mul_le_mul_right _ hlen
    have e7 : (1000000007 : Int64) = lN 1000000007 := rfl
    rw [e7, pk_lRem (by omega) (by decide) (by decide), lN_i, ← hfo]
    exact hQ
  · obtain ⟨g, hg⟩ : ∃ g, L.getD i 0 = g := ⟨_, rfl⟩
    obtain ⟨hgl, hgf⟩ := hLat i q
    obtain ⟨g1, g2, g3, g4⟩ := hFa i q
    rw [hg] at hgl hgf g1 g2 g3 g4
    have hgp := isFd_pos hgf
    have hpc := pc_le (nds_lt k U hgl)
    have hin := pk_in i 280 (by omega)
    have e280 : (280 : Int32) * nI g = nI (280 * g) := z_mul 280 _
    rw [z_cl (show i < 2 ^ 31 by omega), g1, g3, e280, nI_add, z_cl (show 280 * g + i < 2 ^ 31 by omega)]
    have hpush : sumL cW (L.take (i + 1)) = sumL cW (L.take i) + cW g := by
      rw [take_push q, sumL_push, hg]
    have h80 : ∀ s0, s0 = lN (cW g) → bk_X11_courses_80 Q (fun xl3' x5' => ∃ n', n' < L.length - i ∧ ∃ i, i ≤ L.length ∧ n' = L.length - i ∧ x5' = nI i ∧ xl3' = lN (sumL cW (L.take i))) (nI i) s0 (lN (sumL cW (L.take i))) := by
      intro s0 e0
      unfold bk_X11_courses_80
      exact fun y8 e8 y9 e9 => ⟨L.length - (i + 1), by omega, i + 1, by omega, rfl, by rw [e9, nI_1], by rw [e8, e0, lN_add, hpush]⟩
    refine pk_lt hb (pc (nds w h U g)) (fun q2 => h80 _ ?_) (fun q2 => ⟨hin, pk_in (280 * g + i) 286720 (by omega), h80 _ ?_⟩) rfl rfl
    · rw [hcWc]
      unfold okH
      rw [decide_eq_false (by omega)]
      rfl
    · have hok : okH w h U hb g = true := decide_eq_true q2
      have hr := hR g (by omega) hgl i q (by rw [hg]; have := andn_or 0 g; rw [Nat.zero_or] at this; exact this) (by rw [hg]; exact hok)
      rw [hg] at hr
      have hwl := WDP_lt (w := w) (h := h) (bar := bar) (U := U) (rich := rich) (Y := Y) (wy := wy) (hb := hb) (had := g) (last := g)
      rw [hr.2, nI_l (by omega), hcWc, if_pos hok]
/-- what is never asked for changes nothing -/
theorem EL_ok {wy : Nat} {ok ok' : Nat → Bool} {cb : Nat → Nat → Nat → Nat} {fl : List Nat} (he : ∀ g, g ∈ fl → ok g = ok' g) : EL w h rich wy Y ok cb fl = EL w h rich wy Y ok' cb fl := by
  funext had last kk
  unfold EL
  split
  · rfl
  · split
    · rfl
    · apply mL_cong
      intro g hg
      unfold cnd
      rw [he g hg]
theorem LTop_ok {lf : Bool} {wy hb hb' : Nat} (he : ∀ g, g ∈ flS w h bar (2 ^ (w * h)) → okH w h U hb g = okH w h U hb' g) : LDP w h bar U rich Y lf wy hb = LDP w h bar U rich Y lf wy hb' ∧ LTop w h bar U rich Y lf wy hb = LTop w h bar U rich Y lf wy hb' := by
  have h1 : LDP w h bar U rich Y lf wy hb = LDP w h bar U rich Y lf wy hb' := by
    unfold LDP
    rw [EL_ok he]
  refine ⟨h1, ?_⟩
  unfold LTop
  apply mL_cong
  intro g hg
  rw [h1, he g hg]
theorem mxS_ge {g : Nat} (hf : isFd w h bar g = true) : ∀ j, g < j → pc (nds w h U g) ≤ mxS w h bar U j
  | 0, hj => absurd hj (Nat.not_lt_zero g)
  | j + 1, hj => by
    rw [mxS]
    by_cases e : g = j
    · subst e
      split
      · exact Nat.le_refl _
      · rename_i q
        apply Classical.byContradiction
        intro q2
        exact q ⟨hf, by omega⟩
    · have := mxS_ge hf j (by omega)
      split <;> omega
end TOPS
