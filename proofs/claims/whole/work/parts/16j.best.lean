section BEST
variable {w h bar U rich : Nat} {Y : Nat → Nat}
theorem Pg_n {wy hb had last left g : Nat} (hf : isFd w h bar had = true) (hl : isFd w h bar last = true) (ho : ∃ h0, had = h0 ||| last) : Pg w h bar U rich Y wy hb had last left g ↔ Pn w h bar U rich Y wy hb had last left g := by
  have hl0 : last ≠ 0 := by have := isFd_pos hl; omega
  have hn : nearN w h last = bes w h last := by unfold nearN; rw [if_neg hl0]
  have hs : sLx w h bar had = dn (pS w h bar had) (2 ^ (w * h)) := by unfold sLx; rw [if_pos (Or.inr hf)]
  unfold Pg Pn
  rw [hn, hs]
  constructor
  · rintro ⟨a1, a2, a3, a4⟩
    obtain ⟨b1, b2⟩ := (dn_mem _).mp a1
    obtain ⟨c1, c2, c3⟩ := pS_at.mp b2
    refine ⟨flS_mem.mpr ⟨b1, c1⟩, ?_, a4⟩
    unfold cnd
    simp only [Bool.and_eq_true, beq_iff_eq, bne_iff_ne, ne_eq]
    exact ⟨⟨c2, a2⟩, a3⟩
  · rintro ⟨a1, a2, a3⟩
    obtain ⟨b1, b2⟩ := flS_mem.mp a1
    obtain ⟨c1, c2, c3⟩ := cnd_dis a2
    obtain ⟨h0, rfl⟩ := ho
    exact ⟨(dn_mem _).mpr ⟨b1, pS_at.mpr ⟨b2, c1, near_up hl0 c2⟩⟩, c2, c3, a3⟩
theorem Pg_0 {wy hb left g : Nat} : Pg w h bar U rich Y wy hb 0 0 left g ↔ P0 w h bar U rich Y wy hb left g := by
  have hs : sLx w h bar 0 = dn (pS w h bar 0) (2 ^ (w * h)) := by unfold sLx; rw [if_pos (Or.inl rfl)]
  unfold Pg P0
  rw [hs, Nat.zero_or]
  constructor
  · rintro ⟨a1, a2, a3, a4⟩
    obtain ⟨b1, b2⟩ := (dn_mem _).mp a1
    exact ⟨flS_mem.mpr ⟨b1, (pS_at.mp b2).1⟩, a3, a4⟩
  · rintro ⟨a1, a2, a3⟩
    obtain ⟨b1, b2⟩ := flS_mem.mp a1
    refine ⟨(dn_mem _).mpr ⟨b1, pS_0 b1 b2⟩, ?_, a2, a3⟩
    rw [near_0 b1]
    have := isFd_pos b2
    omega
theorem lst_iff {P P' : Nat → Prop} (he : ∀ g, P g ↔ P' g) {g : Nat} (hl : lst P g) : lst P' g := ⟨(he g).mp hl.1, fun g' hg' => hl.2 g' ((he g').mpr hg')⟩
theorem s_writeRow {wy hb L0 : Nat} {al wa mo : Int32} {fn fs fy fb ss nx va row : Nat → Int32} {Q : (Int32 × (Nat → Int32)) → Prop} (k : okS w h) (hT : TB w h bar U Y rich al wa mo fn fs fy fb) (hri : rich < 2 ^ (w * h)) (hS : STP w h bar ss nx) (hv : VOK w h bar (fun a g => eO 1048576 (vL w h (okH w h U hb) (LDP w h bar U rich Y true wy hb) a g)) 0 va) (hTop : LTop w h bar U rich Y true wy hb = some L0) (hQ : ∀ l row', tRow w h bar U rich Y wy hb L0 l → l.length ≤ 10 → LA 1024 l row' → Q (nI l.length, row')) : wp_X1_writeRow (nI L0) row al wa fn fb ss nx va Q := by
  have hp := pow10 k
  have hL0 := LTop_bd k L0 hTop
  have hri31 : rich < 2 ^ 31 := by omega
  unfold wp_X1_writeRow lp_X1_writeRow_14
  refine ⟨fun m ln row x1 x2 x3 => ∃ acc, LA 1024 acc row ∧ ln = nI acc.length ∧ acc.length ≤ 10 ∧ m = 11 - acc.length ∧ ((acc = [] ∧ x1 = 0 ∧ x2 = 0 ∧ x3 = nI L0) ∨ ∃ had last left, x1 = nI had ∧ x2 = nI last ∧ x3 = nI left ∧ left ≤ L0 ∧ RS w h bar U rich Y wy hb L0 acc had last left), ⟨11, [], fun j hj => absurd hj (Nat.not_lt_zero j), rfl, Nat.zero_le _, rfl, Or.inl ⟨rfl, rfl, rfl, rfl⟩⟩, ?_⟩
  rintro m ln row x1 x2 x3 ⟨acc, hLA, rfl, hac, rfl, hcase⟩
  have h46 : ∀ (had last left : Nat), had < 2 ^ (w * h) → last < 2 ^ (w * h) → left ≤ L0 → acc.length < 10 → (∃ g, Pg w h bar U rich Y wy hb had last left g) → (∀ g, lst (Pg w h bar U rich Y wy hb had last left) g → RS w h bar U rich Y wy hb L0 (acc ++ [g]) (had ||| g) g (left - lft w h bar U last g) ∧ lft w h bar U last g ≤ left) → bk_X1_writeRow_46 Q (fun o_length' o_row' x1' x2' x3' => ∃ n', n' < 11 - acc.length ∧ ∃ acc, LA 1024 acc o_row' ∧ o_length' = nI acc.length ∧ acc.length ≤ 10 ∧ n' = 11 - acc.length ∧ ((acc = [] ∧ x1' = 0 ∧ x2' = 0 ∧ x3' = nI L0) ∨ ∃ had last left, x1' = nI had ∧ x2' = nI last ∧ x3' = nI left ∧ left ≤ L0 ∧ RS w h bar U rich Y wy hb L0 acc had last left)) (nI had) (nI last) (nI left) (nI acc.length) row al fn fb ss nx va := by
    intro had last left hh hl hle hacl hex hgo
    unfold bk_X1_writeRow_46
    refine s_leastNext k hT hS hv hh hl (by omega) hex (fun g hlst => ?_)
    obtain ⟨hRS, hlf⟩ := hgo g hlst
    have hgl := hRS.2.2.1
    unfold wp_X3_liftedTo
    have t1 : fn g = nI (nda w h bar U g) := (hT.2.2.2 g hgl).1
    have t2 : fn last = nI (nda w h bar U last) := (hT.2.2.2 last hl).1
    rw [z_cl (show g < 2 ^ 31 by omega), z_cl (show last < 2 ^ 31 by omega), t1, t2, z_andn]
    refine ⟨pk_in g 1024 (by omega), pk_in last 1024 (by omega), s_bitCount (Nat.lt_of_le_of_lt (andn_le _ _) (nda_lt k hgl)) (fun y6 e6 => ⟨pk_in acc.length 10 hacl, fun f7 e7 y8 e8 y9 e9 => ?_⟩)⟩
    have hlen : (acc ++ [g]).length = acc.length + 1 := by rw [List.length_append]; rfl
    refine ⟨11 - (acc.length + 1), by omega, acc ++ [g], ?_, by rw [e8, nI_1, hlen], by omega, by rw [hlen], Or.inr ⟨had ||| g, g, left - lft w h bar U last g, by rw [e9, z_or], rfl, ?_, by omega, hRS⟩⟩
    · rw [e7, z_cl (by omega)]
      exact LA_push hLA (by omega)
    · rw [e6]
      exact z_sub hlf
  unfold bd_X1_writeRow_14
  refine ⟨fun z => absurd z (z_m1 (by omega)), fun _ => ?_⟩
  rcases hcase with ⟨rfl, rfl, rfl, rfl⟩ | ⟨had, last, left, rfl, rfl, rfl, hle, hRS⟩
  · refine ⟨fun z => absurd z (by decide), fun _ => ⟨fun _ => ?_, fun z => absurd rfl z⟩⟩
    obtain ⟨g0, hg0⟩ := P0_ex hTop
    refine h46 0 0 L0 (Nat.two_pow_pos _) (Nat.two_pow_pos _) (Nat.le_refl _) (by decide) ⟨g0, Pg_0.mpr hg0⟩ (fun g hg => ?_)
    have := RS_top (lst_iff (fun g => Pg_0) hg)
    rw [Nat.zero_or]
    exact this
  · have h1 := hRS.1
    have h3 := hRS.2.2.1
    have h8 := hRS.2.2.2.2.2.2.2.1
    refine pk_le 10 acc.length (fun q => ?_) (fun q => ⟨fun z => absurd z (nI_ne0 (by omega) (by omega)), fun _ => s_gone hT hri31 ?_⟩) rfl rfl
    · by_cases e : andn rich had = 0
      · exact hQ acc row (RS_gone hRS e).2 hac hLA
      · have := (RS_go k hRS hri e).1
        omega
    · by_cases e : andn rich had = 0
      · rw [if_pos e]
        exact ⟨fun _ => hQ acc row (RS_gone hRS e).2 hac hLA, fun z => absurd z (by decide)⟩
      · rw [if_neg e]
        obtain ⟨g1, ⟨g0, g2⟩, g3⟩ := RS_go k hRS hri e
        have hiff : ∀ g, Pg w h bar U rich Y wy hb had last left g ↔ Pn w h bar U rich Y wy hb had last left g := fun g => Pg_n hRS.2.1 hRS.2.2.2.1 hRS.2.2.2.2.1
        exact ⟨fun z => absurd rfl z, fun _ => h46 had last left h1 h3 hle g1 ⟨g0, (hiff g0).mpr g2⟩ (fun g hg => g3 g (lst_iff hiff hg))⟩
/-- what the program keeps of the best row -/
def KB (w h bar U rich : Nat) (Y : Nat → Nat) (ln lf by' bh : Int32) (row : Nat → Int32) : Prop := by' = -2 ∨ ∃ wy hb, 1 ≤ wy ∧ wy ≤ 90 ∧ hb ≤ 60 ∧ by' = nI wy ∧ bh = nI hb ∧ lf = resO (LTop w h bar U rich Y true wy hb) ∧ ∀ L0, LTop w h bar U rich Y true wy hb = some L0 → ∃ l, tRow w h bar U rich Y wy hb L0 l ∧ l.length ≤ 10 ∧ ln = nI l.length ∧ LA 1024 l row
theorem s_cfindBest {wy n af : Nat} {li : Option Nat} {al wa mo ln lf by' bh oy oh : Int32} {fn fs fy fb ss nx va row : Nat → Int32} {Q : (Int32 × Int32 × Int32 × Int32 × Int32 × Int32 × (Nat → Int32) × Option Nat × (Nat → Int32) × (Nat → Int32) × (Nat → Int32)) → Prop} (k : okS w h) (hT : TB w h bar U Y rich al wa mo fn fs fy fb) (hri : rich < 2 ^ (w * h)) (hY : ∀ g, Y g ≤ 90) (h1 : 1 ≤ wy) (hwy : wy ≤ 90) (hn : n ≤ 60) (hK : KB w h bar U rich Y ln lf by' bh row) (hli : li = some af → STP w h bar ss nx) (hQ : ∀ ln' bh' oy' oh' row' li' ss' nx' va', KB w h bar U rich Y ln' (resO (LTop w h bar U rich Y true wy n)) (nI wy) bh' row' → (∀ L0, LTop w h bar U rich Y true wy n = some L0 → ∃ l, tRow w h bar U rich Y wy n L0 l ∧ l.length ≤ 10 ∧ ln' = nI l.length ∧ LA 1024 l row') → LIo w h bar af li ss nx li' ss' nx' → Q (ln', resO (LTop w h bar U rich Y true wy n), nI wy, bh', oy', oh', row', li', ss', nx', va')) : wp_X1_findBest af (nI wy) (nI n) ln lf by' bh oy oh row al wa mo fn fs fy fb li ss nx va Q := by
  obtain ⟨m1, _, m3⟩ := mx_60 (bar := bar) (U := U) (hb := n) k hn
  have hp := pow10 k
  obtain ⟨_, hLT⟩ := LTop_ok (rich := rich) (Y := Y) (lf := true) (wy := wy) m3
  unfold wp_X1_findBest
  intro y1 e1
  rw [hT.2.2.1] at e1
  have e2 : y1 = nI (min n (mxS w h bar U (2 ^ (w * h)))) := by
    rw [e1]
    by_cases q : mxS w h bar U (2 ^ (w * h)) < n
    · rw [if_pos (nI_lt q (by omega)), Nat.min_eq_right (by omega)]
    · rw [if_neg (nI_nlt (by omega) (by omega)), Nat.min_eq_left (by omega)]
  subst e2
  obtain ⟨hb, hhb⟩ : ∃ hb, min n (mxS w h bar U (2 ^ (w * h))) = hb := ⟨_, rfl⟩
  have hb60 : hb ≤ 60 := by have := Nat.min_le_left n (mxS w h bar U (2 ^ (w * h))); omega
  rw [hhb] at hLT m3 ⊢
  have h28 : bk_X1_findBest_28 Q af (nI wy) (nI hb) row al wa fn fs fy fb li ss nx va := by
    unfold bk_X1_findBest_28
    refine s_workL (lf := true) k hT (by omega) hY hwy hb60 hli (fun ss' nx' va' hS hv => ?_)
    refine s_onL (had := 0) (last := 0) (b := 0) k hT hS hv (vL_bd k) (Nat.le_refl 0) (Nat.two_pow_pos _) (Nat.two_pow_pos _) ?_
    have hot := on_top (w := w) (h := h) (bar := bar) (ok := okH w h U hb) (cb := cL1 w h bar U) (D := LDP w h bar U rich Y true wy hb)
    rw [hot]
    have hdef : mL (fun g => if okH w h U hb g then (LDP w h bar U rich Y true wy hb g g).map (cL1 w h bar U 0 g) else none) (flS w h bar (2 ^ (w * h))) = LTop w h bar U rich Y true wy hb := rfl
    rw [hdef]
    refine s_orNone (LTop_bd k) ?_
    cases eT : LTop w h bar U rich Y true wy hb with
    | none =>
      rw [eT] at hLT
      unfold wp_X1_writeRow lp_X1_writeRow_14
      refine ⟨fun _ ln' row' _ _ _ => ln' = 0 ∧ row' = row, ⟨0, rfl, rfl⟩, ?_⟩
      rintro m ln' row' x1 x2 x3 ⟨rfl, rfl⟩
      unfold bd_X1_writeRow_14
      refine ⟨fun _ => ?_, fun z => absurd rfl z⟩
      have := hQ 0 (nI hb) (nI wy) (nI hb) row' (some af) ss' nx' va' (Or.inr ⟨wy, hb, h1, hwy, hb60, rfl, rfl, by rw [eT, ← hLT], fun L0 hL => by rw [eT] at hL; cases hL⟩) (fun L0 hL => by rw [← hLT] at hL; cases hL) (Or.inr ⟨rfl, hS⟩)
      rw [← hLT] at this
      exact this
    | some L0 =>
      rw [eT] at hLT
      refine s_writeRow k hT hri hS hv eT (fun l row' hl hl10 hLA => ?_)
      have := hQ (nI l.length) (nI hb) (nI wy) (nI hb) row' (some af) ss' nx' va' (Or.inr ⟨wy, hb, h1, hwy, hb60, rfl, rfl, by rw [eT, ← hLT], fun L1 hL => by rw [eT] at hL; cases hL; exact ⟨l, hl, hl10, rfl, hLA⟩⟩) (fun L1 hL => by rw [← hLT] at hL; cases hL; exact ⟨l, tRow_ok m3 l hl, hl10, rfl, hLA⟩) (Or.inr ⟨rfl, hS⟩)
      rw [← hLT] at this
      exact this
  refine ⟨fun _ => h28, fun z1 => ⟨fun z2 => ?_, fun _ => h28⟩⟩
  rcases id hK with e | ⟨wy', hb', a1, a2, a3, a4, a5, a6, a7⟩
  · rw [e] at z1
    have := congrArg Int32.toInt z1
    rw [nI_toInt (by omega)] at this
    have e0 : (-2 : Int32).toInt = -2 := by decide
    rw [e0] at this
    omega
  · rw [a4] at z1
    rw [a5] at z2
    have ew : wy' = wy := z_inj (by omega) (by omega) z1
    have eb : hb' = hb := z_inj (by omega) (by omega) z2
    subst ew
    subst eb
    have elf : lf = resO (LTop w h bar U rich Y true wy' n) := by rw [a6, hLT]
    rw [elf, a4] at hK ⊢
    refine hQ ln bh oy oh row li ss nx va hK (fun L0 hL => ?_) (Or.inl ⟨rfl, rfl, rfl⟩)
    rw [← hLT] at hL
    obtain ⟨l, b1, b2, b3, b4⟩ := a7 L0 hL
    exact ⟨l, tRow_ok m3 l b1, b2, b3, b4⟩
theorem fl_least {P : Nat → Prop} {i : Nat} {L : List Nat} (hL : L = flS w h bar (2 ^ (w * h))) (hi : i < L.length) (hP : P (L.getD i 0)) (hm : ∀ g, P g → g ∈ L) (hno : ∀ i', i' < i → ¬ P (L.getD i' 0)) : lst P (L.getD i 0) := by
  refine ⟨hP, fun g' hg' => ?_⟩
  obtain ⟨j, hj, e⟩ := List.getElem_of_mem (hm g' hg')
  have e2 : L.getD j 0 = g' := by
    rw [List.getD_eq_getElem?_getD, List.getElem?_eq_getElem hj]
    exact e
  rcases Nat.lt_trichotomy j i with y | y | y
  · exact absurd (by rw [e2]; exact hg') (hno j y)
  · rw [← e2, y]
    exact Nat.le_refl _
  · subst hL
    have := fl_mono (w := w) (h := h) (bar := bar) (k := 2 ^ (w * h)) y hj
    omega
theorem s_mwalk {H wy hb L0 : Nat} {sq : Nat → Nat} {fo : Int32} {gk aS aN aY le ws pa : Nat → Int32} {aE : Nat → Int64} {Q : Int32 → ((Nat → Int32)) → Prop} (k : okS w h) (hgk : ∀ s, s < w * h → gk s = nI (sq s) ∧ sq s ≤ 11) (hrd : rich = mk (pRich sq) (w * h)) (hhb : hb ≤ 60) (hF : FLok w h U Y (flS w h bar (2 ^ (w * h))) fo aS aE aN aY) (hR : RLs w h bar U rich Y true wy hb 1 le ws) (hTop : LTop w h bar U rich Y true wy hb = some L0) (hQ : ∀ l pa', tRow w h bar U rich Y wy hb L0 l → l.length ≤ 10 → LA 1024 l pa' → Q (nI l.length) pa') : wp_X11_walk (nI hb) (nI L0) (nI w) (nI h) gk aS aE aN le pa Q := by
  have hp := pow10 k
  have hlen := flS_len (bar := bar) k (Nat.le_refl (2 ^ (w * h)))
  have hL0 := LTop_bd k L0 hTop
  have hri : rich < 2 ^ (w * h) := by rw [hrd]; exact mk_lt _ _
  have hFa := hF.2
  obtain ⟨L, hL⟩ : ∃ L, flS w h bar (2 ^ (w * h)) = L := ⟨_, rfl⟩
  have hLat : ∀ i, i < L.length → L.getD i 0 < 2 ^ (w * h) ∧ isFd w h bar (L.getD i 0) = true := fun i hi => by
    rw [← hL] at hi ⊢
    exact fl_at hi
  have hmem : ∀ i, i < L.length → L.getD i 0 ∈ flS w h bar (2 ^ (w * h)) := fun i hi => flS_mem.mpr (hLat i hi)
  have hidx : ∀ g, g ∈ flS w h bar (2 ^ (w * h)) → ∃ j, j < L.length ∧ L.getD j 0 = g := by
    intro g hg
    rw [hL] at hg
    obtain ⟨j, hj, e⟩ := List.getElem_of_mem hg
    refine ⟨j, hj, ?_⟩
    rw [List.getD_eq_getElem?_getD, List.getElem?_eq_getElem hj]
    exact e
  unfold RLs at hR
  rw [hL] at hFa hlen hR
  have hlft0 : ∀ i, i < L.length → lft w h bar U 0 (L.getD i 0) = pc (nds w h U (L.getD i 0)) := by
    intro i hi
    unfold lft
    rw [nda_0, andn_0, nda_f (hLat i hi).2]
  have hlftn : ∀ i j, i < L.length → j < L.length → lft w h bar U (L.getD i 0) (L.getD j 0) = pc (andn (nds w h U (L.getD j 0)) (nds w h U (L.getD i 0))) := by
    intro i j hi hj
    unfold lft
    rw [nda_f (hLat i hi).2, nda_f (hLat j hj).2]
  unfold wp_X11_walk lp_X11_walk_2
  refine ⟨fun m x3 => ∃ i, i ≤ L.length ∧ m = L.length - i ∧ x3 = nI i ∧ ∀ i', i' < i → ¬ P0 w h bar U rich Y wy hb L0 (L.getD i' 0), ⟨_, 0, Nat.zero_le _, rfl, rfl, fun i' hi' => absurd hi' (Nat.not_lt_zero i')⟩, ?_⟩
  rintro m x3 ⟨i, hi, rfl, rfl, hno⟩
  have hil : i < L.length := by
    obtain ⟨g, hg⟩ := P0_ex hTop
    obtain ⟨j, h1, h2⟩ := hidx g hg.1
    apply Classical.byContradiction
    intro q
    exact hno j (by omega) (by rw [h2]; exact hg)
  obtain ⟨g, hg⟩ : ∃ g, L.getD i 0 = g := ⟨_, rfl⟩
  obtain ⟨hgl, hgf⟩ := hLat i hil
  obtain ⟨g1, g2, g3, g4⟩ := hFa i hil
  have hgm := hmem i hil
  have hl0 := hlft0 i hil
  rw [hg] at hgl hgf g1 g2 g3 g4 hgm hl0
  have hgp := isFd_pos hgf
  have hpc := pc_le (nds_lt k U hgl)
  have hin := pk_in i 280 (by omega)
  have e280 : (280 : Int32) * nI g = nI (280 * g) := z_mul 280 _
  have hskip : ¬ P0 w h bar U rich Y wy hb L0 g → bk_X11_walk_40 Q (fun x3' => ∃ n', n' < L.length - i ∧ ∃ i, i ≤ L.length ∧ n' = L.length - i ∧ x3' = nI i ∧ ∀ i', i' < i → ¬ P0 w h bar U rich Y wy hb L0 (L.getD i' 0)) (nI i) := by
    intro hnp
    unfold bk_X11_walk_40
    refine fun y2 e2 => ⟨L.length - (i + 1), by omega, i + 1, by omega, rfl, by rw [e2, nI_1], fun i' hi' => ?_⟩
    by_cases e : i' = i
    · rw [e, hg]; exact hnp
    · exact hno i' (by omega)
  unfold bd_X11_walk_2
  rw [z_cl (show i < 2 ^ 31 by omega), g1, g3, e280, nI_add, z_cl (show 280 * g + i < 2 ^ 31 by omega)]
  refine ⟨hin, pk_lt hb (pc (nds w h U g)) (fun q => hskip (fun y => ?_)) (fun q => ⟨hin, hin, pk_in (280 * g + i) 286720 (by omega), ?_⟩) rfl rfl⟩
  · have : pc (nds w h U g) ≤ hb := of_decide_eq_true y.2.1
    omega
  · have hok : okH w h U hb g = true := decide_eq_true q
    have hr := (hR g (by omega) hgl i hil (by rw [hg]; have := andn_or 0 g; rw [Nat.zero_or] at this; exact this) (by rw [hg]; exact hok)).1
    rw [hg] at hr
    rw [hr]
    cases eD : LDP w h bar U rich Y true wy hb g g with
    | none =>
      refine ⟨fun z => ?_, fun _ => hskip (fun y => ?_)⟩
      · exfalso
        change nI (pc (nds w h U g)) + nI 100000 = nI L0 at z
        rw [nI_add] at z
        have := z_inj (by omega) (by omega) z
        omega
      · obtain ⟨_, _, y', y1, _⟩ := y
        rw [eD] at y1
        cases y1
    | some y =>
      have hyb := LDP_bd k eD
      show (nI (pc (nds w h U g)) + nI y = nI L0 → _) ∧ (¬ nI (pc (nds w h U g)) + nI y = nI L0 → _)
      rw [nI_add]
      refine pk_eq (pc (nds w h U g) + y) L0 (fun q2 => ⟨hin, fun y4 e4 => ⟨hin, fun y5 e5 => ⟨pk_in 0 10 (by decide), fun f6 e6 => ?_⟩⟩⟩) (fun q2 => hskip (fun yy => ?_)) rfl rfl
      · subst e4
        have hlst : lst (P0 w h bar U rich Y wy hb L0) g := by
          have hP : P0 w h bar U rich Y wy hb L0 (L.getD i 0) := by
            rw [hg]
            exact ⟨hgm, hok, y, eD, by rw [hl0]; exact q2⟩
          have := fl_least (bar := bar) hL.symm hil hP (fun g hg => by rw [← hL]; exact hg.1) hno
          rw [hg] at this
          exact this
        obtain ⟨hRS, hlf⟩ := RS_top hlst
        rw [hl0] at hRS hlf
        rw [z_sub hlf] at e5
        subst e5
        have ecl : (0 : Int32).toNatClampNeg = 0 := rfl
        rw [ecl] at e6
        have hLA1 : LA 1024 [g] f6 := by
          intro j hj
          have ej : j = 0 := by simp at hj; omega
          rw [ej, e6, z_upd_eq]
          exact ⟨rfl, by show g < 1024; omega⟩
        unfold lp_X11_walk_78
        refine ⟨fun m pa x3 x4 x5 x6 x7 => ∃ acc had li left, li < L.length ∧ RS w h bar U rich Y wy hb L0 acc had (L.getD li 0) left ∧ left ≤ L0 ∧ LA 1024 acc pa ∧ acc.length ≤ 10 ∧ x3 = nI li ∧ x4 = nI had ∧ x5 = nI left ∧ x6 = nI acc.length ∧ (x7 = 1 ∧ m = 12 - acc.length ∨ x7 = 0 ∧ m = 0 ∧ andn rich had = 0), ⟨11, [g], g, i, _, hil, by rw [hg]; exact hRS, by omega, hLA1, show 1 ≤ 10 by decide, rfl, rfl, rfl, rfl, Or.inl ⟨rfl, rfl⟩⟩, ?_⟩
        clear hRS hlf hLA1 e6 hskip hno q2 eD hr
        rintro m pa x3 x4 x5 x6 x7 ⟨acc, had, li, left, hli, hRS, hle, hLA, hac, rfl, rfl, rfl, rfl, hx7⟩
        unfold bd_X11_walk_78
        rcases hx7 with ⟨rfl, rfl⟩ | ⟨rfl, rfl, hgone⟩
        · obtain ⟨la, hla⟩ : ∃ la, L.getD li 0 = la := ⟨_, rfl⟩
          obtain ⟨l1, l2, l3, l4⟩ := hFa li hli
          rw [hla] at hRS l1 l2 l3 l4
          have hadl := hRS.1
          have hlal := hRS.2.2.1
          have hlaf := hRS.2.2.2.1
          have h8 := hRS.2.2.2.2.2.2.2.1
          have hinl := pk_in li 280 (by omega)
          refine ⟨fun z => absurd z (by decide), fun _ => ?_⟩
          have hgo : andn rich had ≠ 0 → bk_X11_walk_100 Q (fun M_path' x3' x4' x5' x6' x7' => ∃ n', n' < 12 - acc.length ∧ ∃ acc had li left, li < L.length ∧ RS w h bar U rich Y wy hb L0 acc had (L.getD li 0) left ∧ left ≤ L0 ∧ LA 1024 acc M_path' ∧ acc.length ≤ 10 ∧ x3' = nI li ∧ x4' = nI had ∧ x5' = nI left ∧ x6' = nI acc.length ∧ (x7' = 1 ∧ n' = 12 - acc.length ∨ x7' = 0 ∧ n' = 0 ∧ andn rich had = 0)) (nI hb) (nI li) (nI had) (nI left) (nI acc.length) (nI w) (nI h) aS aE aN le pa := by
            intro hng
            obtain ⟨r1, ⟨r0, r2⟩, r3⟩ := RS_go k hRS hri hng
            unfold bk_X11_walk_100 bk_X11_walk_105 lp_X11_walk_110
            refine ⟨fun m x8 => ∃ j, j ≤ L.length ∧ m = L.length - j ∧ x8 = nI j ∧ ∀ j', j' < j → ¬ Pn w h bar U rich Y wy hb had la left (L.getD j' 0), ⟨_, 0, Nat.zero_le _, rfl, rfl, fun i' hi' => absurd hi' (Nat.not_lt_zero i')⟩, ?_⟩
            rintro m x8 ⟨j, hj, rfl, rfl, hno⟩
            have hjl : j < L.length := by
              obtain ⟨j', h1, h2⟩ := hidx r0 r2.1
              apply Classical.byContradiction
              intro q
              exact hno j' (by omega) (by rw [h2]; exact r2)
            obtain ⟨f, hf⟩ : ∃ f, L.getD j 0 = f := ⟨_, rfl⟩
            obtain ⟨hfl, hff⟩ := hLat j hjl
            obtain ⟨f1, f2, f3, f4⟩ := hFa j hjl
            have hfm := hmem j hjl
            have hln := hlftn li j hli hjl
            rw [hla, hf] at hln
            rw [hf] at hfl hff f1 f2 f3 f4 hfm
            have hfp := isFd_pos hff
            have hpcf := pc_le (nds_lt k U hfl)
            have hinj := pk_in j 280 (by omega)
            have hskip : ¬ Pn w h bar U rich Y wy hb had la left f → ∀ B78 : (Nat → Int32) → Int32 → Int32 → Int32 → Int32 → Int32 → Prop, bk_X11_walk_187 Q B78 (fun x8' => ∃ n', n' < L.length - j ∧ ∃ j, j ≤ L.length ∧ n' = L.length - j ∧ x8' = nI j ∧ ∀ j', j' < j → ¬ Pn w h bar U rich Y wy hb had la left (L.getD j' 0)) (nI j) := by
              intro hnp B78
              unfold bk_X11_walk_187
              refine fun y18 e18 => ⟨L.length - (j + 1), by omega, j + 1, by omega, rfl, by rw [e18, nI_1], fun j' hj' => ?_⟩
              by_cases e : j' = j
              · rw [e, hf]; exact hnp
              · exact hno j' (by omega)
            unfold bd_X11_walk_110
            refine ⟨fun z => absurd z (by decide), fun _ => ⟨hinj, ?_⟩⟩
            rw [z_cl (show j < 2 ^ 31 by omega), z_cl (show li < 2 ^ 31 by omega), f1, f3, f2, l2]
            refine pk_lt hb (pc (nds w h U f)) (fun q3 => hskip (fun y => ?_) _) (fun q3 => ?_) rfl rfl
            · have : pc (nds w h U f) ≤ hb := of_decide_eq_true (cnd_dis y.2.1).2.2
              omega
            · have hokf : okH w h U hb f = true := decide_eq_true q3
              unfold wp_X11_canFollow
              rw [z_cl (show j < 2 ^ 31 by omega), z_cl (show li < 2 ^ 31 by omega), f1, l1, z_and]
              have hfh : f &&& had < 2 ^ 31 := Nat.lt_of_le_of_lt Nat.and_le_left (by omega)
              by_cases q4 : f &&& had = 0
              · rw [q4]
                refine ⟨hinj, fun z => absurd rfl z, fun _ => ⟨hinl, s_besides k (by omega) ⟨hinj, ?_⟩⟩⟩
                rw [z_and]
                have hbf : bes w h la &&& f < 2 ^ 31 := Nat.lt_of_le_of_lt Nat.and_le_right (by omega)
                by_cases q5 : bes w h la &&& f = 0
                · rw [q5]
                  exact ⟨fun _ => ⟨fun _ => hskip (fun y => (cnd_dis y.2.1).2.1 q5) _, fun z => absurd rfl z⟩, fun z => absurd rfl z⟩
                · refine ⟨fun z => absurd z (nI_ne0 (by omega) hbf), fun _ => ⟨fun z => absurd z (by decide), fun _ => ⟨hinj, hinl, ?_⟩⟩⟩
                  rw [z_andnL]
                  have hcnd : cnd w h (okH w h U hb) had la f = true := by
                    unfold cnd
                    simp only [Bool.and_eq_true, beq_iff_eq, bne_iff_ne, ne_eq]
                    exact ⟨⟨q4, q5⟩, hokf⟩
                  have hul := Nat.or_lt_two_pow hadl hfl
                  have hgt := or_gt (show f ≠ 0 by omega) q4
                  have e280' : (280 : Int32) * nI (had ||| f) = nI (280 * (had ||| f)) := z_mul 280 _
                  have hpl := pc_le (Nat.lt_of_le_of_lt (andn_le (nds w h U f) (nds w h U la)) (nds_lt k U hfl))
                  refine s_bits (Nat.lt_of_le_of_lt (andn_le _ _) (nds_lt k U hfl)) ⟨hinj, ?_⟩
                  have hr := (hR (had ||| f) (by omega) hul j hjl (by rw [hf]; exact andn_or had f) (by rw [hf]; exact hokf)).1
                  rw [hf] at hr
                  rw [z_or, e280', nI_add, z_cl (show 280 * (had ||| f) + j < 2 ^ 31 by omega), hr]
                  refine ⟨pk_in (280 * (had ||| f) + j) 286720 (by omega), ?_⟩
                  cases eD : LDP w h bar U rich Y true wy hb (had ||| f) f with
                  | none =>
                    refine ⟨fun z => ?_, fun _ => hskip (fun y => ?_) _⟩
                    · exfalso
                      change nI (pc (andn (nds w h U f) (nds w h U la))) + nI 100000 = nI left at z
                      rw [nI_add] at z
                      have := z_inj (by omega) (by omega) z
                      omega
                    · obtain ⟨_, _, y', y1, _⟩ := y
                      rw [eD] at y1
                      cases y1
                  | some y =>
                    have hyb := LDP_bd k eD
                    show (nI (pc (andn (nds w h U f) (nds w h U la))) + nI y = nI left → _) ∧ (¬ nI (pc (andn (nds w h U f) (nds w h U la))) + nI y = nI left → _)
                    rw [nI_add]
                    refine pk_eq (pc (andn (nds w h U f) (nds w h U la)) + y) left (fun q6 => ?_) (fun q6 => hskip (fun yy => ?_) _) rfl rfl
                    · have hlst : lst (Pn w h bar U rich Y wy hb had la left) f := by
                        have hP : Pn w h bar U rich Y wy hb had la left (L.getD j 0) := by
                          rw [hf]
                          exact ⟨hfm, hcnd, y, eD, by rw [hln]; exact q6⟩
                        have := fl_least (bar := bar) hL.symm hjl hP (fun g hg => by rw [← hL]; exact hg.1) hno
                        rw [hf] at this
                        exact this
                      obtain ⟨hRS', hlf'⟩ := r3 f hlst
                      rw [hln] at hRS' hlf'
                      unfold bk_X11_walk_193 bk_X11_walk_255
                      refine ⟨fun z => absurd z (by decide), fun _ => ⟨hinj, hinl, ?_⟩⟩
                      rw [z_cl (show j < 2 ^ 31 by omega), z_cl (show li < 2 ^ 31 by omega), f1, f2, l2, z_andnL]
                      have hlen' : (acc ++ [f]).length = acc.length + 1 := by rw [List.length_append]; rfl
                      refine s_bits (Nat.lt_of_le_of_lt (andn_le _ _) (nds_lt k U hfl)) (fun y12 e12 => ⟨hinj, fun y13 e13 => ⟨hinj, fun y14 e14 => ⟨pk_in acc.length 10 r1, fun f15 e15 y16 e16 => ⟨12 - (acc.length + 1), by omega, acc ++ [f], had ||| f, j, left - pc (andn (nds w h U f) (nds w h U la)), hjl, by rw [hf]; exact hRS', by omega, ?_, by omega, rfl, by rw [e13, z_or], by rw [e12, z_sub hlf'], by rw [e16, nI_1, hlen'], Or.inl ⟨rfl, by rw [hlen']⟩⟩⟩⟩⟩)
                      rw [e15, e14, z_cl (by omega)]
                      exact LA_push hLA (by omega)
                    · obtain ⟨_, _, y', y1, y2⟩ := yy
                      rw [eD] at y1
                      cases y1
                      rw [hln] at y2
                      exact q6 y2
              · exact ⟨hinj, fun _ => ⟨fun _ => hskip (fun y => q4 (cnd_dis y.2.1).1) _, fun z => absurd rfl z⟩, fun z => absurd z (nI_ne0 (by omega) hfh)⟩
          refine pk_lt 0 left (fun q3 => hgo (fun e => ?_)) (fun q3 => s_rich k hgk ?_) rfl rfl
          · have := (RS_gone hRS e).1
            omega
          · rw [← hrd, z_andn]
            have hrl : andn rich had < 2 ^ 31 := Nat.lt_of_le_of_lt (andn_le _ _) (by omega)
            by_cases e : andn rich had = 0
            · rw [e]
              refine ⟨fun _ => ?_, fun z => absurd rfl z⟩
              unfold bk_X11_walk_105 lp_X11_walk_110
              refine ⟨fun _ _ => True, ⟨0, trivial⟩, ?_⟩
              rintro m x8 _
              unfold bd_X11_walk_110 bk_X11_walk_193 bk_X11_walk_255
              exact ⟨fun _ => ⟨fun _ => ⟨0, by omega, acc, had, li, left, hli, by rw [hla]; exact hRS, hle, hLA, hac, rfl, rfl, rfl, rfl, Or.inr ⟨rfl, rfl, e⟩⟩, fun z => absurd rfl z⟩, fun z => absurd rfl z⟩
            · exact ⟨fun z => absurd z (nI_ne0 (by omega) hrl), fun _ => hgo e⟩
        · exact ⟨fun _ => hQ acc pa (RS_gone hRS hgone).2 hac hLA, fun z => absurd rfl z⟩
      · obtain ⟨_, _, y', y1, y2⟩ := yy
        rw [eD] at y1
        cases y1
        rw [hl0] at y2
        exact q2 y2
end BEST
