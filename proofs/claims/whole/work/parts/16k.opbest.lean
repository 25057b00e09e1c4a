section OPBEST
variable {w h : Nat}
theorem resO_m1 {B : Nat} {o : Option Nat} (hB : B < 2 ^ 31) (ho : bdO B o) : resO o = -1 ↔ o = none := by
  cases o with
  | none => exact ⟨fun _ => rfl, fun _ => rfl⟩
  | some x =>
    have := ho x rfl
    exact ⟨fun q => absurd q (z_m1 (by omega)), fun q => by cases q⟩
theorem p3_nn {p : Int32} (h1 : -2 ≤ p) (h2 : ¬ p = -2) (h3 : ¬ p = -1) : ¬ p < 0 := by
  intro q
  rw [fa_le] at h1
  rw [fa_eq] at h2 h3
  rw [fa_lt] at q
  have e2 : (-2 : Int32).toInt = -2 := by decide
  have e1 : (-1 : Int32).toInt = -1 := by decide
  have e0 : (0 : Int32).toInt = 0 := by decide
  rw [e2] at h1 h2
  rw [e1] at h3
  rw [e0] at q
  omega
theorem op_best {H : Nat} {sq : Nat → Nat} {af : Nat} {li : Option Nat} {p1 p2 p3 al wa mo ln lf by' bh oy oh fo : Int32} {fn fs fy fb ss nx va row gk aS aN aY le ws pa : Nat → Int32} {aE : Nat → Int64} {K : (Option Nat × (Nat → Int32) × (Nat → Int32) × (Nat → Int32) × Int32 × Int32 × Int32 × Int32 × Int32 × Int32 × (Nat → Int32)) → (Int32 × (Nat → Int32) × (Nat → Int64) × (Nat → Int32) × (Nat → Int32) × (Nat → Int32) × (Nat → Int32) × (Nat → Int32)) → Prop} (k : okS w h) (hT : TabOK w h H sq false al wa mo fn fs fy fb) (hgk : ∀ s, s < w * h → gk s = nI (sq s) ∧ sq s ≤ 11) (hKB : KB w h (mk (pBar sq) (w * h)) (H ||| pe w h sq (w * h)) (mk (pRich sq) (w * h)) (sumF (yd sq) (w * h)) ln lf by' bh row) (hli : li = some af → STP w h (mk (pBar sq) (w * h)) ss nx) (hK : ∀ li' ss' nx' va' ln' lf' by2 bh' oy' oh' row' u', KB w h (mk (pBar sq) (w * h)) (H ||| pe w h sq (w * h)) (mk (pRich sq) (w * h)) (sumF (yd sq) (w * h)) ln' lf' by2 bh' row' → LIo w h (mk (pBar sq) (w * h)) af li ss nx li' ss' nx' → K (li', ss', nx', va', ln', lf', by2, bh', oy', oh', row') u') : wp_X10_best af p1 p2 p3 al wa mo fn fs fy fb li ss nx va ln lf by' bh oy oh row (fun r u => wp_X11_best p1 p2 p3 (nI w) (nI h) (lN H) fo gk aS aE aN aY le ws pa (fun r' u' => EqK r r' (K u u'))) := by
  have hTB : TB w h (mk (pBar sq) (w * h)) (H ||| pe w h sq (w * h)) (sumF (yd sq) (w * h)) (mk (pRich sq) (w * h)) al wa mo fn fs fy fb := hT
  have hK0 : ∀ u', K (li, ss, nx, va, ln, lf, by', bh, oy, oh, row) u' := fun u' => hK _ _ _ _ _ _ _ _ _ _ _ _ hKB (Or.inl ⟨rfl, rfl, rfl⟩)
  unfold wp_X10_best
  rcases want_tri p1 with ⟨a, b⟩ | ⟨wy, h1, hwy, rfl, a, b⟩
  · refine b _ ⟨fun _ => ?_, fun z => absurd rfl z⟩
    unfold wp_X11_best
    refine s_in ?_
    rw [a]
    exact ⟨fun _ => eqk _ (hK0 _), fun z => absurd rfl z⟩
  · refine b _ ⟨fun z => absurd z (by decide), fun _ => ?_⟩
    have hno : inI p2 0 60 = 0 → ∀ r, r = (-3 : Int32) → wp_X11_best (nI wy) p2 p3 (nI w) (nI h) (lN H) fo gk aS aE aN aY le ws pa (fun r' u' => EqK r r' (K (li, ss, nx, va, ln, lf, by', bh, oy, oh, row) u')) := by
      intro hz r e
      subst e
      unfold wp_X11_best
      refine s_in ?_
      rw [a]
      refine ⟨fun z => absurd z (by decide), fun _ => s_in ?_⟩
      rw [hz]
      exact ⟨fun _ => eqk _ (hK0 _), fun z => absurd rfl z⟩
    refine ⟨fun q1 => hno (by unfold inI; rw [if_pos q1]) _ rfl, fun q1 => ⟨fun q2 => hno (by unfold inI; rw [if_neg q1, if_pos q2]) _ rfl, fun q2 => ?_⟩⟩
    have hin2 : inI p2 0 60 = 1 := by unfold inI; rw [if_neg q1, if_neg q2]
    obtain ⟨hb, hhb, rfl⟩ : ∃ j, j ≤ 60 ∧ p2 = nI j := by
      rcases tri p2 (N := 61) (by decide) (by decide) with ⟨a, _⟩ | ⟨_, a, _⟩ | ⟨j, hj, e, _⟩
      · exact absurd a q1
      · exact absurd a q2
      · exact ⟨j, by omega, e⟩
    refine ⟨fun q3 => ?_, fun q3 => ?_⟩
    · refine s_cfindBest k hTB (mk_lt _ _) (fun g => yards_le k sq g) h1 hwy hhb hKB hli (fun ln' bh' oy' oh' row' li' ss' nx' va' c1 c2 c3 => ?_)
      have hK1 : ∀ u', K (li', ss', nx', va', ln', resO (LTop w h (mk (pBar sq) (w * h)) (H ||| pe w h sq (w * h)) (mk (pRich sq) (w * h)) (sumF (yd sq) (w * h)) true wy hb), nI wy, bh', oy', oh', row') u' := fun u' => hK _ _ _ _ _ _ _ _ _ _ _ _ c1 c3
      have hbd := LTop_bd (bar := mk (pBar sq) (w * h)) (U := H ||| pe w h sq (w * h)) (rich := mk (pRich sq) (w * h)) (Y := sumF (yd sq) (w * h)) (lf := true) (wy := wy) (hb := hb) k
      obtain ⟨T, hTd⟩ : ∃ T, LTop w h (mk (pBar sq) (w * h)) (H ||| pe w h sq (w * h)) (mk (pRich sq) (w * h)) (sumF (yd sq) (w * h)) true wy hb = T := ⟨_, rfl⟩
      rw [hTd] at c2 hbd hK1 ⊢
      have hm1 := resO_m1 (B := 31775) (by decide) hbd
      have href : ∀ (r : Int32), (p3 = -2 → r = resO T) → (T = none → r = -1) → (∀ l, ¬ p3 = -2 → (∃ L0, T = some L0 ∧ tRow w h (mk (pBar sq) (w * h)) (H ||| pe w h sq (w * h)) (mk (pRich sq) (w * h)) (sumF (yd sq) (w * h)) wy hb L0 l) → l.length ≤ 10 → (p3 = -1 → r = nI l.length) ∧ (¬ p3 = -1 → nI l.length ≤ p3 → r = -1) ∧ (¬ p3 = -1 → ∀ i, i < l.length → p3 = nI i → r = nI (l.getD i 0))) → wp_X11_best (nI wy) (nI hb) p3 (nI w) (nI h) (lN H) fo gk aS aE aN aY le ws pa (fun r' u' => EqK r r' (K (li', ss', nx', va', ln', resO T, nI wy, bh', oy', oh', row') u')) := by
        intro r r1 r2 r3
        unfold wp_X11_best
        refine s_in ?_
        rw [a]
        refine ⟨fun z => absurd z (by decide), fun _ => s_in ?_⟩
        rw [hin2]
        refine ⟨fun z => absurd z (by decide), fun _ => ⟨fun _ => ?_, fun z => absurd q3 z⟩⟩
        refine s_mleastL k hgk hwy hhb (fun c a1 a2 a3 a4 le' wa' hF hR => ?_)
        rw [hTd]
        refine ⟨fun z => ?_, fun z => ⟨fun z2 => ?_, fun z2 => ?_⟩⟩
        · have e : r = resO T := (r2 (hm1.mp z)).trans z.symm
          rw [e]
          exact eqk _ (hK1 _)
        · cases eT : T with
          | none => exact absurd (hm1.mpr eT) z
          | some L0 =>
            have hTT := hTd.trans eT
            refine s_mwalk (H := H) k hgk rfl hhb hF hR hTT (fun l pa' hl hl10 hLA => ?_)
            obtain ⟨s1, s2, s3⟩ := r3 l z2 ⟨L0, eT, hl⟩ hl10
            rw [eT] at hK1
            refine ⟨fun z3 => ⟨fun z4 => ?_, fun z4 => ?_⟩, fun z3 => ?_⟩
            · rw [s2 z3 z4]
              exact eqk _ (hK1 _)
            · have hnn := p3_nn q3 z2 z3
              have hlt := fa_of_nle z4
              obtain ⟨i, hi, hpi⟩ : ∃ i, i < l.length ∧ p3 = nI i := by
                have hlp : 0 < l.length := by
                  apply Nat.pos_of_ne_zero
                  intro e
                  rw [e] at hlt
                  exact hnn hlt
                rcases tri p3 (N := l.length) hlp (by omega) with ⟨y, _⟩ | ⟨_, _, y, _⟩ | ⟨j, hj, e, _⟩
                · exact absurd y hnn
                · exact absurd hlt y
                · exact ⟨j, hj, e⟩
              rw [s3 z3 i hi hpi, hpi, z_cl (by omega), (hLA i hi).1]
              exact ⟨pk_in i 10 (by omega), eqk _ (hK1 _)⟩
            · rw [s1 z3]
              exact eqk _ (hK1 _)
        · rw [r1 z2]
          exact eqk _ (hK1 _)
      unfold bk_X10_best_52
      have hnone : T = none → ∀ r, r = resO T → wp_X11_best (nI wy) (nI hb) p3 (nI w) (nI h) (lN H) fo gk aS aE aN aY le ws pa (fun r' u' => EqK r r' (K (li', ss', nx', va', ln', resO T, nI wy, bh', oy', oh', row') u')) := by
        intro e r er
        subst er
        refine href _ (fun _ => rfl) (fun _ => hm1.mpr e) (fun l _ hl => ?_)
        obtain ⟨L0, y, _⟩ := hl
        rw [e] at y
        cases y
      refine ⟨fun z => href _ (fun _ => rfl) (fun e => hm1.mpr e) (fun l y => absurd z y), fun z => ⟨fun z2 => ?_, fun z2 => hnone (hm1.mp z2) _ rfl⟩⟩
      cases eT : T with
      | none => exact absurd (hm1.mpr eT) z2
      | some L0 =>
        obtain ⟨l, b1, b2, b3, b4⟩ := c2 L0 eT
        have huniq : ∀ l', (∃ L1, T = some L1 ∧ tRow w h (mk (pBar sq) (w * h)) (H ||| pe w h sq (w * h)) (mk (pRich sq) (w * h)) (sumF (yd sq) (w * h)) wy hb L1 l') → l' = l := by
          rintro l' ⟨L1, e1, e2⟩
          rw [eT] at e1
          cases e1
          exact tRow_u e2 b1
        rw [eT] at href huniq
        dsimp only
        rw [b3] at href ⊢
        refine ⟨fun z3 => ⟨fun z4 => ?_, fun z4 => ?_⟩, fun z3 => ?_⟩
        · refine href _ (fun y => absurd y z) (fun y => by cases y) (fun l' _ hl _ => ?_)
          rw [huniq l' hl]
          refine ⟨fun y => absurd y z3, fun _ _ => rfl, fun _ i hi hpi => ?_⟩
          exfalso
          rw [hpi] at z4
          have := (fa_le _ _).mp z4
          rw [nI_toInt (by omega), nI_toInt (by omega)] at this
          omega
        · have hnn := p3_nn q3 z z3
          have hlt := fa_of_nle z4
          obtain ⟨i, hi, hpi⟩ : ∃ i, i < l.length ∧ p3 = nI i := by
            have hlp : 0 < l.length := by
              apply Nat.pos_of_ne_zero
              intro e
              rw [e] at hlt
              exact hnn hlt
            rcases tri p3 (N := l.length) hlp (by omega) with ⟨y, _⟩ | ⟨_, _, y, _⟩ | ⟨j, hj, e, _⟩
            · exact absurd y hnn
            · exact absurd hlt y
            · exact ⟨j, hj, e⟩
          have hcl : p3.toNatClampNeg = i := by rw [hpi, z_cl (by omega)]
          rw [hcl, (b4 i hi).1]
          refine ⟨by rw [hpi]; exact pk_in i 10 (by omega), href _ (fun y => absurd y z) (fun y => by cases y) (fun l' _ hl _ => ?_)⟩
          rw [huniq l' hl]
          refine ⟨fun y => absurd y z3, fun _ y => absurd y z4, fun _ i' hi' hpi' => ?_⟩
          have : i = i' := z_inj (by omega) (by omega) (hpi.symm.trans hpi')
          rw [this]
        · refine href _ (fun y => absurd y z) (fun y => by cases y) (fun l' _ hl _ => ?_)
          rw [huniq l' hl]
          exact ⟨fun _ => rfl, fun y => absurd z3 y, fun y => absurd z3 y⟩
    · unfold wp_X11_best
      refine s_in ?_
      rw [a]
      refine ⟨fun z => absurd z (by decide), fun _ => s_in ?_⟩
      rw [hin2]
      exact ⟨fun z => absurd z (by decide), fun _ => ⟨fun z => absurd z q3, fun _ => eqk _ (hK0 _)⟩⟩
theorem op_broken {H : Nat} {sq : Nat → Nat} {af : Nat} {li : Option Nat} {p1 p2 al wa mo ln lf by' bh oy oh fo : Int32} {fn fs fy fb ss nx va row gk aS aN aY le ws : Nat → Int32} {aE : Nat → Int64} {K : (Option Nat × (Nat → Int32) × (Nat → Int32) × (Nat → Int32) × Int32 × Int32 × Int32 × Int32 × Int32 × Int32 × (Nat → Int32)) → (Int32 × (Nat → Int32) × (Nat → Int64) × (Nat → Int32) × (Nat → Int32) × (Nat → Int32) × (Nat → Int32)) → Prop} (k : okS w h) (hT : TabOK w h H sq false al wa mo fn fs fy fb) (hgk : ∀ s, s < w * h → gk s = nI (sq s) ∧ sq s ≤ 11) (hKB : KB w h (mk (pBar sq) (w * h)) (H ||| pe w h sq (w * h)) (mk (pRich sq) (w * h)) (sumF (yd sq) (w * h)) ln lf by' bh row) (hli : li = some af → STP w h (mk (pBar sq) (w * h)) ss nx) (hK : ∀ li' ss' nx' va' ln' lf' by2 bh' oy' oh' row' u', KB w h (mk (pBar sq) (w * h)) (H ||| pe w h sq (w * h)) (mk (pRich sq) (w * h)) (sumF (yd sq) (w * h)) ln' lf' by2 bh' row' → LIo w h (mk (pBar sq) (w * h)) af li ss nx li' ss' nx' → K (li', ss', nx', va', ln', lf', by2, bh', oy', oh', row') u') : wp_X10_broken af p1 p2 al wa mo fn fs fy fb li ss nx va ln lf by' bh oy oh row (fun r u => wp_X11_broken p1 p2 (nI w) (nI h) (lN H) fo gk aS aE aN aY le ws (fun r' u' => EqK r r' (K u u'))) := by
  have hTB : TB w h (mk (pBar sq) (w * h)) (H ||| pe w h sq (w * h)) (sumF (yd sq) (w * h)) (mk (pRich sq) (w * h)) al wa mo fn fs fy fb := hT
  have hK0 : ∀ u', K (li, ss, nx, va, ln, lf, by', bh, oy, oh, row) u' := fun u' => hK _ _ _ _ _ _ _ _ _ _ _ _ hKB (Or.inl ⟨rfl, rfl, rfl⟩)
  unfold wp_X10_broken
  rcases want_tri p1 with ⟨a, b⟩ | ⟨wy, h1, hwy, rfl, a, b⟩
  · refine b _ ⟨fun _ => ?_, fun z => absurd rfl z⟩
    unfold wp_X11_broken
    refine s_in ?_
    rw [a]
    exact ⟨fun _ => eqk _ (hK0 _), fun z => absurd rfl z⟩
  · refine b _ ⟨fun z => absurd z (by decide), fun _ => ?_⟩
    have hno : inI p2 1 60 = 0 → ∀ r, r = (-3 : Int32) → wp_X11_broken (nI wy) p2 (nI w) (nI h) (lN H) fo gk aS aE aN aY le ws (fun r' u' => EqK r r' (K (li, ss, nx, va, ln, lf, by', bh, oy, oh, row) u')) := by
      intro hz r e
      subst e
      unfold wp_X11_broken
      refine s_in ?_
      rw [a]
      refine ⟨fun z => absurd z (by decide), fun _ => s_in ?_⟩
      rw [hz]
      exact ⟨fun z => absurd rfl z, fun _ => eqk _ (hK0 _)⟩
    refine ⟨fun q1 => hno (by unfold inI; rw [if_pos q1]) _ rfl, fun q1 => ⟨fun q2 => ?_, fun q2 => hno (by unfold inI; rw [if_neg q1, if_pos (fa_of_nle q2)]) _ rfl⟩⟩
    have hin2 : inI p2 1 60 = 1 := by unfold inI; rw [if_neg q1, if_neg (fun y => (fa_of_lt y).2.1 q2)]
    obtain ⟨n, hn1, hn2, rfl⟩ : ∃ j, 1 ≤ j ∧ j ≤ 60 ∧ p2 = nI j := by
      rcases tri p2 (N := 61) (by decide) (by decide) with ⟨a, _⟩ | ⟨_, a, _⟩ | ⟨j, hj, e, _⟩
      · exact absurd (fa_trans a (by decide)) q1
      · exact absurd q2 (fa_of_lt a).2.1
      · refine ⟨j, ?_, by omega, e⟩
        apply Classical.byContradiction
        intro y
        exact q1 (by rw [e, show j = 0 by omega]; decide)
    rw [z_minus1 hn1]
    refine s_cfindBest k hTB (mk_lt _ _) (fun g => yards_le k sq g) h1 hwy (show n - 1 ≤ 60 by omega) hKB hli (fun ln1 bh1 oy1 oh1 row1 li1 ss1 nx1 va1 c1 c2 c3 => ?_)
    have hli1 : li1 = some af → STP w h (mk (pBar sq) (w * h)) ss1 nx1 := by
      intro e
      rcases c3 with ⟨y1, y2, y3⟩ | ⟨_, y⟩
      · rw [y2, y3]
        exact hli (by rw [← y1]; exact e)
      · exact y
    refine s_cfindBest k hTB (mk_lt _ _) (fun g => yards_le k sq g) h1 hwy hn2 c1 hli1 (fun ln2 bh2 oy2 oh2 row2 li2 ss2 nx2 va2 d1 d2 d3 => ?_)
    have hli2 : LIo w h (mk (pBar sq) (w * h)) af li ss nx li2 ss2 nx2 := by
      rcases d3 with ⟨y1, y2, y3⟩ | y
      · rw [y1, y2, y3]
        exact c3
      · exact Or.inr y
    have hK1 := fun u' => hK li2 ss2 nx2 va2 ln2 _ _ bh2 oy2 oh2 row2 u' d1 hli2
    obtain ⟨v1, hv1⟩ : ∃ v1, resO (LTop w h (mk (pBar sq) (w * h)) (H ||| pe w h sq (w * h)) (mk (pRich sq) (w * h)) (sumF (yd sq) (w * h)) true wy (n - 1)) = v1 := ⟨_, rfl⟩
    obtain ⟨v2, hv2⟩ : ∃ v2, resO (LTop w h (mk (pBar sq) (w * h)) (H ||| pe w h sq (w * h)) (mk (pRich sq) (w * h)) (sumF (yd sq) (w * h)) true wy n) = v2 := ⟨_, rfl⟩
    rw [hv2] at hK1
    rw [hv1, hv2]
    have href : ∀ r : Int32, (v1 = -1 ∨ v2 = -1 → r = -1) → (¬ v1 = -1 → ¬ v2 = -1 → r = v1 - v2) → wp_X11_broken (nI wy) (nI n) (nI w) (nI h) (lN H) fo gk aS aE aN aY le ws (fun r' u' => EqK r r' (K (li2, ss2, nx2, va2, ln2, v2, nI wy, bh2, oy2, oh2, row2) u')) := by
      intro r r1 r2
      unfold wp_X11_broken bk_X11_broken_51
      refine s_in ?_
      rw [a]
      refine ⟨fun z => absurd z (by decide), fun _ => s_in ?_⟩
      rw [hin2]
      refine ⟨fun _ => s_mleastL k hgk hwy hn2 (fun c a1 a2 a3 a4 le' wa' hF hR => ?_), fun z => absurd z (by decide)⟩
      rw [z_minus1 hn1, hv2]
      refine s_mleastL k hgk hwy (show n - 1 ≤ 60 by omega) (fun c a1 a2 a3 a4 le' wa' hF hR => ?_)
      rw [hv1]
      refine ⟨fun z => ?_, fun z => ⟨fun z2 => ?_, fun z2 => ?_⟩⟩
      · rw [r1 (Or.inr z)]
        exact eqk _ (hK1 _)
      · rw [r2 z2 z]
        exact eqk _ (hK1 _)
      · rw [r1 (Or.inl z2)]
        exact eqk _ (hK1 _)
    unfold bk_X10_broken_65
    refine ⟨fun z => href _ (fun _ => rfl) (fun y => absurd z y), fun z => ⟨fun z2 => href _ (fun y => ?_) (fun _ _ => rfl), fun z2 => href _ (fun _ => rfl) (fun _ y => absurd z2 y)⟩⟩
    rcases y with y | y
    · exact absurd y z
    · exact absurd y z2
end OPBEST
