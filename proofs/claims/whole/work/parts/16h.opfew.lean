section OPFEW
variable {w h bar U rich : Nat} {Y : Nat → Nat}
def KF (w h bar U rich : Nat) (Y : Nat → Nat) (kp : Nat → Int32) : Prop := ∀ j, 1 ≤ j → j < 91 → kp j = -2 ∨ kp j = resO (LTop w h bar U rich Y false j 60)
def LIo (w h bar af : Nat) (li : Option Nat) (ss nx : Nat → Int32) (li' : Option Nat) (ss' nx' : Nat → Int32) : Prop := (li' = li ∧ ss' = ss ∧ nx' = nx) ∨ (li' = some af ∧ STP w h bar ss' nx')
theorem mx_60 (k : okS w h) {hb : Nat} (hhb : hb ≤ 60) : mxS w h bar U (2 ^ (w * h)) ≤ 31 ∧ (∀ g, g ∈ flS w h bar (2 ^ (w * h)) → okH w h U (mxS w h bar U (2 ^ (w * h))) g = okH w h U 60 g) ∧ (∀ g, g ∈ flS w h bar (2 ^ (w * h)) → okH w h U (min hb (mxS w h bar U (2 ^ (w * h)))) g = okH w h U hb g) := by
  have h1 := mxS_le (bar := bar) (unn := U) k (2 ^ (w * h)) (Nat.le_refl _)
  refine ⟨h1, fun g hg => ?_, fun g hg => ?_⟩
  · obtain ⟨g1, g2⟩ := flS_mem.mp hg
    have h2 := mxS_ge (U := U) g2 _ g1
    unfold okH
    rw [decide_eq_true h2, decide_eq_true (show pc (nds w h U g) ≤ 60 by omega)]
  · obtain ⟨g1, g2⟩ := flS_mem.mp hg
    have h2 := mxS_ge (U := U) g2 _ g1
    unfold okH
    by_cases q : pc (nds w h U g) ≤ hb
    · rw [decide_eq_true q, decide_eq_true (Nat.le_min.mpr ⟨q, h2⟩)]
    · rw [decide_eq_false q, decide_eq_false (fun y => q (Nat.le_min.mp y).1)]
theorem s_orNone {o : Option Nat} {Q : Int32 → Prop} (ho : bdO 31775 o) (hQ : Q (resO o)) : wp_X1_orNone (eO 1048576 o) Q := by
  have hn := (resO_eO (F := 1048576) (B := 31775) (by decide) (by decide) ho).2
  unfold wp_X1_orNone
  cases o with
  | none => exact ⟨fun _ => hQ, fun z => absurd (hn.mpr rfl) z⟩
  | some x => exact ⟨fun z => (by have := hn.mp z; cases this), fun _ => hQ⟩
theorem s_workL {lf : Bool} {wy hb af : Nat} {li : Option Nat} {al wa mo : Int32} {fn fs fy fb ss nx va : Nat → Int32} {Q : (Int32 × Int32 × Option Nat × (Nat → Int32) × (Nat → Int32) × (Nat → Int32)) → Prop} (k : okS w h) (hT : TB w h bar U Y rich al wa mo fn fs fy fb) (hri : rich < 2 ^ 31) (hY : ∀ g, Y g ≤ 90) (hwy : wy ≤ 90) (hhb : hb ≤ 60) (hli : li = some af → STP w h bar ss nx) (hQ : ∀ ss' nx' va', STP w h bar ss' nx' → VOK w h bar (fun a g => eO 1048576 (vL w h (okH w h U hb) (LDP w h bar U rich Y lf wy hb) a g)) 0 va' → Q (nI wy, nI hb, some af, ss', nx', va')) : wp_X1_workOut af (gI lf) (nI wy) (nI hb) al wa fn fs fy fb li ss nx va Q := by
  refine s_workOut (vE := fun a g => eO 1048576 (vL w h (okH w h U hb) (LDP w h bar U rich Y lf wy hb) a g)) k hT hli (fun ss nx had g va hS hh hg hf hp hv Q' hQ' => ⟨fun _ => s_behL k hT hri hY hwy hhb hS hh hg hf hp hv hQ', fun z => ?_⟩) hQ
  cases lf <;> exact absurd z (by decide)
theorem s_cfewestFor {wy af : Nat} {li : Option Nat} {al wa mo oy oh : Int32} {fn fs fy fb ss nx va kp : Nat → Int32} {Q : Int32 → (Int32 × Int32 × (Nat → Int32) × Option Nat × (Nat → Int32) × (Nat → Int32) × (Nat → Int32)) → Prop} (k : okS w h) (hT : TB w h bar U Y rich al wa mo fn fs fy fb) (hri : rich < 2 ^ 31) (hY : ∀ g, Y g ≤ 90) (h1 : 1 ≤ wy) (hwy : wy ≤ 90) (hK : KF w h bar U rich Y kp) (hli : li = some af → STP w h bar ss nx) (hQ : ∀ oy' oh' kp' li' ss' nx' va', KF w h bar U rich Y kp' → LIo w h bar af li ss nx li' ss' nx' → Q (resO (LTop w h bar U rich Y false wy 60)) (oy', oh', kp', li', ss', nx', va')) : wp_X1_fewestFor af (nI wy) oy oh kp al wa mo fn fs fy fb li ss nx va Q := by
  obtain ⟨m1, m2, _⟩ := mx_60 (bar := bar) (U := U) (hb := 0) k (by decide)
  have hin := pk_in wy 91 (by omega)
  obtain ⟨_, hLT⟩ := LTop_ok (rich := rich) (Y := Y) (lf := false) (wy := wy) m2
  unfold wp_X1_fewestFor
  rw [z_cl (show wy < 2 ^ 31 by omega)]
  refine ⟨hin, fun z => ?_, fun z => ?_⟩
  · unfold bk_X1_fewestFor_39
    rw [z_cl (show wy < 2 ^ 31 by omega)]
    rcases hK wy h1 (by omega) with e | e
    · exact absurd e z
    · rw [e]
      exact ⟨hin, hQ _ _ _ _ _ _ _ hK (Or.inl ⟨rfl, rfl, rfl⟩)⟩
  · rw [hT.2.2.1]
    refine s_workL (lf := false) k hT hri hY hwy (by omega) hli (fun ss' nx' va' hS hv => ?_)
    refine s_onN (had := 0) (last := 0) (b := 0) k hT hS hv (vL_bd k) (Nat.le_refl 0) (Nat.two_pow_pos _) (Nat.two_pow_pos _) ?_
    have hot := on_top (w := w) (h := h) (bar := bar) (ok := okH w h U (mxS w h bar U (2 ^ (w * h)))) (cb := cN1 w h U) (D := LDP w h bar U rich Y false wy (mxS w h bar U (2 ^ (w * h))))
    rw [hot]
    have hdef : mL (fun g => if okH w h U (mxS w h bar U (2 ^ (w * h))) g then (LDP w h bar U rich Y false wy (mxS w h bar U (2 ^ (w * h))) g g).map (cN1 w h U 0 g) else none) (flS w h bar (2 ^ (w * h))) = LTop w h bar U rich Y false wy 60 := hLT
    rw [hdef]
    refine s_orNone (LTop_bd k) ⟨hin, fun f5 e5 => ?_⟩
    unfold bk_X1_fewestFor_39
    rw [z_cl (show wy < 2 ^ 31 by omega), e5, z_upd_eq]
    refine ⟨hin, hQ _ _ _ _ _ _ _ (fun j j1 j2 => ?_) (Or.inr ⟨rfl, hS⟩)⟩
    by_cases e : j = wy
    · rw [e, z_upd_eq]
      exact Or.inr rfl
    · rw [z_upd_ne _ _ e]
      exact hK j j1 j2
theorem want_tri (p : Int32) : (inI p 1 90 = 0 ∧ ∀ Q : Int32 → Prop, Q 0 → wp_X10_wantable p Q) ∨ ∃ wy, 1 ≤ wy ∧ wy ≤ 90 ∧ p = nI wy ∧ inI p 1 90 = 1 ∧ ∀ Q : Int32 → Prop, Q 1 → wp_X10_wantable p Q := by
  by_cases q1 : p < 1
  · refine Or.inl ⟨by unfold inI; rw [if_pos q1], fun Q hQ => ?_⟩
    unfold wp_X10_wantable
    exact ⟨fun _ => hQ, fun z => absurd q1 z⟩
  · by_cases q2 : 90 < p
    · refine Or.inl ⟨by unfold inI; rw [if_neg q1, if_pos q2], fun Q hQ => ?_⟩
      unfold wp_X10_wantable
      exact ⟨fun _ => hQ, fun _ => ⟨fun _ => hQ, fun z => absurd q2 z⟩⟩
    · right
      obtain ⟨j, hj, rfl⟩ : ∃ j, j ≤ 90 ∧ p = nI j := by
        rcases tri p (N := 91) (by decide) (by decide) with ⟨a, _⟩ | ⟨_, a, _⟩ | ⟨j, hj, e, _⟩
        · exact absurd (fa_trans a (by decide)) q1
        · exact absurd a q2
        · exact ⟨j, by omega, e⟩
      refine ⟨j, ?_, hj, rfl, by unfold inI; rw [if_neg q1, if_neg q2], fun Q hQ => ?_⟩
      · apply Classical.byContradiction
        intro y
        exact q1 (by rw [show j = 0 by omega]; decide)
      · unfold wp_X10_wantable
        exact ⟨fun z => absurd z q1, fun _ => ⟨fun z => absurd z q2, fun _ => hQ⟩⟩
theorem op_fewest {H : Nat} {sq : Nat → Nat} {af : Nat} {li : Option Nat} {p1 al wa mo oy oh fo : Int32} {fn fs fy fb ss nx va kp gk aS aN aY le ws : Nat → Int32} {aE : Nat → Int64} {K : (Option Nat × (Nat → Int32) × (Nat → Int32) × (Nat → Int32) × Int32 × Int32 × (Nat → Int32)) → (Int32 × (Nat → Int32) × (Nat → Int64) × (Nat → Int32) × (Nat → Int32) × (Nat → Int32) × (Nat → Int32)) → Prop} (k : okS w h) (hT : TabOK w h H sq false al wa mo fn fs fy fb) (hgk : ∀ s, s < w * h → gk s = nI (sq s) ∧ sq s ≤ 11) (hKF : KF w h (mk (pBar sq) (w * h)) (H ||| pe w h sq (w * h)) (mk (pRich sq) (w * h)) (sumF (yd sq) (w * h)) kp) (hli : li = some af → STP w h (mk (pBar sq) (w * h)) ss nx) (hK : ∀ li' ss' nx' va' oy' oh' kp' u', KF w h (mk (pBar sq) (w * h)) (H ||| pe w h sq (w * h)) (mk (pRich sq) (w * h)) (sumF (yd sq) (w * h)) kp' → LIo w h (mk (pBar sq) (w * h)) af li ss nx li' ss' nx' → K (li', ss', nx', va', oy', oh', kp') u') : wp_X10_fewest af p1 al wa mo fn fs fy fb li ss nx va oy oh kp (fun r u => wp_X11_fewest p1 (nI w) (nI h) (lN H) fo gk aS aE aN aY le ws (fun r' u' => EqK r r' (K u u'))) := by
  have hTB : TB w h (mk (pBar sq) (w * h)) (H ||| pe w h sq (w * h)) (sumF (yd sq) (w * h)) (mk (pRich sq) (w * h)) al wa mo fn fs fy fb := hT
  unfold wp_X10_fewest wp_X11_fewest
  rcases want_tri p1 with ⟨a, b⟩ | ⟨wy, h1, hwy, rfl, a, b⟩
  · refine b _ ⟨fun _ => s_in ?_, fun z => absurd rfl z⟩
    rw [a]
    exact ⟨fun _ => eqk _ (hK _ _ _ _ _ _ _ _ hKF (Or.inl ⟨rfl, rfl, rfl⟩)), fun z => absurd rfl z⟩
  · refine b _ ⟨fun z => absurd z (by decide), fun _ => ?_⟩
    refine s_cfewestFor k hTB (rich_lt k) (fun g => yards_le k sq g) h1 hwy hKF hli (fun oy' oh' kp' li' ss' nx' va' e1 e2 => s_in ?_)
    rw [a]
    refine ⟨fun z => absurd z (by decide), fun _ => s_mfewestOf k hgk hwy (fun u => eqk _ (hK _ _ _ _ _ _ _ _ e1 e2))⟩
theorem op_courses {H : Nat} {sq : Nat → Nat} {af : Nat} {li : Option Nat} {p1 p2 al wa mo oy oh fo : Int32} {fn fs fy fb ss nx va gk aS aN aY le ws : Nat → Int32} {aE : Nat → Int64} {K : (Option Nat × (Nat → Int32) × (Nat → Int32) × (Nat → Int32) × Int32 × Int32) → (Int32 × (Nat → Int32) × (Nat → Int64) × (Nat → Int32) × (Nat → Int32) × (Nat → Int32) × (Nat → Int32)) → Prop} (k : okS w h) (hT : TabOK w h H sq false al wa mo fn fs fy fb) (hgk : ∀ s, s < w * h → gk s = nI (sq s) ∧ sq s ≤ 11) (hli : li = some af → STP w h (mk (pBar sq) (w * h)) ss nx) (hK : ∀ li' ss' nx' va' oy' oh' u', LIo w h (mk (pBar sq) (w * h)) af li ss nx li' ss' nx' → K (li', ss', nx', va', oy', oh') u') : wp_X10_courses af p1 p2 al wa fn fs fy fb li ss nx va oy oh (fun r u => wp_X11_courses p1 p2 (nI w) (nI h) (lN H) fo gk aS aE aN aY le ws (fun r' u' => EqK r r' (K u u'))) := by
  have hTB : TB w h (mk (pBar sq) (w * h)) (H ||| pe w h sq (w * h)) (sumF (yd sq) (w * h)) (mk (pRich sq) (w * h)) al wa mo fn fs fy fb := hT
  have hK0 : ∀ u', K (li, ss, nx, va, oy, oh) u' := fun u' => hK _ _ _ _ _ _ _ (Or.inl ⟨rfl, rfl, rfl⟩)
  unfold wp_X10_courses
  rcases want_tri p1 with ⟨a, b⟩ | ⟨wy, h1, hwy, rfl, a, b⟩
  · refine b _ ⟨fun _ => ?_, fun z => absurd rfl z⟩
    unfold wp_X11_courses
    refine s_in ?_
    rw [a]
    exact ⟨fun _ => eqk _ (hK0 _), fun z => absurd rfl z⟩
  · refine b _ ⟨fun z => absurd z (by decide), fun _ => ?_⟩
    have hno : inI p2 0 60 = 0 → ∀ r, r = (-3 : Int32) → wp_X11_courses (nI wy) p2 (nI w) (nI h) (lN H) fo gk aS aE aN aY le ws (fun r' u' => EqK r r' (K (li, ss, nx, va, oy, oh) u')) := by
      intro hz r e
      subst e
      unfold wp_X11_courses
      refine s_in ?_
      rw [a]
      refine ⟨fun z => absurd z (by decide), fun _ => s_in ?_⟩
      rw [hz]
      exact ⟨fun z => absurd rfl z, fun _ => eqk _ (hK0 _)⟩
    refine ⟨fun q1 => hno (by unfold inI; rw [if_pos q1]) _ rfl, fun q1 => ⟨fun q2 => hno (by unfold inI; rw [if_neg q1, if_pos q2]) _ rfl, fun q2 => ?_⟩⟩
    have hin2 : inI p2 0 60 = 1 := by unfold inI; rw [if_neg q1, if_neg q2]
    obtain ⟨hb, hhb, rfl⟩ : ∃ j, j ≤ 60 ∧ p2 = nI j := by
      rcases tri p2 (N := 61) (by decide) (by decide) with ⟨a, _⟩ | ⟨_, a, _⟩ | ⟨j, hj, e, _⟩
      · exact absurd a q1
      · exact absurd a q2
      · exact ⟨j, by omega, e⟩
    unfold wp_X1_ways
    refine s_workOut (vE := fun a g => nI (vW w h (okH w h (H ||| pe w h sq (w * h)) hb) (WDP w h (mk (pBar sq) (w * h)) (H ||| pe w h sq (w * h)) (mk (pRich sq) (w * h)) (sumF (yd sq) (w * h)) wy hb) a g)) k hTB hli (fun ss nx had g va hS hh hg hf hp hv Q' hQ' => ⟨fun z => absurd rfl z, fun _ => s_behW k hTB (rich_lt k) (fun g => yards_le k sq g) hwy hhb hS hh hg hf hp hv hQ'⟩) (fun ss' nx' va' hS hv => ?_)
    refine s_onW (had := 0) (last := 0) (b := 0) k hTB hS hv ?_ (Nat.le_refl 0) (Nat.two_pow_pos _) (Nat.two_pow_pos _) ?_
    · intro a g
      unfold vW
      split
      · exact WDP_lt
      · decide
    · rw [onW_top]
      unfold wp_X11_courses
      refine s_in ?_
      rw [a]
      refine ⟨fun z => absurd z (by decide), fun _ => s_in ?_⟩
      rw [hin2]
      refine ⟨fun _ => s_layC (lf := true) k hgk hwy hhb (fun c a1 a2 a3 a4 le' wa' hF hR => s_mwy0 k hhb hF hR (eqk _ (hK _ _ _ _ _ _ _ (Or.inr ⟨rfl, hS⟩)))), fun z => absurd z (by decide)⟩
end OPFEW
