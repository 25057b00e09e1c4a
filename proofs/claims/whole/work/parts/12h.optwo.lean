section TWO6
variable {w h : Nat}
theorem op_two {H : Nat} {sq : Nat → Nat} {p1 p2 p3 al wa mo fo pf ps pn : Int32} {fn fs fy fb gk aS aN aY : Nat → Int32} {aE : Nat → Int64} {K : Int32 × Int32 × Int32 → (Int32 × (Nat → Int32) × (Nat → Int64) × (Nat → Int32) × (Nat → Int32)) → Prop} (k : okS w h) (hT : TabOK w h H sq false al wa mo fn fs fy fb) (hgk : ∀ s, s < w * h → gk s = nI (sq s) ∧ sq s ≤ 11) (hK : ∀ u u', K u u') : wp_X10_two p1 p2 p3 al fn fs fy pf ps pn (fun r u => wp_X11_two p1 p2 p3 (nI w) (nI h) (lN H) fo gk aS aE aN aY (fun r' u' => EqK r r' (K u u'))) := by
  have bad1 : ∀ u, inI p1 0 (nI (91 - 1)) = 0 → wp_X11_two p1 p2 p3 (nI w) (nI h) (lN H) fo gk aS aE aN aY (fun r' u' => EqK (-3) r' (K u u')) := by
    intro u h0
    unfold wp_X11_two
    refine s_in ?_
    rw [show (90 : Int32) = nI (91 - 1) from rfl, h0]
    exact ⟨fun _ => eqk _ (hK _ _), fun z => absurd rfl z⟩
  unfold wp_X10_two
  rcases tri p1 (N := 91) (by decide) (by decide) with ⟨h0, h1⟩ | ⟨h0, h2, h3, h1⟩ | ⟨P1, hP1, rfl, h1⟩
  · exact ⟨fun _ => bad1 _ h1, fun z => absurd h0 z⟩
  · exact ⟨fun z => absurd z h0, fun _ => ⟨fun _ => bad1 _ h1, fun z => absurd h2 z⟩⟩
  clear bad1
  refine ⟨fun z => absurd z (nI_pos (by omega)), fun _ => pk_lt 90 P1 (fun z => absurd z (by omega)) (fun _ => ?_) rfl rfl⟩
  have bad2 : ∀ u, inI p2 0 (nI (91 - 1)) = 0 → wp_X11_two (nI P1) p2 p3 (nI w) (nI h) (lN H) fo gk aS aE aN aY (fun r' u' => EqK (-3) r' (K u u')) := by
    intro u h0
    unfold wp_X11_two
    refine s_in ?_
    rw [show (90 : Int32) = nI (91 - 1) from rfl, h1]
    refine ⟨fun z => absurd z (by decide), fun _ => s_in ?_⟩
    rw [h0]
    exact ⟨fun _ => eqk _ (hK _ _), fun z => absurd rfl z⟩
  rcases tri p2 (N := 91) (by decide) (by decide) with ⟨g0, g1⟩ | ⟨g0, g2, g3, g1⟩ | ⟨P2, hP2, rfl, g1⟩
  · exact ⟨fun _ => bad2 _ g1, fun z => absurd g0 z⟩
  · exact ⟨fun z => absurd z g0, fun _ => ⟨fun _ => bad2 _ g1, fun z => absurd g2 z⟩⟩
  clear bad2
  refine ⟨fun z => absurd z (nI_pos (by omega)), fun _ => pk_lt 90 P2 (fun z => absurd z (by omega)) (fun _ => ?_) rfl rfl⟩
  have bad3 : ∀ u, inI p3 0 (nI (3 - 1)) = 0 → wp_X11_two (nI P1) (nI P2) p3 (nI w) (nI h) (lN H) fo gk aS aE aN aY (fun r' u' => EqK (-3) r' (K u u')) := by
    intro u h0
    unfold wp_X11_two
    refine s_in ?_
    rw [show (90 : Int32) = nI (91 - 1) from rfl, h1]
    refine ⟨fun z => absurd z (by decide), fun _ => s_in ?_⟩
    rw [g1]
    refine ⟨fun z => absurd z (by decide), fun _ => s_in ?_⟩
    rw [show (2 : Int32) = nI (3 - 1) from rfl, h0]
    exact ⟨fun z => absurd rfl z, fun _ => eqk _ (hK _ _)⟩
  rcases tri p3 (N := 3) (by decide) (by decide) with ⟨i0, i1⟩ | ⟨i0, i2, i3, i1⟩ | ⟨j, hj, rfl, i1⟩
  · exact ⟨fun _ => bad3 _ i1, fun z => absurd i0 z⟩
  · exact ⟨fun z => absurd z i0, fun _ => ⟨fun z => absurd i2 (Int32.not_lt.mpr z), fun _ => bad3 _ i1⟩⟩
  clear bad3
  refine ⟨fun z => absurd z (nI_pos (by omega)), fun _ => ⟨fun _ => ?_, fun z => absurd (nI_le (a := j) (b := 2) (by omega) (by decide)) z⟩⟩
  have good : ∀ u v, (∀ o', Best (gd w h sq P1 P2) (ct w h (H ||| pe w h sq (w * h))) o' → twA (ct w h (H ||| pe w h sq (w * h))) o' (nI j) = v) → wp_X11_two (nI P1) (nI P2) (nI j) (nI w) (nI h) (lN H) fo gk aS aE aN aY (fun r' u' => EqK v r' (K u u')) := by
    intro u v hv
    unfold wp_X11_two
    refine s_in ?_
    rw [show (90 : Int32) = nI (91 - 1) from rfl, h1]
    refine ⟨fun z => absurd z (by decide), fun _ => s_in ?_⟩
    rw [g1]
    refine ⟨fun z => absurd z (by decide), fun _ => s_in ?_⟩
    rw [show (2 : Int32) = nI (3 - 1) from rfl, i1]
    refine ⟨fun _ => s_findFolds k hgk ?_, fun z => absurd z (by decide)⟩
    intro c a1 a2 a3 a4 hF
    refine s_mtwo k rfl (by omega) (by omega) hF (fun o' hb' => ?_)
    rw [hv o' hb']
    exact eqk _ (hK _ _)
  refine s_cfind k hT (by omega) (by omega) ?_
  intro o p q r hb hc
  have same : ∀ v, twA (ct w h (H ||| pe w h sq (w * h))) o (nI j) = v → ∀ o', Best (gd w h sq P1 P2) (ct w h (H ||| pe w h sq (w * h))) o' → twA (ct w h (H ||| pe w h sq (w * h))) o' (nI j) = v := by
    intro v e o' hb'
    rw [← best_uniq (fun a b => Iff.rfl) hb hb']
    exact e
  refine ⟨fun y => ⟨fun y2 => good _ _ (same _ ?_), fun y2 => good _ _ (same _ ?_)⟩, fun y => good _ _ (same _ ?_)⟩
  · cases o with
    | none => exact hc.2.2.symm
    | some x => unfold twA; simp only [if_neg y, if_neg y2]; exact hc.2.2.symm
  · cases o with
    | none => exact hc.2.1.symm
    | some x => unfold twA; simp only [if_neg y, if_pos y2]; exact hc.2.1.symm
  · cases o with
    | none => exact hc.1.symm
    | some x => unfold twA; simp only [if_pos y]; exact hc.1.symm
end TWO6
