section OPS4
variable {w h : Nat}
theorem op_count {p tl hu wn rs nn : Int32} {K : Prop} (hK : K) : wp_X10_count p tl (nI w) (nI h) hu wn rs nn (fun r => wp_X11_count p (nI w) (nI h) hu wn rs tl nn (fun r' => EqK r r' K)) := by
  unfold wp_X10_count
  refine ⟨fun z => ?_, fun z => ?_, fun z => ?_, fun z => ?_, fun z => ?_, fun z => ?_, fun z => ?_, fun z => ?_, fun z => ?_⟩
  · subst z
    refine s_gsquares ?_
    unfold wp_X11_count
    exact ⟨fun _ => s_squares (eqk _ hK), fun z => absurd z (by decide), fun z => absurd z (by decide), fun z => absurd z (by decide), fun z => absurd z (by decide), fun z => absurd z (by decide), fun z => absurd z (by decide), fun z => absurd z (by decide), fun z => absurd rfl z.1⟩
  · subst z
    unfold wp_X11_count
    exact ⟨fun z => absurd z (by decide), fun _ => eqk _ hK, fun z => absurd z (by decide), fun z => absurd z (by decide), fun z => absurd z (by decide), fun z => absurd z (by decide), fun z => absurd z (by decide), fun z => absurd z (by decide), fun z => absurd rfl z.2.1⟩
  · subst z
    refine s_edgeCount ?_
    unfold wp_X11_count
    exact ⟨fun z => absurd z (by decide), fun z => absurd z (by decide), fun _ => s_edgeMany (eqk _ hK), fun z => absurd z (by decide), fun z => absurd z (by decide), fun z => absurd z (by decide), fun z => absurd z (by decide), fun z => absurd z (by decide), fun z => absurd rfl z.2.2.1⟩
  · subst z
    unfold wp_X11_count
    exact ⟨fun z => absurd z (by decide), fun z => absurd z (by decide), fun z => absurd z (by decide), fun _ => eqk _ hK, fun z => absurd z (by decide), fun z => absurd z (by decide), fun z => absurd z (by decide), fun z => absurd z (by decide), fun z => absurd rfl z.2.2.2.1⟩
  · subst z
    unfold wp_X11_count
    exact ⟨fun z => absurd z (by decide), fun z => absurd z (by decide), fun z => absurd z (by decide), fun z => absurd z (by decide), fun _ => eqk _ hK, fun z => absurd z (by decide), fun z => absurd z (by decide), fun z => absurd z (by decide), fun z => absurd rfl z.2.2.2.2.1⟩
  · subst z
    unfold wp_X11_count
    exact ⟨fun z => absurd z (by decide), fun z => absurd z (by decide), fun z => absurd z (by decide), fun z => absurd z (by decide), fun z => absurd z (by decide), fun _ => eqk _ hK, fun z => absurd z (by decide), fun z => absurd z (by decide), fun z => absurd rfl z.2.2.2.2.2.1⟩
  · subst z
    unfold wp_X11_count
    exact ⟨fun z => absurd z (by decide), fun z => absurd z (by decide), fun z => absurd z (by decide), fun z => absurd z (by decide), fun z => absurd z (by decide), fun z => absurd z (by decide), fun _ => eqk _ hK, fun z => absurd z (by decide), fun z => absurd rfl z.2.2.2.2.2.2.1⟩
  · subst z
    unfold wp_X11_count
    exact ⟨fun z => absurd z (by decide), fun z => absurd z (by decide), fun z => absurd z (by decide), fun z => absurd z (by decide), fun z => absurd z (by decide), fun z => absurd z (by decide), fun z => absurd z (by decide), fun _ => eqk _ hK, fun z => absurd rfl z.2.2.2.2.2.2.2⟩
  · unfold wp_X11_count
    exact ⟨fun y => absurd y z.1, fun y => absurd y z.2.1, fun y => absurd y z.2.2.1, fun y => absurd y z.2.2.2.1, fun y => absurd y z.2.2.2.2.1, fun y => absurd y z.2.2.2.2.2.1, fun y => absurd y z.2.2.2.2.2.2.1, fun y => absurd y z.2.2.2.2.2.2.2, fun _ => eqk _ hK⟩
theorem op_erase {t : Int32} {K : Int32 → Int32 → Prop} (hK : K 0 0) : wp_X10_erase t (fun r u => wp_X11_erase t (fun r' u' => EqK r r' (K u u'))) := by
  unfold wp_X10_erase wp_X11_erase
  exact eqk _ hK
theorem op_clear {t : Int32} {K : Int32 → Int32 → Prop} (hK : K 0 0) : wp_X10_clear t (fun r u => wp_X11_clear t (fun r' u' => EqK r r' (K u u'))) := by
  unfold wp_X10_clear wp_X11_clear
  exact eqk _ hK
end OPS4
