section TWO5
variable {w h : Nat}
def twA (c : Nat → Nat → Nat) (o : Option (Nat × Nat)) (p3 : Int32) : Int32 :=
  match o with
  | none => -1
  | some x => if p3 = 0 then nI x.1 else if p3 = 1 then nI x.2 else nI (c x.1 x.2)
theorem s_mtwo {U P1 P2 : Nat} {sq : Nat → Nat} {p3 fo : Int32} {aS aN aY : Nat → Int32} {aE : Nat → Int64} {L : List Nat} {Q : Int32 → (Int32 × (Nat → Int32) × (Nat → Int64) × (Nat → Int32) × (Nat → Int32)) → Prop} (k : okS w h) (hL : L = flS w h (mk (pBar sq) (w * h)) (2 ^ (w * h))) (hP1 : P1 < 2 ^ 31) (hP : P2 < 2 ^ 31) (hF : FLok w h U (sumF (yd sq) (w * h)) L fo aS aE aN aY) (hQ : ∀ o, Best (gd w h sq P1 P2) (ct w h U) o → Q (twA (ct w h U) o p3) (fo, aS, aE, aN, aY)) : lp_X11_two_50 Q (nI P1) (nI P2) p3 fo aS aE aN aY (-1) (-1) 100000 0 := by
  have hlen : L.length ≤ 280 := by rw [hL]; exact flS_len k (Nat.le_refl _)
  have hG : ∀ a b, gd w h sq P1 P2 a b → ∃ t, t < L.length ∧ a = L.getD t 0 := by
    rw [hL]; exact fun a b g => fl_has g.1 g.2.2.1
  unfold lp_X11_two_50
  refine ⟨fun m p q r z => ∃ i o, i ≤ L.length ∧ m = L.length - i ∧ z = nI i ∧ Best (VI L (gd w h sq P1 P2) i 0) (ct w h U) o ∧ MR L (ct w h U) o p q r, ⟨L.length - 0, 0, none, Nat.zero_le _, rfl, rfl, ?_, rfl, rfl, rfl⟩, ?_⟩
  · rintro a b ⟨_, ⟨t, ht, _⟩ | ⟨_, t, ht, _⟩⟩
    · omega
    · omega
  rintro m p q r z ⟨i, o, hi, rfl, rfl, hb, hc⟩
  unfold bd_X11_two_50
  have F1 := hF.1
  have hF2 := hF.2
  refine pk_le L.length i (fun z => ?_) (fun z => ?_) F1 rfl
  · have e : i = L.length := by omega
    rw [e] at hb
    have hb2 : Best (gd w h sq P1 P2) (ct w h U) o := best_ext (fun a b => ⟨fun g => ⟨g, Or.inl (hG a b g)⟩, fun g => g.1⟩) hb
    have fin := hQ o hb2
    cases o with
    | none =>
      obtain ⟨c1, _, _⟩ := hc
      exact ⟨fun y => absurd c1 y, fun _ => fin⟩
    | some x =>
      obtain ⟨s, t, hs, ht, c1, c2, c3, c4, c5⟩ := hc
      unfold twA at fin
      refine ⟨fun _ => ⟨fun y => ⟨fun y2 => ?_, fun y2 => ?_⟩, fun y => ?_⟩, fun y => absurd y (by rw [c1]; exact z_m1 (by omega))⟩
      · simp only [if_neg y, if_neg y2] at fin
        rw [c5]
        exact fin
      · simp only [if_neg y, if_pos y2] at fin
        rw [c2]
        refine ⟨pk_in t 280 (by omega), ?_⟩
        rw [z_cl (by omega), (hF2 t ht).1, ← c4]
        exact fin
      · simp only [if_pos y] at fin
        rw [c1]
        refine ⟨pk_in s 280 (by omega), ?_⟩
        rw [z_cl (by omega), (hF2 s hs).1, ← c3]
        exact fin
  · exact s_mtwoIn k hL z hP1 hP hF hb hc (fun o' p' q' r' g1 g2 => ⟨L.length - (i + 1), by omega, i + 1, o', by omega, rfl, rfl, g1, g2⟩)
end TWO5
