section TWO4
variable {w h : Nat}
theorem s_mtwoIn {U P1 P2 i : Nat} {sq : Nat → Nat} {fo p q r : Int32} {aS aN aY : Nat → Int32} {aE : Nat → Int64} {L : List Nat} {o : Option (Nat × Nat)} {Q : Int32 → (Int32 × (Nat → Int32) × (Nat → Int64) × (Nat → Int32) × (Nat → Int32)) → Prop} {B50 : Int32 → Int32 → Int32 → Int32 → Prop} (k : okS w h) (hL : L = flS w h (mk (pBar sq) (w * h)) (2 ^ (w * h))) (hi : i < L.length) (hP1 : P1 < 2 ^ 31) (hP : P2 < 2 ^ 31) (hF : FLok w h U (sumF (yd sq) (w * h)) L fo aS aE aN aY) (hb : Best (VI L (gd w h sq P1 P2) i 0) (ct w h U) o) (hc : MR L (ct w h U) o p q r) (hB50 : ∀ o' p' q' r', Best (VI L (gd w h sq P1 P2) (i + 1) 0) (ct w h U) o' → MR L (ct w h U) o' p' q' r' → B50 p' q' r' (nI (i + 1))) : lp_X11_two_62 Q B50 (nI P1) (nI P2) (nI i) fo aS aE aY p q r 0 := by
  have hp := pow10 k
  have hlen : L.length ≤ 280 := by rw [hL]; exact flS_len k (Nat.le_refl _)
  have hat : ∀ t, t < L.length → L.getD t 0 < 2 ^ (w * h) ∧ isFd w h (mk (pBar sq) (w * h)) (L.getD t 0) = true := by
    rw [hL]; exact fun t ht => fl_at ht
  have hmono : ∀ s t, s < t → t < L.length → L.getD s 0 < L.getD t 0 := by
    rw [hL]; exact fun s t hs ht => fl_mono hs ht
  have hG : ∀ a b, gd w h sq P1 P2 a b → ∃ t, t < L.length ∧ b = L.getD t 0 := by
    rw [hL]; exact fun a b g => fl_has g.2.1 g.2.2.2.1
  clear hL
  obtain ⟨F1, F2⟩ := hF
  unfold lp_X11_two_62
  refine ⟨fun m p q r z => ∃ j o, j ≤ L.length ∧ m = L.length - j ∧ z = nI j ∧ Best (VI L (gd w h sq P1 P2) i j) (ct w h U) o ∧ MR L (ct w h U) o p q r, ⟨L.length - 0, 0, o, Nat.zero_le _, rfl, rfl, hb, hc⟩, ?_⟩
  clear hb hc p q r o
  rintro m p q r z ⟨j, o, hj, rfl, rfl, hb, hc⟩
  unfold bd_X11_two_62
  rw [F1]
  refine pk_le L.length j (fun z => ?_) (fun z => ?_) rfl rfl
  · intro y13 e13
    rw [e13, nI_1]
    have e : j = L.length := by omega
    rw [e] at hb
    exact hB50 o p q r (best_ext (VI_end hG i) hb) hc
  · obtain ⟨B, hB⟩ : ∃ B : Int32 → Int32 → Int32 → Int32 → Prop, B = fun p' q' r' z' => ∃ n', n' < L.length - j ∧ ∃ j o, j ≤ L.length ∧ n' = L.length - j ∧ z' = nI j ∧ Best (VI L (gd w h sq P1 P2) i j) (ct w h U) o ∧ MR L (ct w h U) o p' q' r' := ⟨_, rfl⟩
    rw [← hB]
    have go : ∀ o' p' q' r', Best (VI L (gd w h sq P1 P2) i (j + 1)) (ct w h U) o' → MR L (ct w h U) o' p' q' r' → bk_X11_two_150 Q B50 B p' q' r' (nI j) := by
      intro o' p' q' r' g1 g2
      unfold bk_X11_two_150
      intro y15 e15
      rw [e15, hB, nI_1]
      exact ⟨L.length - (j + 1), by omega, j + 1, o', by omega, rfl, rfl, g1, g2⟩
    have skip : ¬ gd w h sq P1 P2 (L.getD i 0) (L.getD j 0) → bk_X11_two_150 Q B50 B p q r (nI j) := fun ng => go o p q r (best_ext (VI_skip ng) hb) hc
    obtain ⟨i1, i2, _, i4⟩ := F2 i hi
    obtain ⟨j1, j2, _, j4⟩ := F2 j z
    obtain ⟨ai, fi⟩ := hat i hi
    obtain ⟨aj, fj⟩ := hat j z
    have yi := yards_le k sq (L.getD i 0)
    have yj := yards_le k sq (L.getD j 0)
    have pi := pk_in i 280 (by omega)
    have pj := pk_in j 280 (by omega)
    rw [z_cl (show i < 2 ^ 31 by omega), z_cl (show j < 2 ^ 31 by omega), i1, i2, i4, j1, j2, j4, z_and]
    refine ⟨pi, pk_lt (sumF (yd sq) (w * h) (L.getD i 0)) P1 (fun l => ?_) (fun l => ⟨pj, pk_lt (sumF (yd sq) (w * h) (L.getD j 0)) P2 (fun l2 => ?_) (fun l2 => ⟨pi, pj, ?_⟩) rfl rfl⟩) rfl rfl⟩
    · exact skip (fun g => absurd g.2.2.2.2.2.1 (by omega))
    · exact skip (fun g => absurd g.2.2.2.2.2.2 (by omega))
    · by_cases hz : L.getD i 0 &&& L.getD j 0 = 0
      · have g0 : gd w h sq P1 P2 (L.getD i 0) (L.getD j 0) := ⟨ai, aj, fi, fj, hz, l, l2⟩
        have hV := VI_add g0
        rw [hz]
        refine ⟨fun z => absurd rfl z, fun _ => ⟨pi, pj, ?_⟩⟩
        rw [fb_orL]
        refine s_bits (Nat.or_lt_two_pow (nds_lt k _ ai) (nds_lt k _ aj)) ?_
        rw [show pc (nds w h U (L.getD i 0) ||| nds w h U (L.getD j 0)) = ct w h U (L.getD i 0) (L.getD j 0) from rfl]
        have hcm := ct_le (U := U) k ai aj
        have take : (∀ x, o = some x → lx (ct w h U (L.getD i 0) (L.getD j 0)) (L.getD i 0) (L.getD j 0) (ct w h U x.1 x.2) x.1 x.2) → bk_X11_two_150 Q B50 B (nI i) (nI j) (nI (ct w h U (L.getD i 0) (L.getD j 0))) (nI j) :=
          fun hl => go (some (L.getD i 0, L.getD j 0)) _ _ _ (best_new hV hb hl) ⟨i, j, hi, z, rfl, rfl, rfl, rfl, rfl⟩
        cases o with
        | none =>
          refine pk_le 100000 (ct w h U (L.getD i 0) (L.getD j 0)) (fun l3 => absurd l3 (by omega)) (fun l3 => take (fun x e => by cases e)) hc.2.2 rfl
        | some x =>
          have gx := hb.1
          have keep : lx (ct w h U x.1 x.2) x.1 x.2 (ct w h U (L.getD i 0) (L.getD j 0)) (L.getD i 0) (L.getD j 0) → bk_X11_two_150 Q B50 B p q r (nI j) := fun hl => go (some x) p q r (best_keep hV hb hl) hc
          obtain ⟨s, t, hs, ht, c1, c2, c3, c4, c5⟩ := hc
          have ord : x.1 < L.getD i 0 ∨ (x.1 = L.getD i 0 ∧ x.2 ≤ L.getD j 0) := by
            rcases gx.2 with ⟨t, ht, e⟩ | ⟨e, t, ht, e2⟩
            · left
              rw [e]
              exact hmono t i ht hi
            · right
              refine ⟨e, ?_⟩
              rw [e2]
              exact Nat.le_of_lt (hmono t j ht z)
          have hcx := ct_le (U := U) k gx.1.1 gx.1.2.1
          refine pk_le (ct w h U x.1 x.2) (ct w h U (L.getD i 0) (L.getD j 0)) (fun l3 => ?_) (fun l3 => ?_) c5 rfl
          · rcases Nat.lt_or_eq_of_le l3 with l4 | l4
            · exact keep (Or.inl l4)
            · exact keep (Or.inr ⟨l4, ord⟩)
          · exact take (fun x' e => by cases e; exact Or.inl l3)
      · exact ⟨fun _ => skip (fun g => hz g.2.2.2.2.1), fun y => absurd y (nI_ne0 (Nat.pos_of_ne_zero hz) (Nat.lt_of_le_of_lt Nat.and_le_left (by omega)))⟩
end TWO4
