section TWO
variable {w h : Nat}
def gd (w h : Nat) (sq : Nat → Nat) (P1 P2 a b : Nat) : Prop := a < 2 ^ (w * h) ∧ b < 2 ^ (w * h) ∧ isFd w h (mk (pBar sq) (w * h)) a = true ∧ isFd w h (mk (pBar sq) (w * h)) b = true ∧ a &&& b = 0 ∧ P1 ≤ sumF (yd sq) (w * h) a ∧ P2 ≤ sumF (yd sq) (w * h) b
def ct (w h U a b : Nat) : Nat := pc (nds w h U a ||| nds w h U b)
theorem ct_le {U a b : Nat} (k : okS w h) (ha : a < 2 ^ (w * h)) (hb : b < 2 ^ (w * h)) : ct w h U a b ≤ 31 := pc_le (Nat.or_lt_two_pow (nds_lt k U ha) (nds_lt k U hb))
theorem isFd_pos {bar b : Nat} (e : isFd w h bar b = true) : 0 < b := by
  unfold isFd at e
  simp only [Bool.and_eq_true, decide_eq_true_eq] at e
  exact e.1.1
theorem sb_mask {n F b : Nat} (hb : b < 2 ^ n) : b &&& andn (2 ^ n - 1) F = b ↔ F &&& b = 0 := by
  constructor
  · intro e
    apply z_zero.mpr
    intro i
    have e2 := congrArg (fun t => Nat.testBit t i) e
    simp only [Nat.testBit_and, andn_bit] at e2
    rw [Nat.testBit_and]
    cases p : F.testBit i <;> cases q : b.testBit i <;> simp_all
  · intro e
    apply Nat.eq_of_testBit_eq
    intro i
    have e2 := z_zero.mp e i
    rw [Nat.testBit_and] at e2
    rw [Nat.testBit_and, andn_bit, Nat.testBit_two_pow_sub_one]
    cases q : b.testBit i
    · rfl
    · have hi : i < n := by
        apply Classical.byContradiction
        intro y
        rw [Nat.testBit_lt_two_pow (Nat.lt_of_lt_of_le hb (Nat.pow_le_pow_right (by decide) (Nat.le_of_not_lt y)))] at q
        exact absurd q (by decide)
      rw [q, Bool.and_true] at e2
      rw [e2, decide_eq_true hi]
      rfl
theorem s_second {H P1 P2 F : Nat} {sq : Nat → Nat} {al wa mo p q r : Int32} {fn fs fy fb : Nat → Int32} {o : Option (Nat × Nat)} {Q : Int32 × Int32 × Int32 → Prop} (k : okS w h) (hT : TabOK w h H sq false al wa mo fn fs fy fb) (hF : F < 2 ^ (w * h)) (hFf : isFd w h (mk (pBar sq) (w * h)) F = true) (hFy : P1 ≤ sumF (yd sq) (w * h) F) (hP : P2 < 2 ^ 31) (hb : Best (fun a b => gd w h sq P1 P2 a b ∧ a < F) (ct w h (H ||| pe w h sq (w * h))) o) (hc : CR (ct w h (H ||| pe w h sq (w * h))) o p q r) (hQ : ∀ o' p' q' r', Best (fun a b => gd w h sq P1 P2 a b ∧ a < F + 1) (ct w h (H ||| pe w h sq (w * h))) o' → CR (ct w h (H ||| pe w h sq (w * h))) o' p' q' r' → Q (p', q', r')) : wp_X5_findSecond (nI F) (nI P2) p q r al fn fs fy Q := by
  have hp := pow10 k
  unfold wp_X5_findSecond
  intro y1 e1
  rw [hT.1, z_andn] at e1
  subst e1
  have hM := fun b (hb : b < 2 ^ (w * h)) => sb_mask (F := F) hb
  have hMlt : andn (2 ^ (w * h) - 1) F < 2 ^ (w * h) := Nat.lt_of_le_of_lt (andn_le _ _) (by omega)
  generalize andn (2 ^ (w * h) - 1) F = M at hM hMlt
  have hin : ∀ b, gd w h sq P1 P2 F b → b &&& M = b := fun b g => (hM b g.2.1).mpr g.2.2.2.2.1
  unfold lp_X5_findSecond_14
  refine ⟨fun m p q r z => ∃ y o, m = y ∧ y &&& M = y ∧ z = nI y ∧ Best (fun a b => gd w h sq P1 P2 a b ∧ (a < F ∨ (a = F ∧ y < b))) (ct w h (H ||| pe w h sq (w * h))) o ∧ CR (ct w h (H ||| pe w h sq (w * h))) o p q r, ⟨M, M, o, rfl, Nat.and_self M, rfl, best_ext (fun a b => ?_) hb, hc⟩, ?_⟩
  · constructor
    · rintro ⟨g, g2 | ⟨rfl, g2⟩⟩
      · exact ⟨g, g2⟩
      · have e := hin b g
        have : b &&& M ≤ M := Nat.and_le_right
        omega
    · exact fun g => ⟨g.1, Or.inl g.2⟩
  clear hb hc p q r o
  rintro m p q r z ⟨y, o, rfl, hy, rfl, hb, hc⟩
  have hyl : m < 2 ^ (w * h) := by
    have : m &&& M ≤ M := Nat.and_le_right
    omega
  unfold bd_X5_findSecond_14
  refine pk_le m 0 (fun z => ?_) (fun z => ?_) rfl rfl
  · refine hQ o p q r (best_ext (fun a b => ?_) hb) hc
    constructor
    · rintro ⟨g, g2⟩
      have := isFd_pos g.2.2.2.1
      exact ⟨g, by omega⟩
    · rintro ⟨g, g2⟩
      exact ⟨g, by omega⟩
  · have hst : ∀ b, gd w h sq P1 P2 F b → ((m - 1) &&& M < b ↔ m < b ∨ b = m) := by
      intro b g
      have e := hin b g
      have l := sb_lt (y := m) M (by omega)
      constructor
      · intro l2
        apply Classical.byContradiction
        intro y
        have := sb_next (m + 1) M m b (by omega) hy e (by omega)
        omega
      · intro l2
        omega
    have hnx : (nI m - 1) &&& nI M = nI ((m - 1) &&& M) := by
      rw [show nI m - 1 = nI (m - 1) from z_sub (a := m) (b := 1) (by omega), z_and]
    obtain ⟨B, hB⟩ : ∃ B : Int32 → Int32 → Int32 → Int32 → Prop, B = fun p' q' r' z' => ∃ n', n' < m ∧ ∃ y o, n' = y ∧ y &&& M = y ∧ z' = nI y ∧ Best (fun a b => gd w h sq P1 P2 a b ∧ (a < F ∨ (a = F ∧ y < b))) (ct w h (H ||| pe w h sq (w * h))) o ∧ CR (ct w h (H ||| pe w h sq (w * h))) o p' q' r' := ⟨_, rfl⟩
    rw [← hB]
    have go : ∀ o' p' q' r', Best (fun a b => gd w h sq P1 P2 a b ∧ (a < F ∨ (a = F ∧ (m - 1) &&& M < b))) (ct w h (H ||| pe w h sq (w * h))) o' → CR (ct w h (H ||| pe w h sq (w * h))) o' p' q' r' → bk_X5_findSecond_109 Q B (nI M) (nI m) p' q' r' := by
      intro o' p' q' r' g1 g2
      unfold bk_X5_findSecond_109
      intro y5 e5
      rw [e5, hnx, hB]
      exact ⟨(m - 1) &&& M, sb_lt M (by omega), (m - 1) &&& M, o', rfl, sb_in _ _, rfl, g1, g2⟩
    have skip : ¬ gd w h sq P1 P2 F m → bk_X5_findSecond_109 Q B (nI M) (nI m) p q r := by
      intro ng
      refine go o p q r (best_ext (fun a b => ?_) hb) hc
      constructor
      · rintro ⟨g, g2 | ⟨rfl, g2⟩⟩
        · exact ⟨g, Or.inl g2⟩
        · rcases (hst b g).mp g2 with l | rfl
          · exact ⟨g, Or.inr ⟨rfl, l⟩⟩
          · exact absurd g ng
      · rintro ⟨g, g2 | ⟨rfl, g2⟩⟩
        · exact ⟨g, Or.inl g2⟩
        · exact ⟨g, Or.inr ⟨rfl, (hst b g).mpr (Or.inl g2)⟩⟩
    obtain ⟨ta, tb, tc, _⟩ := tab_f hT hyl
    obtain ⟨tF, _, _, _⟩ := tab_f hT hF
    have hi := pk_in m 1024 (by omega)
    unfold wp_X3_isFold
    rw [z_cl (show m < 2 ^ 31 by omega), z_cl (show F < 2 ^ 31 by omega), ta, tb, tc, tF]
    by_cases hf : isFd w h (mk (pBar sq) (w * h)) m = true
    · rw [if_pos hf, if_pos hf, if_pos hFf]
      have hpc := pc_le (nds_lt k (H ||| pe w h sq (w * h)) hyl)
      have hyd := yards_le k sq m
      refine ⟨hi, fun z => absurd z (z_m1 (by omega)), fun _ => ⟨fun z => absurd z (by decide), fun _ => ⟨hi, ?_⟩⟩⟩
      refine pk_lt (sumF (yd sq) (w * h) m) P2 (fun l => ?_) (fun l => ?_) rfl rfl
      · exact skip (fun g => absurd g.2.2.2.2.2.2 (by omega))
      · have g0 : gd w h sq P1 P2 F m := ⟨hF, hyl, hFf, hf, (hM m hyl).mp hy, hFy, l⟩
        have hV : ∀ a b, (gd w h sq P1 P2 a b ∧ (a < F ∨ (a = F ∧ (m - 1) &&& M < b))) ↔ (gd w h sq P1 P2 a b ∧ (a < F ∨ (a = F ∧ m < b))) ∨ (a = F ∧ b = m) := by
          intro a b
          constructor
          · rintro ⟨g, g2 | ⟨rfl, g2⟩⟩
            · exact Or.inl ⟨g, Or.inl g2⟩
            · rcases (hst b g).mp g2 with l | l
              · exact Or.inl ⟨g, Or.inr ⟨rfl, l⟩⟩
              · exact Or.inr ⟨rfl, l⟩
          · rintro (⟨g, g2 | ⟨rfl, g2⟩⟩ | ⟨rfl, rfl⟩)
            · exact ⟨g, Or.inl g2⟩
            · exact ⟨g, Or.inr ⟨rfl, (hst b g).mpr (Or.inl g2)⟩⟩
            · exact ⟨g0, Or.inr ⟨rfl, (hst _ g0).mpr (Or.inr rfl)⟩⟩
        refine ⟨pk_in F 1024 (by omega), hi, ?_⟩
        rw [z_or]
        refine s_bitCount (Nat.or_lt_two_pow (nds_lt k _ hF) (nds_lt k _ hyl)) ?_
        rw [show pc (nds w h (H ||| pe w h sq (w * h)) F ||| nds w h (H ||| pe w h sq (w * h)) m) = ct w h (H ||| pe w h sq (w * h)) F m from rfl]
        have take : (∀ x, o = some x → lx (ct w h (H ||| pe w h sq (w * h)) F m) F m (ct w h (H ||| pe w h sq (w * h)) x.1 x.2) x.1 x.2) → bk_X5_findSecond_92 Q B (nI F) (nI M) (nI m) (nI (ct w h (H ||| pe w h sq (w * h)) F m)) := by
          intro hl
          unfold bk_X5_findSecond_92
          exact go (some (F, m)) _ _ _ (best_new hV hb hl) ⟨rfl, rfl, rfl⟩
        cases o with
        | none =>
          refine ⟨fun _ => take (fun x e => by cases e), fun z => absurd hc.2.2 z⟩
        | some x =>
          obtain ⟨c1, c2, c3⟩ := hc
          have gx := hb.1
          have hcx := ct_le (U := H ||| pe w h sq (w * h)) k gx.1.1 gx.1.2.1
          have hcm := ct_le (U := H ||| pe w h sq (w * h)) k hF hyl
          have gx2 := gx.2
          have keep : lx (ct w h (H ||| pe w h sq (w * h)) x.1 x.2) x.1 x.2 (ct w h (H ||| pe w h sq (w * h)) F m) F m → bk_X5_findSecond_109 Q B (nI M) (nI m) p q r := fun hl => go (some x) p q r (best_keep hV hb hl) ⟨c1, c2, c3⟩
          have hxl := gx.1.1
          generalize hA : ct w h (H ||| pe w h sq (w * h)) F m = A at take keep hcm ⊢
          generalize hD : ct w h (H ||| pe w h sq (w * h)) x.1 x.2 = D at take keep hcx c3
          refine ⟨fun z => absurd z (by rw [c3]; exact z_m1 (by omega)), fun _ => pk_lt A D (fun l2 => ?_) (fun l2 => ⟨fun n => ?_, fun n => ⟨fun n2 => ?_, fun n2 => ?_⟩⟩) rfl c3⟩
          · exact take (fun x' e => by cases e; rw [hD]; exact Or.inl l2)
          · have : A ≠ D := fun e => n (by rw [c3, e])
            exact keep (Or.inl (by omega))
          · have e : A = D := z_inj (by omega) (by omega) (by rw [n, c3])
            have : x.1 ≠ F := fun e => n2 (by rw [c1, e])
            exact keep (Or.inr ⟨e.symm, Or.inl (by omega)⟩)
          · have e : A = D := z_inj (by omega) (by omega) (by rw [n, c3])
            have e2 : x.1 = F := z_inj (by omega) (by omega) (by rw [← c1, n2])
            refine take (fun x' e => ?_)
            cases e
            rw [hD]
            exact Or.inr ⟨by assumption, Or.inr ⟨e2.symm, by omega⟩⟩
    · rw [if_neg hf, if_neg hf]
      exact ⟨hi, fun _ => ⟨fun _ => skip (fun g => hf g.2.2.2.1), fun z => absurd rfl z⟩, fun z => absurd rfl z⟩
end TWO
