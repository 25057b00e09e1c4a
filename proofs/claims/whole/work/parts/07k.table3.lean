theorem or_self_and (a b : Nat) : a ||| (b &&& a) = a := by
  apply Nat.eq_of_testBit_eq
  intro i
  rw [Nat.testBit_or, Nat.testBit_and]
  cases a.testBit i <;> cases b.testBit i <;> rfl
theorem gr_stay {w h set j : Nat} (hj : gr w h set j = set) : ∀ i, gr w h set (j + i) = set
  | 0 => hj
  | i + 1 => by
    show gr w h set (j + i) ||| (bes w h (gr w h set (j + i)) &&& set) = set
    rw [gr_stay hj i, or_self_and]
theorem lowb_lo {k : Nat} (h0 : 0 < k) (h : k < 1024) : lowb k = 2 ^ lo k := by
  have h1 := allB_iff.mp geo_lo k h
  simp only [Bool.or_eq_true, Bool.and_eq_true, beq_iff_eq, decide_eq_true_eq] at h1
  rcases h1 with h1 | ⟨⟨⟨⟨a, b⟩, c⟩, d⟩, e⟩
  · omega
  · exact a
theorem gr_pos {w h set : Nat} (h0 : 0 < set) (hs : set < 1024) : ∀ j, 0 < gr w h set j
  | 0 => by
    show 0 < lowb set
    rw [lowb_lo h0 hs]
    exact Nat.two_pow_pos _
  | j + 1 => Nat.lt_of_lt_of_le (gr_pos h0 hs j) Nat.left_le_or
/-- a set is in one piece -/
theorem s_inOne {w h set : Nat} {fb : Nat → Int32} {Q : Int32 → Prop} (k : okS w h) (h0 : 0 < set) (hs : set < 2 ^ (w * h)) (hfb : ∀ g, 0 < g → g < 2 ^ (w * h) → fb g = nI (bes w h g)) (hQ : Q (if conn w h set then 1 else 0)) : wp_X3_inOnePiece (nI set) fb Q := by
  have hp := pow10 k
  unfold wp_X3_inOnePiece
  intro y1 e1
  have e1' : y1 = nI (gr w h set 0) := by
    rw [e1, (lo_at h0 (by omega)).1, ← lowb_lo h0 (by omega)]
    rfl
  rw [e1']
  unfold lp_X3_inOnePiece_7
  refine ⟨fun m a z => ∃ j, j ≤ 9 ∧ m = 9 - j ∧ z = nI (j + 1) ∧ a = nI (gr w h set j), ⟨9, 0, by decide, rfl, rfl, rfl⟩, ?_⟩
  rintro m a z ⟨j, hj, rfl, rfl, rfl⟩
  have hg := gr_lt hs j
  have fin : (gr w h set j = set → conn w h set = true) → (gr w h set j ≠ set → conn w h set = false) → bk_X3_inOnePiece_35 Q (nI set) (nI (gr w h set j)) := by
    intro a1 a2
    unfold bk_X3_inOnePiece_35
    refine ⟨fun q => ?_, fun q => ?_⟩
    · rw [a2 (fun z => q (by rw [z]))] at hQ
      exact hQ
    · rw [a1 ((nI_eq (by omega) (by omega)).mp q)] at hQ
      exact hQ
  have stop : gr w h set j = set → conn w h set = true := by
    intro q
    rw [← conn_9 k hs]
    have := gr_stay q (9 - j)
    rw [show j + (9 - j) = 9 by omega] at this
    rw [this]
    exact beq_self_eq_true set
  unfold bd_X3_inOnePiece_7
  refine pk_le 10 (j + 1) (fun q => ?_) (fun q => ?_) rfl rfl
  · have : j = 9 := by omega
    subst this
    refine fin stop (fun q => ?_)
    rw [← conn_9 k hs]
    exact beq_eq_false_iff_ne.mpr q
  · refine pk_eq (gr w h set j) set (fun q2 => ?_) (fun q2 => ?_) rfl rfl (by omega) (by omega)
    · exact fin stop (fun z => absurd q2 z)
    · refine ⟨pk_in (gr w h set j) 1024 (by omega), ?_⟩
      intro y5 e5 y6 e6
      refine ⟨9 - (j + 1), by omega, j + 1, by omega, rfl, by rw [e6]; exact nI_1 (j + 1), ?_⟩
      rw [e5, z_cl (by omega), hfb _ (gr_pos h0 (by omega) j) hg, z_and, z_or]
      rfl
/-- the spec of a table: which sets are folds, what they need -/
def isFd (w h bar set : Nat) : Bool := decide (0 < set) && (set &&& bar == 0) && conn w h set
def nds (w h unn set : Nat) : Nat := andn (bnd w h set) unn
def mxS (w h bar unn : Nat) : Nat → Nat
  | 0 => 0
  | k + 1 => if isFd w h bar k = true ∧ mxS w h bar unn k < pc (nds w h unn k) then pc (nds w h unn k) else mxS w h bar unn k
theorem bnd_lt {w h set : Nat} (k : okS w h) (hs : set < 2 ^ (w * h)) : bnd w h set < 2 ^ 31 := by
  rw [← xor_bnd k hs]
  exact xorF_lt (fun s q => e4_lt k q)
theorem nds_lt {w h set : Nat} (k : okS w h) (unn : Nat) (hs : set < 2 ^ (w * h)) : nds w h unn set < 2 ^ 31 := Nat.lt_of_le_of_lt (andn_le _ _) (bnd_lt k hs)
theorem mxS_le {w h bar unn : Nat} (k : okS w h) : ∀ j, j ≤ 2 ^ (w * h) → mxS w h bar unn j ≤ 31
  | 0, _ => Nat.zero_le 31
  | j + 1, hj => by
    have h1 := mxS_le (bar := bar) (unn := unn) k j (by omega)
    have h2 := pc_le (nds_lt k unn (show j < 2 ^ (w * h) by omega))
    rw [mxS]
    split <;> omega
/-- sorting out: needs and sides of every set -/
theorem s_sortOut {w h bar unn : Nat} {fm : Int32} {fn fs fb : Nat → Int32} {Q : (Int32 × (Nat → Int32) × (Nat → Int32)) → Prop} (k : okS w h) (hb : bar < 2 ^ 31) (hm : fm = 0) (hfn : ∀ g, 0 < g → g < 2 ^ (w * h) → fn g = nI (bnd w h g)) (hfb : ∀ g, 0 < g → g < 2 ^ (w * h) → fb g = nI (bes w h g))
    (hQ : ∀ fm' : Int32, ∀ fn' fs' : Nat → Int32, fm' = nI (mxS w h bar unn (2 ^ (w * h))) → (∀ g, 0 < g → g < 2 ^ (w * h) → fn' g = nI (if isFd w h bar g then nds w h unn g else 0) ∧ fs' g = if isFd w h bar g then nI (pc (nds w h unn g)) else -1) → fs' 0 = -1 → fn' 0 = fn 0 → Q (fm', fn', fs')) : wp_X3_sortOut (nI bar) (nI unn) (nI (2 ^ (w * h) - 1)) fm fn fs fb Q := by
  have hp := pow10 k
  have hp0 : 0 < 2 ^ (w * h) := Nat.two_pow_pos _
  unfold wp_X3_sortOut
  refine ⟨pk_in 0 1024 (by decide), fun f1 e1 => ?_⟩
  have c0 : (0 : Int32).toNatClampNeg = 0 := by decide
  rw [c0] at e1
  unfold lp_X3_sortOut_9
  refine ⟨fun m fm' fn' fs' x => ∃ j, 0 < j ∧ j ≤ 2 ^ (w * h) ∧ m = 2 ^ (w * h) - j ∧ x = nI j ∧ fm' = nI (mxS w h bar unn j) ∧ (∀ g, 0 < g → g < j → fn' g = nI (if isFd w h bar g then nds w h unn g else 0) ∧ fs' g = if isFd w h bar g then nI (pc (nds w h unn g)) else -1) ∧ (∀ g, j ≤ g → fn' g = fn g) ∧ fs' 0 = -1 ∧ fn' 0 = fn 0, ⟨_, 1, by decide, hp0, rfl, rfl, by rw [hm]; rfl, fun g q1 q2 => by omega, fun _ _ => rfl, by rw [e1, z_upd_eq], rfl⟩, ?_⟩
  rintro m fm' fn' fs' x ⟨j, hj0, hj, rfl, rfl, rfl, hdone, hrest, hz, hz2⟩
  unfold bd_X3_sortOut_9
  refine pk_lt (2 ^ (w * h) - 1) j (fun q => ?_) (fun q => ?_) rfl rfl
  · have : j = 2 ^ (w * h) := by omega
    subst this
    exact hQ _ _ _ rfl hdone hz hz2
  · have hj2 : j < 2 ^ (w * h) := by omega
    have c1 : (nI j).toNatClampNeg = j := z_cl (by omega)
    have i1 : vp_in (nI j) 1024 := pk_in j 1024 (by omega)
    have goal : ∀ (a : Int32) (g1 g2 : Nat → Int32), a = nI (mxS w h bar unn (j + 1)) → (∀ i, i ≠ j → g1 i = fn' i ∧ g2 i = fs' i) → g1 j = nI (if isFd w h bar j then nds w h unn j else 0) → (g2 j = if isFd w h bar j then nI (pc (nds w h unn j)) else -1) → bk_X3_sortOut_92 Q (fun f_mostSides' f_needs' f_sideCounts' x3' => ∃ n', n' < 2 ^ (w * h) - j ∧ ∃ j', 0 < j' ∧ j' ≤ 2 ^ (w * h) ∧ n' = 2 ^ (w * h) - j' ∧ x3' = nI j' ∧ f_mostSides' = nI (mxS w h bar unn j') ∧ (∀ g, 0 < g → g < j' → f_needs' g = nI (if isFd w h bar g then nds w h unn g else 0) ∧ f_sideCounts' g = if isFd w h bar g then nI (pc (nds w h unn g)) else -1) ∧ (∀ g, j' ≤ g → f_needs' g = fn g) ∧ f_sideCounts' 0 = -1 ∧ f_needs' 0 = fn 0) (nI j) a g1 g2 := by
      intro a g1 g2 ha hg a1 a2
      unfold bk_X3_sortOut_92
      intro y6 e6
      refine ⟨2 ^ (w * h) - (j + 1), by omega, j + 1, by omega, by omega, rfl, by rw [e6]; exact nI_1 j, ha, ?_, ?_, ?_, ?_⟩
      · intro g q1 q2
        by_cases hq : g = j
        · rw [hq]; exact ⟨a1, a2⟩
        · rw [(hg g hq).1, (hg g hq).2]
          exact hdone g q1 (by omega)
      · intro g q1
        rw [(hg g (by omega)).1]
        exact hrest g (by omega)
      · rw [(hg 0 (by omega)).2]; exact hz
      · rw [(hg 0 (by omega)).1]; exact hz2
    have no : isFd w h bar j = false → bk_X3_sortOut_78 Q (fun f_mostSides' f_needs' f_sideCounts' x3' => ∃ n', n' < 2 ^ (w * h) - j ∧ ∃ j', 0 < j' ∧ j' ≤ 2 ^ (w * h) ∧ n' = 2 ^ (w * h) - j' ∧ x3' = nI j' ∧ f_mostSides' = nI (mxS w h bar unn j') ∧ (∀ g, 0 < g → g < j' → f_needs' g = nI (if isFd w h bar g then nds w h unn g else 0) ∧ f_sideCounts' g = if isFd w h bar g then nI (pc (nds w h unn g)) else -1) ∧ (∀ g, j' ≤ g → f_needs' g = fn g) ∧ f_sideCounts' 0 = -1 ∧ f_needs' 0 = fn 0) (nI j) (nI (mxS w h bar unn j)) fn' fs' := by
      intro hf
      unfold bk_X3_sortOut_78
      refine ⟨i1, fun f4 e4 => ⟨i1, fun f5 e5 => ?_⟩⟩
      rw [c1] at e4 e5
      refine goal _ f4 f5 ?_ (fun i hi => ⟨by rw [e4, z_upd_ne _ _ hi], by rw [e5, z_upd_ne _ _ hi]⟩) ?_ ?_
      · rw [mxS, if_neg (by rw [hf]; simp)]
      · rw [e4, z_upd_eq, hf]; rfl
      · rw [e5, z_upd_eq, hf]; rfl
    rw [z_and]
    refine ⟨fun q1 => no ?_, fun q1 => ?_⟩
    · have : ¬ j &&& bar = 0 := fun z => q1 (by rw [z]; rfl)
      simp [isFd, this]
    · have hjb : j &&& bar = 0 := (nI_eq (a := j &&& bar) (b := 0) (Nat.lt_of_le_of_lt Nat.and_le_right hb) (by decide)).mp q1
      refine s_inOne k hj0 hj2 hfb ?_
      by_cases hc : conn w h j = true
      · have hf : isFd w h bar j = true := by simp [isFd, hj0, hjb, hc]
        rw [if_pos hc]
        refine ⟨fun q2 => absurd q2 (by decide), fun _ => ⟨i1, fun y9 e9 => ⟨i1, fun f10 e10 => ⟨i1, ?_⟩⟩⟩⟩
        rw [c1] at e9 e10 ⊢
        rw [hrest j (Nat.le_refl _), hfn j hj0 hj2, z_andn] at e9
        have e9 : y9 = nI (nds w h unn j) := e9
        rw [e10, z_upd_eq, e9]
        refine s_bitCount (nds_lt k unn hj2) ⟨i1, fun f12 e12 => ⟨i1, fun y13 e13 => ?_⟩⟩
        rw [e12, z_upd_eq] at e13
        have hmx := mxS_le (bar := bar) (unn := unn) k j (by omega)
        have hpc := pc_le (nds_lt k unn hj2)
        refine goal y13 _ f12 ?_ (fun i hi => ⟨z_upd_ne _ _ hi, by rw [e12, z_upd_ne _ _ hi]⟩) ?_ ?_
        · rw [e13, mxS]
          have hlt : (nI (mxS w h bar unn j) < nI (pc (nds w h unn j))) ↔ mxS w h bar unn j < pc (nds w h unn j) := nI_ltI (by omega) (by omega)
          by_cases hq : mxS w h bar unn j < pc (nds w h unn j)
          · rw [if_pos (hlt.mpr hq), if_pos ⟨hf, hq⟩]
          · rw [if_neg (fun z => hq (hlt.mp z)), if_neg (fun z => hq z.2)]
        · rw [z_upd_eq, hf]; rfl
        · rw [e12, z_upd_eq, hf]; rfl
      · have hf : isFd w h bar j = false := by simp [isFd, hc]
        rw [if_neg hc]
        exact ⟨fun _ => no hf, fun q2 => absurd rfl q2⟩
