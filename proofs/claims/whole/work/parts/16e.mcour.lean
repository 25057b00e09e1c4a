section MCOUR
variable {w h bar U rich : Nat} {Y : Nat → Nat}
def SO (s0 : Int32) (b : Option Nat) (f : Nat → Nat) : Prop := (∀ y, b = some y → s0 = nI (f y) ∧ f y ≤ 31775) ∧ (b = none → ∃ v, s0 = nI v ∧ 100000 ≤ v ∧ v ≤ 200000)
theorem so_le {s0 : Int32} {a b : Option Nat} {f : Nat → Nat} (ha : bdO 31775 a) (hs : SO s0 b f) : (eO 100000 a ≤ s0 → omin a (b.map f) = a) ∧ (¬ eO 100000 a ≤ s0 → s0 = eO 100000 (omin a (b.map f)) ∧ bdO 31775 (omin a (b.map f))) := by
  cases b with
  | none =>
    obtain ⟨v, rfl, v1, v2⟩ := hs.2 rfl
    refine ⟨fun _ => omin_none a, fun q => absurd ?_ q⟩
    cases a with
    | none => exact nI_le v1 (by omega)
    | some x =>
      have := ha x rfl
      exact nI_le (by omega) (by omega)
  | some y =>
    obtain ⟨h1, h2⟩ := hs.1 y rfl
    subst h1
    cases a with
    | none =>
      refine ⟨fun q => absurd q ?_, fun _ => ⟨rfl, fun x hx => ?_⟩⟩
      · intro q
        have := (fa_le _ _).mp q
        change (nI 100000).toInt ≤ (nI (f y)).toInt at this
        rw [nI_toInt (by decide), nI_toInt (by omega)] at this
        omega
      · cases hx
        exact h2
    | some x =>
      have h3 := ha x rfl
      refine ⟨fun q => ?_, fun q => ?_⟩
      · have := (fa_le _ _).mp q
        change (nI x).toInt ≤ (nI (f y)).toInt at this
        rw [nI_toInt (by omega), nI_toInt (by omega)] at this
        show some (if f y < x then f y else x) = some x
        rw [if_neg (by omega)]
      · have hlt : f y < x := by
          apply Classical.byContradiction
          intro q2
          exact q (nI_le (by omega) (by omega))
        have e : omin (some x) ((some y).map f) = some (f y) := by
          show some (if f y < x then f y else x) = some (f y)
          rw [if_pos hlt]
        rw [e]
        refine ⟨rfl, fun z hz => ?_⟩
        cases hz
        exact h2
def RLs (w h bar U rich : Nat) (Y : Nat → Nat) (lf : Bool) (wy hb b : Nat) (le wa : Nat → Int32) : Prop := ∀ had, b ≤ had → had < 2 ^ (w * h) → ∀ i, i < (flS w h bar (2 ^ (w * h))).length → andn ((flS w h bar (2 ^ (w * h))).getD i 0) had = 0 → okH w h U hb ((flS w h bar (2 ^ (w * h))).getD i 0) = true → le (280 * had + i) = eO 100000 (LDP w h bar U rich Y lf wy hb had ((flS w h bar (2 ^ (w * h))).getD i 0)) ∧ wa (280 * had + i) = nI (WDP w h bar U rich Y wy hb had ((flS w h bar (2 ^ (w * h))).getD i 0))
theorem and_andn0 {g b had : Nat} (hd : g &&& had = 0) : g &&& andn b had = 0 ↔ b &&& g = 0 := by
  have e : g &&& andn b had = b &&& g := by
    apply Nat.eq_of_testBit_eq
    intro i
    have := z_zero.mp hd i
    rw [Nat.testBit_and] at this
    rw [Nat.testBit_and, Nat.testBit_and, andn_bit]
    cases e1 : g.testBit i <;> cases e2 : had.testBit i <;> rw [e1, e2] at this <;> simp_all
  rw [e]
theorem andn_or (had g : Nat) : andn g (had ||| g) = 0 := by
  apply z_zero.mpr
  intro i
  rw [andn_bit, Nat.testBit_or]
  cases g.testBit i <;> cases had.testBit i <;> rfl
def mC (w h bar U rich : Nat) (Y : Nat → Nat) (lf : Bool) (wy hb had f : Nat) : Nat → Option Nat := fun g => if cnd w h (okH w h U hb) had f g then (LDP w h bar U rich Y lf wy hb (had ||| g) g).map (cbF w h bar U lf f g) else none
def mW (w h bar U rich : Nat) (Y : Nat → Nat) (wy hb had f : Nat) : Nat → Nat := fun g => if cnd w h (okH w h U hb) had f g then WDP w h bar U rich Y wy hb (had ||| g) g else 0
theorem s_goOn {lf : Bool} {wy hb had i0 en : Nat} {ini : Option Nat} {fo : Int32} {aS aN aY le wa : Nat → Int32} {aE : Nat → Int64} {Q : ((Nat → Int32) × (Nat → Int32)) → Prop} (k : okS w h) (hF : FLok w h U Y (flS w h bar (2 ^ (w * h))) fo aS aE aN aY) (hhb : hb ≤ 60) (hh : had < 2 ^ (w * h)) (hi0 : i0 < (flS w h bar (2 ^ (w * h))).length) (hen : en ≤ 1) (hini : bdO 0 ini) (hle : le (280 * had + i0) = eO 100000 ini) (hwa : wa (280 * had + i0) = nI en) (hRL : RLs w h bar U rich Y lf wy hb (had + 1) le wa)
    (hQ : ∀ le' wa', le' (280 * had + i0) = eO 100000 (omin ini (mL (mC w h bar U rich Y lf wy hb had ((flS w h bar (2 ^ (w * h))).getD i0 0)) (flS w h bar (2 ^ (w * h))))) → (∀ j, j ≠ 280 * had + i0 → le' j = le j) → wa' (280 * had + i0) = nI ((en + sumL (mW w h bar U rich Y wy hb had ((flS w h bar (2 ^ (w * h))).getD i0 0)) (flS w h bar (2 ^ (w * h)))) % 1000000007) → (∀ j, j ≠ 280 * had + i0 → wa' j = wa j) → Q (le', wa')) : wp_X11_goOn (nI (280 * had + i0)) (nI had) (nI i0) (nI hb) (gI lf) (nI w) (nI h) fo aS aE aN le wa Q := by
  have hp := pow10 k
  have hlen := flS_len (bar := bar) k (Nat.le_refl (2 ^ (w * h)))
  obtain ⟨rfl, hFa⟩ := hF
  obtain ⟨L, hL⟩ : ∃ L, flS w h bar (2 ^ (w * h)) = L := ⟨_, rfl⟩
  have hLat : ∀ i, i < L.length → L.getD i 0 < 2 ^ (w * h) ∧ isFd w h bar (L.getD i 0) = true := fun i hi => by
    rw [← hL] at hi ⊢
    exact fl_at hi
  have hRL' : ∀ had', had + 1 ≤ had' → had' < 2 ^ (w * h) → ∀ i, i < L.length → andn (L.getD i 0) had' = 0 → okH w h U hb (L.getD i 0) = true → le (280 * had' + i) = eO 100000 (LDP w h bar U rich Y lf wy hb had' (L.getD i 0)) ∧ wa (280 * had' + i) = nI (WDP w h bar U rich Y wy hb had' (L.getD i 0)) := by
    rw [← hL]
    exact hRL
  rw [hL] at hFa hi0 hQ hlen ⊢
  obtain ⟨f, hf⟩ : ∃ f, L.getD i0 0 = f := ⟨_, rfl⟩
  obtain ⟨hfl, hff⟩ := hLat i0 hi0
  rw [hf] at hfl hff hQ
  obtain ⟨f1, f2, f3, f4⟩ := hFa i0 hi0
  rw [hf] at f1 f2 f3 f4
  obtain ⟨A, hA⟩ : ∃ A, 280 * had + i0 = A := ⟨_, rfl⟩
  have hA1 : A < 286720 := by omega
  rw [hA] at hle hwa hQ ⊢
  have hinA := pk_in A 286720 hA1
  unfold wp_X11_goOn
  rw [z_cl (show i0 < 2 ^ 31 by omega), z_cl (show A < 2 ^ 31 by omega), f1, hwa]
  refine ⟨pk_in i0 280 (by omega), s_besides k (by omega) (fun y2 e2 => ⟨hinA, fun y3 e3 => ?_⟩)⟩
  rw [z_andn] at e2
  rw [nI_l (by omega)] at e3
  subst e2
  subst e3
  have hWlt : ∀ g, mW w h bar U rich Y wy hb had f g ≤ 1000000007 := by
    intro g
    unfold mW
    split
    · exact Nat.le_of_lt WDP_lt
    · exact Nat.zero_le _
  unfold lp_X11_goOn_28
  refine ⟨fun m le1 xl x9 => ∃ i, i ≤ L.length ∧ m = L.length - i ∧ x9 = nI i ∧ xl = lN (en + sumL (mW w h bar U rich Y wy hb had f) (L.take i)) ∧ le1 A = eO 100000 (omin ini (mL (mC w h bar U rich Y lf wy hb had f) (L.take i))) ∧ bdO 31775 (omin ini (mL (mC w h bar U rich Y lf wy hb had f) (L.take i))) ∧ ∀ j, j ≠ A → le1 j = le j, ⟨_, 0, Nat.zero_le _, rfl, rfl, rfl, ?_, ?_, fun j _ => rfl⟩, ?_⟩
  · show le A = eO 100000 (omin ini none)
    rw [omin_none]
    exact hle
  · show bdO 31775 (omin ini none)
    rw [omin_none]
    intro x hx
    have := hini x hx
    omega
  · rintro m le1 xl x9 ⟨i, hi, rfl, rfl, rfl, hl1, hb1, hl2⟩
    have hsum := sumL_le hWlt (L.take i)
    have htl : (L.take i).length ≤ 280 := by rw [List.length_take]; omega
    have hmul : (L.take i).length * 1000000007 ≤ 280 * 1000000007 := Nat.mul_le_mul_right _ htl
    unfold bd_X11_goOn_28
    refine pk_le L.length i (fun q y5 e5 => ⟨hinA, fun f6 e6 => ?_⟩) (fun q => ⟨pk_in i 280 (by omega), ?_⟩) rfl rfl
    · rw [List.take_of_length_le (by omega)] at hl1 e5 hsum
      have e7 : (1000000007 : Int64) = lN 1000000007 := rfl
      rw [e7, pk_lRem (by omega) (by decide) (by decide), lN_i] at e5
      rw [z_cl (by omega), e5] at e6
      refine hQ le1 f6 hl1 hl2 ?_ (fun j hj => ?_)
      · rw [e6, z_upd_eq]
      · rw [e6, z_upd_ne _ _ hj]
    · obtain ⟨g, hg⟩ : ∃ g, L.getD i 0 = g := ⟨_, rfl⟩
      obtain ⟨hgl, hgf⟩ := hLat i q
      obtain ⟨g1, g2, g3, g4⟩ := hFa i q
      rw [hg] at hgl hgf g1 g2 g3 g4
      have hg0 : g ≠ 0 := by have := isFd_pos hgf; omega
      have hin := pk_in i 280 (by omega)
      rw [z_cl (show i < 2 ^ 31 by omega), g1, g3, z_and]
      have hpushL : mL (mC w h bar U rich Y lf wy hb had f) (L.take (i + 1)) = omin (mL (mC w h bar U rich Y lf wy hb had f) (L.take i)) (mC w h bar U rich Y lf wy hb had f g) := by
        rw [take_push q, mL_push, hg]
      have hpushW : sumL (mW w h bar U rich Y wy hb had f) (L.take (i + 1)) = sumL (mW w h bar U rich Y wy hb had f) (L.take i) + mW w h bar U rich Y wy hb had f g := by
        rw [take_push q, sumL_push, hg]
      have hskip : cnd w h (okH w h U hb) had f g = false → bk_X11_goOn_206 Q (fun M_least' xl7' x9' => ∃ n', n' < L.length - i ∧ ∃ i, i ≤ L.length ∧ n' = L.length - i ∧ x9' = nI i ∧ xl7' = lN (en + sumL (mW w h bar U rich Y wy hb had f) (L.take i)) ∧ M_least' A = eO 100000 (omin ini (mL (mC w h bar U rich Y lf wy hb had f) (L.take i))) ∧ bdO 31775 (omin ini (mL (mC w h bar U rich Y lf wy hb had f) (L.take i))) ∧ ∀ j, j ≠ A → M_least' j = le j) (lN (en + sumL (mW w h bar U rich Y wy hb had f) (L.take i))) (nI i) le1 := by
        intro hc
        have c1 : mC w h bar U rich Y lf wy hb had f g = none := by unfold mC; rw [hc]; rfl
        have c2 : mW w h bar U rich Y wy hb had f g = 0 := by unfold mW; rw [hc]; rfl
        rw [c1, omin_none] at hpushL
        rw [c2] at hpushW
        replace hpushW := hpushW.trans (Nat.add_zero _)
        unfold bk_X11_goOn_206
        exact fun y8 e8 => ⟨L.length - (i + 1), by omega, i + 1, by omega, rfl, by rw [e8, nI_1], by rw [hpushW], by rw [hpushL]; exact hl1, by rw [hpushL]; exact hb1, hl2⟩
      have hgh : g &&& had < 2 ^ 31 := Nat.lt_of_le_of_lt Nat.and_le_left (by omega)
      by_cases q1 : g &&& had = 0
      · rw [q1]
        refine ⟨fun z => absurd rfl z, fun _ => ⟨hin, ?_⟩⟩
        rw [z_and]
        have hgb : g &&& andn (bes w h f) had < 2 ^ 31 := Nat.lt_of_le_of_lt Nat.and_le_left (by omega)
        by_cases q2 : g &&& andn (bes w h f) had = 0
        · rw [q2]
          refine ⟨fun _ => hskip ?_, fun z => absurd rfl z⟩
          unfold cnd
          rw [(and_andn0 q1).mp q2]
          simp
        · have q2' : bes w h f &&& g ≠ 0 := fun y => q2 ((and_andn0 q1).mpr y)
          refine ⟨fun z => absurd z (nI_ne0 (by omega) hgb), fun _ => ⟨hin, ?_⟩⟩
          have hpc := pc_le (nds_lt k U hgl)
          refine pk_lt hb (pc (nds w h U g)) (fun q3 => hskip ?_) (fun q3 => ⟨hin, fun y11 e11 => ?_⟩) rfl rfl
          · unfold cnd okH
            rw [decide_eq_false (by omega), Bool.and_false]
          · have hok : okH w h U hb g = true := decide_eq_true q3
            have hc : cnd w h (okH w h U hb) had f g = true := by
              unfold cnd
              simp only [Bool.and_eq_true, beq_iff_eq, bne_iff_ne, ne_eq]
              exact ⟨⟨q1, q2'⟩, hok⟩
            have hul := Nat.or_lt_two_pow hh hgl
            have hgt := or_gt hg0 q1
            have e280 : (280 : Int32) * nI (had ||| g) = nI (280 * (had ||| g)) := z_mul 280 _
            rw [z_or, e280, nI_add] at e11
            subst e11
            obtain ⟨T, hT⟩ : ∃ T, 280 * (had ||| g) + i = T := ⟨_, rfl⟩
            have hT1 : T < 286720 := by omega
            have hTA : T ≠ A := by omega
            have hr := hRL' (had ||| g) (by omega) hul i q (by rw [hg]; exact andn_or had g) (by rw [hg]; exact hok)
            rw [hT, hg] at hr
            rw [hT]
            have hinT := pk_in T 286720 hT1
            have c1 : mC w h bar U rich Y lf wy hb had f g = (LDP w h bar U rich Y lf wy hb (had ||| g) g).map (cbF w h bar U lf f g) := by unfold mC; rw [if_pos hc]
            have c2 : mW w h bar U rich Y wy hb had f g = WDP w h bar U rich Y wy hb (had ||| g) g := by unfold mW; rw [if_pos hc]
            rw [c1] at hpushL
            rw [c2] at hpushW
            have hlT : le1 T = eO 100000 (LDP w h bar U rich Y lf wy hb (had ||| g) g) := by rw [hl2 T hTA]; exact hr.1
            have hWl : WDP w h bar U rich Y wy hb (had ||| g) g < 2 ^ 31 := by have := WDP_lt (w := w) (h := h) (bar := bar) (U := U) (rich := rich) (Y := Y) (wy := wy) (hb := hb) (had := had ||| g) (last := g); omega
            have h163 : ∀ s0, SO s0 (LDP w h bar U rich Y lf wy hb (had ||| g) g) (cbF w h bar U lf f g) → bk_X11_goOn_163 Q (fun M_least' xl7' x9' => ∃ n', n' < L.length - i ∧ ∃ i, i ≤ L.length ∧ n' = L.length - i ∧ x9' = nI i ∧ xl7' = lN (en + sumL (mW w h bar U rich Y wy hb had f) (L.take i)) ∧ M_least' A = eO 100000 (omin ini (mL (mC w h bar U rich Y lf wy hb had f) (L.take i))) ∧ bdO 31775 (omin ini (mL (mC w h bar U rich Y lf wy hb had f) (L.take i))) ∧ ∀ j, j ≠ A → M_least' j = le j) (nI A) (lN (en + sumL (mW w h bar U rich Y wy hb had f) (L.take i))) (nI i) (nI T) le1 wa s0 := by
              intro s0 hs
              have hso := so_le hb1 hs
              have h192 : ∀ v, v = eO 100000 (omin ini (mL (mC w h bar U rich Y lf wy hb had f) (L.take (i + 1)))) → bdO 31775 (omin ini (mL (mC w h bar U rich Y lf wy hb had f) (L.take (i + 1)))) → bk_X11_goOn_192 Q (fun M_least' xl7' x9' => ∃ n', n' < L.length - i ∧ ∃ i, i ≤ L.length ∧ n' = L.length - i ∧ x9' = nI i ∧ xl7' = lN (en + sumL (mW w h bar U rich Y wy hb had f) (L.take i)) ∧ M_least' A = eO 100000 (omin ini (mL (mC w h bar U rich Y lf wy hb had f) (L.take i))) ∧ bdO 31775 (omin ini (mL (mC w h bar U rich Y lf wy hb had f) (L.take i))) ∧ ∀ j, j ≠ A → M_least' j = le j) (lN (en + sumL (mW w h bar U rich Y wy hb had f) (L.take i))) (nI i) (nI T) le1 wa v (nI A) := by
                intro v hv hbv
                unfold bk_X11_goOn_192 bk_X11_goOn_206
                rw [z_cl (show A < 2 ^ 31 by omega), z_cl (show T < 2 ^ 31 by omega), hr.2, nI_l hWl]
                refine ⟨hinA, fun f15 e15 => ⟨hinT, fun y16 e16 y8 e8 => ⟨L.length - (i + 1), by omega, i + 1, by omega, rfl, by rw [e8, nI_1], ?_, ?_, hbv, fun j hj => ?_⟩⟩⟩
                · rw [e16, lN_add, hpushW]
                  congr 1
                  omega
                · rw [e15, z_upd_eq, hv]
                · rw [e15, z_upd_ne _ _ hj]
                  exact hl2 j hj
              unfold bk_X11_goOn_163
              rw [z_cl (show A < 2 ^ 31 by omega), hl1]
              have hassoc : omin ini (mL (mC w h bar U rich Y lf wy hb had f) (L.take (i + 1))) = omin (omin ini (mL (mC w h bar U rich Y lf wy hb had f) (L.take i))) ((LDP w h bar U rich Y lf wy hb (had ||| g) g).map (cbF w h bar U lf f g)) := by
                rw [hpushL, omin_assoc]
              refine ⟨hinA, fun z => ⟨hinA, h192 _ ?_ ?_⟩, fun z => h192 _ ?_ ?_⟩
              · rw [hassoc, hso.1 z]
              · rw [hassoc, hso.1 z]; exact hb1
              · rw [hassoc]; exact (hso.2 z).1
              · rw [hassoc]; exact (hso.2 z).2
            rw [z_cl (show T < 2 ^ 31 by omega), hlT]
            cases lf with
            | false =>
              refine ⟨fun _ => ⟨hin, hinT, ?_⟩, fun z => absurd rfl z⟩
              cases eD : LDP w h bar U rich Y false wy hb (had ||| g) g with
              | none =>
                rw [eD] at h163
                refine ⟨fun _ => ⟨hinT, h163 _ ⟨fun y hy => (by cases hy), fun _ => ⟨100000, rfl, by omega, by omega⟩⟩⟩, fun z => absurd (nI_le (by omega) (by decide)) z⟩
              | some y =>
                have hyb := LDP_bd k eD
                rw [eD] at h163
                have hcbv : cbF w h bar U false f g y = if pc (nds w h U g) < y then y else pc (nds w h U g) := rfl
                refine pk_le (pc (nds w h U g)) y (fun q4 => ⟨hinT, h163 _ ⟨fun y' hy' => ?_, fun z => by cases z⟩⟩) (fun q4 => ⟨hin, h163 _ ⟨fun y' hy' => ?_, fun z => by cases z⟩⟩) rfl rfl
                · cases hy'
                  rw [hcbv]
                  by_cases q5 : pc (nds w h U g) < y
                  · rw [if_pos q5]
                    exact ⟨rfl, by omega⟩
                  · rw [if_neg q5, show pc (nds w h U g) = y by omega]
                    exact ⟨rfl, by omega⟩
                · cases hy'
                  rw [hcbv, if_neg (by omega)]
                  exact ⟨rfl, by omega⟩
            | true =>
              refine ⟨fun z => absurd z (by decide), fun _ => ⟨hin, pk_in i0 280 (by omega), ?_⟩⟩
              rw [z_cl (show i0 < 2 ^ 31 by omega), f2, g2, z_andnL]
              have hngg : nda w h bar U g = nds w h U g := by unfold nda; rw [if_pos hgf]
              have hnff : nda w h bar U f = nds w h U f := by unfold nda; rw [if_pos hff]
              have hpl := pc_le (Nat.lt_of_le_of_lt (andn_le (nds w h U g) (nds w h U f)) (nds_lt k U hgl))
              refine s_bits (Nat.lt_of_le_of_lt (andn_le _ _) (nds_lt k U hgl)) ⟨hinT, ?_⟩
              cases eD : LDP w h bar U rich Y true wy hb (had ||| g) g with
              | none =>
                rw [eD] at h163
                show bk_X11_goOn_163 _ _ _ _ _ _ _ _ (nI (pc (andn (nds w h U g) (nds w h U f))) + nI 100000)
                rw [nI_add]
                exact h163 _ ⟨fun y hy => (by cases hy), fun _ => ⟨_, rfl, by omega, by omega⟩⟩
              | some y =>
                have hyb := LDP_bd k eD
                rw [eD] at h163
                show bk_X11_goOn_163 _ _ _ _ _ _ _ _ (nI (pc (andn (nds w h U g) (nds w h U f))) + nI y)
                rw [nI_add]
                refine h163 _ ⟨fun y' hy' => ?_, fun z => by cases z⟩
                cases hy'
                have hcbv : cbF w h bar U true f g y = pc (andn (nda w h bar U g) (nda w h bar U f)) + y := rfl
                rw [hcbv, hngg, hnff]
                exact ⟨rfl, by omega⟩
      · refine ⟨fun _ => hskip ?_, fun z => absurd z (nI_ne0 (by omega) hgh)⟩
        unfold cnd
        rw [beq_eq_false_iff_ne.mpr q1]
        rfl
end MCOUR
