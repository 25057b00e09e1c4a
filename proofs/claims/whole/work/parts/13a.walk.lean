section WALK
variable {w h : Nat}
def KO (l : List Nat) (len : Int32) (arr : Nat → Int32) : Prop := len = nI l.length ∧ l.length ≤ 10 ∧ LA 1024 l arr
def psh (l : List Nat) (b : Nat) : List Nat := if l.length < 10 then l ++ [b] else l
theorem s_kput {l : List Nat} {b : Nat} {len z : Int32} {arr : Nat → Int32} {Q : (Int32 × (Nat → Int32)) → Prop} (hk : KO l len arr) (hz : z = nI b) (hb : b < 1024) (hQ : ∀ len' arr', KO (psh l b) len' arr' → Q (len', arr')) : wp_X9_put z len arr Q := by
  obtain ⟨rfl, h1, h2⟩ := hk
  subst hz
  unfold wp_X9_put
  refine pk_le 10 l.length (fun q => ?_) (fun q => ?_) rfl rfl
  · refine hQ _ _ ?_
    rw [psh, if_neg (by omega)]
    exact ⟨rfl, h1, h2⟩
  · refine ⟨pk_in l.length 10 q, fun f2 e2 y3 e3 => ?_⟩
    subst e2 e3
    refine hQ _ _ ?_
    rw [psh, if_pos q]
    refine ⟨?_, ?_, ?_⟩
    · rw [nI_1, List.length_append]; rfl
    · rw [List.length_append]; simp; omega
    · rw [z_cl (by omega)]
      exact LA_push h2 hb
def psF (f : Nat → Nat) : Nat → Nat → List Nat → List Nat
  | 0, _, l => l
  | d + 1, i, l => psF f d (i + 1) (psh l (f i))
def psG (f : Nat → Nat) (r : Nat) : Nat → List Nat → List Nat
  | 0, l => l
  | d + 1, l => psG f r d (psh l (f (r + d)))
def stX (w h x i : Nat) : Nat := w * (if x % 2 = 0 then i else h - 1 - i) + x
def stO (w h : Nat) : Nat → Nat → List Nat → List Nat
  | 0, _, l => l
  | d + 1, x, l => stO w h d (x + 1) (psF (stX w h x) h 0 l)
theorem s_st40 {x i y : Nat} {l : List Nat} {len : Int32} {arr : Nat → Int32} {Q : (Int32 × (Nat → Int32)) → Prop} {B7 B15 : Int32 → (Nat → Int32) → Int32 → Prop} (hk : KO l len arr) (hb : w * y + x < 1024) (hB : ∀ len' arr', KO (psh l (w * y + x)) len' arr' → B15 len' arr' (nI (i + 1))) : bk_X9_goByColumns_40 Q B7 B15 (nI x) (nI i) len arr (nI y) (nI w) := by
  unfold bk_X9_goByColumns_40
  refine s_kput hk (by rw [z_mul, nI_add]) hb (fun len' arr' hk' y6 e6 => ?_)
  rw [e6, nI_1]
  exact hB _ _ hk'
theorem s_stI {x : Nat} {l L : List Nat} {len : Int32} {arr : Nat → Int32} {Q : (Int32 × (Nat → Int32)) → Prop} {B7 : Int32 → (Nat → Int32) → Int32 → Prop} (k : okS w h) (hx : x < w) (hk : KO l len arr) (hL : psF (stX w h x) h 0 l = L) (hQ : ∀ len' arr', KO L len' arr' → B7 len' arr' (nI (x + 1))) : lp_X9_goByColumns_15 Q B7 (nI w) (nI h) (nI x) len arr 0 := by
  have hk1 := k.lt
  have hk2 := k.2.2
  unfold lp_X9_goByColumns_15
  refine ⟨fun m len arr z => ∃ i l, i ≤ h ∧ m = h - i ∧ z = nI i ∧ KO l len arr ∧ psF (stX w h x) (h - i) i l = L, ⟨h, 0, l, by omega, rfl, rfl, hk, hL⟩, ?_⟩
  rintro m len arr z ⟨i, l, hi, rfl, rfl, hk, hL⟩
  unfold bd_X9_goByColumns_15
  refine pk_le h i (fun q => ?_) (fun q => ?_) rfl rfl
  · intro y e
    rw [show h - i = 0 by omega, psF] at hL
    subst hL
    rw [e, nI_1]
    exact hQ _ _ hk
  · rw [show h - i = (h - (i + 1)) + 1 by omega, psF] at hL
    have hrem : nI x - nI x / 2 * 2 = nI (x % 2) := z_rem (a := x) (d := 2) (by omega) (by omega) (by omega)
    rw [hrem]
    have e1 : nI h - 1 - nI i = nI (h - 1 - i) := by
      have : nI h - nI 1 = nI (h - 1) := z_sub (by omega)
      rw [show (1 : Int32) = nI 1 from rfl, this, z_sub (by omega)]
    rw [e1]
    have hl1 := xy_lt hx (show i < h by omega)
    have hl2 := xy_lt hx (show h - 1 - i < h by omega)
    unfold stX at hL
    by_cases hz : x % 2 = 0
    · rw [if_pos hz] at hL
      rw [hz]
      exact ⟨fun z => absurd rfl z, fun _ => s_st40 hk (by omega) (fun len' arr' hk' => ⟨h - (i + 1), by omega, i + 1, _, by omega, rfl, rfl, hk', by unfold stX; exact hL⟩)⟩
    · rw [if_neg hz] at hL
      exact ⟨fun _ => s_st40 hk (by omega) (fun len' arr' hk' => ⟨h - (i + 1), by omega, i + 1, _, by omega, rfl, rfl, hk', by unfold stX; exact hL⟩), fun z => absurd z (nI_ne0 (by omega) (by omega))⟩
theorem s_strip {arr : Nat → Int32} {Q : (Int32 × (Nat → Int32)) → Prop} (k : okS w h) (hQ : ∀ len' arr', KO (stO w h w 0 []) len' arr' → Q (len', arr')) : wp_X9_goByColumns (nI w) (nI h) arr Q := by
  have hk1 := k.lt
  have hk2 := k.2.2
  unfold wp_X9_goByColumns lp_X9_goByColumns_7
  refine ⟨fun m len arr z => ∃ i l, i ≤ w ∧ m = w - i ∧ z = nI i ∧ KO l len arr ∧ stO w h (w - i) i l = stO w h w 0 [], ⟨w, 0, [], by omega, rfl, rfl, ⟨rfl, by decide, fun j hj => absurd hj (Nat.not_lt_zero j)⟩, rfl⟩, ?_⟩
  rintro m len arr z ⟨i, l, hi, rfl, rfl, hk, hL⟩
  unfold bd_X9_goByColumns_7
  refine pk_le w i (fun q => ?_) (fun q => ?_) rfl rfl
  · rw [show w - i = 0 by omega, stO] at hL
    refine hQ _ _ ?_
    rw [← hL]
    exact hk
  · rw [show w - i = (w - (i + 1)) + 1 by omega, stO] at hL
    exact s_stI k q hk rfl (fun len' arr' hk' => ⟨w - (i + 1), by omega, i + 1, _, by omega, rfl, rfl, hk', hL⟩)
theorem z_dec {c : Nat} (h : c < 2 ^ 30) : nI c - 1 < nI c := by
  rcases Nat.eq_zero_or_pos c with e | e
  · subst e
    decide
  · have : nI c - 1 = nI (c - 1) := z_sub (a := c) (b := 1) e
    rw [this]
    exact nI_lt (by omega) (by omega)
theorem z_m1a {c : Nat} : nI (c + 1) + (-1) = nI c := by
  rw [← nI_1, Int32.add_assoc]
  have : (1 : Int32) + (-1) = 0 := by decide
  rw [this, Int32.add_zero]
theorem s_rd4 {r ri bo : Nat} {l L : List Nat} {len z : Int32} {arr : Nat → Int32} {Q : (Int32 × (Nat → Int32)) → Prop} (hk1 : w < 11) (hr : r < 11) (hri : ri < w) (hrr : r ≤ ri) (hbo : bo < 11) (hz : z = nI bo - 1) (hrb : r ≤ bo) (hk : KO l len arr) (hL : (if r < ri then psG (fun y => w * y + r) (r + 1) (bo - 1 - r) l else l) = L) (hQ : ∀ len' arr', KO L len' arr' → Q (len', arr')) : lp_X9_goRound_93 Q (nI w) (nI r) (nI ri) len arr z := by
  unfold lp_X9_goRound_93
  by_cases hc : r < ri
  · rw [if_pos hc] at hL
    refine ⟨fun m len arr z => ∃ d l, d ≤ 10 ∧ m = d ∧ (z = nI (r + d) ∨ d = 0 ∧ z = nI r - 1) ∧ KO l len arr ∧ psG (fun y => w * y + r) (r + 1) d l = L, ⟨bo - 1 - r, bo - 1 - r, l, by omega, rfl, ?_, hk, hL⟩, ?_⟩
    · by_cases hb : r < bo
      · left
        have : nI bo - 1 = nI (bo - 1) := z_sub (a := bo) (b := 1) (by omega)
        rw [hz, this]
        congr 1
        omega
      · right
        have : bo = r := by omega
        subst this
        exact ⟨by omega, hz⟩
    · rintro m len arr z ⟨d, l, hd, rfl, hz, hk, hL⟩
      unfold bd_X9_goRound_93
      rcases Nat.eq_zero_or_pos m with e | e
      · subst e
        rw [psG] at hL
        subst hL
        have hle : z ≤ nI r := by
          rcases hz with rfl | ⟨_, rfl⟩
          · exact nI_le (by omega) (by omega)
          · exact (fa_of_lt (z_dec (by omega))).1
        exact ⟨fun _ => hQ _ _ hk, fun q => absurd hle q⟩
      · obtain ⟨e', rfl⟩ : ∃ e', m = e' + 1 := ⟨m - 1, by omega⟩
        rw [psG] at hL
        rcases hz with rfl | ⟨q, _⟩
        · refine pk_le (r + (e' + 1)) r (fun q => by omega) (fun _ => pk_le ri r (fun q => by omega) (fun _ => ?_) rfl rfl) rfl rfl
          have hm : w * (r + (e' + 1)) ≤ 10 * 21 := Nat.mul_le_mul (by omega) (by omega)
          refine s_kput hk (by rw [z_mul, nI_add]) (b := w * (r + (e' + 1)) + r) (by omega) (fun len' arr' hk' y10 e10 => ⟨e', by omega, e', _, by omega, rfl, Or.inl ?_, hk', ?_⟩)
          · rw [e10, show r + (e' + 1) = (r + e') + 1 by omega, z_m1a]
          · rw [show r + 1 + e' = r + (e' + 1) by omega] at hL
            exact hL
        · omega
  · rw [if_neg hc] at hL
    subst hL
    refine ⟨fun _ len arr _ => KO l len arr, ⟨0, hk⟩, ?_⟩
    rintro m len arr z hk
    unfold bd_X9_goRound_93
    exact ⟨fun _ => hQ _ _ hk, fun _ => pk_le ri r (fun _ => hQ _ _ hk) (fun q => by omega) rfl rfl⟩
def rg4 (w r ri bo : Nat) (l : List Nat) : List Nat := if r < ri then psG (fun y => w * y + r) (r + 1) (bo - 1 - r) l else l
def rg3 (w r ri bo : Nat) (l : List Nat) : List Nat := if r < bo then psG (fun x => w * bo + x) r (ri - r) l else l
theorem s_rd3 {r ri bo : Nat} {l L : List Nat} {len z : Int32} {arr : Nat → Int32} {Q : (Int32 × (Nat → Int32)) → Prop} (hk1 : w < 11) (hr : r < 11) (hri : ri < w) (hrr : r ≤ ri) (hbo : bo < 11) (hz : z = nI ri - 1) (hrb : r ≤ bo) (hk : KO l len arr) (hL : rg4 w r ri bo (rg3 w r ri bo l) = L) (hQ : ∀ len' arr', KO L len' arr' → Q (len', arr')) : lp_X9_goRound_58 Q (nI w) (nI r) (nI ri) (nI bo) len arr z := by
  have h87 : ∀ l' len' arr', KO l' len' arr' → rg4 w r ri bo l' = L → bk_X9_goRound_87 Q (nI w) (nI r) (nI ri) (nI bo) len' arr' := by
    intro l' len' arr' hk' hL'
    unfold bk_X9_goRound_87
    intro y6 e6
    exact s_rd4 hk1 hr hri hrr hbo e6 hrb hk' hL' hQ
  unfold lp_X9_goRound_58
  unfold rg3 at hL
  by_cases hc : r < bo
  · rw [if_pos hc] at hL
    refine ⟨fun m len arr z => ∃ d l, d ≤ 10 ∧ m = d ∧ z = nI (r + d) - 1 ∧ KO l len arr ∧ rg4 w r ri bo (psG (fun x => w * bo + x) r d l) = L, ⟨ri - r, ri - r, l, by omega, rfl, ?_, hk, hL⟩, ?_⟩
    · rw [hz, show r + (ri - r) = ri by omega]
    · rintro m len arr z ⟨d, l, hd, rfl, rfl, hk, hL⟩
      unfold bd_X9_goRound_58
      rcases Nat.eq_zero_or_pos m with e | e
      · subst e
        rw [psG] at hL
        exact ⟨fun _ => h87 _ _ _ hk hL, fun q => absurd (z_dec (by omega)) q⟩
      · obtain ⟨e', rfl⟩ : ∃ e', m = e' + 1 := ⟨m - 1, by omega⟩
        rw [psG] at hL
        have ez : nI (r + (e' + 1)) - 1 = nI (r + e') := by
          have : nI (r + (e' + 1)) - nI 1 = nI (r + (e' + 1) - 1) := z_sub (by omega)
          rw [show (1 : Int32) = nI 1 from rfl, this]
          congr 1
        rw [ez]
        refine pk_lt (r + e') r (fun q => by omega) (fun _ => pk_le bo r (fun q => by omega) (fun _ => ?_) rfl rfl) rfl rfl
        have hm : w * bo ≤ 10 * 10 := Nat.mul_le_mul (by omega) (by omega)
        refine s_kput hk (by rw [z_mul, nI_add]) (b := w * bo + (r + e')) (by omega) (fun len' arr' hk' y10 e10 => ⟨e', by omega, e', _, by omega, rfl, ?_, hk', hL⟩)
        rw [e10]
        have : nI (r + e') - 1 = nI (r + e') + (-1) := Int32.sub_eq_add_neg _ _
        rw [this]
  · rw [if_neg hc] at hL
    refine ⟨fun _ len arr _ => KO l len arr, ⟨0, hk⟩, ?_⟩
    rintro m len arr z hk
    unfold bd_X9_goRound_58
    exact ⟨fun _ => h87 _ _ _ hk hL, fun _ => pk_le bo r (fun _ => h87 _ _ _ hk hL) (fun q => by omega) rfl rfl⟩
def rg2 (w r ri bo : Nat) (l : List Nat) : List Nat := psF (fun y => w * y + ri) (bo - r) (r + 1) l
def rg1 (w r ri : Nat) (l : List Nat) : List Nat := psF (fun x => w * r + x) (ri + 1 - r) r l
theorem s_rd2 {r ri bo : Nat} {l L : List Nat} {len z : Int32} {arr : Nat → Int32} {Q : (Int32 × (Nat → Int32)) → Prop} (hk1 : w < 11) (hr : r < 11) (hri : ri < w) (hrr : r ≤ ri) (hbo : bo < 11) (hz : z = nI (r + 1)) (hrb : r ≤ bo) (hk : KO l len arr) (hL : rg4 w r ri bo (rg3 w r ri bo (rg2 w r ri bo l)) = L) (hQ : ∀ len' arr', KO L len' arr' → Q (len', arr')) : lp_X9_goRound_30 Q (nI w) (nI r) (nI ri) (nI bo) len arr z := by
  unfold lp_X9_goRound_30
  unfold rg2 at hL
  refine ⟨fun m len arr z => ∃ i l, r + 1 ≤ i ∧ i ≤ bo + 1 ∧ m = bo + 1 - i ∧ z = nI i ∧ KO l len arr ∧ rg4 w r ri bo (rg3 w r ri bo (psF (fun y => w * y + ri) (bo + 1 - i) i l)) = L, ⟨bo - r, r + 1, l, by omega, by omega, by omega, hz, hk, ?_⟩, ?_⟩
  · rw [show bo + 1 - (r + 1) = bo - r by omega]
    exact hL
  · rintro m len arr z ⟨i, l, hi1, hi2, rfl, rfl, hk, hL⟩
    unfold bd_X9_goRound_30
    refine pk_lt bo i (fun q y4 e4 => ?_) (fun q => ?_) rfl rfl
    · rw [show bo + 1 - i = 0 by omega, psF] at hL
      exact s_rd3 hk1 hr hri hrr hbo e4 hrb hk hL hQ
    · rw [show bo + 1 - i = (bo + 1 - (i + 1)) + 1 by omega, psF] at hL
      have hm : w * i ≤ 10 * 11 := Nat.mul_le_mul (by omega) (by omega)
      refine s_kput hk (by rw [z_mul, nI_add]) (b := w * i + ri) (by omega) (fun len' arr' hk' y10 e10 => ⟨bo + 1 - (i + 1), by omega, i + 1, _, by omega, by omega, rfl, ?_, hk', hL⟩)
      rw [e10, nI_1]
theorem s_rd1 {r ri bo : Nat} {l L : List Nat} {len : Int32} {arr : Nat → Int32} {Q : (Int32 × (Nat → Int32)) → Prop} (hk1 : w < 11) (hr : r < 11) (hri : ri < w) (hrr : r ≤ ri) (hbo : bo < 11) (hrb : r ≤ bo) (hk : KO l len arr) (hL : rg4 w r ri bo (rg3 w r ri bo (rg2 w r ri bo (rg1 w r ri l))) = L) (hQ : ∀ len' arr', KO L len' arr' → Q (len', arr')) : wp_X9_goRound (nI w) (nI r) (nI ri) (nI bo) len arr Q := by
  unfold wp_X9_goRound lp_X9_goRound_3
  unfold rg1 at hL
  refine ⟨fun m len arr z => ∃ i l, r ≤ i ∧ i ≤ ri + 1 ∧ m = ri + 1 - i ∧ z = nI i ∧ KO l len arr ∧ rg4 w r ri bo (rg3 w r ri bo (rg2 w r ri bo (psF (fun x => w * r + x) (ri + 1 - i) i l))) = L, ⟨ri + 1 - r, r, l, by omega, by omega, rfl, rfl, hk, hL⟩, ?_⟩
  rintro m len arr z ⟨i, l, hi1, hi2, rfl, rfl, hk, hL⟩
  unfold bd_X9_goRound_3
  refine pk_lt ri i (fun q y4 e4 => ?_) (fun q => ?_) rfl rfl
  · rw [show ri + 1 - i = 0 by omega, psF] at hL
    rw [nI_1] at e4
    exact s_rd2 hk1 hr hri hrr hbo e4 hrb hk hL hQ
  · rw [show ri + 1 - i = (ri + 1 - (i + 1)) + 1 by omega, psF] at hL
    have hm : w * r ≤ 10 * 11 := Nat.mul_le_mul (by omega) (by omega)
    refine s_kput hk (by rw [z_mul, nI_add]) (b := w * r + i) (by omega) (fun len' arr' hk' y10 e10 => ⟨ri + 1 - (i + 1), by omega, i + 1, _, by omega, by omega, rfl, ?_, hk', hL⟩)
    rw [e10, nI_1]
def rgA (w h r : Nat) (l : List Nat) : List Nat := rg4 w r (w - 1 - r) (h - 1 - r) (rg3 w r (w - 1 - r) (h - 1 - r) (rg2 w r (w - 1 - r) (h - 1 - r) (rg1 w r (w - 1 - r) l)))
def sni (w h : Nat) : Nat → Nat → List Nat → List Nat
  | 0, _, l => l
  | d + 1, r, l => if 2 * r < w ∧ 2 * r < h then sni w h d (r + 1) (rgA w h r l) else l
theorem s_snail {arr : Nat → Int32} {Q : (Int32 × (Nat → Int32)) → Prop} (k : okS w h) (hQ : ∀ len' arr', KO (sni w h 6 0 []) len' arr' → Q (len', arr')) : wp_X9_goInward (nI w) (nI h) arr Q := by
  have hk1 := k.lt
  have hk2 := k.2.2
  unfold wp_X9_goInward lp_X9_goInward_7
  refine ⟨fun m len arr z => ∃ i l, i ≤ 5 ∧ m = 6 - i ∧ z = nI i ∧ KO l len arr ∧ sni w h (6 - i) i l = sni w h 6 0 [], ⟨6, 0, [], by omega, rfl, rfl, ⟨rfl, by decide, fun j hj => absurd hj (Nat.not_lt_zero j)⟩, rfl⟩, ?_⟩
  rintro m len arr z ⟨i, l, hi, rfl, rfl, hk, hL⟩
  unfold bd_X9_goInward_7
  have e2 : 2 * nI i = nI (2 * i) := z_mul 2 i
  rw [e2]
  rw [show 6 - i = (6 - (i + 1)) + 1 by omega, sni] at hL
  refine pk_le w (2 * i) (fun q => ?_) (fun q => ?_) rfl rfl
  · rw [if_neg (by omega)] at hL
    refine hQ _ _ ?_
    rw [← hL]
    exact hk
  · refine pk_le h (2 * i) (fun q2 => ?_) (fun q2 => ?_) rfl rfl
    · rw [if_neg (by omega)] at hL
      refine hQ _ _ ?_
      rw [← hL]
      exact hk
    · rw [if_pos ⟨q, q2⟩] at hL
      have e3 : nI w - 1 - nI i = nI (w - 1 - i) := by
        have : nI w - nI 1 = nI (w - 1) := z_sub (by omega)
        rw [show (1 : Int32) = nI 1 from rfl, this, z_sub (by omega)]
      have e4 : nI h - 1 - nI i = nI (h - 1 - i) := by
        have : nI h - nI 1 = nI (h - 1) := z_sub (by omega)
        rw [show (1 : Int32) = nI 1 from rfl, this, z_sub (by omega)]
      rw [e3, e4]
      refine s_rd1 (by omega) (by omega) (by omega) (by omega) (by omega) (by omega) hk rfl (fun len' arr' hk' y4 e => ⟨6 - (i + 1), by omega, i + 1, _, by omega, rfl, ?_, hk', hL⟩)
      rw [e, nI_1]
end WALK
