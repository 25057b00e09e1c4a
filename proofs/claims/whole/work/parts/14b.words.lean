section WORDS
def cN : List (List Nat) := [[102, 105, 101, 108, 100], [121, 97, 114, 100, 115], [112, 111, 110, 100], [108, 97, 110, 101], [104, 101, 100, 103, 101], [111, 112, 101, 110], [104, 117, 114, 100, 108, 101, 115], [119, 97, 110, 116], [114, 101, 115, 116], [102, 114, 111, 122, 101, 110], [116, 104, 97, 119], [108, 101, 102, 116], [114, 105, 103, 104, 116], [117, 112], [100, 111, 119, 110]]
def cA (i j : Nat) : Nat := (cN.getD i []).getD j 0
def wV : List Nat := [3369766, 13318957, 326245, 237308, 4353053, 307058, 3410344531, 453836, 358472, 95973728, 399542, 240023, 9748424, 583, 90302]
def wA (i : Nat) : Nat := wV.getD i 0
def lA (i : Nat) : Nat := lenS.getD i 0
theorem w_len : ∀ i, i < 15 → lA i ≤ 7 := by decide +kernel
theorem w_ch : ∀ i, i < 15 → ∀ j, j < lA i → chS i j = nI (cA i j) ∧ 97 ≤ cA i j ∧ cA i j ≤ 122 := by decide +kernel
theorem w_val : ∀ i, i < 15 → wA i = v27 (cA i) 0 (lA i) := by decide +kernel
theorem w_lt : ∀ i, i < 15 → wA i < 2 ^ 40 := by decide +kernel
theorem lN_inj63 {a b : Nat} (ha : a < 2 ^ 63) (hb : b < 2 ^ 63) (e : lN a = lN b) : a = b := by
  have h := congrArg Int64.toInt e
  rw [pf_lI ha, pf_lI hb] at h
  omega
theorem lN_neg {v : Nat} (h : v < 2 ^ 63) : ¬ lN v = -1 ∧ ¬ lN v = -2 ∧ ¬ lN v = -3 ∧ ¬ lN v = -4 := by
  have g : ∀ x : Int64, x.toInt < 0 → ¬ lN v = x := by
    intro x hx e
    rw [← e, pf_lI h] at hx
    omega
  exact ⟨g _ (by decide), g _ (by decide), g _ (by decide), g _ (by decide)⟩
theorem v27_63 {b : Nat → Nat} {s l : Nat} (hl : l ≤ 9) (h : ∀ j, j < l → b (s + j) ≤ 122) : v27 b s l < 2 ^ 63 := by
  have h1 := v27_lt l h
  have h2 : 27 ^ l ≤ 27 ^ 9 := Nat.pow_le_pow_right (by decide) hl
  have h3 : 27 ^ 9 < 2 ^ 63 := by decide
  omega
/-- a word's token -/
theorem tk_word {b : Nat → Nat} {n s : Nat} (hk : tK b n s = 1) : s < n ∧ (∀ j, s ≤ j → j < tE b n s → 97 ≤ b j ∧ b j ≤ 122) ∧ tV b n s = if tE b n s - s ≤ 9 then lN (v27 b s (tE b n s - s)) else -4 := by
  unfold tK at hk
  by_cases q : n ≤ s
  · rw [if_pos q] at hk
    exact absurd hk (by decide)
  · rw [if_neg q] at hk
    have ha := kd_A.mp hk
    refine ⟨by omega, fun j h1 h2 => ?_, ?_⟩
    · unfold tE at h2
      rw [if_neg q, if_pos ha] at h2
      exact isA_iff.mp (runE_all b isA _ s j h1 h2)
    · rw [tV, if_neg q, if_pos ha]
theorem tk_num {b : Nat → Nat} {n s : Nat} (hk : tK b n s = 2) : s < n ∧ (∀ j, s ≤ j → j < tE b n s → 48 ≤ b j ∧ b j ≤ 57) ∧ tV b n s = if tE b n s - s ≤ 2 then -1 else -4 := by
  unfold tK at hk
  by_cases q : n ≤ s
  · rw [if_pos q] at hk
    exact absurd hk (by decide)
  · rw [if_neg q] at hk
    have hd := kd_D.mp hk
    have ha : ¬ isA (b s) = true := fun y => by
      rw [kd_A.mpr y] at hk
      exact absurd hk (by decide)
    refine ⟨by omega, fun j h1 h2 => ?_, ?_⟩
    · unfold tE at h2
      rw [if_neg q, if_neg ha, if_pos hd] at h2
      exact isD_iff.mp (runE_all b isD _ s j h1 h2)
    · rw [tV, if_neg q, if_neg ha, if_pos hd]
theorem tk_oth {b : Nat → Nat} {n s : Nat} (h1 : ¬ tK b n s = 1) (h2 : ¬ tK b n s = 2) : tV b n s = if n ≤ s then -2 else if b s = 59 then -3 else -4 := by
  unfold tK at h1 h2
  by_cases q : n ≤ s
  · rw [tV, if_pos q, if_pos q]
  · rw [if_neg q] at h1 h2
    rw [tV, if_neg q, if_neg q, if_neg (fun y => h1 (kd_A.mpr y)), if_neg (fun y => h2 (kd_D.mpr y))]
theorem tk_w {b : Nat → Nat} {n s : Nat} (hk : ¬ tK b n s = 1) : tV b n s = -1 ∨ tV b n s = -2 ∨ tV b n s = -3 ∨ tV b n s = -4 := by
  by_cases h2 : tK b n s = 2
  · rw [(tk_num h2).2.2]
    split
    · exact Or.inl rfl
    · exact Or.inr (Or.inr (Or.inr rfl))
  · rw [tk_oth hk h2]
    split
    · exact Or.inr (Or.inl rfl)
    · split
      · exact Or.inr (Or.inr (Or.inl rfl))
      · exact Or.inr (Or.inr (Or.inr rfl))
theorem tk_pos {b : Nat → Nat} {n s : Nat} (hk : tK b n s = 1) : tV b n s = -4 ∨ ∃ v, v < 2 ^ 63 ∧ tV b n s = lN v := by
  obtain ⟨h1, h2, h3⟩ := tk_word hk
  rw [h3]
  by_cases q : tE b n s - s ≤ 9
  · rw [if_pos q]
    exact Or.inr ⟨_, v27_63 q (fun j hj => (h2 (s + j) (by omega) (by omega)).2), rfl⟩
  · rw [if_neg q]
    exact Or.inl rfl
theorem tV_num {b : Nat → Nat} {n s : Nat} : tV b n s = -1 ↔ tK b n s = 2 ∧ tE b n s - s ≤ 2 := by
  by_cases h2 : tK b n s = 2
  · rw [(tk_num h2).2.2]
    by_cases q : tE b n s - s ≤ 2
    · rw [if_pos q]
      exact ⟨fun _ => ⟨h2, q⟩, fun _ => rfl⟩
    · rw [if_neg q]
      exact ⟨fun y => absurd y (by decide), fun y => absurd y.2 q⟩
  · refine ⟨fun y => ?_, fun y => absurd y.1 h2⟩
    by_cases h1 : tK b n s = 1
    · rcases tk_pos h1 with e | ⟨v, hv, e⟩
      · rw [e] at y
        exact absurd y (by decide)
      · rw [e] at y
        exact absurd y (lN_neg hv).1
    · rw [tk_oth h1 h2] at y
      split at y
      · exact absurd y (by decide)
      · split at y <;> exact absurd y (by decide)
theorem tV_end {b : Nat → Nat} {n s : Nat} : tV b n s = -2 ↔ n ≤ s := by
  by_cases q : n ≤ s
  · exact ⟨fun _ => q, fun _ => by rw [tV, if_pos q]⟩
  · refine ⟨fun y => ?_, fun y => absurd y q⟩
    by_cases h1 : tK b n s = 1
    · rcases tk_pos h1 with e | ⟨v, hv, e⟩
      · rw [e] at y
        exact absurd y (by decide)
      · rw [e] at y
        exact absurd y (lN_neg hv).2.1
    · by_cases h2 : tK b n s = 2
      · rw [(tk_num h2).2.2] at y
        split at y <;> exact absurd y (by decide)
      · rw [tk_oth h1 h2, if_neg q] at y
        split at y <;> exact absurd y (by decide)
theorem tV_semi {b : Nat → Nat} {n s : Nat} : tV b n s = -3 ↔ s < n ∧ b s = 59 := by
  constructor
  · intro y
    by_cases h1 : tK b n s = 1
    · rcases tk_pos h1 with e | ⟨v, hv, e⟩
      · rw [e] at y
        exact absurd y (by decide)
      · rw [e] at y
        exact absurd y (lN_neg hv).2.2.1
    · by_cases h2 : tK b n s = 2
      · rw [(tk_num h2).2.2] at y
        split at y <;> exact absurd y (by decide)
      · rw [tk_oth h1 h2] at y
        split at y
        · exact absurd y (by decide)
        · rename_i q
          split at y
          · rename_i q2
            exact ⟨by omega, q2⟩
          · exact absurd y (by decide)
  · rintro ⟨h1, h2⟩
    rw [tV, if_neg (by omega), h2]
    rfl
theorem s_tokenIs {T : List Nat} {len : Int32} {arr : Nat → Int32} {S i : Nat} {Q : Int32 → Prop} (hR : RT T len arr) (hS : S ≤ T.length) (hi : i < 15) (hQ : Q (if tV (bT T) T.length S = lN (wA i) then 1 else 0)) : wp_X6_tokenIs i (nI S) (nI (tE (bT T) T.length S)) (nI (tK (bT T) T.length S)) arr Q := by
  obtain ⟨rfl, h200, hA⟩ := id hR
  have hE := tE_le (b := bT T) hS
  have hw := lN_neg (v := wA i) (by have := w_lt i hi; omega)
  have hl := w_len i hi
  have hnS : i < nS := hi
  unfold wp_X6_tokenIs
  by_cases hk : tK (bT T) T.length S = 1
  · obtain ⟨hlt, hall, htv⟩ := tk_word hk
    rw [hk]
    refine ⟨fun z => absurd rfl z, fun _ => ⟨hnS, ?_⟩⟩
    rw [z_sub hE.1]
    obtain ⟨E, hEe⟩ : ∃ E, tE (bT T) T.length S = E := ⟨_, rfl⟩
    rw [hEe] at hE hall htv ⊢
    have hinj : tV (bT T) T.length S = lN (wA i) → E - S = lA i ∧ ∀ j, j < E - S → bT T (S + j) = cA i j := by
      intro e
      rw [htv] at e
      by_cases q : E - S ≤ 9
      · rw [if_pos q] at e
        have e2 := lN_inj63 (v27_63 q (fun j hj => (hall (S + j) (by omega) (by omega)).2)) (by have := w_lt i hi; omega) e
        rw [w_val i hi] at e2
        have e3 := v27_inj (E - S) (lA i) (fun j hj => hall (S + j) (by omega) (by omega)) (fun j hj => by have := (w_ch i hi j hj).2; rw [Nat.zero_add]; exact this) e2
        refine ⟨e3.1, fun j hj => ?_⟩
        have := e3.2 j hj
        rw [Nat.zero_add] at this
        exact this
      · rw [if_neg q] at e
        exact absurd e.symm hw.2.2.2
    refine pk_eq (E - S) (lA i) (fun q => ?_) (fun q => ?_) rfl rfl
    · unfold lp_X6_tokenIs_28
      refine ⟨fun m z => ∃ j, j ≤ lA i ∧ m = lA i - j ∧ z = nI j ∧ ∀ t, t < j → bT T (S + t) = cA i t, ⟨lA i, 0, by omega, rfl, rfl, fun t ht => absurd ht (Nat.not_lt_zero t)⟩, ?_⟩
      rintro m z ⟨j, hj, rfl, rfl, hall2⟩
      unfold bd_X6_tokenIs_28
      refine ⟨hnS, pk_le (lA i) j (fun q2 => ?_) (fun q2 => ?_) rfl rfl⟩
      · have e : tV (bT T) T.length S = lN (wA i) := by
          rw [htv, if_pos (by omega), w_val i hi, q]
          congr 1
          exact v27_cong _ (fun t ht => by rw [Nat.zero_add]; exact hall2 t (by omega))
        rw [if_pos e] at hQ
        exact hQ
      · rw [nI_add]
        refine ⟨pk_in (S + j) 200 (by omega), ⟨hnS, pk_in j (lA i) q2⟩, ?_⟩
        have hc := bT_at hR (show S + j < T.length by omega)
        have hw2 := w_ch i hi j q2
        rw [z_cl (by omega), z_cl (by omega), hc.1, hw2.1]
        refine pk_eq (bT T (S + j)) (cA i j) (fun q3 y8 e8 => ?_) (fun q3 => ?_) rfl rfl
        · refine ⟨lA i - (j + 1), by omega, j + 1, by omega, rfl, by rw [e8, nI_1], fun t ht => ?_⟩
          by_cases et : t = j
          · rw [et]; exact q3
          · exact hall2 t (by omega)
        · rw [if_neg (fun e => q3 ((hinj e).2 j (by omega)))] at hQ
          exact hQ
    · rw [if_neg (fun e => q (hinj e).1)] at hQ
      exact hQ
  · have hne : ¬ tV (bT T) T.length S = lN (wA i) := by
      intro e
      rcases tk_w hk with y | y | y | y <;> rw [y] at e
      · exact hw.1 e.symm
      · exact hw.2.1 e.symm
      · exact hw.2.2.1 e.symm
      · exact hw.2.2.2 e.symm
    rw [if_neg hne] at hQ
    have hk4 : tK (bT T) T.length S ≤ 3 := by
      unfold tK
      split
      · omega
      · exact (kd_le _).2
    exact ⟨fun _ => hQ, fun z => absurd (z_inj (a := tK (bT T) T.length S) (b := 1) (by omega) (by decide) z) hk⟩
def fndN (tv : Int64) (off : Nat) : Nat → Nat → Nat
  | 0, i => i
  | d + 1, i => if tv = lN (wA (off + i)) then i else fndN tv off d (i + 1)
theorem fndN_le (tv : Int64) (off : Nat) : ∀ d i, i ≤ fndN tv off d i ∧ fndN tv off d i ≤ i + d
  | 0, i => ⟨Nat.le_refl i, Nat.le_refl i⟩
  | d + 1, i => by
    rw [fndN]
    split
    · omega
    · have := fndN_le tv off d (i + 1)
      omega
def resN (m i : Nat) : Int32 := if i < m then nI i else -1
theorem s_vname {i : Nat} {Q : Nat → Prop} (hi : i < 11) (hQ : Q i) : wp_X6_verbName (nI i) Q := by
  unfold wp_X6_verbName
  have g : ∀ c, c < 11 → nI i = nI c → i = c := fun c hc z => z_inj (by omega) (by omega) z
  refine ⟨fun z => ?_, fun z => ?_, fun z => ?_, fun z => ?_, fun z => ?_, fun z => ?_, fun z => ?_, fun z => ?_, fun z => ?_, fun z => ?_, fun z => ?_⟩
  · rw [← g 0 (by decide) z]; exact hQ
  · rw [← g 1 (by decide) z]; exact hQ
  · rw [← g 2 (by decide) z]; exact hQ
  · rw [← g 3 (by decide) z]; exact hQ
  · rw [← g 4 (by decide) z]; exact hQ
  · rw [← g 5 (by decide) z]; exact hQ
  · rw [← g 6 (by decide) z]; exact hQ
  · rw [← g 7 (by decide) z]; exact hQ
  · rw [← g 8 (by decide) z]; exact hQ
  · rw [← g 9 (by decide) z]; exact hQ
  · have n : ∀ c, ¬ nI i = nI c → i ≠ c := fun c z e => z (by rw [e])
    obtain ⟨z0, z1, z2, z3, z4, z5, z6, z7, z8, z9⟩ := z
    have e0 := n 0 z0
    have e1 := n 1 z1
    have e2 := n 2 z2
    have e3 := n 3 z3
    have e4 := n 4 z4
    have e5 := n 5 z5
    have e6 := n 6 z6
    have e7 := n 7 z7
    have e8 := n 8 z8
    have e9 := n 9 z9
    rw [show 10 = i by omega]
    exact hQ
theorem s_dname {i : Nat} {Q : Nat → Prop} (hi : i < 4) (hQ : Q (11 + i)) : wp_X6_directionName (nI i) Q := by
  unfold wp_X6_directionName
  have g : ∀ c, c < 11 → nI i = nI c → i = c := fun c hc z => z_inj (by omega) (by omega) z
  refine ⟨fun z => ?_, fun z => ?_, fun z => ?_, fun z => ?_⟩
  · rw [g 0 (by decide) z] at hQ; exact hQ
  · rw [g 1 (by decide) z] at hQ; exact hQ
  · rw [g 2 (by decide) z] at hQ; exact hQ
  · have n : ∀ c, ¬ nI i = nI c → i ≠ c := fun c z e => z (by rw [e])
    have e0 := n 0 z.1
    have e1 := n 1 z.2.1
    have e2 := n 2 z.2.2
    rw [show i = 3 by omega] at hQ
    exact hQ
theorem s_cverb {T : List Nat} {len : Int32} {arr : Nat → Int32} {p S : Nat} {Q : Int32 → Int32 × Int32 × Int32 → Prop} (hR : RT T len arr) (hp : p ≤ T.length) (hS : tS (bT T) T.length p = S) (hQ : Q (resN 11 (fndN (tV (bT T) T.length S) 0 11 0)) (nI S, nI (tE (bT T) T.length S), nI (tK (bT T) T.length S))) : wp_X6_readVerb (nI p) len arr Q := by
  unfold wp_X6_readVerb
  refine s_ctok hR hp hS ?_
  have hSl := tS_le (b := bT T) hp
  rw [hS] at hSl
  obtain ⟨F, hF⟩ : ∃ F, fndN (tV (bT T) T.length S) 0 11 0 = F := ⟨_, rfl⟩
  rw [hF] at hQ
  unfold lp_X6_readVerb_6
  refine ⟨fun m z => ∃ i, i ≤ 11 ∧ m = 11 - i ∧ z = nI i ∧ fndN (tV (bT T) T.length S) 0 (11 - i) i = F, ⟨11, 0, by omega, rfl, rfl, hF⟩, ?_⟩
  clear hF
  rintro m z ⟨i, hi, rfl, rfl, hF⟩
  unfold bd_X6_readVerb_6
  refine pk_le 11 i (fun q => ?_) (fun q => s_vname q (s_tokenIs hR hSl.2 (by omega) ?_)) rfl rfl
  · rw [show 11 - i = 0 by omega, fndN] at hF
    rw [← hF, resN, if_neg (by omega)] at hQ
    exact hQ
  · rw [show 11 - i = (11 - (i + 1)) + 1 by omega, fndN, Nat.zero_add] at hF
    by_cases e : tV (bT T) T.length S = lN (wA i)
    · rw [if_pos e] at hF
      rw [if_pos e]
      rw [← hF, resN, if_pos q] at hQ
      exact ⟨fun z => absurd z (by decide), fun _ => hQ⟩
    · rw [if_neg e] at hF
      rw [if_neg e]
      exact ⟨fun _ y6 e6 => ⟨11 - (i + 1), by omega, i + 1, by omega, rfl, by rw [e6, nI_1], hF⟩, fun z => absurd rfl z⟩
theorem s_cdir {T : List Nat} {len : Int32} {arr : Nat → Int32} {p S : Nat} {Q : Int32 → Int32 × Int32 × Int32 → Prop} (hR : RT T len arr) (hp : p ≤ T.length) (hS : tS (bT T) T.length p = S) (hQ : Q (resN 4 (fndN (tV (bT T) T.length S) 11 4 0)) (nI S, nI (tE (bT T) T.length S), nI (tK (bT T) T.length S))) : wp_X6_readDirection (nI p) len arr Q := by
  unfold wp_X6_readDirection
  refine s_ctok hR hp hS ?_
  have hSl := tS_le (b := bT T) hp
  rw [hS] at hSl
  obtain ⟨F, hF⟩ : ∃ F, fndN (tV (bT T) T.length S) 11 4 0 = F := ⟨_, rfl⟩
  rw [hF] at hQ
  unfold lp_X6_readDirection_6
  refine ⟨fun m z => ∃ i, i ≤ 4 ∧ m = 4 - i ∧ z = nI i ∧ fndN (tV (bT T) T.length S) 11 (4 - i) i = F, ⟨4, 0, by omega, rfl, rfl, hF⟩, ?_⟩
  clear hF
  rintro m z ⟨i, hi, rfl, rfl, hF⟩
  unfold bd_X6_readDirection_6
  refine pk_le 4 i (fun q => ?_) (fun q => s_dname q (s_tokenIs hR hSl.2 (by omega) ?_)) rfl rfl
  · rw [show 4 - i = 0 by omega, fndN] at hF
    rw [← hF, resN, if_neg (by omega)] at hQ
    exact hQ
  · rw [show 4 - i = (4 - (i + 1)) + 1 by omega, fndN] at hF
    by_cases e : tV (bT T) T.length S = lN (wA (11 + i))
    · rw [if_pos e] at hF
      rw [if_pos e]
      rw [← hF, resN, if_pos q] at hQ
      exact ⟨fun z => absurd z (by decide), fun _ => hQ⟩
    · rw [if_neg e] at hF
      rw [if_neg e]
      exact ⟨fun _ y6 e6 => ⟨4 - (i + 1), by omega, i + 1, by omega, rfl, by rw [e6, nI_1], hF⟩, fun z => absurd rfl z⟩
end WORDS
