section MF2
variable {w h : Nat}
theorem s_isSet {set : Nat} {Q : Int32 → Prop} (k : okS w h) (hs : set < 2 ^ (w * h)) (hQ : Q 1) : wp_X11_isSet (nI set) (nI w) (nI h) Q := by
  have hn := k.2.2
  have hp := pow10 k
  have hp0 : 0 < 2 ^ (w * h) := Nat.two_pow_pos _
  unfold wp_X11_isSet
  refine s_squares (s_in ?_)
  rw [z_shl1 (w * h) (by omega), show nI (2 ^ (w * h)) - 1 = nI (2 ^ (w * h) - 1) from z_sub (a := 2 ^ (w * h)) (b := 1) hp0]
  have e1 : inI (nI set) 0 (nI (2 ^ (w * h) - 1)) = if 0 ≤ set ∧ set ≤ 2 ^ (w * h) - 1 then 1 else 0 := inI_nat (lo := 0) (by omega) (by decide) (by omega)
  rw [e1, if_pos (by omega)]
  exact ⟨Or.inr rfl, hQ⟩
theorem and_bar {set n : Nat} {sq : Nat → Nat} (hs : set < 2 ^ n) : set &&& mk (pBar sq) n = 0 ↔ ∀ s, s < n → set.testBit s = true → sq s ≤ 9 := by
  constructor
  · intro h0 s hsn hb
    have h1 : (set &&& mk (pBar sq) n).testBit s = false := by rw [h0, Nat.zero_testBit]
    rw [Nat.testBit_and, mk_bit, hb] at h1
    simp [hsn, pBar] at h1
    omega
  · intro ha
    apply Nat.eq_of_testBit_eq
    intro i
    rw [Nat.zero_testBit, Nat.testBit_and, mk_bit]
    by_cases hb : set.testBit i = true
    · by_cases hi : i < n
      · have := ha i hi hb
        simp [pBar]
        intro _ _
        omega
      · simp [hi]
    · simp [hb]
theorem s_misFold {set : Nat} {sq : Nat → Nat} {gk : Nat → Int32} {Q : Int32 → Prop} (k : okS w h) (hs : set < 2 ^ (w * h)) (hgk : ∀ s, s < w * h → gk s = nI (sq s) ∧ sq s ≤ 11) (hQ : Q (if isFd w h (mk (pBar sq) (w * h)) set then 1 else 0)) : wp_X11_isFold (nI set) (nI w) (nI h) gk Q := by
  have hn := k.2.2
  have hp := pow10 k
  unfold wp_X11_isFold
  refine pk_le set 0 (fun q => ?_) (fun q => ?_) rfl rfl
  · have : set = 0 := by omega
    subst this
    have hf : isFd w h (mk (pBar sq) (w * h)) 0 = false := by simp [isFd]
    rw [hf] at hQ
    exact hQ
  · refine s_isSet k hs ⟨fun _ => ?_, fun z => absurd z (by decide)⟩
    unfold lp_X11_isFold_16
    refine ⟨fun m z => ∃ s, s ≤ w * h ∧ m = w * h - s ∧ z = nI s ∧ ∀ t, t < s → set.testBit t = true → sq t ≤ 9, ⟨w * h, 0, by omega, rfl, rfl, fun t ht => by omega⟩, ?_⟩
    rintro m z ⟨s, hsn, rfl, rfl, hall⟩
    unfold bd_X11_isFold_16
    refine s_squares (pk_le (w * h) s (fun q2 => ?_) (fun q2 => ?_) rfl rfl)
    · have : s = w * h := by omega
      subst this
      have hbar : set &&& mk (pBar sq) (w * h) = 0 := (and_bar hs).mpr hall
      have hf : isFd w h (mk (pBar sq) (w * h)) set = conn w h set := by simp [isFd, q, hbar]
      rw [hf] at hQ
      intro y6 e6
      have e6' : y6 = nI (gr w h set 0) := by
        rw [e6, (lo_at q (by omega)).1, ← lowb_lo q (by omega)]
        rfl
      rw [e6']
      unfold lp_X11_isFold_59
      refine ⟨fun m a z => ∃ j, j ≤ 10 ∧ m = 10 - j ∧ z = nI j ∧ a = nI (gr w h set j), ⟨10, 0, by decide, rfl, rfl, rfl⟩, ?_⟩
      rintro m a z ⟨j, hj, rfl, rfl, rfl⟩
      have hg := gr_lt hs j
      unfold bd_X11_isFold_59
      refine pk_le 10 j (fun q3 => ?_) (fun q3 => ?_) rfl rfl
      · have : j = 10 := by omega
        subst this
        have hiff : (nI (gr w h set 10) = nI set) ↔ gr w h set 10 = set := nI_eq (by omega) (by omega)
        refine ⟨fun c => ?_, fun c => ?_⟩
        · have hc : conn w h set = false := beq_eq_false_iff_ne.mpr (fun z => c (hiff.mpr z))
          rw [hc] at hQ
          exact hQ
        · have hc : conn w h set = true := beq_iff_eq.mpr (hiff.mp c)
          rw [hc] at hQ
          exact hQ
      · refine s_besides k (by omega) ?_
        intro y10 e10 y11 e11
        refine ⟨10 - (j + 1), by omega, j + 1, by omega, rfl, by rw [e11]; exact nI_1 j, ?_⟩
        rw [e10, z_and, z_or]
        rfl
    · have c1 : (nI s).toNatClampNeg = s := z_cl (by omega)
      have hb := z_bit1 (a := set) (k := s) (by omega) (by omega)
      have go : (set.testBit s = true → sq s ≤ 9) → bk_X11_isFold_46 Q (fun x2' => ∃ n', n' < w * h - s ∧ ∃ s, s ≤ w * h ∧ n' = w * h - s ∧ x2' = nI s ∧ ∀ t, t < s → set.testBit t = true → sq t ≤ 9) (nI s) := by
        intro hq
        unfold bk_X11_isFold_46
        intro y13 e13
        refine ⟨w * h - (s + 1), by omega, s + 1, q2, rfl, by rw [e13]; exact nI_1 s, fun t ht hbt => ?_⟩
        by_cases hts : t = s
        · subst hts; exact hq hbt
        · exact hall t (by omega) hbt
      refine ⟨fun c => go (fun z => absurd (hb.mpr z) c), fun c => ⟨pk_in s 10 (by omega), ?_⟩⟩
      rw [c1, (hgk s q2).1]
      have h11 := (hgk s q2).2
      refine pk_le (sq s) 9 (fun q3 => go (fun _ => q3)) (fun q3 => ?_) rfl rfl
      have hbar : ¬ set &&& mk (pBar sq) (w * h) = 0 := fun z => by
        have := (and_bar hs).mp z s q2 (hb.mp c)
        omega
      have hf : isFd w h (mk (pBar sq) (w * h)) set = false := by simp [isFd, hbar]
      rw [hf] at hQ
      exact hQ
def isPo (sq : Nat → Nat) (o : Option Nat) : Bool := match o with
  | none => false
  | some q => decide (sq q = 10)
/-- the edges of a set as the reference finds them -/
def ed1 (w h H : Nat) (sq : Nat → Nat) (set s d : Nat) : Nat := if hasO set (nbr w h s d) || isPo sq (nbr w h s d) || H.testBit (edn w h s d) then 0 else 2 ^ edn w h s d
def ped (w h H : Nat) (sq : Nat → Nat) (set s : Nat) : Nat → Nat
  | 0 => 0
  | d + 1 => ped w h H sq set s d ||| ed1 w h H sq set s d
def edM (w h H : Nat) (sq : Nat → Nat) (set : Nat) : Nat := orF (fun s => ped w h H sq set s 4) (w * h) set
theorem z_shlL {e : Nat} (he : e < 31) : (1 : Int64) <<< ((nI e).toInt64 &&& 63) = lN (2 ^ e) := by
  have h : ∀ e, e < 31 → (1 : Int64) <<< ((nI e).toInt64 &&& 63) = lN (2 ^ e) := by decide +kernel
  exact h e he
theorem s_edgesOf {H set : Nat} {sq : Nat → Nat} {gk : Nat → Int32} {Q : Int64 → Prop} (k : okS w h) (hs : set < 2 ^ (w * h)) (hgk : ∀ s, s < w * h → gk s = nI (sq s) ∧ sq s ≤ 11) (hQ : Q (lN (edM w h H sq set))) : wp_X11_edgesOf (nI set) (nI w) (nI h) (lN H) gk Q := by
  have hn := k.2.2
  have hp := pow10 k
  unfold wp_X11_edgesOf lp_X11_edgesOf_5
  refine ⟨fun m a z => ∃ s, s ≤ w * h ∧ m = w * h - s ∧ z = nI s ∧ a = lN (orF (fun s => ped w h H sq set s 4) s set), ⟨w * h, 0, by omega, rfl, rfl, rfl⟩, ?_⟩
  rintro m a z ⟨s, hsn, rfl, rfl, rfl⟩
  unfold bd_X11_edgesOf_5
  refine s_squares (pk_le (w * h) s (fun q => ?_) (fun q => ?_) rfl rfl)
  · have : s = w * h := by omega
    rw [this]
    exact hQ
  · unfold lp_X11_edgesOf_17
    obtain ⟨B5, hB5⟩ : ∃ B5 : Int64 → Int32 → Prop, B5 = fun xl2' x4' => ∃ n', n' < w * h - s ∧ ∃ s, s ≤ w * h ∧ n' = w * h - s ∧ x4' = nI s ∧ xl2' = lN (orF (fun s => ped w h H sq set s 4) s set) := ⟨_, rfl⟩
    rw [← hB5]
    have done : ∀ a : Nat, a = orF (fun s => ped w h H sq set s 4) (s + 1) set → bk_X11_edgesOf_140 Q B5 (lN a) (nI s) := by
      intro a ha
      unfold bk_X11_edgesOf_140
      intro y4 e4
      rw [hB5]
      exact ⟨w * h - (s + 1), by omega, s + 1, q, rfl, by rw [e4]; exact nI_1 s, by rw [ha]⟩
    refine ⟨fun m a z => ∃ d, d ≤ 4 ∧ m = 4 - d ∧ z = nI d ∧ a = lN (orF (fun s => ped w h H sq set s 4) s set ||| (if set.testBit s then ped w h H sq set s d else 0)), ⟨4, 0, by decide, rfl, rfl, by simp [ped]⟩, ?_⟩
    rintro m a z ⟨d, hd, rfl, rfl, rfl⟩
    obtain ⟨B17, hB17⟩ : ∃ B17 : Int64 → Int32 → Prop, B17 = fun xl2' x5' => ∃ n', n' < 4 - d ∧ ∃ d, d ≤ 4 ∧ n' = 4 - d ∧ x5' = nI d ∧ xl2' = lN (orF (fun s => ped w h H sq set s 4) s set ||| (if set.testBit s then ped w h H sq set s d else 0)) := ⟨_, rfl⟩
    rw [← hB17]
    unfold bd_X11_edgesOf_17
    refine pk_le 4 d (fun q2 => ?_) (fun q2 => ?_) rfl rfl
    · have : d = 4 := by omega
      subst this
      refine done _ ?_
      rw [orF]
    · have hb := z_bit1 (a := set) (k := s) (by omega) (by omega)
      refine ⟨fun c => ?_, fun c => ?_⟩
      · have hf : ¬ set.testBit s = true := fun z => c (hb.mpr z)
        refine done _ ?_
        rw [orF, if_neg hf, if_neg hf]
      · have ht := hb.mp c
        rw [if_pos ht]
        have he := edn_lt k q q2
        obtain ⟨acc, hacc⟩ : ∃ acc, acc = orF (fun s => ped w h H sq set s 4) s set ||| ped w h H sq set s d := ⟨_, rfl⟩
        rw [← hacc]
        have step : ∀ s0 : Nat, s0 = ed1 w h H sq set s d → bk_X11_edgesOf_132 Q B5 B17 (nI d) (lN s0) (lN acc) := by
          intro s0 h0
          unfold bk_X11_edgesOf_132
          intro y12 e12 y13 e13
          rw [hB17]
          refine ⟨4 - (d + 1), by omega, d + 1, q2, rfl, by rw [e13]; exact nI_1 d, ?_⟩
          rw [e12, fb_orL, if_pos ht, h0, ped, hacc, Nat.or_assoc]
        have e101 : ∀ (isIn isP : Bool), isIn = hasO set (nbr w h s d) → isP = isPo sq (nbr w h s d) → bk_X11_edgesOf_101 Q B5 B17 (lN acc) (nI d) (lN (2 ^ edn w h s d)) (if isIn then 1 else 0) (lN H) (if isP then 1 else 0) := by
          intro isIn isP h1 h2
          unfold bk_X11_edgesOf_101 bk_X11_edgesOf_126
          have hz : ∀ (x : Bool), x = true → hasO set (nbr w h s d) = x ∨ True → True := fun _ _ _ => trivial
          cases isIn
          · refine ⟨fun z => absurd rfl z, fun _ => ?_⟩
            cases isP
            · refine ⟨fun z => absurd rfl z, fun _ => ?_⟩
              have hbl : lN H &&& lN (2 ^ edn w h s d) = 0 ↔ H.testBit (edn w h s d) = false := fb_bitL (by omega)
              refine ⟨fun z => ?_, fun z => ?_⟩
              · exact step _ (by rw [ed1, ← h1, ← h2, hbl.mp z]; rfl)
              · have : H.testBit (edn w h s d) = true := by
                  cases hx : H.testBit (edn w h s d)
                  · exact absurd (hbl.mpr hx) z
                  · rfl
                exact step 0 (by rw [ed1, ← h1, ← h2, this]; rfl)
            · refine ⟨fun _ => ?_, fun z => absurd z (by decide)⟩
              exact step 0 (by rw [ed1, ← h1, ← h2]; rfl)
          · refine ⟨fun _ => ?_, fun z => absurd z (by decide)⟩
            exact step 0 (by rw [ed1, ← h1]; rfl)
        refine s_besideOf k q q2 (s_medgeAt k q q2 ?_)
        intro y8 e8
        rw [z_shlL he] at e8
        subst e8
        cases hnb : nbr w h s d with
        | none =>
          refine ⟨fun _ => ?_, fun z => absurd rfl z⟩
          unfold bk_X11_edgesOf_75 bk_X11_edgesOf_76
          refine ⟨fun _ => ?_, fun z => absurd rfl z⟩
          exact e101 false false (by rw [hnb]; rfl) (by rw [hnb]; rfl)
        | some t =>
          have htl := nbr_lt k q q2 hnb
          have ct : (nI t).toNatClampNeg = t := z_cl (by omega)
          have hne : ¬ nI t = -1 := z_m1 (by omega)
          have h11 := (hgk t htl).2
          have e76 : ∀ isIn : Bool, isIn = hasO set (nbr w h s d) → bk_X11_edgesOf_76 Q B5 B17 (lN acc) (nI d) (nI t) (lN (2 ^ edn w h s d)) (lN H) gk (if isIn then 1 else 0) := by
            intro isIn h1
            unfold bk_X11_edgesOf_76
            refine ⟨fun z => absurd z hne, fun _ => ⟨pk_in t 10 (by omega), ?_⟩⟩
            rw [ct, (hgk t htl).1]
            refine ⟨fun z => ?_, fun z => ?_⟩
            · have : sq t ≠ 10 := fun y => z (by rw [y]; rfl)
              exact e101 isIn false h1 (by rw [hnb]; simp [isPo, this])
            · have : sq t = 10 := (nI_eq (by omega) (by decide)).mp z
              exact e101 isIn true h1 (by rw [hnb]; simp [isPo, this])
          show (nI t = -1 → _) ∧ (¬ nI t = -1 → _)
          have hbt := z_bit1 (a := set) (k := t) (by omega) (by omega)
          refine ⟨fun z => absurd z hne, fun _ => ⟨fun c2 => ?_, fun c2 => ?_⟩⟩
          · refine e76 false ?_
            rw [hnb]
            show false = set.testBit t
            cases hx : set.testBit t
            · rfl
            · exact absurd (hbt.mpr hx) c2
          · refine e76 true ?_
            rw [hnb]
            exact (hbt.mp c2).symm
end MF2
