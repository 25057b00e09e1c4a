/-! the reference's folds -/
def inI (a lo hi : Int32) : Int32 := if a < lo then 0 else if hi < a then 0 else 1
theorem s_in {a lo hi : Int32} {Q : Int32 → Prop} (hQ : Q (inI a lo hi)) : wp_X11_in a lo hi Q := by
  unfold wp_X11_in
  unfold inI at hQ
  refine ⟨fun c => ?_, fun c => ⟨fun c2 => ?_, fun c2 => ?_⟩⟩
  · rw [if_pos c] at hQ; exact hQ
  · rw [if_neg c, if_pos c2] at hQ; exact hQ
  · rw [if_neg c, if_neg c2] at hQ; exact hQ
theorem inI_nat {a lo hi : Nat} (h1 : a < 2 ^ 31) (h2 : lo < 2 ^ 31) (h3 : hi < 2 ^ 31) : inI (nI a) (nI lo) (nI hi) = if lo ≤ a ∧ a ≤ hi then 1 else 0 := by
  unfold inI
  have q1 : (nI a < nI lo) ↔ a < lo := nI_ltI h1 h2
  have q2 : (nI hi < nI a) ↔ hi < a := nI_ltI h3 h1
  by_cases c1 : a < lo
  · rw [if_pos (q1.mpr c1), if_neg (by omega)]
  · rw [if_neg (fun z => c1 (q1.mp z))]
    by_cases c2 : hi < a
    · rw [if_pos (q2.mpr c2), if_neg (by omega)]
    · rw [if_neg (fun z => c2 (q2.mp z)), if_pos (by omega)]
def resO (o : Option Nat) : Int32 := match o with
  | none => -1
  | some q => nI q
def boI (w h s d : Int32) : Int32 :=
  if inI (s - s / w * w + (if d = 0 then -1 else if d = 1 then 1 else 0)) 0 (w - 1) = 0 then -1 else
  if inI (s / w + (if d = 2 then -1 else if d = 3 then 1 else 0)) 0 (h - 1) = 0 then -1 else
  w * (s / w + (if d = 2 then -1 else if d = 3 then 1 else 0)) + (s - s / w * w + (if d = 0 then -1 else if d = 1 then 1 else 0))
theorem geo_bo : allS (fun w h => allB (w * h) fun s => allB 4 fun d => boI (nI w) (nI h) (nI s) (nI d) == resO (nbr w h s d)) = true := by decide +kernel
theorem s_besideOf0 {w h s d : Int32} {Q : Int32 → Prop} (hw : ¬ w = 0) (hQ : Q (boI w h s d)) : wp_X11_besideOf s d w h Q := by
  have fin : ∀ (x s0 : Int32), x = s - s / w * w + (if d = 0 then -1 else if d = 1 then 1 else 0) → s0 = (if d = 2 then -1 else if d = 3 then 1 else 0) → bk_X11_besideOf_51 Q x w h s0 (s / w) := by
    intro x s0 hx h0
    unfold bk_X11_besideOf_51
    intro y6 e6
    unfold boI at hQ
    rw [← hx, ← h0, ← e6] at hQ
    refine s_in ⟨fun c => ?_, fun c => s_in ⟨fun c2 => ?_, fun c2 => ?_⟩⟩
    · rw [if_pos c] at hQ; exact hQ
    · rw [if_neg c, if_pos c2] at hQ; exact hQ
    · rw [if_neg c, if_neg c2] at hQ; exact hQ
  have mid : ∀ s0 : Int32, s0 = (if d = 0 then -1 else if d = 1 then 1 else 0) → bk_X11_besideOf_24 Q s d w h s0 (s - s / w * w) := by
    intro s0 h0
    unfold bk_X11_besideOf_24
    intro y3 e3
    rw [h0] at e3
    refine ⟨hw, fun c => ⟨fun c2 => ?_, fun c2 => ?_⟩, fun c => ?_⟩
    · exact fin y3 0 e3 (by rw [if_neg c, if_neg c2])
    · exact fin y3 1 e3 (by rw [if_neg c, if_pos c2])
    · exact fin y3 (-1) e3 (by rw [if_pos c])
  unfold wp_X11_besideOf
  refine ⟨hw, fun c => ⟨fun c2 => ?_, fun c2 => ?_⟩, fun c => ?_⟩
  · exact mid 0 (by rw [if_neg c, if_neg c2])
  · exact mid 1 (by rw [if_neg c, if_pos c2])
  · exact mid (-1) (by rw [if_pos c])
def eaI (w h s d : Int32) : Int32 := if 2 ≤ d then (w + 1) * h + w * (s / w + d - 2) + (s - s / w * w) else (w + 1) * (s / w) + (s - s / w * w) + d
theorem geo_ea : allS (fun w h => allB (w * h) fun s => allB 4 fun d => eaI (nI w) (nI h) (nI s) (nI d) == nI (edn w h s d)) = true := by decide +kernel
theorem s_medgeAt0 {w h s d : Int32} {Q : Int32 → Prop} (hw : ¬ w = 0) (hQ : Q (eaI w h s d)) : wp_X11_edgeAt s d w h Q := by
  unfold wp_X11_edgeAt
  refine ⟨hw, fun y1 e1 => ⟨hw, fun y2 e2 => ?_⟩⟩
  unfold eaI at hQ
  rw [← e1, ← e2] at hQ
  refine ⟨fun c => ?_, fun c => ?_⟩
  · rw [if_pos c] at hQ; exact hQ
  · rw [if_neg c] at hQ; exact hQ
section MF1
variable {w h : Nat}
theorem w_ne0 (k : okS w h) : ¬ nI w = 0 := nI_ne0 k.1 (by have := k.lt.1; omega)
theorem s_besideOf {s d : Nat} {Q : Int32 → Prop} (k : okS w h) (hs : s < w * h) (hd : d < 4) (hQ : Q (resO (nbr w h s d))) : wp_X11_besideOf (nI s) (nI d) (nI w) (nI h) Q :=
  s_besideOf0 (w_ne0 k) (by rw [eq_of_beq (allB_iff.mp (allB_iff.mp (allS_at geo_bo k) s hs) d hd)]; exact hQ)
theorem s_medgeAt {s d : Nat} {Q : Int32 → Prop} (k : okS w h) (hs : s < w * h) (hd : d < 4) (hQ : Q (nI (edn w h s d))) : wp_X11_edgeAt (nI s) (nI d) (nI w) (nI h) Q :=
  s_medgeAt0 (w_ne0 k) (by rw [eq_of_beq (allB_iff.mp (allB_iff.mp (allS_at geo_ea k) s hs) d hd)]; exact hQ)
theorem s_squares {Q : Int32 → Prop} (hQ : Q (nI (w * h))) : wp_X11_squares (nI w) (nI h) Q := by
  unfold wp_X11_squares
  rw [z_mul]
  exact hQ
def pnb (w h s : Nat) : Nat → Nat
  | 0 => 0
  | d + 1 => pnb w h s d ||| bitO (nbr w h s d)
theorem pnb_4 (s : Nat) : pnb w h s 4 = nb1 w h s := by simp [pnb, nb1]
theorem s_besides {set : Nat} {Q : Int32 → Prop} (k : okS w h) (hs : set < 2 ^ 31) (hQ : Q (nI (bes w h set))) : wp_X11_besides (nI set) (nI w) (nI h) Q := by
  have hn := k.2.2
  unfold wp_X11_besides lp_X11_besides_4
  refine ⟨fun m a z => ∃ s, s ≤ w * h ∧ m = w * h - s ∧ z = nI s ∧ a = nI (orF (nb1 w h) s set), ⟨w * h, 0, by omega, rfl, rfl, rfl⟩, ?_⟩
  rintro m a z ⟨s, hsn, rfl, rfl, rfl⟩
  unfold bd_X11_besides_4
  refine s_squares (pk_le (w * h) s (fun q => ?_) (fun q => ?_) rfl rfl)
  · have : s = w * h := by omega
    rw [this]
    exact hQ
  · unfold lp_X11_besides_15
    have done : ∀ a : Nat, a = orF (nb1 w h) (s + 1) set → bk_X11_besides_62 Q (fun x2' x3' => ∃ n', n' < w * h - s ∧ ∃ s, s ≤ w * h ∧ n' = w * h - s ∧ x3' = nI s ∧ x2' = nI (orF (nb1 w h) s set)) (nI a) (nI s) := by
      intro a ha
      unfold bk_X11_besides_62
      intro y4 e4
      exact ⟨w * h - (s + 1), by omega, s + 1, q, rfl, by rw [e4]; exact nI_1 s, by rw [ha]⟩
    refine ⟨fun m a z => ∃ d, d ≤ 4 ∧ m = 4 - d ∧ z = nI d ∧ a = nI (orF (nb1 w h) s set ||| (if set.testBit s then pnb w h s d else 0)), ⟨4, 0, by decide, rfl, rfl, by simp [pnb]⟩, ?_⟩
    rintro m a z ⟨d, hd, rfl, rfl, rfl⟩
    unfold bd_X11_besides_15
    refine pk_le 4 d (fun q2 => ?_) (fun q2 => ?_) rfl rfl
    · have : d = 4 := by omega
      subst this
      refine done _ ?_
      rw [pnb_4, orF]
    · have hb := z_bit1 (a := set) (k := s) hs (by omega)
      refine ⟨fun c => ?_, fun c => ?_⟩
      · have hf : ¬ set.testBit s = true := fun z => c (hb.mpr z)
        refine done _ ?_
        rw [orF, if_neg hf, if_neg hf]
      · have ht := hb.mp c
        rw [if_pos ht]
        have step : ∀ s0 : Nat, s0 = bitO (nbr w h s d) → bk_X11_besides_54 Q (fun x2' x3' => ∃ n', n' < w * h - s ∧ ∃ s, s ≤ w * h ∧ n' = w * h - s ∧ x3' = nI s ∧ x2' = nI (orF (nb1 w h) s set)) (fun x2' x4' => ∃ n', n' < 4 - d ∧ ∃ d, d ≤ 4 ∧ n' = 4 - d ∧ x4' = nI d ∧ x2' = nI (orF (nb1 w h) s set ||| (if set.testBit s then pnb w h s d else 0))) (nI d) (nI s0) (nI (orF (nb1 w h) s set ||| pnb w h s d)) := by
          intro s0 h0
          unfold bk_X11_besides_54
          intro y8 e8 y9 e9
          refine ⟨4 - (d + 1), by omega, d + 1, q2, rfl, by rw [e9]; exact nI_1 d, ?_⟩
          rw [e8, z_or, if_pos ht, h0, pnb, Nat.or_assoc]
        refine s_besideOf k q q2 ?_
        cases hnb : nbr w h s d with
        | none =>
          refine ⟨fun z => absurd rfl z, fun _ => ?_⟩
          exact step 0 (by rw [hnb]; rfl)
        | some t =>
          have htl := nbr_lt k q q2 hnb
          refine ⟨fun _ => ?_, fun z => absurd z (z_m1 (by omega))⟩
          show bk_X11_besides_54 Q _ _ (nI d) (1 <<< (nI t &&& 31)) _
          rw [z_shl1 t (by omega)]
          exact step (2 ^ t) (by rw [hnb]; rfl)
theorem s_yardsOf {set : Nat} {sq : Nat → Nat} {gk : Nat → Int32} {Q : Int32 → Prop} (k : okS w h) (hs : set < 2 ^ 31) (hgk : ∀ s, s < w * h → gk s = nI (sq s) ∧ sq s ≤ 11) (hQ : Q (nI (sumF (yd sq) (w * h) set))) : wp_X11_yardsOf (nI set) (nI w) (nI h) gk Q := by
  have hn := k.2.2
  unfold wp_X11_yardsOf lp_X11_yardsOf_4
  refine ⟨fun m a z => ∃ s, s ≤ w * h ∧ m = w * h - s ∧ z = nI s ∧ a = nI (sumF (yd sq) s set), ⟨w * h, 0, by omega, rfl, rfl, rfl⟩, ?_⟩
  rintro m a z ⟨s, hsn, rfl, rfl, rfl⟩
  unfold bd_X11_yardsOf_4
  refine s_squares (pk_le (w * h) s (fun q => ?_) (fun q => ?_) rfl rfl)
  · have : s = w * h := by omega
    rw [this]
    exact hQ
  · have done : ∀ s0 : Nat, s0 = (if set.testBit s then yd sq s else 0) → bk_X11_yardsOf_43 Q (fun x2' x3' => ∃ n', n' < w * h - s ∧ ∃ s, s ≤ w * h ∧ n' = w * h - s ∧ x3' = nI s ∧ x2' = nI (sumF (yd sq) s set)) (nI s) (nI s0) (nI (sumF (yd sq) s set)) := by
      intro s0 h0
      unfold bk_X11_yardsOf_43
      intro y4 e4 y5 e5
      exact ⟨w * h - (s + 1), by omega, s + 1, q, rfl, by rw [e5]; exact nI_1 s, by rw [e4, nI_add, h0]; rfl⟩
    have hb := z_bit1 (a := set) (k := s) hs (by omega)
    have c1 : (nI s).toNatClampNeg = s := z_cl (by omega)
    refine ⟨fun c => ?_, fun c => ⟨pk_in s 10 (by omega), ?_⟩⟩
    · exact done 0 (by rw [if_neg (fun z => c (hb.mpr z))])
    · rw [c1, (hgk s q).1]
      have h11 := (hgk s q).2
      refine pk_le 10 (sq s) (fun q2 => ?_) (fun q2 => ⟨pk_in s 10 (by omega), ?_⟩) rfl rfl
      · exact done 0 (by rw [if_pos (hb.mp c), yd, if_neg (by omega)])
      · exact done (sq s) (by rw [if_pos (hb.mp c), yd, if_pos q2])
theorem s_rich {sq : Nat → Nat} {gk : Nat → Int32} {Q : Int32 → Prop} (k : okS w h) (hgk : ∀ s, s < w * h → gk s = nI (sq s) ∧ sq s ≤ 11) (hQ : Q (nI (mk (pRich sq) (w * h)))) : wp_X11_rich (nI w) (nI h) gk Q := by
  have hn := k.2.2
  unfold wp_X11_rich lp_X11_rich_4
  refine ⟨fun m a z => ∃ s, s ≤ w * h ∧ m = w * h - s ∧ z = nI s ∧ a = nI (mk (pRich sq) s), ⟨w * h, 0, by omega, rfl, rfl, rfl⟩, ?_⟩
  rintro m a z ⟨s, hsn, rfl, rfl, rfl⟩
  unfold bd_X11_rich_4
  refine s_squares (pk_le (w * h) s (fun q => ?_) (fun q => ⟨pk_in s 10 (by omega), ?_⟩) rfl rfl)
  · have : s = w * h := by omega
    rw [this]
    exact hQ
  · have c1 : (nI s).toNatClampNeg = s := z_cl (by omega)
    have h11 := (hgk s q).2
    have done : ∀ s0 : Nat, s0 = (if pRich sq s then 2 ^ s else 0) → bk_X11_rich_35 Q (fun x1' x2' => ∃ n', n' < w * h - s ∧ ∃ s, s ≤ w * h ∧ n' = w * h - s ∧ x2' = nI s ∧ x1' = nI (mk (pRich sq) s)) (nI s) (nI s0) (nI (mk (pRich sq) s)) := by
      intro s0 h0
      unfold bk_X11_rich_35
      intro y5 e5 y6 e6
      exact ⟨w * h - (s + 1), by omega, s + 1, q, rfl, by rw [e6]; exact nI_1 s, by rw [e5, z_or, h0]; rfl⟩
    rw [c1, (hgk s q).1]
    refine s_in ?_
    have e1 : inI (nI (sq s)) 1 9 = if 1 ≤ sq s ∧ sq s ≤ 9 then 1 else 0 := inI_nat (lo := 1) (hi := 9) (by omega) (by decide) (by decide)
    rw [e1]
    by_cases hr : 1 ≤ sq s ∧ sq s ≤ 9
    · rw [if_pos hr]
      refine ⟨fun z => absurd z (by decide), fun _ => ?_⟩
      rw [z_shl1 s (by omega)]
      exact done (2 ^ s) (by rw [if_pos (by simp [pRich]; omega)])
    · rw [if_neg hr]
      refine ⟨fun _ => ?_, fun z => absurd rfl z⟩
      exact done 0 (by rw [if_neg (by simp [pRich]; omega)])
end MF1
