section JUDGE3
variable {w h : Nat}
theorem s_mwrong {H re n : Nat} {sq : Nat → Nat} {wl : List Nat} {ro : Nat → Nat} {hu fz cm : Int32} {gk am arr : Nat → Int32} {Q : Int32 → Prop} (k : okS w h) (hgk : ∀ s, s < w * h → gk s = nI (sq s) ∧ sq s ≤ 11) (hw : RW wl cm am) (hr : re < 100) (hn : n < 20) (ha : ∀ j, j ≤ n → arr j = nI (ro j) ∧ ro j < 2 ^ (w * h)) (hQ : Q (rsn w h H hu fz re sq wl ro n)) : wp_X11_wrongOf (nI n) (nI w) (nI h) (lN H) hu cm (nI re) fz gk am arr Q := by
  have hp := pow10 k
  have hl := (ha n (Nat.le_refl n)).2
  have hi := pk_in n 20 hn
  unfold wp_X11_wrongOf
  rw [z_cl (show n < 2 ^ 31 by omega), (ha n (Nat.le_refl n)).1]
  refine ⟨hi, s_misFold k hl hgk ?_⟩
  unfold rsn at hQ
  by_cases hf : isFd w h (mk (pBar sq) (w * h)) (ro n) = true
  · rw [if_pos hf] at hQ ⊢
    refine ⟨fun _ => ⟨hi, s_edgesOf k hl hgk ?_⟩, fun z => absurd z (by decide)⟩
    rw [edM_nds k hl hf]
    refine s_bits (nds_lt k _ hl) ?_
    by_cases hh : nI (pc (nds w h (H ||| pe w h sq (w * h)) (ro n))) ≤ hu
    · rw [if_pos hh] at hQ
      refine ⟨fun _ => ⟨hi, s_yardsOf k (by omega) hgk (s_mwant (by omega) hw ?_)⟩, fun z => absurd hh z⟩
      by_cases hy : nI (wantN wl n) ≤ nI (sumF (yd sq) (w * h) (ro n))
      · rw [if_pos hy] at hQ
        refine ⟨fun _ => ?_, fun z => absurd hy z⟩
        by_cases h0 : n = 0
        · rw [if_pos h0] at hQ
          refine ⟨fun z => absurd (by rw [h0]; rfl) z, fun _ => hQ⟩
        · rw [if_neg h0] at hQ
          refine ⟨fun _ => ?_, fun z => absurd z (nI_ne0 (by omega) (by omega))⟩
          have hl8 := (ha (n - 1) (by omega)).2
          have e1 : nI n - 1 = nI (n - 1) := z_sub (a := n) (b := 1) (by omega)
          have hi8 := pk_in (n - 1) 20 (by omega)
          rw [e1, z_cl (show n - 1 < 2 ^ 31 by omega), (ha (n - 1) (by omega)).1]
          by_cases hz : (fz >>> (nI n &&& 31)) &&& 1 = 1
          · rw [if_pos hz] at hQ
            refine ⟨fun z => absurd hz z, fun _ => ⟨hi, hi8, fun z => ?_, fun z => ?_⟩⟩
            · rw [if_neg (fun y => z (by rw [y]))] at hQ
              exact hQ
            · rw [if_pos (z_inj (by omega) (by omega) z)] at hQ
              exact hQ
          · rw [if_neg hz] at hQ
            refine ⟨fun _ => ⟨hi8, fun y11 e11 => ?_⟩, fun z => absurd z hz⟩
            subst e11
            refine ⟨hi, fun z => ?_, fun z => ⟨hi, ?_⟩⟩
            · have e2 := z_inj (by omega) (by omega) z
              rw [← e2, if_pos (tch_self (ro n))] at hQ
              exact hQ
            · have hal : andn (ro (n - 1)) (ro n) < 2 ^ (w * h) := Nat.lt_of_le_of_lt (andn_le _ _) hl8
              rw [z_andn]
              refine s_besides k (by omega) ⟨hi, ?_⟩
              rw [z_and, z_andn]
              by_cases ht : andn (bes w h (andn (ro (n - 1)) (ro n)) &&& ro n) (ro (n - 1)) = 0
              · rw [if_pos ht] at hQ
                rw [ht]
                exact ⟨fun z => absurd rfl z, fun _ => hQ⟩
              · rw [if_neg ht] at hQ
                have hb : andn (bes w h (andn (ro (n - 1)) (ro n)) &&& ro n) (ro (n - 1)) < 2 ^ 31 := Nat.lt_of_le_of_lt (Nat.le_trans (andn_le _ _) Nat.and_le_right) (by omega)
                refine ⟨fun _ => s_mfresh (f := ro) hn hr (fun j hj => ⟨(ha j hj).1, by have := (ha j hj).2; omega⟩) ?_, fun z => absurd z (nI_ne0 (Nat.pos_of_ne_zero ht) hb)⟩
                by_cases hfr : frF ro n (n - fr0 re n) (fr0 re n) = true
                · rw [if_pos hfr] at hQ ⊢
                  exact ⟨fun z => absurd z (by decide), fun _ => hQ⟩
                · rw [if_neg hfr] at hQ ⊢
                  exact ⟨fun _ => hQ, fun z => absurd rfl z⟩
      · rw [if_neg hy] at hQ
        exact ⟨fun z => absurd z hy, fun _ => hQ⟩
    · rw [if_neg hh] at hQ
      exact ⟨fun z => absurd z hh, fun _ => hQ⟩
  · rw [if_neg hf] at hQ ⊢
    exact ⟨fun z => absurd rfl z, fun _ => hQ⟩
def fbF (r : Nat → Int32) : Nat → Nat → Int32 × Int32
  | 0, _ => (-1, -1)
  | d + 1, i => if r i = -1 then fbF r d (i + 1) else (nI i, r i)
theorem fbF_or (r : Nat → Int32) : ∀ d i, fbF r d i = (-1, -1) ∨ ∃ j, i ≤ j ∧ j < i + d ∧ fbF r d i = (nI j, r j) ∧ ¬ r j = -1
  | 0, i => Or.inl rfl
  | d + 1, i => by
    by_cases e : r i = -1
    · rw [fbF, if_pos e]
      rcases fbF_or r d (i + 1) with q | ⟨j, h1, h2, h3⟩
      · exact Or.inl q
      · exact Or.inr ⟨j, by omega, by omega, h3⟩
    · rw [fbF, if_neg e]
      exact Or.inr ⟨i, by omega, by omega, rfl, e⟩
theorem s_cfirst {H re : Nat} {sq : Nat → Nat} {wl ro : List Nat} {al wa mo hu fz cc nn : Int32} {fn fs fy fb ac arr : Nat → Int32} {Q : Int32 → Prop} (k : okS w h) (hT : TabOK w h H sq false al wa mo fn fs fy fb) (hw : RW wl cc ac) (hr : re < 100) (hR : RR (2 ^ (w * h)) ro nn arr) (hQ : Q (fbF (rsn w h H hu fz re sq wl (fun j => ro.getD j 0)) ro.length 0).1) : wp_X2_firstBad nn arr hu cc (nI re) fz ac fs fy fb Q := by
  obtain ⟨rfl, r2, r3⟩ := hR
  unfold wp_X2_firstBad lp_X2_firstBad_2
  refine ⟨fun m z => ∃ j, j ≤ ro.length ∧ m = ro.length - j ∧ z = nI j ∧ Q (fbF (rsn w h H hu fz re sq wl (fun j => ro.getD j 0)) (ro.length - j) j).1, ⟨ro.length, 0, by omega, rfl, rfl, hQ⟩, ?_⟩
  rintro m z ⟨j, hj, rfl, rfl, hq⟩
  unfold bd_X2_firstBad_2
  refine pk_le ro.length j (fun q => ?_) (fun q => ?_) rfl rfl
  · rw [show ro.length - j = 0 by omega] at hq
    exact hq
  · rw [show ro.length - j = (ro.length - (j + 1)) + 1 by omega, fbF] at hq
    refine s_creason (ro := fun j => ro.getD j 0) k hT hw hr (by omega) (fun i hi => r3 i (by omega)) ?_
    refine ⟨fun z y4 e4 => ⟨ro.length - (j + 1), by omega, j + 1, by omega, rfl, ?_, ?_⟩, fun z => ?_⟩
    · rw [e4, nI_1]
    · rw [if_pos z] at hq
      exact hq
    · rw [if_neg z] at hq
      exact hq
theorem s_mjudged {H re : Nat} {sq : Nat → Nat} {wl ro : List Nat} {hu fz cm nn : Int32} {gk am arr : Nat → Int32} {Q : Int32 → Int32 → Prop} (k : okS w h) (hgk : ∀ s, s < w * h → gk s = nI (sq s) ∧ sq s ≤ 11) (hw : RW wl cm am) (hr : re < 100) (hR : RR (2 ^ (w * h)) ro nn arr) (hQ : Q (fbF (rsn w h H hu fz re sq wl (fun j => ro.getD j 0)) ro.length 0).1 (fbF (rsn w h H hu fz re sq wl (fun j => ro.getD j 0)) ro.length 0).2) : wp_X11_judged (nI w) (nI h) (lN H) hu cm (nI re) fz nn gk am arr Q := by
  obtain ⟨rfl, r2, r3⟩ := hR
  unfold wp_X11_judged lp_X11_judged_7
  refine ⟨fun m y z => ∃ j, j ≤ ro.length ∧ m = ro.length - j ∧ y = -1 ∧ z = nI j ∧ Q (fbF (rsn w h H hu fz re sq wl (fun j => ro.getD j 0)) (ro.length - j) j).1 (fbF (rsn w h H hu fz re sq wl (fun j => ro.getD j 0)) (ro.length - j) j).2, ⟨ro.length, 0, by omega, rfl, rfl, rfl, hQ⟩, ?_⟩
  rintro m y z ⟨j, hj, rfl, rfl, rfl, hq⟩
  unfold bd_X11_judged_7
  refine pk_le ro.length j (fun q => ?_) (fun q => ?_) rfl rfl
  · rw [show ro.length - j = 0 by omega] at hq
    exact hq
  · rw [show ro.length - j = (ro.length - (j + 1)) + 1 by omega, fbF] at hq
    refine s_mwrong (ro := fun j => ro.getD j 0) k hgk hw hr (by omega) (fun i hi => r3 i (by omega)) ?_
    refine ⟨fun z y4 e4 => ⟨ro.length - (j + 1), by omega, j + 1, by omega, rfl, z, ?_, ?_⟩, fun z => ?_⟩
    · rw [e4, nI_1]
    · rw [if_pos z] at hq
      exact hq
    · rw [if_neg z] at hq
      exact hq
theorem op_judge {H re : Nat} {sq : Nat → Nat} {wl ro : List Nat} {al wa mo hu fz cc cm nc nm : Int32} {fn fs fy fb ac am arc arm gk : Nat → Int32} {K : Int32 → Prop} (k : okS w h) (hT : TabOK w h H sq false al wa mo fn fs fy fb) (hgk : ∀ s, s < w * h → gk s = nI (sq s) ∧ sq s ≤ 11) (hc : RW wl cc ac) (hm : RW wl cm am) (hr : re < 100) (hRc : RR (2 ^ (w * h)) ro nc arc) (hRm : RR (2 ^ (w * h)) ro nm arm) (hK : ∀ v, K v) : wp_X10_judge hu cc (nI re) fz ac fs fy fb nc arc (fun r => wp_X11_judge (nI w) (nI h) (lN H) hu cm (nI re) fz nm gk am arm (fun r' u' => EqK r r' (K u'))) := by
  unfold wp_X10_judge wp_X11_judge
  exact s_cfirst k hT hc hr hRc (s_mjudged k hgk hm hr hRm (eqk _ (hK _)))
theorem op_why {H re : Nat} {sq : Nat → Nat} {wl ro : List Nat} {al wa mo hu fz cc cm nc nm : Int32} {fn fs fy fb ac am arc arm gk : Nat → Int32} {K : Int32 → Prop} (k : okS w h) (hT : TabOK w h H sq false al wa mo fn fs fy fb) (hgk : ∀ s, s < w * h → gk s = nI (sq s) ∧ sq s ≤ 11) (hc : RW wl cc ac) (hm : RW wl cm am) (hr : re < 100) (hRc : RR (2 ^ (w * h)) ro nc arc) (hRm : RR (2 ^ (w * h)) ro nm arm) (hK : ∀ v, K v) : wp_X10_why hu cc (nI re) fz ac fs fy fb nc arc (fun r => wp_X11_why (nI w) (nI h) (lN H) hu cm (nI re) fz nm gk am arm (fun r' u' => EqK r r' (K u'))) := by
  unfold wp_X10_why wp_X11_why
  have hR2 := hRc.2
  refine s_cfirst k hT hc hr hRc ?_
  rcases fbF_or (rsn w h H hu fz re sq wl (fun j => ro.getD j 0)) ro.length 0 with q | ⟨j, h1, h2, h3, h4⟩
  · refine ⟨fun z => absurd (by rw [q]) z, fun _ => s_mjudged k hgk hm hr hRm ?_⟩
    rw [q]
    exact ⟨fun z => absurd rfl z, fun _ => eqk _ (hK _)⟩
  · have hj : ¬ nI j = -1 := z_m1 (by omega)
    rw [h3]
    refine ⟨fun _ => ?_, fun z => absurd z hj⟩
    refine s_creason (ro := fun j => ro.getD j 0) k hT hc hr (by omega) (fun i hi => hR2.2 i (by omega)) (s_mjudged k hgk hm hr hRm ?_)
    rw [h3]
    exact ⟨fun _ => eqk _ (hK _), fun z => absurd z hj⟩
end JUDGE3
