section JUDGE2
variable {w h : Nat}
theorem z_inj {a b : Nat} (ha : a < 2 ^ 31) (hb : b < 2 ^ 31) (e : nI a = nI b) : a = b := by
  have e2 := congrArg Int32.toNatClampNeg e
  rw [z_cl ha, z_cl hb] at e2
  exact e2
def rsn (w h H : Nat) (hu fz : Int32) (re : Nat) (sq : Nat → Nat) (wl : List Nat) (ro : Nat → Nat) (n : Nat) : Int32 :=
  if isFd w h (mk (pBar sq) (w * h)) (ro n) = true then
    if nI (pc (nds w h (H ||| pe w h sq (w * h)) (ro n))) ≤ hu then
      if nI (wantN wl n) ≤ nI (sumF (yd sq) (w * h) (ro n)) then
        if n = 0 then -1
        else if (fz >>> (nI n &&& 31)) &&& 1 = 1 then (if ro n = ro (n - 1) then -1 else 3)
        else if andn (bes w h (andn (ro (n - 1)) (ro n)) &&& ro n) (ro (n - 1)) = 0 then 4
        else if frF ro n (n - fr0 re n) (fr0 re n) = true then -1 else 5
      else 2
    else 1
  else 0
theorem tab_f {H g : Nat} {sq : Nat → Nat} {al wa mo : Int32} {fn fs fy fb : Nat → Int32} (hT : TabOK w h H sq false al wa mo fn fs fy fb) (hg : g < 2 ^ (w * h)) : fn g = nI (if isFd w h (mk (pBar sq) (w * h)) g then nds w h (H ||| pe w h sq (w * h)) g else 0) ∧ (fs g = if isFd w h (mk (pBar sq) (w * h)) g then nI (pc (nds w h (H ||| pe w h sq (w * h)) g)) else -1) ∧ fy g = nI (sumF (yd sq) (w * h) g) ∧ fb g = nI (bes w h g) := hT.2.2.2 g hg
theorem s_creason {H re n : Nat} {sq : Nat → Nat} {wl : List Nat} {ro : Nat → Nat} {al wa mo hu fz cc : Int32} {fn fs fy fb ac arr : Nat → Int32} {Q : Int32 → Prop} (k : okS w h) (hT : TabOK w h H sq false al wa mo fn fs fy fb) (hw : RW wl cc ac) (hr : re < 100) (hn : n < 20) (ha : ∀ j, j ≤ n → arr j = nI (ro j) ∧ ro j < 2 ^ (w * h)) (hQ : Q (rsn w h H hu fz re sq wl ro n)) : wp_X2_reasonOf (nI n) arr hu cc (nI re) fz ac fs fy fb Q := by
  have hp := pow10 k
  have hl := (ha n (Nat.le_refl n)).2
  obtain ⟨_, tb, tc, _⟩ := tab_f hT hl
  have hi := pk_in (ro n) 1024 (by omega)
  unfold wp_X2_reasonOf
  refine ⟨pk_in n 20 hn, fun y1 e1 => ?_⟩
  rw [z_cl (by omega), (ha n (Nat.le_refl n)).1] at e1
  subst e1
  unfold wp_X3_isFold
  rw [z_cl (show ro n < 2 ^ 31 by omega), tb, tc]
  unfold rsn at hQ
  by_cases hf : isFd w h (mk (pBar sq) (w * h)) (ro n) = true
  · rw [if_pos hf] at hQ ⊢
    have hpc := pc_le (nds_lt k (H ||| pe w h sq (w * h)) hl)
    refine ⟨hi, fun z => absurd z (z_m1 (by omega)), fun _ => ⟨fun _ => ⟨hi, ?_⟩, fun z => absurd z (by decide)⟩⟩
    by_cases hh : nI (pc (nds w h (H ||| pe w h sq (w * h)) (ro n))) ≤ hu
    · rw [if_pos hh] at hQ
      refine ⟨fun _ => ⟨hi, s_cwant (by omega) hw ?_⟩, fun z => absurd hh z⟩
      by_cases hy : nI (wantN wl n) ≤ nI (sumF (yd sq) (w * h) (ro n))
      · rw [if_pos hy] at hQ
        refine ⟨fun _ => ?_, fun z => absurd hy z⟩
        by_cases h0 : n = 0
        · rw [if_pos h0] at hQ
          refine ⟨fun z => absurd (by rw [h0]; rfl) z, fun _ => hQ⟩
        · rw [if_neg h0] at hQ
          refine ⟨fun _ => ?_, fun z => absurd z (nI_ne0 (by omega) (by omega))⟩
          have hl8 := (ha (n - 1) (by omega)).2
          have e1 : nI n - 1 = nI (n - 1) := z_sub (a := n) (b := 1) (by omega)
          rw [e1, z_cl (show n - 1 < 2 ^ 31 by omega)]
          refine ⟨pk_in (n - 1) 20 (by omega), fun y8 e8 => ?_⟩
          rw [(ha (n - 1) (by omega)).1] at e8
          subst e8
          unfold wp_X4_isFrozen
          by_cases hz : (fz >>> (nI n &&& 31)) &&& 1 = 1
          · rw [if_pos hz] at hQ
            refine ⟨fun z => absurd hz z, fun _ => ⟨fun z => absurd z (by decide), fun _ => ⟨fun z => ?_, fun z => ?_⟩⟩⟩
            · rw [if_neg (fun y => z (by rw [y]))] at hQ
              exact hQ
            · rw [if_pos (z_inj (by omega) (by omega) z)] at hQ
              exact hQ
          · rw [if_neg hz] at hQ
            have hal : andn (ro n) (ro (n - 1)) < 2 ^ (w * h) := Nat.lt_of_le_of_lt (andn_le _ _) hl
            refine ⟨fun _ => ⟨fun _ => ?_, fun z => absurd rfl z⟩, fun z => absurd z hz⟩
            rw [z_andn, z_cl (show andn (ro n) (ro (n - 1)) < 2 ^ 31 by omega), (tab_f hT hal).2.2.2, z_and, z_andn]
            refine ⟨pk_in (andn (ro n) (ro (n - 1))) 1024 (by omega), ?_⟩
            by_cases ht : andn (bes w h (andn (ro n) (ro (n - 1))) &&& ro (n - 1)) (ro n) = 0
            · rw [if_pos ((tch_sym k hl8 hl).mpr ht)] at hQ
              rw [ht]
              exact ⟨fun z => absurd rfl z, fun _ => hQ⟩
            · rw [if_neg (fun y => ht ((tch_sym k hl8 hl).mp y))] at hQ
              have hb : andn (bes w h (andn (ro n) (ro (n - 1))) &&& ro (n - 1)) (ro n) < 2 ^ 31 := Nat.lt_of_le_of_lt (Nat.le_trans (andn_le _ _) Nat.and_le_right) (by omega)
              refine ⟨fun _ => s_cfresh (f := ro) hn hr (fun j hj => ⟨(ha j hj).1, by have := (ha j hj).2; omega⟩) ?_, fun z => absurd z (nI_ne0 (Nat.pos_of_ne_zero ht) hb)⟩
              by_cases hfr : frF ro n (n - fr0 re n) (fr0 re n) = true
              · rw [if_pos hfr] at hQ ⊢
                exact ⟨fun z => absurd z (by decide), fun _ => hQ⟩
              · rw [if_neg hfr] at hQ ⊢
                exact ⟨fun _ => hQ, fun z => absurd rfl z⟩
      · rw [if_neg hy] at hQ
        exact ⟨fun z => absurd z hy, fun _ => hQ⟩
    · rw [if_neg hh] at hQ
      exact ⟨fun z => absurd z hh, fun _ => hQ⟩
  · rw [if_neg hf] at hQ ⊢
    exact ⟨hi, fun _ => ⟨fun z => absurd rfl z, fun _ => hQ⟩, fun z => absurd rfl z⟩
end JUDGE2
