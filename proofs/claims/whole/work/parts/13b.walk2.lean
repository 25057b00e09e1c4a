section WALK2
variable {w h : Nat}
def stX2 (w h i : Nat) : Nat := w * (if i / h % 2 = 0 then i % h else h - 1 - i % h) + i / h
def stR (w h : Nat) : Nat → Nat → List Nat → List Nat
  | 0, _, l => l
  | d + 1, i, l => stR w h d (i + 1) (l ++ [stX2 w h i])
theorem s_st45 {i x y : Nat} {l : List Nat} {arr : Nat → Int32} {Q : ((Nat → Int32)) → Prop} {B2 : (Nat → Int32) → Int32 → Prop} (hi : i < 10) (hl : l.length = i) (hk : LA 1024 l arr) (hb : w * y + x < 1024) (hB : ∀ arr', LA 1024 (l ++ [w * y + x]) arr' → B2 arr' (nI (i + 1))) : bk_X11_layStrip_45 Q B2 (nI i) (nI x) (nI w) arr (nI y) := by
  unfold bk_X11_layStrip_45
  intro y5 e5
  refine ⟨pk_in i 10 hi, fun f6 e6 y7 e7 => ?_⟩
  rw [e7, nI_1]
  rw [z_mul, nI_add] at e5
  refine hB _ ?_
  rw [e6, e5, z_cl (by omega), ← hl]
  exact LA_push hk hb
theorem s_mstrip {arr : Nat → Int32} {Q : ((Nat → Int32)) → Prop} (k : okS w h) (hQ : ∀ arr', LA 1024 (stR w h (w * h) 0 []) arr' → Q arr') : wp_X11_layStrip (nI w) (nI h) arr Q := by
  have hk1 := k.lt
  have hk2 := k.2.2
  have hk3 := k.2.1
  unfold wp_X11_layStrip lp_X11_layStrip_2
  refine ⟨fun m arr z => ∃ i l, i ≤ w * h ∧ m = w * h - i ∧ z = nI i ∧ l.length = i ∧ LA 1024 l arr ∧ stR w h (w * h - i) i l = stR w h (w * h) 0 [], ⟨w * h, 0, [], by omega, rfl, rfl, rfl, fun j hj => absurd hj (Nat.not_lt_zero j), rfl⟩, ?_⟩
  rintro m arr z ⟨i, l, hi, rfl, rfl, hl, hk, hL⟩
  unfold bd_X11_layStrip_2
  refine s_squares ?_
  refine pk_le (w * h) i (fun q => ?_) (fun q => ?_) rfl rfl
  · rw [show w * h - i = 0 by omega, stR] at hL
    refine hQ _ ?_
    rw [← hL]
    exact hk
  · rw [show w * h - i = (w * h - (i + 1)) + 1 by omega, stR] at hL
    have h0 : ¬ nI h = 0 := nI_ne0 hk3 (by omega)
    refine ⟨h0, fun y3 e3 => ?_⟩
    rw [pk_div (by omega) hk3 (by omega)] at e3
    subst e3
    have hx : i / h < w := Nat.div_lt_of_lt_mul (by rw [Nat.mul_comm]; exact q)
    have hm : i % h < h := Nat.mod_lt _ hk3
    have hrem : nI (i / h) - nI (i / h) / 2 * 2 = nI (i / h % 2) := z_rem (a := i / h) (d := 2) (by omega) (by omega) (by omega)
    rw [hrem, z_rem (by omega) hk3 (by omega)]
    have e1 : nI h - 1 - nI (i % h) = nI (h - 1 - i % h) := by
      have : nI h - nI 1 = nI (h - 1) := z_sub (by omega)
      rw [show (1 : Int32) = nI 1 from rfl, this, z_sub (by omega)]
    rw [e1]
    have hl1 := xy_lt hx hm
    have hl2 := xy_lt hx (show h - 1 - i % h < h by omega)
    unfold stX2 at hL
    by_cases hz : i / h % 2 = 0
    · rw [if_pos hz] at hL
      rw [hz]
      exact ⟨fun z => absurd rfl z, fun _ => ⟨h0, s_st45 (by omega) hl hk (by omega) (fun arr' hk' => ⟨w * h - (i + 1), by omega, i + 1, _, by omega, rfl, rfl, by rw [List.length_append, hl]; rfl, hk', hL⟩)⟩⟩
    · rw [if_neg hz] at hL
      exact ⟨fun _ => ⟨h0, s_st45 (by omega) hl hk (by omega) (fun arr' hk' => ⟨w * h - (i + 1), by omega, i + 1, _, by omega, rfl, rfl, by rw [List.length_append, hl]; rfl, hk', hL⟩)⟩, fun z => absurd z (nI_ne0 (by omega) (by omega))⟩
def dirT (t : Nat) : Nat := if t = 0 then 1 else if t = 1 then 3 else if t = 2 then 0 else 2
theorem dirT_lt (t : Nat) : dirT t < 4 := by
  unfold dirT
  split
  · decide
  · split
    · decide
    · split <;> decide
def snQ (w h had : Nat) : Nat → Nat → Nat → Nat × Nat
  | 0, s, t => (s, t)
  | q + 1, s, t => if (nbr w h s (dirT t)).isNone || hasO had (nbr w h s (dirT t)) then snQ w h had q s ((t + 1) % 4) else ((nbr w h s (dirT t)).getD 0, t)
def snR (w h : Nat) : Nat → Nat → Nat → Nat → List Nat → List Nat
  | 0, _, _, _, l => l
  | d + 1, had, s, t, l => snR w h d (had ||| 2 ^ s) (snQ w h (had ||| 2 ^ s) 2 s t).1 (snQ w h (had ||| 2 ^ s) 2 s t).2 (l ++ [s])
theorem s_sn68 {had s t : Nat} {x5 dI : Int32} {Q : ((Nat → Int32)) → Prop} {B9 : (Nat → Int32) → Int32 → Int32 → Int32 → Int32 → Prop} {B35 : Int32 → Int32 → Int32 → Prop} (k : okS w h) (hs : s < w * h) (ht : t < 4) (hd : dI = nI (dirT t)) (hh : had < 2 ^ (w * h)) (hgo : ∀ to, to < w * h → ((nbr w h s (dirT t)).isNone || hasO had (nbr w h s (dirT t))) = false → (nbr w h s (dirT t)).getD 0 = to → B35 (nI to) (nI t) 3) (htu : ((nbr w h s (dirT t)).isNone || hasO had (nbr w h s (dirT t))) = true → B35 (nI s) (nI ((t + 1) % 4)) (x5 + 1)) : bk_X11_laySnail_68 Q B9 B35 (nI had) (nI s) (nI t) x5 (nI w) (nI h) dI := by
  have hp := pow10 k
  have hn := n10 k
  subst hd
  unfold bk_X11_laySnail_68
  refine s_besideOf k hs (dirT_lt t) ?_
  have h103 : ((nbr w h s (dirT t)).isNone || hasO had (nbr w h s (dirT t))) = true → bk_X11_laySnail_103 Q B9 B35 (nI s) (nI t) x5 := by
    intro q
    unfold bk_X11_laySnail_103 bk_X11_laySnail_109
    intro y12 e12 y13 e13
    rw [nI_1] at e12
    have : nI (t + 1) - nI (t + 1) / 4 * 4 = nI ((t + 1) % 4) := z_rem (a := t + 1) (d := 4) (by omega) (by omega) (by omega)
    rw [this] at e12
    rw [e12, e13]
    exact htu q
  cases e : nbr w h s (dirT t) with
  | none =>
    rw [e] at h103
    exact ⟨fun _ => h103 rfl, fun z => absurd rfl z⟩
  | some to =>
    have hto := nbr_lt k hs (dirT_lt t) e
    rw [e] at h103 hgo
    refine ⟨fun z => absurd z (z_m1 (by omega)), fun _ => ?_⟩
    show (¬ (nI had >>> (nI to &&& 31)) &&& 1 = 0 → _) ∧ ((nI had >>> (nI to &&& 31)) &&& 1 = 0 → bk_X11_laySnail_109 Q B9 B35 (nI to) (nI t) 2)
    rw [z_bit (by omega) (by omega)]
    cases eb : had.testBit to with
    | true => exact ⟨fun _ => h103 (by simp [hasO, eb]), fun z => absurd z (by decide)⟩
    | false =>
      refine ⟨fun z => absurd rfl z, fun _ => ?_⟩
      unfold bk_X11_laySnail_109
      intro y13 e13
      rw [e13]
      exact hgo to hto (by simp [hasO, eb]) rfl
theorem s_snIn {had s t : Nat} {x4 : Int32} {arr : Nat → Int32} {Q : ((Nat → Int32)) → Prop} {B9 : (Nat → Int32) → Int32 → Int32 → Int32 → Int32 → Prop} (k : okS w h) (hs : s < w * h) (ht : t < 4) (hh : had < 2 ^ (w * h)) (hB : ∀ s' t', s' < w * h → t' < 4 → snQ w h had 2 s t = (s', t') → B9 arr (nI had) (nI s') (nI t') (x4 + 1)) : lp_X11_laySnail_35 Q B9 (nI had) x4 (nI w) (nI h) arr (nI s) (nI t) 0 := by
  obtain ⟨R, hR⟩ : ∃ R, R = snQ w h had 2 s t := ⟨_, rfl⟩
  rw [← hR] at hB
  unfold lp_X11_laySnail_35
  refine ⟨fun m x2 x3 x5 => ∃ s t, s < w * h ∧ t < 4 ∧ x2 = nI s ∧ x3 = nI t ∧ ((x5 = 0 ∧ m = 3 ∧ snQ w h had 2 s t = R) ∨ (x5 = 1 ∧ m = 2 ∧ snQ w h had 1 s t = R) ∨ ((x5 = 2 ∨ x5 = 3) ∧ m = 1 ∧ (s, t) = R)), ⟨3, s, t, hs, ht, rfl, rfl, Or.inl ⟨rfl, rfl, hR.symm⟩⟩, ?_⟩
  clear hR hs ht
  rintro m x2 x3 x5 ⟨s, t, hs, ht, rfl, rfl, hc⟩
  unfold bd_X11_laySnail_35
  have step : ∀ (q m' : Nat) (B : Int32 → Int32 → Int32 → Prop), snQ w h had (q + 1) s t = R → (∀ s' t', s' < w * h → t' < 4 → (s', t') = R → B (nI s') (nI t') 3) → (∀ t', t' < 4 → snQ w h had q s t' = R → B (nI s) (nI t') (x5 + 1)) → ((¬ nI t = 0 → ((¬ nI t = 1 → ((¬ nI t = 2 → bk_X11_laySnail_68 Q B9 B (nI had) (nI s) (nI t) x5 (nI w) (nI h) 2) ∧ (nI t = 2 → bk_X11_laySnail_68 Q B9 B (nI had) (nI s) (nI t) x5 (nI w) (nI h) 0))) ∧ (nI t = 1 → bk_X11_laySnail_68 Q B9 B (nI had) (nI s) (nI t) x5 (nI w) (nI h) 3))) ∧ (nI t = 0 → bk_X11_laySnail_68 Q B9 B (nI had) (nI s) (nI t) x5 (nI w) (nI h) 1)) := by
    intro q m' B hq h1 h2
    rw [snQ] at hq
    have key : ∀ dI, dI = nI (dirT t) → bk_X11_laySnail_68 Q B9 B (nI had) (nI s) (nI t) x5 (nI w) (nI h) dI := by
      intro dI hdI
      refine s_sn68 k hs ht hdI hh (fun to hto e1 e2 => ?_) (fun e1 => ?_)
      · rw [e1, e2] at hq
        exact h1 to t hto ht hq
      · rw [e1] at hq
        exact h2 _ (Nat.mod_lt _ (by decide)) hq
    rcases (show t = 0 ∨ t = 1 ∨ t = 2 ∨ t = 3 by omega) with e | e | e | e
    · subst e
      exact ⟨fun z => absurd rfl z, fun _ => key _ rfl⟩
    · subst e
      exact ⟨fun _ => ⟨fun z => absurd rfl z, fun _ => key _ rfl⟩, fun z => absurd z (by decide)⟩
    · subst e
      exact ⟨fun _ => ⟨fun _ => ⟨fun z => absurd rfl z, fun _ => key _ rfl⟩, fun z => absurd z (by decide)⟩, fun z => absurd z (by decide)⟩
    · subst e
      exact ⟨fun _ => ⟨fun _ => ⟨fun _ => key _ rfl, fun z => absurd z (by decide)⟩, fun z => absurd z (by decide)⟩, fun z => absurd z (by decide)⟩
  rcases hc with ⟨rfl, rfl, hq⟩ | ⟨rfl, rfl, hq⟩ | ⟨e, rfl, hq⟩
  · refine ⟨fun z => absurd z (by decide), fun _ => step 1 0 _ hq (fun s' t' a b c => ⟨1, by omega, s', t', a, b, rfl, rfl, Or.inr (Or.inr ⟨Or.inr rfl, rfl, c⟩)⟩) (fun t' a b => ⟨2, by omega, s, t', hs, a, rfl, rfl, Or.inr (Or.inl ⟨rfl, rfl, b⟩)⟩)⟩
  · refine ⟨fun z => absurd z (by decide), fun _ => step 0 0 _ hq (fun s' t' a b c => ⟨1, by omega, s', t', a, b, rfl, rfl, Or.inr (Or.inr ⟨Or.inr rfl, rfl, c⟩)⟩) (fun t' a b => ⟨1, by omega, s, t', hs, a, rfl, rfl, Or.inr (Or.inr ⟨Or.inl rfl, rfl, b⟩)⟩)⟩
  · refine ⟨fun _ y6 e6 => ?_, fun z => absurd ?_ z⟩
    · rw [e6]
      exact hB s t hs ht hq.symm
    · rcases e with rfl | rfl <;> decide
theorem s_msnail {arr : Nat → Int32} {Q : ((Nat → Int32)) → Prop} (k : okS w h) (hQ : ∀ arr', LA 1024 (snR w h (w * h) 0 0 0 []) arr' → Q arr') : wp_X11_laySnail (nI w) (nI h) arr Q := by
  have hk1 := k.lt
  have hk2 := k.2.2
  have hpos : 0 < w * h := Nat.mul_pos k.1 k.2.1
  have hp := pow10 k
  unfold wp_X11_laySnail lp_X11_laySnail_9
  refine ⟨fun m arr x1 x2 x3 x4 => ∃ i l had s t, i ≤ w * h ∧ m = w * h - i ∧ x4 = nI i ∧ l.length = i ∧ LA 1024 l arr ∧ x1 = nI had ∧ had < 2 ^ (w * h) ∧ x2 = nI s ∧ s < w * h ∧ x3 = nI t ∧ t < 4 ∧ snR w h (w * h - i) had s t l = snR w h (w * h) 0 0 0 [], ⟨w * h, 0, [], 0, 0, 0, by omega, rfl, rfl, rfl, fun j hj => absurd hj (Nat.not_lt_zero j), rfl, Nat.two_pow_pos _, rfl, hpos, rfl, by decide, rfl⟩, ?_⟩
  rintro m arr x1 x2 x3 x4 ⟨i, l, had, s, t, hi, rfl, rfl, hl, hk, rfl, hh, rfl, hs, rfl, ht, hL⟩
  unfold bd_X11_laySnail_9
  refine s_squares ?_
  refine pk_le (w * h) i (fun q => ?_) (fun q => ?_) rfl rfl
  · rw [show w * h - i = 0 by omega, snR] at hL
    refine hQ _ ?_
    rw [← hL]
    exact hk
  · rw [show w * h - i = (w * h - (i + 1)) + 1 by omega, snR] at hL
    refine ⟨pk_in i 10 (by omega), fun f3 e3 y4 e4 => ?_⟩
    rw [z_shl1 s (by omega), z_or] at e4
    subst e4
    have hh' : had ||| 2 ^ s < 2 ^ (w * h) := Nat.or_lt_two_pow hh (Nat.pow_lt_pow_right (by decide) hs)
    refine s_snIn k hs ht hh' (fun s' t' hs' ht' e => ?_)
    rw [e] at hL
    refine ⟨w * h - (i + 1), by omega, i + 1, l ++ [s], _, s', t', by omega, rfl, by rw [nI_1], by rw [List.length_append, hl]; rfl, ?_, rfl, hh', rfl, hs', rfl, ht', hL⟩
    rw [e3, z_cl (by omega), ← hl]
    exact LA_push hk (by omega)
theorem geo_strip : allS (fun w h => stO w h w 0 [] == stR w h (w * h) 0 [] && (stO w h w 0 []).length == w * h && (stO w h w 0 []).all (fun x => decide (x < w * h))) = true := by decide +kernel
theorem geo_snail : allS (fun w h => sni w h 6 0 [] == snR w h (w * h) 0 0 0 [] && (sni w h 6 0 []).length == w * h && (sni w h 6 0 []).all (fun x => decide (x < w * h))) = true := by decide +kernel
def goL (w h : Nat) (p : Int32) : List Nat := if p = 0 then stO w h w 0 [] else sni w h 6 0 []
theorem goL_at (k : okS w h) (p : Int32) : (goL w h p).length = w * h ∧ (∀ j, j < w * h → (goL w h p).getD j 0 < w * h) ∧ goL w h p = if p = 0 then stR w h (w * h) 0 [] else snR w h (w * h) 0 0 0 [] := by
  have h1 := allS_at geo_strip k
  have h2 := allS_at geo_snail k
  simp only [Bool.and_eq_true, beq_iff_eq, List.all_eq_true, decide_eq_true_eq] at h1 h2
  have gen : ∀ l : List Nat, l.length = w * h → (∀ x, x ∈ l → x < w * h) → ∀ j, j < w * h → l.getD j 0 < w * h := by
    intro l hl ha j hj
    rw [List.getD_eq_getElem?_getD, List.getElem?_eq_getElem (by omega)]
    exact ha _ (List.getElem_mem _)
  unfold goL
  by_cases hp : p = 0
  · rw [if_pos hp, if_pos hp]
    exact ⟨h1.1.2, gen _ h1.1.2 h1.2, h1.1.1⟩
  · rw [if_neg hp, if_neg hp]
    exact ⟨h2.1.2, gen _ h2.1.2 h2.2, h2.1.1⟩
end WALK2
