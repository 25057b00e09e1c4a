/-! FoldTable, from below -/
theorem s_fill {n : Nat} {v : Int32} {arr : Nat → Int32} {Q : (Nat → Int32) → Prop} (hn : n < 2 ^ 31) (hQ : ∀ a : Nat → Int32, (∀ j, a j = if j < n then v else arr j) → Q a) : wp_J7_fill_53178 n v arr Q := by
  unfold wp_J7_fill_53178
  intro y hy
  subst hy
  unfold lp_J7_fill_53178_5
  refine ⟨fun m a x => ∃ k, k ≤ n ∧ m = n - k ∧ x = nI k ∧ ∀ j, a j = if j < k then v else arr j, ⟨n, 0, by omega, by omega, rfl, fun j => by simp⟩, ?_⟩
  rintro m a x ⟨k, hk, rfl, rfl, ha⟩
  unfold bd_J7_fill_53178_5
  refine pk_le n k (fun h => ?_) (fun h => ?_) rfl rfl
  · have : k = n := by omega
    subst this
    exact hQ a ha
  · refine ⟨pk_in k n h, ?_⟩
    intro f hf y hy
    refine ⟨n - (k + 1), by omega, k + 1, by omega, rfl, by rw [hy]; exact nI_1 k, fun j => ?_⟩
    rw [hf, z_cl (by omega), z_upd, ha]
    by_cases h1 : j = k
    · simp [h1]
    · by_cases h2 : j < k
      · simp [h1, h2, show j < k + 1 by omega]
      · simp [h1, h2, show ¬ j < k + 1 by omega]
theorem xy_mod {w x y : Nat} (hx : x < w) : (w * y + x) % w = x := by
  rw [Nat.mul_add_mod]; exact Nat.mod_eq_of_lt hx
theorem xy_div {w x y : Nat} (hx : x < w) : (w * y + x) / w = y := by
  rw [Nat.mul_add_div (by omega), Nat.div_eq_of_lt hx]; omega
theorem s_edgeAt {w h x y d : Nat} {Q : Int32 → Prop} (hx : x < w) (hd : d < 4) (hQ : Q (nI (edn w h (w * y + x) d))) : wp_X4_edgeAt (nI x) (nI y) (nI d) (nI w) (nI h) Q := by
  unfold wp_X4_edgeAt
  have e1 : nI w + 1 = nI (w + 1) := nI_1 w
  have e2 : nI y + 1 = nI (y + 1) := nI_1 y
  rw [e1, e2, z_mul, z_mul, z_mul, z_mul, nI_add, nI_add, nI_add, nI_add, nI_add, nI_1]
  unfold edn at hQ
  rw [xy_mod hx, xy_div hx] at hQ
  rcases (show d = 0 ∨ d = 1 ∨ d = 2 ∨ d = 3 by omega) with rfl | rfl | rfl | rfl
  · exact ⟨fun _ => hQ, fun q => absurd q (by decide), fun q => absurd q (by decide), fun q => absurd rfl q.1⟩
  · exact ⟨fun q => absurd q (by decide), fun _ => hQ, fun q => absurd q (by decide), fun q => absurd rfl q.2.1⟩
  · exact ⟨fun q => absurd q (by decide), fun q => absurd q (by decide), fun _ => hQ, fun q => absurd rfl q.2.2⟩
  · exact ⟨fun q => absurd q (by decide), fun q => absurd q (by decide), fun q => absurd q (by decide), fun _ => hQ⟩
theorem geo_near : allS (fun w h => allB w fun x => allB h fun y => (0 ||| (if 0 < x then 2 ^ (w * y + x) / 2 else 0) ||| (if x + 1 < w then 2 ^ (w * y + x) * 2 else 0) ||| (if 0 < y then 2 ^ (w * y + x) / 2 ^ w else 0) ||| (if y + 1 < h then 2 ^ (w * y + x) * 2 ^ w else 0)) == nb1 w h (w * y + x)) = true := by decide +kernel
theorem z_shl {a k : Nat} (hk : k < 32) : nI a <<< (nI k &&& 31) = nI (a * 2 ^ k) := by
  apply b_ext
  intro i hi
  rw [b_shl k hk _ hi, z_bt _ _ hi, Nat.testBit_mul_two_pow]
  by_cases h : k ≤ i
  · simp only [h, decide_true, Bool.true_and]
    rw [z_bt _ _ (by omega)]
  · simp [h]
theorem xy_lt {w h x y : Nat} (hx : x < w) (hy : y < h) : w * y + x < w * h := by
  have : w * (y + 1) ≤ w * h := Nat.mul_le_mul_left w hy
  rw [Nat.mul_succ] at this
  omega
/-- one square's own edges and neighbours -/
theorem s_putSingle {w h x y : Nat} {f_needs f_beside : Nat → Int32} {Q : ((Nat → Int32) × (Nat → Int32)) → Prop} (k : okS w h) (hx : x < w) (hy : y < h)
    (hQ : Q (upd f_needs (2 ^ (w * y + x)) (nI (e4 w h (w * y + x))), upd f_beside (2 ^ (w * y + x)) (nI (nb1 w h (w * y + x))))) : wp_X3_putSingle (nI x) (nI y) f_needs f_beside (nI w) (nI h) Q := by
  have hs := xy_lt hx hy
  have hs10 : w * y + x < 10 := Nat.lt_of_lt_of_le hs k.2.2
  have hw := k.lt.1
  have hh := k.lt.2
  have hp : 2 ^ (w * y + x) < 1024 := Nat.pow_lt_pow_right (by decide) hs10
  unfold wp_X3_putSingle
  intro y1 h1
  rw [z_mul, nI_add, z_shl1 _ (by omega)] at h1
  subst h1
  unfold lp_X3_putSingle_18
  obtain ⟨E, hE⟩ : ∃ E : Nat → Nat, E = fun d => match d with
    | 0 => 0
    | 1 => 2 ^ edn w h (w * y + x) 0
    | 2 => 2 ^ edn w h (w * y + x) 0 ||| 2 ^ edn w h (w * y + x) 1
    | 3 => 2 ^ edn w h (w * y + x) 0 ||| 2 ^ edn w h (w * y + x) 1 ||| 2 ^ edn w h (w * y + x) 2
    | _ => e4 w h (w * y + x) := ⟨_, rfl⟩
  refine ⟨fun m a z => ∃ d, d ≤ 4 ∧ m = 4 - d ∧ z = nI d ∧ a = nI (E d), ⟨4, 0, by omega, rfl, rfl, by rw [hE]; rfl⟩, ?_⟩
  rintro m a z ⟨d, hd, rfl, rfl, rfl⟩
  unfold bd_X3_putSingle_18
  refine pk_le 4 d (fun q => ?_) (fun q => ?_) rfl rfl
  · have : d = 4 := by omega
    subst this
    refine ⟨pk_in _ _ hp, fun f3 e3 => ?_⟩
    rw [z_cl (by omega)] at e3
    have hE4 : E 4 = e4 w h (w * y + x) := by rw [hE]; rfl
    rw [hE4] at e3
    have g := eq_of_beq (allB_iff.mp (allB_iff.mp (allS_at geo_near k) x hx) y hy)
    -- the rest is a straight walk with four choices
    have fin : ∀ (s0 s1 : Nat), s1 ||| s0 = nb1 w h (w * y + x) → bk_X3_putSingle_140 Q (nI (2 ^ (w * y + x))) f3 f_beside (nI s0) (nI s1) := by
      intro s0 s1 hss
      unfold bk_X3_putSingle_140
      intro y11 e11
      rw [z_or, hss] at e11
      refine ⟨pk_in _ _ hp, fun f12 e12 => ?_⟩
      rw [e12, e11, e3, z_cl (by omega)]
      exact hQ
    have st3 : ∀ (s0 s1 : Nat), s1 ||| s0 ||| (if y + 1 < h then 2 ^ (w * y + x) * 2 ^ w else 0) = nb1 w h (w * y + x) → bk_X3_putSingle_114 Q (nI y) (nI (2 ^ (w * y + x))) f3 f_beside (nI w) (nI h) (nI s0) (nI s1) := by
      intro s0 s1 hss
      unfold bk_X3_putSingle_114
      intro y9 e9
      rw [z_or] at e9
      subst e9
      rw [show nI h - 1 = nI (h - 1) from z_sub (a := h) (b := 1) k.2.1]
      refine pk_le (h - 1) y (fun q => ?_) (fun q => ?_) rfl rfl
      · rw [if_neg (by omega)] at hss
        exact fin 0 _ hss
      · rw [if_pos (by omega)] at hss
        rw [z_shl (by omega)]
        exact fin _ _ hss
    have st2 : ∀ (s0 s1 : Nat), s1 ||| s0 ||| (if 0 < y then 2 ^ (w * y + x) / 2 ^ w else 0) ||| (if y + 1 < h then 2 ^ (w * y + x) * 2 ^ w else 0) = nb1 w h (w * y + x) → bk_X3_putSingle_94 Q (nI y) (nI (2 ^ (w * y + x))) f3 f_beside (nI w) (nI h) (nI s0) (nI s1) := by
      intro s0 s1 hss
      unfold bk_X3_putSingle_94
      intro y7 e7
      rw [z_or] at e7
      subst e7
      refine pk_le y 0 (fun q => ?_) (fun q => ?_) rfl rfl
      · rw [if_neg (by omega)] at hss
        exact st3 0 _ hss
      · rw [if_pos (by omega)] at hss
        rw [z_shr (by omega) (by omega)]
        exact st3 _ _ hss
    have st1 : ∀ (s0 s1 : Nat), s1 ||| s0 ||| (if x + 1 < w then 2 ^ (w * y + x) * 2 else 0) ||| (if 0 < y then 2 ^ (w * y + x) / 2 ^ w else 0) ||| (if y + 1 < h then 2 ^ (w * y + x) * 2 ^ w else 0) = nb1 w h (w * y + x) → bk_X3_putSingle_71 Q (nI x) (nI y) (nI (2 ^ (w * y + x))) f3 f_beside (nI w) (nI h) (nI s0) (nI s1) := by
      intro s0 s1 hss
      unfold bk_X3_putSingle_71
      intro y5 e5
      rw [z_or] at e5
      subst e5
      rw [show nI w - 1 = nI (w - 1) from z_sub (a := w) (b := 1) k.1]
      refine pk_le (w - 1) x (fun q => ?_) (fun q => ?_) rfl rfl
      · rw [if_neg (by omega)] at hss
        exact st2 0 _ hss
      · rw [if_pos (by omega)] at hss
        rw [show nI (2 ^ (w * y + x)) <<< ((1 : Int32) &&& 31) = nI (2 ^ (w * y + x) * 2 ^ 1) from z_shl (k := 1) (by decide)]
        exact st2 _ _ hss
    refine pk_le x 0 (fun q => ?_) (fun q => ?_) rfl rfl
    · rw [if_neg (by omega)] at g
      exact st1 0 0 g
    · rw [if_pos (by omega)] at g
      rw [show nI (2 ^ (w * y + x)) >>> ((1 : Int32) &&& 31) = nI (2 ^ (w * y + x) / 2 ^ 1) from z_shr (k := 1) (by omega) (by decide)]
      exact st1 _ 0 g
  · refine s_edgeAt hx q ?_
    intro y14 e14 y15 e15
    refine ⟨4 - (d + 1), by omega, d + 1, by omega, rfl, by rw [e15]; exact nI_1 d, ?_⟩
    rw [e14, z_shl1 _ (edn_lt k hs q), z_or]
    congr 1
    rw [hE]
    rcases (show d = 0 ∨ d = 1 ∨ d = 2 ∨ d = 3 by omega) with rfl | rfl | rfl | rfl
    · exact Nat.zero_or _
    · rfl
    · rfl
    · rfl
