section JUDGE
variable {w h : Nat}
theorem z_zero {x : Nat} : x = 0 ↔ ∀ i, x.testBit i = false := ⟨fun e i => by rw [e]; exact Nat.zero_testBit i, fun e => Nat.eq_of_testBit_eq fun i => by rw [e i, Nat.zero_testBit]⟩
theorem z_nz {x : Nat} (h : ¬ x = 0) : ∃ i, x.testBit i = true := by
  apply Classical.byContradiction
  intro q
  refine h (z_zero.mpr fun i => ?_)
  cases e : x.testBit i
  · rfl
  · exact absurd ⟨i, e⟩ q
theorem geo_sym : allS (fun w h => allB (w * h) fun s => allB (w * h) fun t => (nb1 w h s).testBit t == (nb1 w h t).testBit s) = true := by decide +kernel
theorem tch_sym1 {a c : Nat} (k : okS w h) (hc : c < 2 ^ (w * h)) (q : ¬ andn (bes w h (andn a c) &&& c) a = 0) : ¬ andn (bes w h (andn c a) &&& a) c = 0 := by
  obtain ⟨t, ht⟩ := z_nz q
  rw [andn_bit, Nat.testBit_and] at ht
  simp only [Bool.and_eq_true, Bool.not_eq_true'] at ht
  obtain ⟨⟨h1, h2⟩, h3⟩ := ht
  obtain ⟨s, hs, h4, h5⟩ := (orF_bit _ _ _ _).mp h1
  rw [andn_bit] at h4
  simp only [Bool.and_eq_true, Bool.not_eq_true'] at h4
  have htl : t < w * h := by
    apply Classical.byContradiction
    intro y
    rw [Nat.testBit_lt_two_pow (Nat.lt_of_lt_of_le hc (Nat.pow_le_pow_right (by decide) (Nat.le_of_not_lt y)))] at h2
    exact absurd h2 (by decide)
  have h6 : (nb1 w h t).testBit s = true := by
    rw [← h5]
    exact (eq_of_beq (allB_iff.mp (allB_iff.mp (allS_at geo_sym k) s hs) t htl)).symm
  intro e
  have e2 := z_zero.mp e s
  rw [andn_bit, Nat.testBit_and, show (bes w h (andn c a)).testBit s = true from (orF_bit _ _ _ _).mpr ⟨t, htl, by rw [andn_bit, h2, h3]; rfl, h6⟩, h4.1, h4.2] at e2
  exact absurd e2 (by decide)
theorem tch_sym {a c : Nat} (k : okS w h) (ha : a < 2 ^ (w * h)) (hc : c < 2 ^ (w * h)) : andn (bes w h (andn a c) &&& c) a = 0 ↔ andn (bes w h (andn c a) &&& a) c = 0 :=
  ⟨fun e => Classical.byContradiction fun q => tch_sym1 k ha q e, fun e => Classical.byContradiction fun q => tch_sym1 k hc q e⟩
theorem tch_self (a : Nat) : andn (bes w h (andn a a) &&& a) a = 0 := by
  apply z_zero.mpr
  intro i
  rw [andn_bit, Nat.testBit_and]
  cases a.testBit i <;> simp
def frF (f : Nat → Nat) (n : Nat) : Nat → Nat → Bool
  | 0, _ => true
  | d + 1, i => if f i &&& f n = 0 then frF f n d (i + 1) else false
theorem s_fr2 {f : Nat → Nat} {n i : Nat} {arr : Nat → Int32} {Q : Int32 → Prop} (hn : n < 20) (hi : i ≤ n) (ha : ∀ j, j ≤ n → arr j = nI (f j) ∧ f j < 2 ^ 31) (hQ : Q (if frF f n (n - i) i = true then 1 else 0)) : lp_X2_isFresh_19 Q (nI n) arr (nI i) := by
  unfold lp_X2_isFresh_19
  refine ⟨fun m z => ∃ j, j ≤ n ∧ m = n - j ∧ z = nI j ∧ Q (if frF f n (n - j) j = true then 1 else 0), ⟨n - i, i, hi, rfl, rfl, hQ⟩, ?_⟩
  rintro m z ⟨j, hj, rfl, rfl, hq⟩
  unfold bd_X2_isFresh_19
  refine pk_le n j (fun q => ?_) (fun q => ?_) rfl rfl
  · have e : n - j = 0 := by omega
    rw [e] at hq
    exact hq
  · have hd' : n - j = (n - (j + 1)) + 1 := by omega
    rw [hd', frF] at hq
    refine ⟨pk_in j 20 (by omega), pk_in n 20 hn, ?_⟩
    rw [z_cl (by omega), z_cl (by omega), (ha j hj).1, (ha n (Nat.le_refl n)).1, z_and]
    have hlt : f j &&& f n < 2 ^ 31 := Nat.lt_of_le_of_lt Nat.and_le_left (ha j hj).2
    by_cases hz : f j &&& f n = 0
    · rw [if_pos hz] at hq
      rw [hz]
      refine ⟨fun _ y4 e4 => ⟨n - (j + 1), by omega, j + 1, by omega, rfl, ?_, hq⟩, fun z => absurd rfl z⟩
      rw [e4, nI_1]
    · rw [if_neg hz] at hq
      refine ⟨fun z => absurd z (nI_ne0 (by omega) hlt), fun _ => ?_⟩
      exact hq
theorem s_fr11 {f : Nat → Nat} {n i : Nat} {arr : Nat → Int32} {Q : Int32 → Prop} (hn : n < 20) (hi : i ≤ n) (ha : ∀ j, j ≤ n → arr j = nI (f j) ∧ f j < 2 ^ 31) (hQ : Q (if frF f n (n - i) i = true then 1 else 0)) : lp_X11_isFresh_28 Q (nI n) arr (nI i) := by
  unfold lp_X11_isFresh_28
  refine ⟨fun m z => ∃ j, j ≤ n ∧ m = n - j ∧ z = nI j ∧ Q (if frF f n (n - j) j = true then 1 else 0), ⟨n - i, i, hi, rfl, rfl, hQ⟩, ?_⟩
  rintro m z ⟨j, hj, rfl, rfl, hq⟩
  unfold bd_X11_isFresh_28
  refine pk_le n j (fun q => ?_) (fun q => ?_) rfl rfl
  · have e : n - j = 0 := by omega
    rw [e] at hq
    exact hq
  · have hd' : n - j = (n - (j + 1)) + 1 := by omega
    rw [hd', frF] at hq
    refine ⟨pk_in j 20 (by omega), pk_in n 20 hn, ?_⟩
    rw [z_cl (by omega), z_cl (by omega), (ha j hj).1, (ha n (Nat.le_refl n)).1, z_and]
    have hlt : f j &&& f n < 2 ^ 31 := Nat.lt_of_le_of_lt Nat.and_le_left (ha j hj).2
    by_cases hz : f j &&& f n = 0
    · rw [if_pos hz] at hq
      rw [hz]
      refine ⟨fun _ y4 e4 => ⟨n - (j + 1), by omega, j + 1, by omega, rfl, ?_, hq⟩, fun z => absurd rfl z⟩
      rw [e4, nI_1]
    · rw [if_neg hz] at hq
      refine ⟨fun z => absurd z (nI_ne0 (by omega) hlt), fun _ => ?_⟩
      exact hq
def fr0 (re n : Nat) : Nat := if re = 0 then 0 else n - re
theorem z_restC : ∀ n, n < 20 → ∀ re, re < 100 → (if 0 < (nI n - nI re) then (nI n - nI re) else 0) = nI (n - re) := by decide +kernel
theorem s_cfresh {f : Nat → Nat} {n re : Nat} {arr : Nat → Int32} {Q : Int32 → Prop} (hn : n < 20) (hr : re < 100) (ha : ∀ j, j ≤ n → arr j = nI (f j) ∧ f j < 2 ^ 31) (hQ : Q (if frF f n (n - fr0 re n) (fr0 re n) = true then 1 else 0)) : wp_X2_isFresh (nI n) (nI re) arr Q := by
  unfold wp_X2_isFresh bk_X2_isFresh_15
  unfold fr0 at hQ
  by_cases hz : re = 0
  · rw [if_pos hz] at hQ
    rw [hz]
    exact ⟨fun z => absurd rfl z, fun _ => s_fr2 hn (Nat.zero_le n) ha hQ⟩
  · rw [if_neg hz] at hQ
    rw [z_restC n hn re hr]
    exact ⟨fun _ => s_fr2 hn (Nat.sub_le n re) ha hQ, fun z => absurd z (nI_ne0 (by omega) (by omega))⟩
theorem s_mfresh {f : Nat → Nat} {n re : Nat} {arr : Nat → Int32} {Q : Int32 → Prop} (hn : n < 20) (hr : re < 100) (ha : ∀ j, j ≤ n → arr j = nI (f j) ∧ f j < 2 ^ 31) (hQ : Q (if frF f n (n - fr0 re n) (fr0 re n) = true then 1 else 0)) : wp_X11_isFresh (nI n) (nI re) arr Q := by
  unfold wp_X11_isFresh bk_X11_isFresh_15 bk_X11_isFresh_25
  unfold fr0 at hQ
  by_cases hz : re = 0
  · rw [if_pos hz] at hQ
    rw [hz]
    exact ⟨fun _ => s_fr11 hn (Nat.zero_le n) ha hQ, fun z => absurd rfl z⟩
  · rw [if_neg hz] at hQ
    refine ⟨fun z => absurd z (nI_ne0 (by omega) (by omega)), fun _ => pk_le re n (fun q => ?_) (fun q => ?_) rfl rfl⟩
    · rw [z_sub q]
      exact s_fr11 hn (Nat.sub_le n re) ha hQ
    · rw [show n - re = 0 by omega] at hQ
      exact s_fr11 hn (Nat.zero_le n) ha hQ
end JUDGE
