def lo (k : Nat) : Nat := Nat.log2 (lowb k)
theorem geo_lo : allB 1024 (fun k => k == 0 || (lowb k == 2 ^ lo k && decide (lo k < 10) && k.testBit (lo k) && decide (k ^^^ 2 ^ lo k < k) && ((k ^^^ 2 ^ lo k) &&& 2 ^ lo k == 0))) = true := by decide +kernel
theorem geo_neg : allB 1024 (fun k => nI k &&& (-(nI k)) == nI (lowb k)) = true := by decide +kernel
theorem lo_at {k : Nat} (h0 : 0 < k) (h : k < 1024) : nI k &&& (-(nI k)) = nI (2 ^ lo k) ∧ lo k < 10 ∧ k.testBit (lo k) = true ∧ k ^^^ 2 ^ lo k < k ∧ (k ^^^ 2 ^ lo k) &&& 2 ^ lo k = 0 := by
  have h1 := allB_iff.mp geo_lo k h
  have h2 := eq_of_beq (allB_iff.mp geo_neg k h)
  simp only [Bool.or_eq_true, Bool.and_eq_true, beq_iff_eq, decide_eq_true_eq] at h1
  rcases h1 with h1 | ⟨⟨⟨⟨a, b⟩, c⟩, d⟩, e⟩
  · omega
  · rw [a] at h2
    exact ⟨h2, b, c, d, e⟩
theorem xor_back (k s : Nat) : (k ^^^ 2 ^ s) ^^^ 2 ^ s = k := by rw [Nat.xor_assoc, Nat.xor_self, Nat.xor_zero]
theorem or_of_xor {a b : Nat} (h : a &&& b = 0) : a ||| b = a ^^^ b := by
  apply Nat.eq_of_testBit_eq
  intro i
  have h1 : (a &&& b).testBit i = false := by rw [h, Nat.zero_testBit]
  rw [Nat.testBit_and] at h1
  rw [Nat.testBit_or, Nat.testBit_xor]
  cases ha : a.testBit i <;> cases hb : b.testBit i <;> simp [ha, hb] at h1 ⊢
theorem lo_lt {n k : Nat} (hk : k < 2 ^ n) (h : k.testBit (lo k) = true) : lo k < n := by
  rcases Nat.lt_or_ge (lo k) n with q | q
  · exact q
  · rw [Nat.testBit_lt_two_pow (Nat.lt_of_lt_of_le hk (Nat.pow_le_pow_right (by decide) q))] at h
    cases h
/-- all sets out of the single squares -/
theorem s_joinAll {n : Nat} (hn : n ≤ 10) {e nb yd : Nat → Nat} {fn fy fb : Nat → Int32} {Q : ((Nat → Int32) × (Nat → Int32) × (Nat → Int32)) → Prop} (h1 : ∀ s, s < n → fn (2 ^ s) = nI (e s) ∧ fy (2 ^ s) = nI (yd s) ∧ fb (2 ^ s) = nI (nb s))
    (hQ : ∀ fn' fy' fb' : Nat → Int32, (∀ set, 0 < set → set < 2 ^ n → fn' set = nI (xorF e n set) ∧ fy' set = nI (sumF yd n set) ∧ fb' set = nI (orF nb n set)) → fn' 0 = fn 0 → fy' 0 = fy 0 → fb' 0 = fb 0 → Q (fn', fy', fb')) : wp_X3_joinAll (nI (2 ^ n - 1)) fn fy fb Q := by
  have hp : 2 ^ n ≤ 1024 := Nat.pow_le_pow_right (by decide) hn
  have hp0 : 0 < 2 ^ n := Nat.two_pow_pos n
  unfold wp_X3_joinAll lp_X3_joinAll_2
  refine ⟨fun m fn' fy' fb' x => ∃ k, 0 < k ∧ k ≤ 2 ^ n ∧ m = 2 ^ n - k ∧ x = nI k ∧ (∀ s, s < n → fn' (2 ^ s) = nI (e s) ∧ fy' (2 ^ s) = nI (yd s) ∧ fb' (2 ^ s) = nI (nb s)) ∧ (∀ set, 0 < set → set < k → fn' set = nI (xorF e n set) ∧ fy' set = nI (sumF yd n set) ∧ fb' set = nI (orF nb n set)) ∧ fn' 0 = fn 0 ∧ fy' 0 = fy 0 ∧ fb' 0 = fb 0, ⟨2 ^ n - 1, 1, by decide, hp0, rfl, rfl, h1, fun set q1 q2 => by omega, rfl, rfl, rfl⟩, ?_⟩
  rintro m fn' fy' fb' x ⟨k, hk0, hk, rfl, rfl, hs, hset, z1, z2, z3⟩
  unfold bd_X3_joinAll_2
  refine pk_lt (2 ^ n - 1) k (fun q => ?_) (fun q => ?_) rfl rfl
  · exact hQ fn' fy' fb' (fun set q1 q2 => hset set q1 (by omega)) z1 z2 z3
  · obtain ⟨l1, l2, l3, l4, l5⟩ := lo_at hk0 (by omega)
    have ln : lo k < n := lo_lt (by omega) l3
    obtain ⟨s, hsv⟩ : ∃ s, s = lo k := ⟨_, rfl⟩
    rw [← hsv] at l1 l2 l3 l4 l5 ln
    have hps : 2 ^ s < 1024 := Nat.pow_lt_pow_right (by decide) l2
    intro y2 e2 y3 e3
    rw [l1] at e2
    rw [e2, z_xor] at e3
    obtain ⟨o, ho⟩ : ∃ o, o = k ^^^ 2 ^ s := ⟨_, rfl⟩
    rw [← ho] at e3 l4 l5
    have hko : k = o ^^^ 2 ^ s := by rw [ho]; exact (xor_back k s).symm
    have hsg := hs s ln
    have goal : ∀ (g1 g2 g3 : Nat → Int32), (∀ j, j ≠ k → g1 j = fn' j ∧ g2 j = fy' j ∧ g3 j = fb' j) → g1 k = nI (xorF e n k) → g2 k = nI (sumF yd n k) → g3 k = nI (orF nb n k) → bk_X3_joinAll_80 Q (fun f_needs' f_yardSums' f_beside' x1' => ∃ n', n' < 2 ^ n - k ∧ ∃ k', 0 < k' ∧ k' ≤ 2 ^ n ∧ n' = 2 ^ n - k' ∧ x1' = nI k' ∧ (∀ s, s < n → f_needs' (2 ^ s) = nI (e s) ∧ f_yardSums' (2 ^ s) = nI (yd s) ∧ f_beside' (2 ^ s) = nI (nb s)) ∧ (∀ set, 0 < set → set < k' → f_needs' set = nI (xorF e n set) ∧ f_yardSums' set = nI (sumF yd n set) ∧ f_beside' set = nI (orF nb n set)) ∧ f_needs' 0 = fn 0 ∧ f_yardSums' 0 = fy 0 ∧ f_beside' 0 = fb 0) (nI k) g1 g2 g3 := by
      intro g1 g2 g3 hg a1 a2 a3
      unfold bk_X3_joinAll_80
      intro y5 e5
      refine ⟨2 ^ n - (k + 1), by omega, k + 1, by omega, by omega, rfl, by rw [e5]; exact nI_1 k, ?_, ?_, ?_, ?_, ?_⟩
      · intro t ht
        by_cases hq : 2 ^ t = k
        · rw [hq, a1, a2, a3, ← hq, xorF_one, sumF_one, orF_one, if_pos ht, if_pos ht, if_pos ht]
          exact ⟨rfl, rfl, rfl⟩
        · rw [(hg _ hq).1, (hg _ hq).2.1, (hg _ hq).2.2]
          exact hs t ht
      · intro set q1 q2
        by_cases hq : set = k
        · rw [hq]
          exact ⟨a1, a2, a3⟩
        · rw [(hg _ hq).1, (hg _ hq).2.1, (hg _ hq).2.2]
          exact hset set q1 (by omega)
      · rw [(hg 0 (by omega)).1]; exact z1
      · rw [(hg 0 (by omega)).2.1]; exact z2
      · rw [(hg 0 (by omega)).2.2]; exact z3
    refine pk_eq o 0 (fun q0 => ?_) (fun q0 => ?_) e3 rfl (by omega) (by decide)
    · rw [q0, Nat.zero_xor] at hko
      refine goal fn' fy' fb' (fun _ _ => ⟨rfl, rfl, rfl⟩) ?_ ?_ ?_
      · rw [hko, xorF_one, if_pos ln]; exact hsg.1
      · rw [hko, sumF_one, if_pos ln]; exact hsg.2.1
      · rw [hko, orF_one, if_pos ln]; exact hsg.2.2
    · have hos := hset o (by omega) l4
      have i3 : vp_in y3 1024 := pk_in o 1024 (by omega) e3
      have i2 : vp_in y2 1024 := pk_in (2 ^ s) 1024 hps e2
      have i1 : vp_in (nI k) 1024 := pk_in k 1024 (by omega)
      have c3 : y3.toNatClampNeg = o := pk_cl o e3 (by omega)
      have c2 : y2.toNatClampNeg = 2 ^ s := pk_cl (2 ^ s) e2 (by omega)
      have c1 : (nI k).toNatClampNeg = k := z_cl (by omega)
      refine ⟨i3, i2, fun y6 e6 => ⟨i1, fun f7 e7 => ⟨i3, i2, fun y8 e8 => ⟨i1, fun f9 e9 => ⟨i3, i2, fun y10 e10 => ⟨i1, fun f11 e11 => ?_⟩⟩⟩⟩⟩⟩
      rw [c3, c2] at e6 e8 e10
      rw [c1] at e7 e9 e11
      refine goal f7 f11 f9 (fun j hj => ⟨?_, ?_, ?_⟩) ?_ ?_ ?_
      · rw [e7, z_upd_ne _ _ hj]
      · rw [e11, z_upd_ne _ _ hj]
      · rw [e9, z_upd_ne _ _ hj]
      · rw [e7, z_upd_eq, e6, hos.1, hsg.1, z_xor, hko, xorF_xor, xorF_one, if_pos ln]
      · rw [e11, z_upd_eq, e10, hos.2.1, hsg.2.1, nI_add, hko, sumF_dis yd l5, sumF_one, if_pos ln]
      · rw [e9, z_upd_eq, e8, hos.2.2, hsg.2.2, z_or, hko, ← or_of_xor l5, orF_or, orF_one, if_pos ln]
