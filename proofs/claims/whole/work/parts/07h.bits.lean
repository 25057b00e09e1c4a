theorem z_ushr {a n : Nat} (ha : a < 2 ^ 32) (hn : n < 32) : (Int32.toUInt32 (nI a) >>> (Int32.toUInt32 (nI n) &&& Int32.toUInt32 31)).toInt32 = nI (a / 2 ^ n) := by
  apply b_ext
  intro i hi
  rw [b_ushr n hn, z_bt _ _ hi, Nat.testBit_div_two_pow]
  by_cases h : n + i < 32
  · rw [z_bt _ _ h, Nat.add_comm]
  · rw [b_big (by omega), Nat.testBit_lt_two_pow (Nat.lt_of_lt_of_le ha (Nat.pow_le_pow_right (by decide) (by omega)))]
theorem dm_lt (b : Nat) {f : Nat → Nat} (h : ∀ d, d < 2 ^ b → f d < 2 ^ b) : ∀ k x, dm b f k x < 2 ^ (b * k)
  | 0, _ => by rw [dm, Nat.mul_zero]; decide
  | k + 1, x => by
    have h1 := dm_lt b h k (x / 2 ^ b)
    have h2 := h (x % 2 ^ b) (Nat.mod_lt _ (Nat.two_pow_pos b))
    rw [dm, Nat.mul_succ, Nat.pow_add, Nat.mul_comm (2 ^ (b * k))]
    have h3 : 2 ^ b * (dm b f k (x / 2 ^ b) + 1) ≤ 2 ^ b * 2 ^ (b * k) := Nat.mul_le_mul_left _ h1
    rw [Nat.mul_add] at h3
    omega
/-- Integer.bitCount of a number that is not negative -/
theorem s_bitCount {m : Nat} {Q : Int32 → Prop} (hm : m < 2 ^ 31) (hQ : Q (nI (pcn 32 m))) : wp_J6_bitCount_0f7a4 (nI m) Q := by
  have hm2 : m < 2 ^ 32 := by omega
  unfold wp_J6_bitCount_0f7a4
  intro y1 h1 y2 h2 y3 h3 y4 h4 y5 h5
  have e1 : y1 = nI (dm 2 (pcn 2) 16 m) := by
    rw [h1]
    have q := z_ushr (n := 1) hm2 (by decide)
    have q2 : (Int32.toUInt32 (nI m) >>> (Int32.toUInt32 1 &&& Int32.toUInt32 31)).toInt32 = nI (m / 2 ^ 1) := q
    rw [q2, show (1431655765 : Int32) = nI 1431655765 from rfl, z_and, ← sw_1 m hm2, z_sub, Nat.shiftRight_eq_div_pow]
    exact Nat.le_trans Nat.and_le_left (Nat.div_le_self _ _)
  have b1 : dm 2 (pcn 2) 16 m < 2 ^ 32 := dm_lt 2 (by decide) 16 m
  have e2 : y2 = nI (dm 4 (pcn 4) 8 m) := by
    rw [h2, e1]
    have q2 : (Int32.toUInt32 (nI (dm 2 (pcn 2) 16 m)) >>> (Int32.toUInt32 2 &&& Int32.toUInt32 31)).toInt32 = nI (dm 2 (pcn 2) 16 m / 2 ^ 2) := z_ushr (n := 2) b1 (by decide)
    rw [q2, show (858993459 : Int32) = nI 858993459 from rfl, z_and, z_and, nI_add, ← Nat.shiftRight_eq_div_pow, sw_2 _ m rfl]
  have b2 : dm 4 (pcn 4) 8 m < 2 ^ 32 := dm_lt 4 (by decide) 8 m
  obtain ⟨e0, f1, f2, f3, he, l0, l1, l2, l3, hs⟩ := sw_3 _ m hm2 rfl
  have e3 : y3 = nI (e0 + 256 * f1 + 65536 * f2 + 16777216 * f3) := by
    rw [h3, e2]
    have q2 : (Int32.toUInt32 (nI (dm 4 (pcn 4) 8 m)) >>> (Int32.toUInt32 4 &&& Int32.toUInt32 31)).toInt32 = nI (dm 4 (pcn 4) 8 m / 2 ^ 4) := z_ushr (n := 4) b2 (by decide)
    rw [q2, show (252645135 : Int32) = nI 252645135 from rfl, nI_add, z_and, ← Nat.shiftRight_eq_div_pow, he]
  obtain ⟨v, hv⟩ : ∃ v, v = e0 + 256 * f1 + 65536 * f2 + 16777216 * f3 := ⟨_, rfl⟩
  rw [← hv] at e3
  have bv : v < 2 ^ 31 := by omega
  have e4 : y4 = nI (v + v / 2 ^ 8) := by
    rw [h4, e3]
    have q2 : (Int32.toUInt32 (nI v) >>> (Int32.toUInt32 8 &&& Int32.toUInt32 31)).toInt32 = nI (v / 2 ^ 8) := z_ushr (n := 8) (by omega) (by decide)
    rw [q2, nI_add]
  have e5 : y5 = nI ((v + v / 2 ^ 8) + (v + v / 2 ^ 8) / 2 ^ 16) := by
    rw [h5, e4]
    have q2 : (Int32.toUInt32 (nI (v + v / 2 ^ 8)) >>> (Int32.toUInt32 16 &&& Int32.toUInt32 31)).toInt32 = nI ((v + v / 2 ^ 8) / 2 ^ 16) := z_ushr (n := 16) (by omega) (by decide)
    rw [q2, nI_add]
  have e6 : y5 &&& 63 = nI (pcn 32 m) := by
    rw [e5, show (63 : Int32) = nI (2 ^ 6 - 1) from rfl, fa_mask]
    congr 1
    rw [← hs]
    omega
  rw [e6]
  exact hQ
/-- the reference's count of bits -/
theorem s_bits {m : Nat} {Q : Int32 → Prop} (hm : m < 2 ^ 31) (hQ : Q (nI (pcn 32 m))) : wp_X11_bits (lN m) Q := by
  unfold wp_X11_bits lp_X11_bits_4
  refine ⟨fun n x l => ∃ z c : Nat, z < 2 ^ 31 ∧ l = lN z ∧ x = nI c ∧ n = pcn 32 z ∧ c + pcn 32 z = pcn 32 m, ⟨_, m, 0, hm, rfl, rfl, rfl, by omega⟩, ?_⟩
  rintro n x l ⟨z, c, hz, rfl, rfl, rfl, hc⟩
  unfold bd_X11_bits_4
  have hl0 : lN z = 0 ↔ z = 0 := lN_eq (a := z) (b := 0) hz (by decide)
  refine ⟨fun h => ?_, fun h => ?_⟩
  · have h0 := hl0.mp h
    subst h0
    rw [pcn_0] at hc
    rw [show c = pcn 32 m by omega]
    exact hQ
  · have h0 : 0 < z := Nat.pos_of_ne_zero (fun q => h (hl0.mpr q))
    intro y2 e2 y3 e3
    have hk := pcn_k 32 z h0 (by omega)
    refine ⟨pcn 32 (z &&& (z - 1)), by omega, z &&& (z - 1), c + 1, Nat.lt_of_le_of_lt Nat.and_le_left hz, ?_, ?_, rfl, by omega⟩
    · rw [e2, show lN z - 1 = lN (z - 1) from lN_sub (a := z) (b := 1) h0, fb_andL]
    · rw [e3]; exact nI_1 c
