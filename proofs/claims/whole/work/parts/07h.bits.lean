theorem z_ushr {a n : Nat} (ha : a < 2 ^ 32) (hn : n < 32) : (Int32.toUInt32 (nI a) >>> (Int32.toUInt32 (nI n) &&& Int32.toUInt32 31)).toInt32 = nI (a / 2 ^ n) := by
  apply b_ext
  intro i hi
  rw [b_ushr n hn, z_bt _ _ hi, Nat.testBit_div_two_pow]
  by_cases h : n + i < 32
  · rw [z_bt _ _ h, Nat.add_comm]
  · rw [b_big (by omega), Nat.testBit_lt_two_pow (Nat.lt_of_lt_of_le ha (Nat.pow_le_pow_right (by decide) (by omega)))]
theorem dm_lt (b : Nat) {f : Nat → Nat} (h : ∀ d, d < 2 ^ b → f d < 2 ^ b) : ∀ k x, dm b f k x < 2 ^ (b * k)
  | 0, _ => by rw [dm, Nat.mul_zero]; decide
  | k + 1, x => by
    have h1 := dm_lt b h k (x / 2 ^ b)
    have h2 := h (x % 2 ^ b) (Nat.mod_lt _ (Nat.two_pow_pos b))
    rw [dm, Nat.mul_succ, Nat.pow_add, Nat.mul_comm (2 ^ (b * k))]
    have h3 : 2 ^ b * (dm b f k (x / 2 ^ b) + 1) ≤ 2 ^ b * 2 ^ (b * k) := Nat.mul_le_mul_left _ h1
    rw [Nat.mul_add] at h3
    omega
theorem sw_4 (e0 f1 f2 f3 : Nat) (l0 : e0 ≤ 8) (l1 : f1 ≤ 8) (l2 : f2 ≤ 8) (l3 : f3 ≤ 8) (v t : Nat) (hv : v = e0 + 256 * f1 + 65536 * f2 + 16777216 * f3) (ht : t = v + v / 256) : (t + t / 65536) % 64 = e0 + f1 + f2 + f3 := by
  have a1 : v / 256 = f1 + 256 * f2 + 65536 * f3 := by omega
  rw [a1] at ht
  have a2 : t = (e0 + f1) + 256 * (f1 + f2) + 65536 * (f2 + f3 + 256 * f3) := by omega
  have a3 : t / 65536 = f2 + f3 + 256 * f3 := by omega
  rw [a3, a2]
  have a4 : (e0 + f1) + 256 * (f1 + f2) + 65536 * (f2 + f3 + 256 * f3) + (f2 + f3 + 256 * f3) = (e0 + f1 + f2 + f3) + 64 * (4 * (f1 + f2) + 1024 * (f2 + f3 + 256 * f3) + 4 * f3) := by omega
  rw [a4, Nat.add_mul_mod_self_left]
  exact Nat.mod_eq_of_lt (by omega)
theorem bc_1 {m A : Nat} (hm : m < 2 ^ 32) (hA : m - ((m >>> 1) &&& 1431655765) = A) {y : Int32} (hy : y = (nI m - (((Int32.toUInt32 (nI m) >>> (Int32.toUInt32 1 &&& Int32.toUInt32 31)).toInt32) &&& 1431655765))) : y = nI A := by
  have q2 : (Int32.toUInt32 (nI m) >>> (Int32.toUInt32 1 &&& Int32.toUInt32 31)).toInt32 = nI (m / 2 ^ 1) := z_ushr (n := 1) hm (by decide)
  rw [hy, q2, show (1431655765 : Int32) = nI 1431655765 from rfl, z_and, z_sub, ← hA, Nat.shiftRight_eq_div_pow]
  exact Nat.le_trans Nat.and_le_left (Nat.div_le_self _ _)
theorem bc_2 {A B : Nat} (hA : A < 2 ^ 32) (hB : (A &&& 858993459) + ((A >>> 2) &&& 858993459) = B) {y : Int32} (hy : y = ((nI A &&& 858993459) + (((Int32.toUInt32 (nI A) >>> (Int32.toUInt32 2 &&& Int32.toUInt32 31)).toInt32) &&& 858993459))) : y = nI B := by
  have q2 : (Int32.toUInt32 (nI A) >>> (Int32.toUInt32 2 &&& Int32.toUInt32 31)).toInt32 = nI (A / 2 ^ 2) := z_ushr (n := 2) hA (by decide)
  rw [hy, q2, show (858993459 : Int32) = nI 858993459 from rfl, z_and, z_and, nI_add, ← hB, Nat.shiftRight_eq_div_pow]
theorem bc_3 {B C : Nat} (hB : B < 2 ^ 32) (hC : (B + (B >>> 4)) &&& 252645135 = C) {y : Int32} (hy : y = ((nI B + ((Int32.toUInt32 (nI B) >>> (Int32.toUInt32 4 &&& Int32.toUInt32 31)).toInt32)) &&& 252645135)) : y = nI C := by
  have q2 : (Int32.toUInt32 (nI B) >>> (Int32.toUInt32 4 &&& Int32.toUInt32 31)).toInt32 = nI (B / 2 ^ 4) := z_ushr (n := 4) hB (by decide)
  rw [hy, q2, show (252645135 : Int32) = nI 252645135 from rfl, nI_add, z_and, ← hC, Nat.shiftRight_eq_div_pow]
theorem bc_4 {v : Nat} (hv : v < 2 ^ 32) {y : Int32} (hy : y = (nI v + ((Int32.toUInt32 (nI v) >>> (Int32.toUInt32 8 &&& Int32.toUInt32 31)).toInt32))) : y = nI (v + v / 256) := by
  have q2 : (Int32.toUInt32 (nI v) >>> (Int32.toUInt32 8 &&& Int32.toUInt32 31)).toInt32 = nI (v / 2 ^ 8) := z_ushr (n := 8) hv (by decide)
  rw [hy, q2, nI_add]
theorem bc_5 {v : Nat} (hv : v < 2 ^ 32) {y : Int32} (hy : y = (nI v + ((Int32.toUInt32 (nI v) >>> (Int32.toUInt32 16 &&& Int32.toUInt32 31)).toInt32))) : y = nI (v + v / 65536) := by
  have q2 : (Int32.toUInt32 (nI v) >>> (Int32.toUInt32 16 &&& Int32.toUInt32 31)).toInt32 = nI (v / 2 ^ 16) := z_ushr (n := 16) hv (by decide)
  rw [hy, q2, nI_add]
theorem bc_6 (v : Nat) : nI v &&& 63 = nI (v % 64) := fa_mask v 6
theorem bc_A (m : Nat) (hm : m < 2 ^ 32) : ∃ A B e0 f1 f2 f3 : Nat, A < 2 ^ 32 ∧ B < 2 ^ 32 ∧ m - ((m >>> 1) &&& 1431655765) = A ∧ (A &&& 858993459) + ((A >>> 2) &&& 858993459) = B ∧ (B + (B >>> 4)) &&& 252645135 = e0 + 256 * f1 + 65536 * f2 + 16777216 * f3 ∧ e0 ≤ 8 ∧ f1 ≤ 8 ∧ f2 ≤ 8 ∧ f3 ≤ 8 ∧ e0 + f1 + f2 + f3 = pcn 32 m := by
  obtain ⟨e0, f1, f2, f3, he, l0, l1, l2, l3, hs⟩ := sw_3 _ m hm rfl
  exact ⟨_, _, e0, f1, f2, f3, dm_lt 2 (by decide) 16 m, dm_lt 4 (by decide) 8 m, sw_1 m hm, sw_2 _ m rfl, he, l0, l1, l2, l3, hs⟩
/-- how many bits -/
def pc (x : Nat) : Nat := if x = 0 then 0 else x % 2 + pc (x / 2)
termination_by x
decreasing_by omega
theorem pc_0 : pc 0 = 0 := by rw [pc]; rfl
theorem pc_s {x : Nat} (h : x ≠ 0) : pc x = x % 2 + pc (x / 2) := by rw [pc, if_neg h]
theorem pc_n : ∀ (k x : Nat), x < 2 ^ k → pcn k x = pc x
  | 0, x, h => by
    have : x = 0 := by omega
    subst this
    rw [pc_0, pcn]
  | k + 1, x, h => by
    by_cases hx : x = 0
    · subst hx
      rw [pcn_0, pc_0]
    · rw [pcn, pc_s hx, pc_n k (x / 2) (by rw [Nat.pow_succ] at h; omega)]
theorem pc_k {x : Nat} (h0 : 0 < x) (hx : x < 2 ^ 32) : pc (x &&& (x - 1)) + 1 = pc x := by
  rw [← pc_n 32 x hx, ← pc_n 32 (x &&& (x - 1)) (Nat.lt_of_le_of_lt Nat.and_le_left hx)]
  exact pcn_k 32 x h0 hx
theorem pc_le {x : Nat} (hx : x < 2 ^ 31) : pc x ≤ 31 := by
  rw [← pc_n 31 x hx]
  exact pcn_le 31 x
/-- Integer.bitCount of a number that is not negative -/
theorem s_bitCount {m : Nat} {Q : Int32 → Prop} (hm : m < 2 ^ 31) (hQ : Q (nI (pc m))) : wp_J6_bitCount_0f7a4 (nI m) Q := by
  have hm2 : m < 2 ^ 32 := by omega
  unfold wp_J6_bitCount_0f7a4
  intro y1 h1 y2 h2 y3 h3 y4 h4 y5 h5
  obtain ⟨A, B, e0, f1, f2, f3, bA, bB, hA, hB, hC, l0, l1, l2, l3, hs⟩ := bc_A m hm2
  have e1 := bc_1 hm2 hA h1
  rw [e1] at h2
  have e2 := bc_2 bA hB h2
  rw [e2] at h3
  have e3 := bc_3 bB hC h3
  obtain ⟨v, hv⟩ : ∃ v, v = e0 + 256 * f1 + 65536 * f2 + 16777216 * f3 := ⟨_, rfl⟩
  rw [← hv] at e3
  have bv : v < 2 ^ 30 := by clear hC hs; omega
  rw [e3] at h4
  have e4 := bc_4 (by omega) h4
  obtain ⟨t, ht⟩ : ∃ t, t = v + v / 256 := ⟨_, rfl⟩
  rw [← ht] at e4
  have bt2 : t < 2 ^ 31 := by
    have := Nat.div_le_self v 256
    clear hC hs; omega
  rw [e4] at h5
  have e5 := bc_5 (by omega) h5
  rw [e5, bc_6, sw_4 e0 f1 f2 f3 l0 l1 l2 l3 v t hv ht, hs, pc_n 32 m hm2]
  exact hQ
/-- the reference's count of bits -/
theorem s_bits {m : Nat} {Q : Int32 → Prop} (hm : m < 2 ^ 31) (hQ : Q (nI (pc m))) : wp_X11_bits (lN m) Q := by
  unfold wp_X11_bits lp_X11_bits_4
  refine ⟨fun n x l => ∃ z c : Nat, z < 2 ^ 31 ∧ l = lN z ∧ x = nI c ∧ n = pc z ∧ c + pc z = pc m, ⟨_, m, 0, hm, rfl, rfl, rfl, by omega⟩, ?_⟩
  rintro n x l ⟨z, c, hz, rfl, rfl, rfl, hc⟩
  unfold bd_X11_bits_4
  have hl0 : lN z = 0 ↔ z = 0 := lN_eq (a := z) (b := 0) hz (by decide)
  refine ⟨fun h => ?_, fun h => ?_⟩
  · have h0 := hl0.mp h
    rw [h0, pc_0] at hc
    rw [show c = pc m by omega]
    exact hQ
  · have h0 : 0 < z := Nat.pos_of_ne_zero (fun q => h (hl0.mpr q))
    intro y2 e2 y3 e3
    have hk := pc_k h0 (by omega)
    refine ⟨pc (z &&& (z - 1)), by omega, z &&& (z - 1), c + 1, Nat.lt_of_le_of_lt Nat.and_le_left hz, ?_, ?_, rfl, by omega⟩
    · rw [e2, show lN z - 1 = lN (z - 1) from lN_sub (a := z) (b := 1) h0, fb_andL]
    · rw [e3]; exact nI_1 c
