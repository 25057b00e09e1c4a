/-! counting bits: Integer.bitCount, and Kernighan's loop -/
def pcn : Nat → Nat → Nat
  | 0, _ => 0
  | k + 1, x => x % 2 + pcn k (x / 2)
theorem pcn_0 : ∀ k, pcn k 0 = 0
  | 0 => rfl
  | k + 1 => by rw [pcn, pcn_0 k]
theorem pcn_le : ∀ k x, pcn k x ≤ k
  | 0, _ => Nat.le_refl _
  | k + 1, x => by
    rw [pcn]
    have := pcn_le k (x / 2)
    have := Nat.mod_lt x (show 0 < 2 by decide)
    omega
theorem pcn_more : ∀ (k j x : Nat), x < 2 ^ k → pcn (k + j) x = pcn k x
  | 0, j, x, h => by
    have : x = 0 := by omega
    subst this
    rw [pcn_0, pcn_0]
  | k + 1, j, x, h => by
    rw [show k + 1 + j = (k + j) + 1 by omega, pcn, pcn, pcn_more k j (x / 2) (by rw [Nat.pow_succ] at h; omega)]
theorem and_mod2 (a b : Nat) : (a &&& b) % 2 = (a % 2) &&& (b % 2) := by
  have h := Nat.and_mod_two_pow (a := a) (b := b) (n := 1)
  simpa using h
theorem and_div2 (a b : Nat) : (a &&& b) / 2 = (a / 2) &&& (b / 2) := by
  have h := Nat.and_div_two_pow (a := a) (b := b) (n := 1)
  simpa using h
theorem pcn_k : ∀ (k x : Nat), 0 < x → x < 2 ^ k → pcn k (x &&& (x - 1)) + 1 = pcn k x
  | 0, x, h0, h => by omega
  | k + 1, x, h0, h => by
    rw [pcn, pcn, and_mod2, and_div2]
    rw [Nat.pow_succ] at h
    rcases Nat.mod_two_eq_zero_or_one x with hx | hx
    · have h1 : (x - 1) / 2 = x / 2 - 1 := by omega
      rw [h1, hx, Nat.zero_and]
      have := pcn_k k (x / 2) (by omega) (by omega)
      omega
    · have h1 : (x - 1) / 2 = x / 2 := by omega
      have h2 : (x - 1) % 2 = 0 := by omega
      rw [h1, h2, hx, Nat.and_zero, Nat.and_self]
      omega
def rep (b m : Nat) : Nat → Nat
  | 0 => 0
  | k + 1 => 2 ^ b * rep b m k + m
def dm (b : Nat) (f : Nat → Nat) : Nat → Nat → Nat
  | 0, _ => 0
  | k + 1, x => 2 ^ b * dm b f k (x / 2 ^ b) + f (x % 2 ^ b)
theorem and_cut (b : Nat) {m e : Nat} (R y : Nat) (hm : m < 2 ^ b) (he : y % 2 ^ b &&& m = e) : y &&& (2 ^ b * R + m) = 2 ^ b * (y / 2 ^ b &&& R) + e := by
  have he2 : e < 2 ^ b := by rw [← he]; exact Nat.lt_of_le_of_lt Nat.and_le_right hm
  apply Nat.eq_of_testBit_eq
  intro i
  rw [Nat.testBit_and, Nat.testBit_two_pow_mul_add _ hm, Nat.testBit_two_pow_mul_add _ he2, ← he]
  by_cases h : i < b
  · simp [h]
  · simp only [h, if_false, Nat.testBit_and, Nat.testBit_div_two_pow]
    rw [show i - b + b = i by omega]
theorem and_dm (b s m : Nat) (hs : s ≤ b) (hm : m < 2 ^ (b - s)) : ∀ (k x : Nat), (x >>> s) &&& rep b m k = dm b (fun d => (d >>> s) &&& m) k x
  | 0, x => Nat.and_zero _
  | k + 1, x => by
    have hmb : m < 2 ^ b := Nat.lt_of_lt_of_le hm (Nat.pow_le_pow_right (by decide) (by omega))
    rw [rep, dm, and_cut b (e := (x % 2 ^ b) >>> s &&& m) _ _ hmb, ← and_dm b s m hs hm k (x / 2 ^ b)]
    · congr 3
      rw [Nat.shiftRight_eq_div_pow, Nat.shiftRight_eq_div_pow, Nat.div_div_eq_div_mul, Nat.div_div_eq_div_mul, Nat.mul_comm]
    · apply Nat.eq_of_testBit_eq
      intro i
      simp only [Nat.testBit_and, Nat.testBit_mod_two_pow, Nat.testBit_shiftRight]
      by_cases h : m.testBit i = true
      · have h1 : i < b - s := by
          rcases Nat.lt_or_ge i (b - s) with q | q
          · exact q
          · rw [Nat.testBit_lt_two_pow (Nat.lt_of_lt_of_le hm (Nat.pow_le_pow_right (by decide) q))] at h
            cases h
        simp [show i < b by omega, show s + i < b by omega]
      · simp [h]
theorem dm_add (b : Nat) (f g : Nat → Nat) : ∀ k x, dm b f k x + dm b g k x = dm b (fun d => f d + g d) k x
  | 0, _ => rfl
  | k + 1, x => by
    rw [dm, dm, dm, ← dm_add b f g k, Nat.mul_add]
    omega
theorem dm_id (b : Nat) : ∀ k x, x < 2 ^ (b * k) → dm b (fun d => d) k x = x
  | 0, x, h => by
    rw [Nat.mul_zero] at h
    rw [dm]
    omega
  | k + 1, x, h => by
    rw [dm, dm_id b k (x / 2 ^ b)]
    · exact Nat.div_add_mod x (2 ^ b)
    · apply Nat.div_lt_of_lt_mul
      rw [← Nat.pow_add]
      rw [show b + b * k = b * (k + 1) by rw [Nat.mul_succ]; omega]
      exact h
theorem dm_cong (b : Nat) {f g : Nat → Nat} (h : ∀ d, d < 2 ^ b → f d = g d) : ∀ k x, dm b f k x = dm b g k x
  | 0, _ => rfl
  | k + 1, x => by rw [dm, dm, dm_cong b h k, h _ (Nat.mod_lt _ (Nat.two_pow_pos b))]
theorem sw_1 (x : Nat) (hx : x < 2 ^ 32) : x - ((x >>> 1) &&& 1431655765) = dm 2 (pcn 2) 16 x := by
  rw [show (1431655765 : Nat) = rep 2 1 16 from rfl, and_dm 2 1 1 (by decide) (by decide)]
  have h1 := dm_add 2 (pcn 2) (fun d => (d >>> 1) &&& 1) 16 x
  rw [dm_cong 2 (f := fun d => pcn 2 d + (d >>> 1 &&& 1)) (g := fun d => d) (by decide), dm_id 2 16 x hx] at h1
  omega
theorem dm_two (f : Nat → Nat) (hf : ∀ d, d < 4 → f d < 4) (k x : Nat) : dm 2 f (k + 2) x % 16 = f (x % 4) + 4 * f (x / 4 % 4) ∧ dm 2 f (k + 2) x / 16 = dm 2 f k (x / 16) := by
  have e1 : dm 2 f (k + 2) x = 4 * (4 * dm 2 f k (x / 4 / 4) + f (x / 4 % 4)) + f (x % 4) := rfl
  rw [show x / 4 / 4 = x / 16 by omega] at e1
  have := hf (x % 4) (by omega)
  have := hf (x / 4 % 4) (by omega)
  rw [e1]
  constructor <;> omega
theorem dm_four (f : Nat → Nat) (F : Nat → Nat) (hf : ∀ d, d < 4 → f d < 4) (hF : ∀ e, e < 16 → F (f (e % 4) + 4 * f (e / 4)) = pcn 4 e) : ∀ k x, dm 4 F k (dm 2 f (2 * k) x) = dm 4 (pcn 4) k x
  | 0, _ => rfl
  | k + 1, x => by
    obtain ⟨h1, h2⟩ := dm_two f hf (2 * k) x
    show 16 * dm 4 F k (dm 2 f (2 * k + 2) x / 16) + F (dm 2 f (2 * k + 2) x % 16) = 16 * dm 4 (pcn 4) k (x / 16) + pcn 4 (x % 16)
    rw [h1, h2, dm_four f F hf hF k (x / 16)]
    have h3 := hF (x % 16) (by omega)
    rw [show x % 16 % 4 = x % 4 by omega, show x % 16 / 4 = x / 4 % 4 by omega] at h3
    rw [h3]
theorem sw_2 (y x : Nat) (hy : y = dm 2 (pcn 2) 16 x) : (y &&& 858993459) + ((y >>> 2) &&& 858993459) = dm 4 (pcn 4) 8 x := by
  have h0 := and_dm 4 0 3 (by decide) (by decide) 8 y
  have h2 := and_dm 4 2 3 (by decide) (by decide) 8 y
  rw [Nat.shiftRight_zero] at h0
  rw [show (858993459 : Nat) = rep 4 3 8 from rfl, h0, h2, dm_add, hy]
  exact dm_four (pcn 2) _ (by decide) (by decide) 8 x
theorem pcn_split (a b x : Nat) : pcn (a + b) x = pcn a (x % 2 ^ a) + pcn b (x / 2 ^ a) := by
  induction a generalizing x with
  | zero => simp [pcn]
  | succ a ih =>
    rw [show a + 1 + b = (a + b) + 1 by omega, pcn, pcn, ih (x / 2)]
    have e1 : x % 2 ^ (a + 1) % 2 = x % 2 := by
      rw [Nat.pow_succ]
      exact Nat.mod_mod_of_dvd x (Nat.dvd_mul_left 2 (2 ^ a))
    have e2 : x % 2 ^ (a + 1) / 2 = x / 2 % 2 ^ a := by
      rw [Nat.pow_succ, Nat.mul_comm, Nat.mod_mul_right_div_self]
    have e3 : x / 2 / 2 ^ a = x / 2 ^ (a + 1) := by rw [Nat.div_div_eq_div_mul, Nat.pow_succ, Nat.mul_comm]
    rw [e1, e2, e3]
    omega
theorem dg_z (q0 q1 q2 q3 q4 q5 q6 q7 z : Nat) (l0 : q0 < 16) (hz : z = 16 * (16 * (16 * (16 * (16 * (16 * (16 * (16 * 0 + q7) + q6) + q5) + q4) + q3) + q2) + q1) + q0) : z / 16 = 16 * (16 * (16 * (16 * (16 * (16 * q7 + q6) + q5) + q4) + q3) + q2) + q1 := by omega
theorem dg_t (q0 q1 q2 q3 q4 q5 q6 q7 : Nat) : 16 * (16 * (16 * (16 * (16 * (16 * (16 * (16 * 0 + q7) + q6) + q5) + q4) + q3) + q2) + q1) + q0 + (16 * (16 * (16 * (16 * (16 * (16 * q7 + q6) + q5) + q4) + q3) + q2) + q1) = (q0 + q1 + 16 * (q1 + q2)) + 256 * ((q2 + q3 + 16 * (q3 + q4)) + 256 * ((q4 + q5 + 16 * (q5 + q6)) + 256 * (q6 + q7 + 16 * q7))) := by omega
theorem dg_m (D E : Nat) (h : D < 256) : (D + 256 * E) % 256 = D ∧ (D + 256 * E) / 256 = E := by omega
theorem dg_16 (a b : Nat) (h : a < 16) : (a + 16 * b) % 16 = a := by omega
theorem sw_3 (z x : Nat) (hx : x < 2 ^ 32) (hz : z = dm 4 (pcn 4) 8 x) : ∃ e0 e1 e2 e3 : Nat, (z + (z >>> 4)) &&& 252645135 = e0 + 256 * e1 + 65536 * e2 + 16777216 * e3 ∧ e0 ≤ 8 ∧ e1 ≤ 8 ∧ e2 ≤ 8 ∧ e3 ≤ 8 ∧ e0 + e1 + e2 + e3 = pcn 32 x := by
  obtain ⟨q0, k0⟩ : ∃ q, q = pcn 4 (x % 16) := ⟨_, rfl⟩
  obtain ⟨q1, k1⟩ : ∃ q, q = pcn 4 (x / 16 % 16) := ⟨_, rfl⟩
  obtain ⟨q2, k2⟩ : ∃ q, q = pcn 4 (x / 16 / 16 % 16) := ⟨_, rfl⟩
  obtain ⟨q3, k3⟩ : ∃ q, q = pcn 4 (x / 16 / 16 / 16 % 16) := ⟨_, rfl⟩
  obtain ⟨q4, k4⟩ : ∃ q, q = pcn 4 (x / 16 / 16 / 16 / 16 % 16) := ⟨_, rfl⟩
  obtain ⟨q5, k5⟩ : ∃ q, q = pcn 4 (x / 16 / 16 / 16 / 16 / 16 % 16) := ⟨_, rfl⟩
  obtain ⟨q6, k6⟩ : ∃ q, q = pcn 4 (x / 16 / 16 / 16 / 16 / 16 / 16 % 16) := ⟨_, rfl⟩
  obtain ⟨q7, k7⟩ : ∃ q, q = pcn 4 (x / 16 / 16 / 16 / 16 / 16 / 16 / 16 % 16) := ⟨_, rfl⟩
  have l0 : q0 ≤ 4 := by rw [k0]; exact pcn_le _ _
  have l1 : q1 ≤ 4 := by rw [k1]; exact pcn_le _ _
  have l2 : q2 ≤ 4 := by rw [k2]; exact pcn_le _ _
  have l3 : q3 ≤ 4 := by rw [k3]; exact pcn_le _ _
  have l4 : q4 ≤ 4 := by rw [k4]; exact pcn_le _ _
  have l5 : q5 ≤ 4 := by rw [k5]; exact pcn_le _ _
  have l6 : q6 ≤ 4 := by rw [k6]; exact pcn_le _ _
  have l7 : q7 ≤ 4 := by rw [k7]; exact pcn_le _ _
  have hz2 : z = 16 * (16 * (16 * (16 * (16 * (16 * (16 * (16 * 0 + q7) + q6) + q5) + q4) + q3) + q2) + q1) + q0 := by
    rw [hz, k0, k1, k2, k3, k4, k5, k6, k7]
    rfl
  have hp : pcn 32 x = q0 + (q1 + (q2 + (q3 + (q4 + (q5 + (q6 + q7)))))) := by
    rw [pcn_split 4 28, pcn_split 4 24, pcn_split 4 20, pcn_split 4 16, pcn_split 4 12, pcn_split 4 8, pcn_split 4 4]
    rw [show (2 : Nat) ^ 4 = 16 from rfl]
    have e7 : x / 16 / 16 / 16 / 16 / 16 / 16 / 16 % 16 = x / 16 / 16 / 16 / 16 / 16 / 16 / 16 := by omega
    rw [e7] at k7
    rw [← k0, ← k1, ← k2, ← k3, ← k4, ← k5, ← k6, ← k7]
  refine ⟨q0 + q1, q2 + q3, q4 + q5, q6 + q7, ?_, by clear hz2 hz hp k0 k1 k2 k3 k4 k5 k6 k7; omega, by clear hz2 hz hp k0 k1 k2 k3 k4 k5 k6 k7; omega, by clear hz2 hz hp k0 k1 k2 k3 k4 k5 k6 k7; omega, by clear hz2 hz hp k0 k1 k2 k3 k4 k5 k6 k7; omega, by rw [hp]; clear hz2 hz hp k0 k1 k2 k3 k4 k5 k6 k7; omega⟩
  have h0 := and_dm 8 0 15 (by decide) (by decide) 4 (z + z >>> 4)
  rw [Nat.shiftRight_zero] at h0
  rw [show (252645135 : Nat) = rep 8 15 4 from rfl, h0]
  have hsh : z >>> 4 = z / 16 := by rw [Nat.shiftRight_eq_div_pow]
  rw [hsh]
  have m15 : ∀ d, d >>> 0 &&& 15 = d % 16 := fun d => by
    rw [Nat.shiftRight_zero]
    exact Nat.and_two_pow_sub_one_eq_mod d 4
  show 256 * (256 * (256 * (256 * 0 + (((z + z / 16) / 256 / 256 / 256 % 256) >>> 0 &&& 15)) + (((z + z / 16) / 256 / 256 % 256) >>> 0 &&& 15)) + (((z + z / 16) / 256 % 256) >>> 0 &&& 15)) + (((z + z / 16) % 256) >>> 0 &&& 15) = _
  rw [m15, m15, m15, m15]
  rw [dg_z q0 q1 q2 q3 q4 q5 q6 q7 z (by omega) hz2, hz2, dg_t]
  have a0 := dg_m (q0 + q1 + 16 * (q1 + q2)) ((q2 + q3 + 16 * (q3 + q4)) + 256 * ((q4 + q5 + 16 * (q5 + q6)) + 256 * (q6 + q7 + 16 * q7))) (by clear hz2 hz hp h0 hsh k0 k1 k2 k3 k4 k5 k6 k7; omega)
  have a1 := dg_m (q2 + q3 + 16 * (q3 + q4)) ((q4 + q5 + 16 * (q5 + q6)) + 256 * (q6 + q7 + 16 * q7)) (by clear a0 hz2 hz hp h0 hsh k0 k1 k2 k3 k4 k5 k6 k7; omega)
  have a2 := dg_m (q4 + q5 + 16 * (q5 + q6)) (q6 + q7 + 16 * q7) (by clear a0 a1 hz2 hz hp h0 hsh k0 k1 k2 k3 k4 k5 k6 k7; omega)
  have a3 : (q6 + q7 + 16 * q7) % 256 = q6 + q7 + 16 * q7 := Nat.mod_eq_of_lt (by clear a0 a1 a2 hz2 hz hp h0 hsh k0 k1 k2 k3 k4 k5 k6 k7; omega)
  rw [a0.1, a0.2, a1.1, a1.2, a2.1, a2.2, a3]
  rw [dg_16 (q0 + q1) _ (by clear a0 a1 a2 a3 hz2 hz hp h0 hsh k0 k1 k2 k3 k4 k5 k6 k7; omega), dg_16 (q2 + q3) _ (by clear a0 a1 a2 a3 hz2 hz hp h0 hsh k0 k1 k2 k3 k4 k5 k6 k7; omega), dg_16 (q4 + q5) _ (by clear a0 a1 a2 a3 hz2 hz hp h0 hsh k0 k1 k2 k3 k4 k5 k6 k7; omega), dg_16 (q6 + q7) _ (by clear a0 a1 a2 a3 hz2 hz hp h0 hsh k0 k1 k2 k3 k4 k5 k6 k7; omega)]
  clear a0 a1 a2 a3 hz2 hz hp h0 hsh k0 k1 k2 k3 k4 k5 k6 k7
  omega
