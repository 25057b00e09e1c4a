section HUN
def iI (z : Int) : Int32 := Int32.ofInt z
theorem iI_add (a b : Int) : iI a + iI b = iI (a + b) := (Int32.ofInt_add a b).symm
theorem iI_sub (a b : Int) : iI a - iI b = iI (a - b) := (Int32.ofInt_sub a b).symm
theorem iI_nat (n : Nat) : nI n = iI (n : Int) := (Int32.ofInt_eq_ofNat).symm
theorem iI_toInt {a : Int} (h1 : -2000000000 ≤ a) (h2 : a ≤ 2000000000) : (iI a).toInt = a := Int32.toInt_ofInt_of_le (by omega) (by omega)
theorem iI_lt {a b : Int} (h1 : -2000000000 ≤ a) (h2 : a ≤ 2000000000) (h3 : -2000000000 ≤ b) (h4 : b ≤ 2000000000) : iI a < iI b ↔ a < b := by rw [fa_lt, iI_toInt h1 h2, iI_toInt h3 h4]
theorem iI_le {a b : Int} (h1 : -2000000000 ≤ a) (h2 : a ≤ 2000000000) (h3 : -2000000000 ≤ b) (h4 : b ≤ 2000000000) : iI a ≤ iI b ↔ a ≤ b := by rw [fa_le, iI_toInt h1 h2, iI_toInt h3 h4]
def uB (us : Nat → Bool) (k : Nat) : Nat → Bool := fun j => j == k || us j
theorem uB_self (us : Nat → Bool) (k : Nat) : uB us k k = true := by simp [uB]
theorem uB_ne (us : Nat → Bool) {k j : Nat} (h : j ≠ k) : uB us k j = us j := by simp [uB, h]
theorem uB_old {us : Nat → Bool} {k j : Nat} (h : us j = true) : uB us k j = true := by simp [uB, h]
theorem uB_or {us : Nat → Bool} {k j : Nat} (h : uB us k j = true) : j = k ∨ us j = true := by simpa [uB] using h
theorem uB_no {us : Nat → Bool} {k j : Nat} (h : uB us k j = false) : j ≠ k ∧ us j = false := by simpa [uB] using h
theorem cnt_uB {us : Nat → Bool} {k : Nat} (hk : us k = false) : ∀ n, fa_cnt (uB us k) n = fa_cnt us n + if k < n then 1 else 0
  | 0 => rfl
  | n + 1 => by
    rw [fa_cnt, fa_cnt, cnt_uB hk n]
    by_cases e : n = k
    · subst e
      rw [uB_self, hk]
      simp
    · rw [uB_ne us e]
      by_cases h1 : k < n
      · rw [if_pos h1, if_pos (show k < n + 1 by omega)]
        omega
      · rw [if_neg h1, if_neg (show ¬ k < n + 1 by omega)]
        omega
theorem cnt_lt {us : Nat → Bool} {k : Nat} (hk : us k = false) : ∀ n, k < n → fa_cnt us n < n
  | 0, h => absurd h (Nat.not_lt_zero k)
  | n + 1, h => by
    rw [fa_cnt]
    by_cases e : n = k
    · subst e
      rw [hk]
      have := fa_cnt_le us n
      simp
      omega
    · have := cnt_lt hk n (by omega)
      split <;> omega
def amin (us : Nat → Bool) (s : Nat → Int) : Nat → Nat → Nat → Nat
  | 0, _, x => x
  | d + 1, c, x => amin us s d (c + 1) (if us c = false ∧ (x = 0 ∨ s c < s x) then c else x)
theorem amin_sp (us : Nat → Bool) (s : Nat → Int) : ∀ d c x, 1 ≤ c → (x = 0 → ∀ j, 1 ≤ j → j < c → us j = true) → (x ≠ 0 → 1 ≤ x ∧ x < c ∧ us x = false ∧ ∀ j, 1 ≤ j → j < c → us j = false → s x ≤ s j) → (amin us s d c x = 0 → ∀ j, 1 ≤ j → j < c + d → us j = true) ∧ (amin us s d c x ≠ 0 → 1 ≤ amin us s d c x ∧ amin us s d c x < c + d ∧ us (amin us s d c x) = false ∧ ∀ j, 1 ≤ j → j < c + d → us j = false → s (amin us s d c x) ≤ s j)
  | 0, c, x, h1, h2, h3 => ⟨h2, h3⟩
  | d + 1, c, x, h1, h2, h3 => by
    rw [amin, show c + (d + 1) = (c + 1) + d by omega]
    by_cases e : us c = false ∧ (x = 0 ∨ s c < s x)
    · rw [if_pos e]
      refine amin_sp us s d (c + 1) c (by omega) (fun q => by omega) (fun _ => ⟨h1, by omega, e.1, fun j j1 j2 j3 => ?_⟩)
      by_cases ej : j = c
      · rw [ej]
        exact Int.le_refl _
      · rcases e.2 with e0 | e1
        · have := h2 e0 j j1 (by omega)
          rw [this] at j3
          exact absurd j3 (by decide)
        · by_cases ex : x = 0
          · have := h2 ex j j1 (by omega)
            rw [this] at j3
            exact absurd j3 (by decide)
          · have := (h3 ex).2.2.2 j j1 (by omega) j3
            omega
    · rw [if_neg e]
      refine amin_sp us s d (c + 1) x (by omega) (fun q j j1 j2 => ?_) (fun q => ?_)
      · by_cases ej : j = c
        · rw [ej]
          cases eu : us c with
          | true => rfl
          | false => exact absurd ⟨eu, Or.inl q⟩ e
        · exact h2 q j j1 (by omega)
      · obtain ⟨a1, a2, a3, a4⟩ := h3 q
        refine ⟨a1, by omega, a3, fun j j1 j2 j3 => ?_⟩
        by_cases ej : j = c
        · subst ej
          have : ¬ s j < s x := fun y => e ⟨j3, Or.inr y⟩
          omega
        · exact a4 j j1 (by omega) j3
def updI (f : Nat → Int) (k : Nat) (v : Int) : Nat → Int := fun j => if j = k then v else f j
def shU (us : Nat → Bool) (f : Nat → Nat) (y : Int) : Nat → Nat → (Nat → Int) → (Nat → Int)
  | 0, _, u => u
  | d + 1, c, u => shU us f y d (c + 1) (if us c then updI u (f c) (u (f c) + y) else u)
theorem shU_no {us : Nat → Bool} {f : Nat → Nat} {y : Int} {i : Nat} : ∀ d c u, (∀ j, c ≤ j → j < c + d → us j = true → f j ≠ i) → shU us f y d c u i = u i
  | 0, _, _, _ => rfl
  | d + 1, c, u, h => by
    rw [shU, shU_no d (c + 1) _ (fun j h1 h2 => h j (by omega) (by omega))]
    by_cases e : us c = true
    · rw [if_pos e]
      exact if_neg (fun q => h c (by omega) (by omega) e q.symm)
    · rw [if_neg e]
theorem shU_yes {us : Nat → Bool} {f : Nat → Nat} {y : Int} {i k : Nat} : ∀ d c u, c ≤ k → k < c + d → us k = true → f k = i → (∀ j, c ≤ j → j < c + d → us j = true → f j = i → j = k) → shU us f y d c u i = u i + y
  | 0, c, u, h1, h2, _, _, _ => by omega
  | d + 1, c, u, h1, h2, h3, h4, h5 => by
    rw [shU]
    by_cases e : c = k
    · subst e
      rw [if_pos h3, shU_no d (c + 1) _ (fun j j1 j2 j3 j4 => by have := h5 j (by omega) (by omega) j3 j4; omega)]
      unfold updI
      rw [h4, if_pos rfl]
    · rw [shU_yes d (c + 1) _ (by omega) (by omega) h3 h4 (fun j j1 j2 => h5 j (by omega) (by omega))]
      by_cases e2 : us c = true
      · rw [if_pos e2]
        unfold updI
        rw [if_neg (fun q => e (h5 c (by omega) (by omega) e2 q.symm))]
      · rw [if_neg e2]
abbrev HS := (Nat → Int) × (Nat → Int) × (Nat → Option Int) × (Nat → Bool) × (Nat → Nat) × Nat
def vl (cs : Nat → Nat → Nat) (f : Nat → Nat) (u v : Nat → Int) (now c : Nat) : Int := (cs (f now) c : Int) - u (f now) - v c
def ltO (x : Int) (o : Option Int) : Bool := match o with
  | none => true
  | some y => decide (x < y)
def slR (cs : Nat → Nat → Nat) (f : Nat → Nat) (u v : Nat → Int) (sl : Nat → Option Int) (us : Nat → Bool) (now : Nat) : Nat → Option Int := fun c => if us c then sl c else if ltO (vl cs f u v now c) (sl c) then some (vl cs f u v now c) else sl c
def wbR (cs : Nat → Nat → Nat) (f : Nat → Nat) (u v : Nat → Int) (sl : Nat → Option Int) (us : Nat → Bool) (wb : Nat → Nat) (now : Nat) : Nat → Nat := fun c => if us c then wb c else if ltO (vl cs f u v now c) (sl c) then now else wb c
def gO (o : Option Int) : Int := o.getD 0
def nxR (P : Nat) (sl : Nat → Option Int) (us : Nat → Bool) : Nat := amin us (fun c => gO (sl c)) P 1 0
def stp2 (P : Nat) (f : Nat → Nat) (u v : Nat → Int) (sl : Nat → Option Int) (us : Nat → Bool) (wb : Nat → Nat) (nx : Nat) : HS := (shU us f (gO (sl nx)) (P + 1) 0 u, (fun c => if us c then v c - gO (sl nx) else v c), (fun c => if us c then sl c else (sl c).map (fun x => x - gO (sl nx))), us, wb, nx)
def stp1 (P : Nat) (f : Nat → Nat) (u v : Nat → Int) (sl : Nat → Option Int) (us : Nat → Bool) (wb : Nat → Nat) : HS := stp2 P f u v sl us wb (nxR P sl us)
def stp (cs : Nat → Nat → Nat) (P : Nat) (f : Nat → Nat) (u v : Nat → Int) (sl : Nat → Option Int) (us : Nat → Bool) (wb : Nat → Nat) (now : Nat) : HS := stp1 P f u v (slR cs f u v sl (uB us now) now) (uB us now) (wbR cs f u v sl (uB us now) wb now)
def FE (cs : Nat → Nat → Nat) (P : Nat) (u v : Nat → Int) : Prop := ∀ i c, 1 ≤ i → 1 ≤ c → c ≤ P → u i + v c ≤ (cs i c : Int)
def BN (B : Int) (u v : Nat → Int) : Prop := (∀ i, 0 ≤ u i ∧ u i ≤ B) ∧ (∀ c, 1 ≤ c → v c ≤ 0 ∧ -B ≤ v c)
def IJ (P : Nat) (f : Nat → Nat) : Prop := ∀ i j, i ≤ P → j ≤ P → f i ≠ 0 → f i = f j → i = j
/-- a search under way: k columns used, prices moved by D, in the order rk -/
def SI (cs : Nat → Nat → Nat) (P : Nat) (f : Nat → Nat) (B : Int) (k : Nat) (D : Int) (rk : Nat → Nat) (σ : HS) : Prop :=
  FE cs P σ.1 σ.2.1 ∧ BN (B + D) σ.1 σ.2.1 ∧ 0 ≤ D ∧ D ≤ 100 ∧ (∀ c, σ.2.2.2.1 c = true → c ≤ P ∧ f c ≠ 0) ∧ fa_cnt σ.2.2.2.1 (P + 1) = k ∧ σ.2.2.2.2.2 ≤ P ∧ σ.2.2.2.1 σ.2.2.2.2.2 = false ∧
  (k = 0 → σ.2.2.2.2.2 = 0 ∧ (∀ c, σ.2.2.1 c = none) ∧ (∀ c, σ.2.2.2.1 c = false) ∧ D = 0) ∧
  (1 ≤ k → 1 ≤ σ.2.2.2.2.2 ∧ σ.2.2.2.1 0 = true ∧ ∀ c, 1 ≤ c → c ≤ P → ∃ x, σ.2.2.1 c = some x ∧ σ.2.2.2.1 (σ.2.2.2.2.1 c) = true ∧ 0 ≤ x ∧ x ≤ 200 + B ∧ (σ.2.2.2.1 c = false → ∀ j, σ.2.2.2.1 j = true → x ≤ (cs (f j) c : Int) - σ.1 (f j) - σ.2.1 c) ∧ (f c = 0 → x + D ≤ 100)) ∧
  (∀ c, f c = 0 → 1 ≤ c → c ≤ P → σ.2.1 c = 0) ∧ (∀ c, σ.2.2.2.1 c = true → rk c < k) ∧ (∀ c, σ.2.2.2.1 c = true → c ≠ 0 → rk (σ.2.2.2.2.1 c) < rk c ∧ σ.2.2.2.1 (σ.2.2.2.2.1 c) = true)
end HUN
