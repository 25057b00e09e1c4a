/-! the field's squares, sides and edges, as naturals -/
def nbr (w h s d : Nat) : Option Nat := match d with
  | 0 => if s % w = 0 then none else some (s - 1)
  | 1 => if s % w + 1 < w then some (s + 1) else none
  | 2 => if s / w = 0 then none else some (s - w)
  | _ => if s / w + 1 < h then some (s + w) else none
def edn (w h s d : Nat) : Nat := match d with
  | 0 => (w + 1) * (s / w) + s % w
  | 1 => (w + 1) * (s / w) + s % w + 1
  | 2 => (w + 1) * h + w * (s / w) + s % w
  | _ => (w + 1) * h + w * (s / w + 1) + s % w
def bitO (o : Option Nat) : Nat := match o with
  | none => 0
  | some q => 2 ^ q
def hasO (set : Nat) (o : Option Nat) : Bool := match o with
  | none => false
  | some q => set.testBit q
def nb1 (w h s : Nat) : Nat := bitO (nbr w h s 0) ||| bitO (nbr w h s 1) ||| bitO (nbr w h s 2) ||| bitO (nbr w h s 3)
def e4 (w h s : Nat) : Nat := 2 ^ edn w h s 0 ||| 2 ^ edn w h s 1 ||| 2 ^ edn w h s 2 ||| 2 ^ edn w h s 3
def orF (f : Nat → Nat) : Nat → Nat → Nat
  | 0, _ => 0
  | n + 1, set => orF f n set ||| (if set.testBit n then f n else 0)
def xorF (f : Nat → Nat) : Nat → Nat → Nat
  | 0, _ => 0
  | n + 1, set => xorF f n set ^^^ (if set.testBit n then f n else 0)
def sumF (f : Nat → Nat) : Nat → Nat → Nat
  | 0, _ => 0
  | n + 1, set => sumF f n set + (if set.testBit n then f n else 0)
def bes (w h set : Nat) : Nat := orF (nb1 w h) (w * h) set
def lowb (s : Nat) : Nat := andn s (s - 1)
def gr (w h set : Nat) : Nat → Nat
  | 0 => lowb set
  | k + 1 => gr w h set k ||| (bes w h (gr w h set k) &&& set)
def conn (w h set : Nat) : Bool := gr w h set 10 == set
def bd1 (w h set s d : Nat) : Nat := if hasO set (nbr w h s d) then 0 else 2 ^ edn w h s d
def bnd (w h set : Nat) : Nat := orF (fun s => bd1 w h set s 0 ||| bd1 w h set s 1 ||| bd1 w h set s 2 ||| bd1 w h set s 3) (w * h) set
def allB : Nat → (Nat → Bool) → Bool
  | 0, _ => true
  | n + 1, p => p n && allB n p
theorem allB_iff {p : Nat → Bool} : ∀ {n : Nat}, allB n p = true ↔ ∀ k, k < n → p k = true
  | 0 => ⟨fun _ k h => absurd h (Nat.not_lt_zero k), fun _ => rfl⟩
  | n + 1 => by
    rw [allB, Bool.and_eq_true, allB_iff]
    constructor
    · rintro ⟨h1, h2⟩ k hk
      rcases Nat.lt_succ_iff_lt_or_eq.mp hk with h | h
      · exact h2 k h
      · rw [h]; exact h1
    · intro h
      exact ⟨h n (Nat.lt_succ_self n), fun k hk => h k (Nat.lt_succ_of_lt hk)⟩
/-- a shape that there is -/
def okS (w h : Nat) : Prop := 0 < w ∧ 0 < h ∧ w * h ≤ 10
def okB (w h : Nat) : Bool := 0 < w && 0 < h && w * h ≤ 10
def allS (p : Nat → Nat → Bool) : Bool := allB 11 fun w => allB 11 fun h => !okB w h || p w h
theorem okS.lt {w h : Nat} (k : okS w h) : w < 11 ∧ h < 11 := by
  obtain ⟨h1, h2, h3⟩ := k
  constructor
  · have := Nat.le_mul_of_pos_right w h2
    omega
  · have := Nat.le_mul_of_pos_left h h1
    omega
theorem allS_at {p : Nat → Nat → Bool} (hp : allS p = true) {w h : Nat} (k : okS w h) : p w h = true := by
  have h1 := allB_iff.mp (allB_iff.mp hp w k.lt.1) h k.lt.2
  have h2 : okB w h = true := by
    obtain ⟨q1, q2, q3⟩ := k
    simp [okB, q1, q2, q3]
  rw [h2] at h1
  simpa using h1
theorem geo_xor : allS (fun w h => allB (2 ^ (w * h)) fun set => xorF (e4 w h) (w * h) set == bnd w h set) = true := by decide +kernel
theorem geo_own : allS (fun w h => allB (w * h) fun s => allB 4 fun d => allB (w * h) fun p => (e4 w h p).testBit (edn w h s d) == (p == s || nbr w h s d == some p)) = true := by decide +kernel
theorem geo_edn : allS (fun w h => allB (w * h) fun s => allB 4 fun d => edn w h s d < 31) = true := by decide +kernel
