section DPS
def omin (a b : Option Nat) : Option Nat := match a with
  | none => b
  | some x => match b with
    | none => some x
    | some y => some (if y < x then y else x)
theorem omin_none (a : Option Nat) : omin a none = a := by cases a <;> rfl
theorem none_omin (a : Option Nat) : omin none a = a := rfl
theorem omin_comm (a b : Option Nat) : omin a b = omin b a := by
  cases a with
  | none => rw [none_omin, omin_none]
  | some x => cases b with
    | none => rfl
    | some y =>
      show some (if y < x then y else x) = some (if x < y then x else y)
      congr 1
      split <;> split <;> omega
theorem omin_assoc (a b c : Option Nat) : omin (omin a b) c = omin a (omin b c) := by
  cases a with
  | none => rfl
  | some x => cases b with
    | none => rfl
    | some y => cases c with
      | none => rfl
      | some z =>
        show some (if z < (if y < x then y else x) then z else (if y < x then y else x)) = some (if (if z < y then z else y) < x then (if z < y then z else y) else x)
        congr 1
        (repeat' split) <;> omega
def mL (c : Nat → Option Nat) : List Nat → Option Nat
  | [] => none
  | g :: l => omin (c g) (mL c l)
theorem mL_app (c : Nat → Option Nat) : ∀ l1 l2, mL c (l1 ++ l2) = omin (mL c l1) (mL c l2)
  | [], l2 => rfl
  | g :: l1, l2 => by
    show omin (c g) (mL c (l1 ++ l2)) = omin (omin (c g) (mL c l1)) (mL c l2)
    rw [mL_app c l1 l2, omin_assoc]
theorem mL_push (c : Nat → Option Nat) (l : List Nat) (g : Nat) : mL c (l ++ [g]) = omin (mL c l) (c g) := by
  rw [mL_app]
  show omin (mL c l) (omin (c g) none) = _
  rw [omin_none]
theorem mL_cong {c c' : Nat → Option Nat} : ∀ {l : List Nat}, (∀ g, g ∈ l → c g = c' g) → mL c l = mL c' l
  | [], _ => rfl
  | g :: l, h => by
    show omin (c g) (mL c l) = omin (c' g) (mL c' l)
    rw [h g (List.mem_cons_self), mL_cong (fun x hx => h x (List.mem_cons_of_mem g hx))]
theorem mL_some {c : Nat → Option Nat} : ∀ {l : List Nat} {x : Nat}, mL c l = some x → ∃ g, g ∈ l ∧ c g = some x
  | [], x, h => by cases h
  | g :: l, x, h => by
    change omin (c g) (mL c l) = some x at h
    cases e1 : c g with
    | none =>
      rw [e1, none_omin] at h
      obtain ⟨y, h1, h2⟩ := mL_some h
      exact ⟨y, List.mem_cons_of_mem g h1, h2⟩
    | some a =>
      cases e2 : mL c l with
      | none =>
        rw [e1, e2] at h
        exact ⟨g, List.mem_cons_self, e1.trans h⟩
      | some b =>
        rw [e1, e2] at h
        change some (if b < a then b else a) = some x at h
        by_cases q : b < a
        · rw [if_pos q] at h
          obtain ⟨y, h1, h2⟩ := mL_some (e2.trans h)
          exact ⟨y, List.mem_cons_of_mem g h1, h2⟩
        · rw [if_neg q] at h
          exact ⟨g, List.mem_cons_self, e1.trans h⟩
def sumL (c : Nat → Nat) : List Nat → Nat
  | [] => 0
  | g :: l => c g + sumL c l
theorem sumL_app (c : Nat → Nat) : ∀ l1 l2, sumL c (l1 ++ l2) = sumL c l1 + sumL c l2
  | [], l2 => (Nat.zero_add _).symm
  | g :: l1, l2 => by
    show c g + sumL c (l1 ++ l2) = c g + sumL c l1 + sumL c l2
    rw [sumL_app c l1 l2]
    omega
theorem sumL_push (c : Nat → Nat) (l : List Nat) (g : Nat) : sumL c (l ++ [g]) = sumL c l + c g := by
  rw [sumL_app]
  rfl
theorem sumL_cong {c c' : Nat → Nat} : ∀ {l : List Nat}, (∀ g, g ∈ l → c g = c' g) → sumL c l = sumL c' l
  | [], _ => rfl
  | g :: l, h => by
    show c g + sumL c l = c' g + sumL c' l
    rw [h g (List.mem_cons_self), sumL_cong (fun x hx => h x (List.mem_cons_of_mem g hx))]
theorem sumL_le {c : Nat → Nat} {B : Nat} (h : ∀ g, c g ≤ B) : ∀ l, sumL c l ≤ l.length * B
  | [] => Nat.zero_le _
  | g :: l => by
    have h1 := sumL_le h l
    have h2 := h g
    show c g + sumL c l ≤ (l.length + 1) * B
    rw [Nat.succ_mul]
    omega
/-- sets below k with p, downward -/
def dn (p : Nat → Bool) : Nat → List Nat
  | 0 => []
  | k + 1 => (if p k then [k] else []) ++ dn p k
theorem dn_skip {p : Nat → Bool} {y : Nat} : ∀ d, (∀ g, y ≤ g → g < y + d → p g = false) → dn p (y + d) = dn p y
  | 0, _ => rfl
  | d + 1, h => by
    rw [← Nat.add_assoc, dn, h (y + d) (by omega) (by omega)]
    exact dn_skip d (fun g h1 h2 => h g h1 (by omega))
theorem dn_mem {p : Nat → Bool} {g : Nat} : ∀ k, g ∈ dn p k ↔ g < k ∧ p g = true
  | 0 => by simp [dn]
  | k + 1 => by
    rw [dn, List.mem_append, dn_mem k]
    by_cases e : p k = true
    · rw [if_pos e, List.mem_singleton]
      constructor
      · rintro (h | h)
        · rw [h]; exact ⟨by omega, e⟩
        · exact ⟨by omega, h.2⟩
      · rintro ⟨h1, h2⟩
        by_cases ek : g = k
        · exact Or.inl ek
        · exact Or.inr ⟨by omega, h2⟩
    · rw [if_neg e]
      constructor
      · rintro (h | h)
        · cases h
        · exact ⟨by omega, h.2⟩
      · rintro ⟨h1, h2⟩
        refine Or.inr ⟨?_, h2⟩
        by_cases ek : g = k
        · rw [ek] at h2; exact absurd h2 e
        · omega
theorem dn_mL {w h bar : Nat} {p : Nat → Bool} (hp : ∀ g, p g = true → isFd w h bar g = true) (c : Nat → Option Nat) : ∀ k, mL c (dn p k) = mL (fun g => if p g then c g else none) (flS w h bar k)
  | 0 => rfl
  | k + 1 => by
    rw [dn, flS_succ, mL_app, dn_mL hp c k]
    by_cases e : p k = true
    · rw [if_pos e, if_pos (hp k e), mL_push, if_pos e, omin_comm]
      congr 1
      show omin (c k) none = c k
      exact omin_none _
    · rw [if_neg e]
      by_cases e2 : isFd w h bar k = true
      · rw [if_pos e2, mL_push, if_neg e, omin_none]
        rfl
      · rw [if_neg e2]
        rfl
theorem dn_sum {w h bar : Nat} {p : Nat → Bool} (hp : ∀ g, p g = true → isFd w h bar g = true) (c : Nat → Nat) : ∀ k, sumL c (dn p k) = sumL (fun g => if p g then c g else 0) (flS w h bar k)
  | 0 => rfl
  | k + 1 => by
    rw [dn, flS_succ, sumL_app, dn_sum hp c k]
    by_cases e : p k = true
    · rw [if_pos e, if_pos (hp k e), sumL_push, if_pos e]
      show (c k + 0) + _ = _
      omega
    · rw [if_neg e]
      by_cases e2 : isFd w h bar k = true
      · rw [if_pos e2, sumL_push, if_neg e]
        show 0 + _ = _ + 0
        omega
      · rw [if_neg e2]
        exact Nat.zero_add _
theorem or_gt {had g : Nat} (hg : g ≠ 0) (hd : g &&& had = 0) : had < had ||| g := by
  have h1 : had ≤ had ||| g := Nat.left_le_or
  rcases Nat.lt_or_ge had (had ||| g) with q | q
  · exact q
  · have e : had ||| g = had := by omega
    obtain ⟨i, hi⟩ := z_nz hg
    have h2 : had.testBit i = true := by
      rw [← e, Nat.testBit_or, hi, Bool.or_true]
    have h3 := z_zero.mp hd i
    rw [Nat.testBit_and, hi, h2] at h3
    exact absurd h3 (by decide)
def DPv {α : Type} (b : α) (E : Nat → Nat → (Nat → α) → α) : Nat → Nat → Nat → α
  | 0, _, _ => b
  | d + 1, had, last => E had last (fun g => DPv b E d (had ||| g) g)
def EC {α : Type} (fl : List Nat) (E : Nat → Nat → (Nat → α) → α) : Prop := ∀ had last k k', (∀ g, g ∈ fl → g &&& had = 0 → k g = k' g) → E had last k = E had last k'
theorem DP_stab {α : Type} {w h bar : Nat} {b : α} {E : Nat → Nat → (Nat → α) → α} (hE : EC (flS w h bar (2 ^ (w * h))) E) : ∀ d d' had last, had < 2 ^ (w * h) → 2 ^ (w * h) - had ≤ d → 2 ^ (w * h) - had ≤ d' → DPv b E d had last = DPv b E d' had last
  | 0, d', had, last, h1, h2, h3 => by omega
  | d + 1, 0, had, last, h1, h2, h3 => by omega
  | d + 1, d' + 1, had, last, h1, h2, h3 => by
    rw [DPv, DPv]
    apply hE
    intro g hg hd
    obtain ⟨g1, g2⟩ := flS_mem.mp hg
    have g3 : g ≠ 0 := by have := isFd_pos g2; omega
    have g4 := or_gt g3 hd
    exact DP_stab hE d d' _ _ (Nat.or_lt_two_pow h1 g1) (by omega) (by omega)
def DP {α : Type} (N : Nat) (b : α) (E : Nat → Nat → (Nat → α) → α) (had last : Nat) : α := DPv b E (N - had) had last
theorem DP_eq {α : Type} {w h bar : Nat} {b : α} {E : Nat → Nat → (Nat → α) → α} (hE : EC (flS w h bar (2 ^ (w * h))) E) {had last : Nat} (h1 : had < 2 ^ (w * h)) : DP (2 ^ (w * h)) b E had last = E had last (fun g => DP (2 ^ (w * h)) b E (had ||| g) g) := by
  unfold DP
  rw [show 2 ^ (w * h) - had = (2 ^ (w * h) - had - 1) + 1 by omega, DPv]
  apply hE
  intro g hg hd
  obtain ⟨g1, g2⟩ := flS_mem.mp hg
  have g3 : g ≠ 0 := by have := isFd_pos g2; omega
  have g4 := or_gt g3 hd
  exact DP_stab hE _ _ _ _ (Nat.or_lt_two_pow h1 g1) (by omega) (by omega)
def cnd (w h : Nat) (ok : Nat → Bool) (had last g : Nat) : Bool := (g &&& had == 0) && (bes w h last &&& g != 0) && ok g
def EL (w h rich wy : Nat) (Y : Nat → Nat) (ok : Nat → Bool) (cb : Nat → Nat → Nat → Nat) (fl : List Nat) (had last : Nat) (k : Nat → Option Nat) : Option Nat := if andn rich had = 0 then some 0 else if Y last < wy then none else mL (fun g => if cnd w h ok had last g then (k g).map (cb last g) else none) fl
def EW (w h rich wy : Nat) (Y : Nat → Nat) (ok : Nat → Bool) (fl : List Nat) (had last : Nat) (k : Nat → Nat) : Nat := ((if andn rich had = 0 then 1 else 0) + (if Y last < wy then 0 else sumL (fun g => if cnd w h ok had last g then k g else 0) fl)) % 1000000007
theorem cnd_dis {w h : Nat} {ok : Nat → Bool} {had last g : Nat} (hc : cnd w h ok had last g = true) : g &&& had = 0 ∧ bes w h last &&& g ≠ 0 ∧ ok g = true := by
  unfold cnd at hc
  simp only [Bool.and_eq_true, beq_iff_eq, bne_iff_ne, ne_eq] at hc
  exact ⟨hc.1.1, hc.1.2, hc.2⟩
theorem EL_C (w h rich wy : Nat) (Y : Nat → Nat) (ok : Nat → Bool) (cb : Nat → Nat → Nat → Nat) (fl : List Nat) : EC fl (EL w h rich wy Y ok cb fl) := by
  intro had last k k' hk
  unfold EL
  split
  · rfl
  · split
    · rfl
    · apply mL_cong
      intro g hg
      by_cases e : cnd w h ok had last g = true
      · rw [if_pos e, if_pos e, hk g hg (cnd_dis e).1]
      · rw [if_neg e, if_neg e]
theorem EW_C (w h rich wy : Nat) (Y : Nat → Nat) (ok : Nat → Bool) (fl : List Nat) : EC fl (EW w h rich wy Y ok fl) := by
  intro had last k k' hk
  unfold EW
  congr 1
  congr 1
  split
  · rfl
  · apply sumL_cong
    intro g hg
    by_cases e : cnd w h ok had last g = true
    · rw [if_pos e, if_pos e, hk g hg (cnd_dis e).1]
    · rw [if_neg e, if_neg e]
/-- a step adds 31 at most -/
def CBb (fl : List Nat) (cb : Nat → Nat → Nat → Nat) : Prop := ∀ last g v, g ∈ fl → cb last g v ≤ v + 31
theorem EL_some {w h rich wy : Nat} {Y : Nat → Nat} {ok : Nat → Bool} {cb : Nat → Nat → Nat → Nat} {fl : List Nat} {had last x : Nat} {k : Nat → Option Nat} (e : EL w h rich wy Y ok cb fl had last k = some x) : (andn rich had = 0 ∧ x = 0) ∨ (andn rich had ≠ 0 ∧ wy ≤ Y last ∧ ∃ g, g ∈ fl ∧ cnd w h ok had last g = true ∧ ∃ y, k g = some y ∧ x = cb last g y) := by
  unfold EL at e
  split at e
  · rename_i q
    cases e
    exact Or.inl ⟨q, rfl⟩
  · rename_i q
    split at e
    · cases e
    · rename_i q2
      obtain ⟨g, h1, h2⟩ := mL_some e
      by_cases c : cnd w h ok had last g = true
      · rw [if_pos c] at h2
        cases e2 : k g with
        | none =>
          rw [e2] at h2
          cases h2
        | some y =>
          rw [e2] at h2
          change some (cb last g y) = some x at h2
          cases h2
          exact Or.inr ⟨q, by omega, g, h1, c, y, e2, rfl⟩
      · rw [if_neg c] at h2
        cases h2
theorem EL_bd {w h rich wy : Nat} {Y : Nat → Nat} {ok : Nat → Bool} {cb : Nat → Nat → Nat → Nat} {fl : List Nat} (hcb : CBb fl cb) : ∀ d had last x, DPv none (EL w h rich wy Y ok cb fl) d had last = some x → x ≤ 31 * d
  | 0, had, last, x, h => by cases h
  | d + 1, had, last, x, e => by
    rw [DPv] at e
    rcases EL_some e with ⟨_, q⟩ | ⟨_, _, g, h1, h2, y, h3, h4⟩
    · omega
    · have h5 := EL_bd hcb d _ _ y h3
      have := hcb last g y h1
      omega
theorem DP_bd {w h bar rich wy : Nat} {Y : Nat → Nat} {ok : Nat → Bool} {cb : Nat → Nat → Nat → Nat} {fl : List Nat} (k : okS w h) (hcb : CBb fl cb) {had last x : Nat} (e : DP (2 ^ (w * h)) none (EL w h rich wy Y ok cb fl) had last = some x) : x ≤ 31744 := by
  have := EL_bd hcb _ _ _ _ e
  have hp := pow10 k
  omega
end DPS
