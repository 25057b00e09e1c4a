section TWO3
variable {w h : Nat}
theorem fl_mono {bar k i j : Nat} (hij : i < j) (hj : j < (flS w h bar k).length) : (flS w h bar k).getD i 0 < (flS w h bar k).getD j 0 := by
  have hp : (flS w h bar k).Pairwise (· < ·) := List.Pairwise.filter _ List.pairwise_lt_range
  rw [List.pairwise_iff_getElem] at hp
  have e := hp i j (by omega) hj hij
  rw [List.getD_eq_getElem?_getD, List.getD_eq_getElem?_getD, List.getElem?_eq_getElem hj, List.getElem?_eq_getElem (show i < (flS w h bar k).length by omega)]
  exact e
theorem fl_at {bar k i : Nat} (hi : i < (flS w h bar k).length) : (flS w h bar k).getD i 0 < k ∧ isFd w h bar ((flS w h bar k).getD i 0) = true := by
  apply flS_mem.mp
  rw [List.getD_eq_getElem?_getD, List.getElem?_eq_getElem hi]
  exact List.getElem_mem hi
theorem fl_has {bar k g : Nat} (hg : g < k) (hf : isFd w h bar g = true) : ∃ t, t < (flS w h bar k).length ∧ g = (flS w h bar k).getD t 0 := by
  obtain ⟨t, ht, e⟩ := List.getElem_of_mem (flS_mem.mpr ⟨hg, hf⟩)
  refine ⟨t, ht, ?_⟩
  rw [List.getD_eq_getElem?_getD, List.getElem?_eq_getElem ht]
  exact e.symm
def MR (L : List Nat) (c : Nat → Nat → Nat) (o : Option (Nat × Nat)) (p q r : Int32) : Prop :=
  match o with
  | none => p = -1 ∧ q = -1 ∧ r = 100000
  | some x => ∃ i j, i < L.length ∧ j < L.length ∧ p = nI i ∧ q = nI j ∧ x.1 = L.getD i 0 ∧ x.2 = L.getD j 0 ∧ r = nI (c x.1 x.2)
def VI (L : List Nat) (G : Nat → Nat → Prop) (i j a b : Nat) : Prop := G a b ∧ ((∃ t, t < i ∧ a = L.getD t 0) ∨ (a = L.getD i 0 ∧ ∃ t, t < j ∧ b = L.getD t 0))
theorem VI_end {L : List Nat} {G : Nat → Nat → Prop} (hG : ∀ a b, G a b → ∃ t, t < L.length ∧ b = L.getD t 0) (i a b : Nat) : VI L G (i + 1) 0 a b ↔ VI L G i L.length a b := by
  unfold VI
  constructor
  · rintro ⟨g, ⟨t, ht, e⟩ | ⟨_, t, ht, _⟩⟩
    · by_cases e2 : t = i
      · rw [e2] at e
        exact ⟨g, Or.inr ⟨e, hG a b g⟩⟩
      · exact ⟨g, Or.inl ⟨t, by omega, e⟩⟩
    · omega
  · rintro ⟨g, ⟨t, ht, e⟩ | ⟨e, _⟩⟩
    · exact ⟨g, Or.inl ⟨t, by omega, e⟩⟩
    · exact ⟨g, Or.inl ⟨i, by omega, e⟩⟩
theorem VI_skip {L : List Nat} {G : Nat → Nat → Prop} {i j : Nat} (ng : ¬ G (L.getD i 0) (L.getD j 0)) (a b : Nat) : VI L G i (j + 1) a b ↔ VI L G i j a b := by
  unfold VI
  constructor
  · rintro ⟨g, e | ⟨e, t, ht, e2⟩⟩
    · exact ⟨g, Or.inl e⟩
    · by_cases e3 : t = j
      · rw [e3] at e2
        rw [e, e2] at g
        exact absurd g ng
      · exact ⟨g, Or.inr ⟨e, t, by omega, e2⟩⟩
  · rintro ⟨g, e | ⟨e, t, ht, e2⟩⟩
    · exact ⟨g, Or.inl e⟩
    · exact ⟨g, Or.inr ⟨e, t, by omega, e2⟩⟩
theorem VI_add {L : List Nat} {G : Nat → Nat → Prop} {i j : Nat} (yg : G (L.getD i 0) (L.getD j 0)) (a b : Nat) : VI L G i (j + 1) a b ↔ VI L G i j a b ∨ (a = L.getD i 0 ∧ b = L.getD j 0) := by
  unfold VI
  constructor
  · rintro ⟨g, e | ⟨e, t, ht, e2⟩⟩
    · exact Or.inl ⟨g, Or.inl e⟩
    · by_cases e3 : t = j
      · rw [e3] at e2
        exact Or.inr ⟨e, e2⟩
      · exact Or.inl ⟨g, Or.inr ⟨e, t, by omega, e2⟩⟩
  · rintro (⟨g, e | ⟨e, t, ht, e2⟩⟩ | ⟨e, e2⟩)
    · exact ⟨g, Or.inl e⟩
    · exact ⟨g, Or.inr ⟨e, t, by omega, e2⟩⟩
    · refine ⟨?_, Or.inr ⟨e, j, by omega, e2⟩⟩
      rw [e, e2]
      exact yg
end TWO3
