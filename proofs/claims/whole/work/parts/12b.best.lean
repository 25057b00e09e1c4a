def lx (d a b d' a' b' : Nat) : Prop := d < d' ∨ (d = d' ∧ (a < a' ∨ (a = a' ∧ b ≤ b')))
theorem lx_refl (d a b : Nat) : lx d a b d a b := Or.inr ⟨rfl, Or.inr ⟨rfl, Nat.le_refl b⟩⟩
theorem lx_trans {d a b d' a' b' d2 a2 b2 : Nat} (p : lx d a b d' a' b') (q : lx d' a' b' d2 a2 b2) : lx d a b d2 a2 b2 := by
  unfold lx at *
  omega
theorem lx_anti {d a b d' a' b' : Nat} (p : lx d a b d' a' b') (q : lx d' a' b' d a b) : a = a' ∧ b = b' := by
  unfold lx at *
  omega
def Best (V : Nat → Nat → Prop) (c : Nat → Nat → Nat) (o : Option (Nat × Nat)) : Prop :=
  match o with
  | none => ∀ a b, ¬ V a b
  | some x => V x.1 x.2 ∧ ∀ a b, V a b → lx (c x.1 x.2) x.1 x.2 (c a b) a b
theorem best_ext {V V' : Nat → Nat → Prop} {c : Nat → Nat → Nat} {o : Option (Nat × Nat)} (e : ∀ a b, V' a b ↔ V a b) (hb : Best V c o) : Best V' c o := by
  cases o with
  | none => exact fun a b q => hb a b ((e a b).mp q)
  | some x => exact ⟨(e _ _).mpr hb.1, fun a b q => hb.2 a b ((e a b).mp q)⟩
theorem best_uniq {V V' : Nat → Nat → Prop} {c : Nat → Nat → Nat} {o o' : Option (Nat × Nat)} (e : ∀ a b, V' a b ↔ V a b) (hb : Best V c o) (hb' : Best V' c o') : o = o' := by
  have hc := best_ext e hb
  cases o with
  | none =>
    cases o' with
    | none => rfl
    | some x => exact absurd hb'.1 (hc _ _)
  | some y =>
    cases o' with
    | none => exact absurd hc.1 (hb' _ _)
    | some x =>
      obtain ⟨e1, e2⟩ := lx_anti (hc.2 _ _ hb'.1) (hb'.2 _ _ hc.1)
      exact congrArg some (Prod.ext e1 e2)
theorem best_new {V V' : Nat → Nat → Prop} {c : Nat → Nat → Nat} {o : Option (Nat × Nat)} {A B : Nat} (e : ∀ a b, V' a b ↔ V a b ∨ (a = A ∧ b = B)) (hb : Best V c o) (hl : ∀ x, o = some x → lx (c A B) A B (c x.1 x.2) x.1 x.2) : Best V' c (some (A, B)) := by
  refine ⟨(e _ _).mpr (Or.inr ⟨rfl, rfl⟩), fun a b q => ?_⟩
  rcases (e a b).mp q with p | ⟨rfl, rfl⟩
  · cases o with
    | none => exact absurd p (hb _ _)
    | some x => exact lx_trans (hl x rfl) (hb.2 _ _ p)
  · exact lx_refl _ _ _
theorem best_keep {V V' : Nat → Nat → Prop} {c : Nat → Nat → Nat} {x : Nat × Nat} {A B : Nat} (e : ∀ a b, V' a b ↔ V a b ∨ (a = A ∧ b = B)) (hb : Best V c (some x)) (hl : lx (c x.1 x.2) x.1 x.2 (c A B) A B) : Best V' c (some x) := by
  refine ⟨(e _ _).mpr (Or.inl hb.1), fun a b q => ?_⟩
  rcases (e a b).mp q with p | ⟨rfl, rfl⟩
  · exact hb.2 _ _ p
  · exact hl
def CR (c : Nat → Nat → Nat) (o : Option (Nat × Nat)) (p q r : Int32) : Prop :=
  match o with
  | none => p = -1 ∧ q = -1 ∧ r = -1
  | some x => p = nI x.1 ∧ q = nI x.2 ∧ r = nI (c x.1 x.2)
