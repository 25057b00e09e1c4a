/-- a table as it must be -/
def TabOK (w h H : Nat) (sq : Nat → Nat) (plain : Bool) (al wa mo : Int32) (fn fs fy fb : Nat → Int32) : Prop :=
  al = nI (2 ^ (w * h) - 1) ∧ wa = nI (mk (pRich sq) (w * h)) ∧ mo = nI (mxS w h (barP plain sq (w * h)) (unnP w h H plain sq (w * h)) (2 ^ (w * h))) ∧
  ∀ g, g < 2 ^ (w * h) → fn g = nI (if isFd w h (barP plain sq (w * h)) g then nds w h (unnP w h H plain sq (w * h)) g else 0) ∧ (fs g = if isFd w h (barP plain sq (w * h)) g then nI (pc (nds w h (unnP w h H plain sq (w * h)) g)) else -1) ∧ fy g = nI (sumF (yd sq) (w * h) g) ∧ fb g = nI (bes w h g)
theorem orF_0 (f : Nat → Nat) : ∀ n, orF f n 0 = 0
  | 0 => rfl
  | n + 1 => by simp [orF, orF_0 f n]
theorem sumF_0 (f : Nat → Nat) : ∀ n, sumF f n 0 = 0
  | 0 => rfl
  | n + 1 => by simp [sumF, sumF_0 f n]
/-- FoldTable.build -/
theorem s_build {w h H : Nat} {sq : Nat → Nat} (plain : Bool) {fn fs fy fb gk : Nat → Int32} {Q : (Int32 × Int32 × Int32 × (Nat → Int32) × (Nat → Int32) × (Nat → Int32) × (Nat → Int32)) → Prop} (k : okS w h) (hgk : ∀ s, s < w * h → gk s = nI (sq s) ∧ sq s ≤ 11) (z1 : fn 0 = 0) (z2 : fy 0 = 0) (z3 : fb 0 = 0)
    (hQ : ∀ al wa mo fn' fs' fy' fb', TabOK w h H sq plain al wa mo fn' fs' fy' fb' → Q (al, wa, mo, fn', fs', fy', fb')) : wp_X3_build (plI plain) fn fs fy fb (nI w) (nI h) (nI H) gk Q := by
  have hw := k.lt.1
  have hh := k.lt.2
  have hp := pow10 k
  have hp0 : 0 < 2 ^ (w * h) := Nat.two_pow_pos _
  unfold wp_X3_build wp_X4_squares
  intro y2 e2
  rw [z_mul, z_shl1 _ (by have := k.2.2; omega), show nI (2 ^ (w * h)) - 1 = nI (2 ^ (w * h) - 1) from z_sub (a := 2 ^ (w * h)) (b := 1) hp0] at e2
  subst e2
  unfold lp_X3_build_33
  refine ⟨fun m wa fn' fy' fb' a b z => ∃ y, y ≤ h ∧ m = h - y ∧ z = nI y ∧ bInv w h H sq plain fn fy fb (w * y) wa fn' fy' fb' a b, ⟨h, 0, by omega, rfl, rfl, rfl, rfl, ?_, fun s q => by simp at q, rfl, rfl, rfl⟩, ?_⟩
  · cases plain <;> simp [unnP, pe]
  rintro m wa fn' fy' fb' a b z ⟨y, hy, rfl, rfl, hi⟩
  unfold bd_X3_build_33
  refine pk_le h y (fun q => ?_) (fun q => ?_) rfl rfl
  · have : y = h := by omega
    subst this
    obtain ⟨i1, i2, i3, i4, i5, i6, i7⟩ := hi
    refine s_joinAll (e := e4 w y) (nb := nb1 w y) (yd := yd sq) k.2.2 i4 ?_
    intro f1 f2 f3 hset u1 u2 u3
    have fin : bk_X3_build_195 Q b (nI (2 ^ (w * y) - 1)) wa 0 f1 fs f2 f3 (nI (barP plain sq (w * y))) := by
      unfold bk_X3_build_195
      rw [i3]
      refine s_sortOut (bar := barP plain sq (w * y)) (unn := unnP w y H plain sq (w * y)) k ?_ rfl (fun g q1 q2 => by rw [(hset g q1 q2).1, xor_bnd k q2]) (fun g q1 q2 => (hset g q1 q2).2.2) ?_
      · unfold barP
        split
        · decide
        · exact Nat.lt_of_lt_of_le (mk_lt _ _) (by omega)
      · intro fm' fn2 fs2 hm hs v1 v2
        refine hQ _ _ _ _ _ _ _ ⟨rfl, i1, hm, fun g hg => ?_⟩
        by_cases hg0 : g = 0
        · subst hg0
          have hf : isFd w y (barP plain sq (w * y)) 0 = false := by simp [isFd]
          dsimp only
          rw [hf, v2, u1, i5, z1, v1, u2, i6, z2, u3, i7, z3, sumF_0, bes, orF_0]
          exact ⟨rfl, rfl, rfl, rfl⟩
        · have q1 : 0 < g := Nat.pos_of_ne_zero hg0
          exact ⟨(hs g q1 hg).1, (hs g q1 hg).2, (hset g q1 hg).2.1, (hset g q1 hg).2.2⟩
    refine ⟨fun np => ?_, fun np => ?_⟩
    · have hpl : plain = false := by
        cases plain
        · rfl
        · exact absurd np (by decide)
      rw [i2]
      have : barP plain sq (w * y) = mk (pBar sq) (w * y) := by rw [hpl]; rfl
      rw [← this]
      exact fin
    · have hpl : plain = true := by
        cases plain
        · exact absurd rfl np
        · rfl
      have : barP plain sq (w * y) = 0 := by rw [hpl]; rfl
      rw [this] at fin
      exact fin
  · unfold lp_X3_build_45
    refine ⟨fun m wa fn' fy' fb' a b z => ∃ x, x ≤ w ∧ m = w - x ∧ z = nI x ∧ bInv w h H sq plain fn fy fb (w * y + x) wa fn' fy' fb' a b, ⟨w, 0, by omega, rfl, rfl, hi⟩, ?_⟩
    rintro m wa fn' fy' fb' a b z ⟨x, hx, rfl, rfl, hi⟩
    refine s_build_in (fn := fn) (fy := fy) (fb := fb) k hx q hgk hi ?_ ?_
    · intro hx2 wa2 f1 f2 f3 a2 b2 hi2
      exact ⟨w - (x + 1), by omega, x + 1, hx2, rfl, rfl, hi2⟩
    · intro hxw
      refine ⟨h - (y + 1), by omega, y + 1, q, rfl, rfl, ?_⟩
      rw [hxw] at hi
      exact hi
