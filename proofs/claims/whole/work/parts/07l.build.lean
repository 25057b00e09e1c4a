/-- the squares below n with a property, by bits -/
def mk (p : Nat → Bool) : Nat → Nat
  | 0 => 0
  | n + 1 => mk p n ||| (if p n then 2 ^ n else 0)
theorem mk_bit (p : Nat → Bool) (i : Nat) : ∀ n, (mk p n).testBit i = (decide (i < n) && p i)
  | 0 => by simp [mk]
  | n + 1 => by
    rw [mk, Nat.testBit_or, mk_bit p i n]
    by_cases h : i = n
    · subst h
      cases hp : p i <;> simp [tb_pow]
    · have h1 : (if p n = true then 2 ^ n else 0).testBit i = false := by
        split
        · rw [tb_pow]; simp; omega
        · exact Nat.zero_testBit i
      rw [h1, Bool.or_false]
      by_cases h2 : i < n
      · simp [h2, show i < n + 1 by omega]
      · simp [h2, show ¬ i < n + 1 by omega]
theorem mk_lt (p : Nat → Bool) : ∀ n, mk p n < 2 ^ n
  | 0 => Nat.zero_lt_one
  | n + 1 => by
    rw [mk]
    apply Nat.or_lt_two_pow
    · exact Nat.lt_of_lt_of_le (mk_lt p n) (Nat.pow_le_pow_right (by decide) (by omega))
    · split
      · exact Nat.pow_lt_pow_right (by decide) (by omega)
      · exact Nat.two_pow_pos _
def yd (sq : Nat → Nat) (s : Nat) : Nat := if sq s < 10 then sq s else 0
def pBar (sq : Nat → Nat) (s : Nat) : Bool := decide (10 ≤ sq s)
def pRich (sq : Nat → Nat) (s : Nat) : Bool := decide (0 < sq s) && decide (sq s < 10)
def pe (w h : Nat) (sq : Nat → Nat) : Nat → Nat
  | 0 => 0
  | n + 1 => pe w h sq n ||| (if sq n = 10 then e4 w h n else 0)
def barP (plain : Bool) (sq : Nat → Nat) (n : Nat) : Nat := if plain then 0 else mk (pBar sq) n
def unnP (w h H : Nat) (plain : Bool) (sq : Nat → Nat) (n : Nat) : Nat := if plain then H else H ||| pe w h sq n
def plI (plain : Bool) : Int32 := if plain then 1 else 0
/-- what stands when the squares below kk are laid -/
def bInv (w h H : Nat) (sq : Nat → Nat) (plain : Bool) (fn fy fb : Nat → Int32) (kk : Nat) (wa : Int32) (fn' fy' fb' : Nat → Int32) (a b : Int32) : Prop :=
  wa = nI (mk (pRich sq) kk) ∧ a = nI (mk (pBar sq) kk) ∧ b = nI (unnP w h H plain sq kk) ∧ (∀ s, s < kk → fn' (2 ^ s) = nI (e4 w h s) ∧ fy' (2 ^ s) = nI (yd sq s) ∧ fb' (2 ^ s) = nI (nb1 w h s)) ∧ fn' 0 = fn 0 ∧ fy' 0 = fy 0 ∧ fb' 0 = fb 0
theorem pow_ne {s t : Nat} (h : s ≠ t) : 2 ^ s ≠ 2 ^ t := fun q => by
  have h1 := tb_pow t s
  rw [← q, tb_pow s s] at h1
  have h2 : t = s := by simpa using h1.symm
  exact h h2.symm
theorem pow_ne0 (t : Nat) : 0 ≠ 2 ^ t := fun q => by have := Nat.two_pow_pos t; omega
theorem bInv_go {w h H : Nat} {sq : Nat → Nat} {plain : Bool} {fn fy fb : Nat → Int32} {kk : Nat} {wa : Int32} {fn' fy' fb' : Nat → Int32} {a b : Int32} (hi : bInv w h H sq plain fn fy fb kk wa fn' fy' fb' a b) {wa2 a2 b2 : Int32} {g : Nat → Int32} (h1 : wa2 = nI (mk (pRich sq) (kk + 1))) (h2 : a2 = nI (mk (pBar sq) (kk + 1))) (h3 : b2 = nI (unnP w h H plain sq (kk + 1))) (h4 : g = upd fy' (2 ^ kk) (nI (yd sq kk))) : bInv w h H sq plain fn fy fb (kk + 1) wa2 (upd fn' (2 ^ kk) (nI (e4 w h kk))) g (upd fb' (2 ^ kk) (nI (nb1 w h kk))) a2 b2 := by
  obtain ⟨-, -, -, i4, i5, i6, i7⟩ := hi
  refine ⟨h1, h2, h3, fun s hs => ?_, ?_, ?_, ?_⟩
  · rw [h4]
    by_cases q : s = kk
    · rw [q, z_upd_eq, z_upd_eq, z_upd_eq]
      exact ⟨rfl, rfl, rfl⟩
    · rw [z_upd_ne _ _ (pow_ne q), z_upd_ne _ _ (pow_ne q), z_upd_ne _ _ (pow_ne q)]
      exact i4 s (by omega)
  · rw [z_upd_ne _ _ (pow_ne0 _)]; exact i5
  · rw [h4, z_upd_ne _ _ (pow_ne0 _)]; exact i6
  · rw [z_upd_ne _ _ (pow_ne0 _)]; exact i7
theorem s_build_in {w h H x y : Nat} {sq : Nat → Nat} {plain : Bool} {fn fy fb gk : Nat → Int32} {wa : Int32} {fn' fy' fb' : Nat → Int32} {a b : Int32} {Q : (Int32 × Int32 × Int32 × (Nat → Int32) × (Nat → Int32) × (Nat → Int32) × (Nat → Int32)) → Prop} {B33 B45 : Int32 → (Nat → Int32) → (Nat → Int32) → (Nat → Int32) → Int32 → Int32 → Int32 → Prop} (k : okS w h) (hx : x ≤ w) (hy : y < h) (hgk : ∀ s, s < w * h → gk s = nI (sq s) ∧ sq s ≤ 11) (hi : bInv w h H sq plain fn fy fb (w * y + x) wa fn' fy' fb' a b)
    (hB : x < w → ∀ wa2 f1 f2 f3 a2 b2, bInv w h H sq plain fn fy fb (w * y + x + 1) wa2 f1 f2 f3 a2 b2 → B45 wa2 f1 f2 f3 a2 b2 (nI (x + 1))) (hO : x = w → B33 wa fn' fy' fb' a b (nI (y + 1))) : bd_X3_build_45 Q B33 B45 (plI plain) (nI y) (nI w) (nI h) gk wa fn' fy' fb' a b (nI x) := by
  have hw := k.lt.1
  have hh := k.lt.2
  unfold bd_X3_build_45
  refine pk_le w x (fun q => ?_) (fun q => ?_) rfl rfl
  · intro y8 e8
    rw [e8, nI_1]
    exact hO (by omega)
  · have hs := xy_lt q hy
    have hs10 : w * y + x < 10 := Nat.lt_of_lt_of_le hs k.2.2
    have hp : 2 ^ (w * y + x) < 1024 := Nat.pow_lt_pow_right (by decide) hs10
    intro y9 e9
    rw [z_mul, nI_add] at e9
    obtain ⟨s, hsv⟩ : ∃ s, s = w * y + x := ⟨_, rfl⟩
    have hB' : ∀ wa2 f1 f2 f3 a2 b2, bInv w h H sq plain fn fy fb (s + 1) wa2 f1 f2 f3 a2 b2 → B45 wa2 f1 f2 f3 a2 b2 (nI (x + 1)) := by rw [hsv]; exact hB q
    rw [← hsv] at e9 hi hs hs10 hp
    subst e9
    have c1 : (nI s).toNatClampNeg = s := z_cl (by omega)
    have sh : (1 : Int32) <<< (nI s &&& 31) = nI (2 ^ s) := z_shl1 s (by omega)
    have cp : (nI (2 ^ s)).toNatClampNeg = 2 ^ s := z_cl (by omega)
    have ip : vp_in (nI (2 ^ s)) 1024 := pk_in (2 ^ s) 1024 hp
    obtain ⟨g1, g2⟩ := hgk s hs
    refine ⟨pk_in s 10 hs10, fun y10 e10 => ?_⟩
    rw [c1, g1] at e10
    subst e10
    have put := s_putSingle (f_needs := fn') (f_beside := fb') (Q := fun u11 => ((nI (sq s) < 10 → vp_in (1 <<< (nI s &&& 31)) 1024 ∧ (∀ f13 : Nat → Int32, f13 = (upd fy' (1 <<< (nI s &&& 31)).toNatClampNeg (nI (sq s))) → ((nI (sq s) ≤ 0 → bk_X3_build_140 Q B33 B45 (plI plain) a b (nI x) (nI s) (nI (sq s)) u11.1 f13 u11.2 0 wa) ∧ (¬ nI (sq s) ≤ 0 → bk_X3_build_140 Q B33 B45 (plI plain) a b (nI x) (nI s) (nI (sq s)) u11.1 f13 u11.2 (1 <<< (nI s &&& 31)) wa)))) ∧ (¬ nI (sq s) < 10 → ∀ y20 : Int32, y20 = (a ||| (1 <<< (nI s &&& 31))) → vp_in (1 <<< (nI s &&& 31)) 1024 ∧ (∀ f21 : Nat → Int32, f21 = (upd fy' (1 <<< (nI s &&& 31)).toNatClampNeg 0) → bk_X3_build_144 Q B33 B45 (plI plain) y20 b (nI x) (nI s) (nI (sq s)) wa u11.1 f21 u11.2)))) k q hy
    rw [← hsv] at put
    refine put ?_
    dsimp only
    rw [sh, cp]
    -- the end of the walk
    have e169 : ∀ (wa2 a2 b2 : Int32) (g : Nat → Int32), wa2 = nI (mk (pRich sq) (s + 1)) → a2 = nI (mk (pBar sq) (s + 1)) → b2 = nI (unnP w h H plain sq (s + 1)) → g = upd fy' (2 ^ s) (nI (yd sq s)) → bk_X3_build_169 Q B33 B45 a2 b2 (nI x) wa2 (upd fn' (2 ^ s) (nI (e4 w h s))) g (upd fb' (2 ^ s) (nI (nb1 w h s))) := by
      intro wa2 a2 b2 g q1 q2 q3 q4
      unfold bk_X3_build_169
      intro y17 e17
      rw [e17, nI_1]
      exact hB' _ _ _ _ _ _ (bInv_go hi q1 q2 q3 q4)
    have e144 : ∀ (wa2 a2 : Int32) (g : Nat → Int32), wa2 = nI (mk (pRich sq) (s + 1)) → a2 = nI (mk (pBar sq) (s + 1)) → g = upd fy' (2 ^ s) (nI (yd sq s)) → bk_X3_build_144 Q B33 B45 (plI plain) a2 b (nI x) (nI s) (nI (sq s)) wa2 (upd fn' (2 ^ s) (nI (e4 w h s))) g (upd fb' (2 ^ s) (nI (nb1 w h s))) := by
      intro wa2 a2 g q1 q2 q4
      have hb := hi.2.2.1
      unfold bk_X3_build_144
      refine ⟨fun n10 => ?_, fun n10 => ?_⟩
      · have : sq s ≠ 10 := fun z => n10 (by rw [z]; rfl)
        refine e169 wa2 a2 b g q1 q2 ?_ q4
        rw [hb]
        congr 1
        unfold unnP
        rw [pe, if_neg this, Nat.or_zero]
      · have h10 : sq s = 10 := (nI_eq (by omega) (by decide)).mp n10
        refine ⟨fun np => ?_, fun np => ?_⟩
        · have hpl : plain = true := by
            cases plain
            · exact absurd rfl np
            · rfl
          refine e169 wa2 a2 b g q1 q2 ?_ q4
          rw [hb, hpl]
          rfl
        · have hpl : plain = false := by
            cases plain
            · rfl
            · exact absurd np (by decide)
          rw [sh, cp]
          refine ⟨ip, fun y19 e19 => ?_⟩
          rw [z_upd_eq, hb, z_or] at e19
          refine e169 wa2 a2 y19 g q1 q2 ?_ q4
          rw [e19, hpl]
          congr 1
          show (H ||| pe w h sq s) ||| e4 w h s = H ||| pe w h sq (s + 1)
          rw [pe, if_pos h10, Nat.or_assoc]
    have e140 : ∀ (s0 : Nat) (g : Nat → Int32), sq s < 10 → s0 = (if pRich sq s then 2 ^ s else 0) → g = upd fy' (2 ^ s) (nI (yd sq s)) → bk_X3_build_140 Q B33 B45 (plI plain) a b (nI x) (nI s) (nI (sq s)) (upd fn' (2 ^ s) (nI (e4 w h s))) g (upd fb' (2 ^ s) (nI (nb1 w h s))) (nI s0) wa := by
      intro s0 g l10 q0 q4
      unfold bk_X3_build_140
      intro y15 e15
      rw [hi.1, z_or, q0] at e15
      refine e144 y15 a g e15 ?_ q4
      rw [hi.2.1]
      congr 1
      rw [mk, if_neg (by simp [pBar]; omega), Nat.or_zero]
    refine pk_lt (sq s) 10 (fun l10 => ?_) (fun l10 => ?_) rfl rfl
    · refine ⟨ip, fun f13 e13 => ?_⟩
      have e13' : f13 = upd fy' (2 ^ s) (nI (yd sq s)) := by rw [e13, yd, if_pos l10]
      refine pk_le (sq s) 0 (fun l0 => ?_) (fun l0 => ?_) rfl rfl
      · exact e140 0 f13 l10 (by rw [if_neg (by simp [pRich]; omega)]) e13'
      · exact e140 (2 ^ s) f13 l10 (by rw [if_pos (by simp [pRich]; omega)]) e13'
    · intro y20 e20
      rw [hi.2.1, z_or] at e20
      refine ⟨ip, fun f21 e21 => ?_⟩
      refine e144 wa y20 f21 ?_ ?_ ?_
      · rw [hi.1]
        congr 1
        rw [mk, if_neg (by simp [pRich]; omega), Nat.or_zero]
      · rw [e20]
        congr 1
        rw [mk, if_pos (by simp [pBar]; omega)]
      · rw [e21, yd, if_neg (by omega)]; rfl
