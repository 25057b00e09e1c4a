section LAY
variable {w h : Nat}
def el (m : Nat) : Nat → List Nat
  | 0 => []
  | k + 1 => if m.testBit k then el m k ++ [k] else el m k
theorem el_lt (m : Nat) : ∀ k j, j < (el m k).length → (el m k).getD j 0 < k
  | 0, j, hj => absurd hj (Nat.not_lt_zero j)
  | k + 1, j, hj => by
    rw [el] at hj ⊢
    by_cases e : m.testBit k = true
    · rw [if_pos e] at hj ⊢
      rw [List.length_append] at hj
      simp only [List.length_cons, List.length_nil] at hj
      rw [getD_push]
      split
      · rename_i q
        have := el_lt m k j q
        omega
      · split <;> omega
    · rw [if_neg e] at hj ⊢
      have := el_lt m k j hj
      omega
theorem el_stop {m n : Nat} (hm : m < 2 ^ n) : ∀ d, el m (n + d) = el m n
  | 0 => rfl
  | d + 1 => by
    rw [← Nat.add_assoc, el, Nat.testBit_lt_two_pow (Nat.lt_of_lt_of_le hm (Nat.pow_le_pow_right (by decide) (show n ≤ n + d by omega)))]
    exact el_stop hm d
theorem el_sum {a b : Nat} (hab : ∀ i, a.testBit i = true → b.testBit i = false) : ∀ k, (el a k).length + (el b k).length ≤ k
  | 0 => Nat.le_refl 0
  | k + 1 => by
    have := el_sum hab k
    rw [el, el]
    by_cases e : a.testBit k = true
    · rw [if_pos e, hab k e, if_neg (by decide), List.length_append]
      simp only [List.length_cons, List.length_nil]
      omega
    · rw [if_neg e]
      split
      · rw [List.length_append]
        simp only [List.length_cons, List.length_nil]
        omega
      · omega
def TO (w h : Nat) (l : List Nat) (tx ty : Nat → Int32) : Prop := ∀ j, j < l.length → tx (j + 1) = nI (eX w h (l.getD j 0)) ∧ ty (j + 1) = nI (eY w h (l.getD j 0))
theorem TO_push {l : List Nat} {tx ty : Nat → Int32} {e : Nat} (ht : TO w h l tx ty) : TO w h (l ++ [e]) (upd tx (l.length + 1) (nI (eX w h e))) (upd ty (l.length + 1) (nI (eY w h e))) := by
  intro j hj
  rw [List.length_append] at hj
  simp only [List.length_cons, List.length_nil] at hj
  rw [getD_push]
  by_cases q : j < l.length
  · rw [if_pos q, z_upd_ne _ _ (by omega), z_upd_ne _ _ (by omega)]
    exact ht j q
  · have e1 : j = l.length := by omega
    rw [if_neg q, if_pos e1, e1, z_upd_eq, z_upd_eq]
    exact ⟨rfl, rfl⟩
theorem s_putPlace {pl : Nat} {xI yI : Int32} {fx fy : Nat → Int32} {Q : (Int32 × (Nat → Int32) × (Nat → Int32)) → Prop} (hp : pl < 62) (hQ : Q (nI (pl + 1), upd fx (pl + 1) xI, upd fy (pl + 1) yI)) : wp_X0_putPlace xI yI (nI pl) fx fy Q := by
  unfold wp_X0_putPlace
  refine pk_le 62 pl (fun q => by omega) (fun _ y2 e2 => ?_) rfl rfl
  rw [nI_1] at e2
  subst e2
  refine ⟨pk_in (pl + 1) 63 (by omega), fun f3 e3 => ⟨pk_in (pl + 1) 63 (by omega), fun f4 e4 => ?_⟩⟩
  rw [z_cl (by omega)] at e3 e4
  subst e3
  subst e4
  exact hQ
theorem s_clay {a b : Nat} {sx sy tx ty fx fy ua va fa : Nat → Int32} {Q : (Int32 × Int32 × (Nat → Int32) × (Nat → Int32) × (Nat → Int32) × (Nat → Int32) × (Nat → Int32) × (Nat → Int32) × (Nat → Int32)) → Prop} (k : okS w h) (hsp : SP w h sx sy) (ha : a < 2 ^ ecN w h) (hb : b < 2 ^ ecN w h) (hab : ∀ i, a.testBit i = true → b.testBit i = false) (hQ : ∀ tx' ty' fx' fy' ua' va' fa', TO w h (el a (ecN w h)) tx' ty' → TO w h (el b (ecN w h)) fx' fy' → (∀ j, (el b (ecN w h)).length ≤ j → j < (el b (ecN w h)).length + (el a (ecN w h)).length → fx' (j + 1) = 0 ∧ fy' (j + 1) = 0) → (∀ i, i < 32 → ua' i = 0) → (∀ c, c < 63 → va' c = 0) → (∀ c, c < 63 → fa' c = 0) → Q (nI (el a (ecN w h)).length, nI ((el b (ecN w h)).length + (el a (ecN w h)).length), tx', ty', fx', fy', ua', va', fa')) : wp_X0_lay (nI a) (nI b) sx sy tx ty fx fy ua va fa Q := by
  have hec : ecN w h ≤ 31 := ec_le k
  have ha31 : a < 2 ^ 31 := Nat.lt_of_lt_of_le ha (Nat.pow_le_pow_right (by decide) hec)
  have hb31 : b < 2 ^ 31 := Nat.lt_of_lt_of_le hb (Nat.pow_le_pow_right (by decide) hec)
  have ea : el a 31 = el a (ecN w h) := by
    have := el_stop ha (31 - ecN w h)
    rw [show ecN w h + (31 - ecN w h) = 31 by omega] at this
    exact this
  have eb : el b 31 = el b (ecN w h) := by
    have := el_stop hb (31 - ecN w h)
    rw [show ecN w h + (31 - ecN w h) = 31 by omega] at this
    exact this
  have hbit : ∀ m, m < 2 ^ ecN w h → ∀ e, m.testBit e = true → e < ecN w h := by
    intro m hm e he
    apply Classical.byContradiction
    intro q
    rw [Nat.testBit_lt_two_pow (Nat.lt_of_lt_of_le hm (Nat.pow_le_pow_right (by decide) (Nat.le_of_not_lt q)))] at he
    exact absurd he (by decide)
  unfold wp_X0_lay lp_X0_lay_12
  refine ⟨fun M ed pl tx ty fx fy x3 => ∃ e, e ≤ 31 ∧ M = 31 - e ∧ x3 = nI e ∧ ed = nI (el a e).length ∧ pl = nI (el b e).length ∧ TO w h (el a e) tx ty ∧ TO w h (el b e) fx fy, ⟨31, 0, by omega, rfl, rfl, rfl, rfl, fun j hj => absurd hj (Nat.not_lt_zero j), fun j hj => absurd hj (Nat.not_lt_zero j)⟩, ?_⟩
  rintro M ed pl tx ty fx fy x3 ⟨e, he, rfl, rfl, rfl, rfl, hta, htb⟩
  have hsum := el_sum hab e
  unfold bd_X0_lay_12
  refine pk_le 31 e (fun q => ?_) (fun q => ?_) rfl rfl
  · have e31 : e = 31 := by omega
    subst e31
    rw [ea] at hta hsum
    rw [eb] at htb hsum
    rw [ea, eb]
    unfold lp_X0_lay_103
    refine ⟨fun M pl fx fy x3 => ∃ i, i ≤ (el a (ecN w h)).length ∧ M = (el a (ecN w h)).length - i ∧ x3 = nI i ∧ pl = nI ((el b (ecN w h)).length + i) ∧ TO w h (el b (ecN w h)) fx fy ∧ (∀ j, (el b (ecN w h)).length ≤ j → j < (el b (ecN w h)).length + i → fx (j + 1) = 0 ∧ fy (j + 1) = 0), ⟨_, 0, by omega, rfl, rfl, rfl, htb, fun j h1 h2 => by omega⟩, ?_⟩
    clear htb
    rintro M pl fx fy x3 ⟨i, hi, rfl, rfl, rfl, htb, hhp⟩
    unfold bd_X0_lay_103
    refine pk_le (el a (ecN w h)).length i (fun q2 => ?_) (fun q2 => ?_) rfl rfl
    · have ei : i = (el a (ecN w h)).length := by omega
      rw [ei] at hhp ⊢
      refine s_fill (n := 32) (by decide) (fun a1 h1 => s_fill (n := 63) (by decide) (fun a2 h2 => s_fill (n := 63) (by decide) (fun a3 h3 => hQ _ _ _ _ _ _ _ hta htb hhp (fun i hi => ?_) (fun c hc => ?_) (fun c hc => ?_))))
      · rw [h1, if_pos hi]
      · rw [h2, if_pos hc]
      · rw [h3, if_pos hc]
    · refine s_putPlace (by omega) (fun y7 e7 => ⟨(el a (ecN w h)).length - (i + 1), by omega, i + 1, by omega, rfl, by rw [e7, nI_1], rfl, fun j hj => ?_, fun j h1 h2 => ?_⟩)
      · show upd fx _ 0 (j + 1) = _ ∧ upd fy _ 0 (j + 1) = _
        rw [z_upd_ne _ _ (by omega), z_upd_ne _ _ (by omega)]
        exact htb j hj
      · show upd fx _ 0 (j + 1) = _ ∧ upd fy _ 0 (j + 1) = _
        by_cases ej : j = (el b (ecN w h)).length + i
        · rw [ej, z_upd_eq, z_upd_eq]
          exact ⟨rfl, rfl⟩
        · rw [z_upd_ne _ _ (by omega), z_upd_ne _ _ (by omega)]
          exact hhp j h1 (by omega)
  · have hin := pk_in e 31 q
    have hba := z_bit1 (a := a) (k := e) ha31 q
    have hbb := z_bit1 (a := b) (k := e) hb31 q
    unfold bk_X0_lay_95
    refine ⟨fun z => ⟨fun z2 y10 e10 => ?_, fun z2 => ⟨hin, hin, ?_⟩⟩, fun z y12 e12 => ⟨hin, fun y13 e13 => ?_⟩⟩
    · refine ⟨31 - (e + 1), by omega, e + 1, by omega, rfl, by rw [e10, nI_1], ?_, ?_, ?_, ?_⟩
      · rw [el, if_neg (fun y => z (hba.mpr y))]
      · rw [el, if_neg (fun y => z2 (hbb.mpr y))]
      · rw [el, if_neg (fun y => z (hba.mpr y))]; exact hta
      · rw [el, if_neg (fun y => z2 (hbb.mpr y))]; exact htb
    · have hbe := hbb.mp z2
      obtain ⟨s1, s2⟩ := hsp e (hbit b hb e hbe)
      rw [z_cl (by omega), s1, s2]
      refine s_putPlace (by omega) (fun y10 e10 => ⟨31 - (e + 1), by omega, e + 1, by omega, rfl, by rw [e10, nI_1], ?_, ?_, ?_, ?_⟩)
      · rw [el, if_neg (fun y => z (hba.mpr y))]
      · rw [el, if_pos hbe, List.length_append]; rfl
      · rw [el, if_neg (fun y => z (hba.mpr y))]; exact hta
      · rw [el, if_pos hbe]; exact TO_push htb
    · have hae := hba.mp z
      obtain ⟨s1, s2⟩ := hsp e (hbit a ha e hae)
      rw [nI_1] at e12
      subst e12
      rw [z_cl (by omega), s1] at e13
      subst e13
      have hin2 := pk_in ((el a e).length + 1) 32 (by omega)
      refine ⟨hin2, fun f14 e14 => ⟨hin, fun y15 e15 => ⟨hin2, fun f16 e16 y10 e10 => ⟨31 - (e + 1), by omega, e + 1, by omega, rfl, by rw [e10, nI_1], ?_, ?_, ?_, ?_⟩⟩⟩⟩
      · rw [el, if_pos hae, List.length_append]; rfl
      · rw [el, if_neg (by rw [hab e hae]; decide)]
      · rw [z_cl (by omega), s2] at e15
        rw [z_cl (by omega)] at e14 e16
        rw [el, if_pos hae, e14, e16, e15]
        exact TO_push hta
      · rw [el, if_neg (by rw [hab e hae]; decide)]; exact htb
def apN (a b : Nat) : Nat := if a ≤ b then b - a else a - b
def cst (w h : Nat) (eA eB : List Nat) (r c : Nat) : Nat := if c - 1 < eB.length then apN (eX w h (eA.getD (r - 1) 0)) (eX w h (eB.getD (c - 1) 0)) + apN (eY w h (eA.getD (r - 1) 0)) (eY w h (eB.getD (c - 1) 0)) else eX w h (eA.getD (r - 1) 0) + eY w h (eA.getD (r - 1) 0)
theorem eX_le (k : okS w h) (e : Nat) : eX w h e ≤ 21 := by
  have := k.lt.1
  have h1 := Nat.mod_lt (e - (w + 1) * h) k.1
  have h2 := Nat.mod_lt e (show 0 < w + 1 by omega)
  unfold eX
  split <;> omega
theorem eY_le {e : Nat} (he : e < 31) : eY w h e ≤ 61 := by
  have h1 := Nat.div_le_self (e - (w + 1) * h) w
  have h2 := Nat.div_le_self e (w + 1)
  unfold eY
  split <;> omega
theorem el_31 {m n j : Nat} (hn : n ≤ 31) : (el m n).getD j 0 < 31 := by
  by_cases q : j < (el m n).length
  · have := el_lt m n j q
    omega
  · rw [List.getD_eq_getElem?_getD, List.getElem?_eq_none (by omega)]
    decide
theorem cst_le (k : okS w h) (a b : Nat) (r c : Nat) : cst w h (el a (ecN w h)) (el b (ecN w h)) r c ≤ 100 := by
  have hec : ecN w h ≤ 31 := ec_le k
  have x1 := eX_le k ((el a (ecN w h)).getD (r - 1) 0)
  have x2 := eX_le k ((el b (ecN w h)).getD (c - 1) 0)
  have y1 := eY_le (w := w) (h := h) (el_31 (m := a) (j := r - 1) hec)
  have y2 := eY_le (w := w) (h := h) (el_31 (m := b) (j := c - 1) hec)
  unfold cst apN
  split
  · split <;> split <;> omega
  · omega
theorem z_absd {a b : Nat} (ha : a < 1000) (hb : b < 1000) : (if 0 ≤ nI a - nI b then nI a - nI b else 0 - (nI a - nI b)) = nI (apN a b) := by
  have ht := pk_sub_toInt (a := a) (b := b) (by omega) (by omega)
  have e0 : (0 : Int32).toInt = 0 := by decide
  unfold apN
  by_cases q : b ≤ a
  · rw [if_pos (by rw [fa_le, ht, e0]; omega), z_sub q]
    by_cases q2 : a ≤ b
    · rw [if_pos q2]
      congr 1
      omega
    · rw [if_neg q2]
  · rw [if_neg (by rw [fa_le, ht, e0]; omega), if_pos (by omega), ← z_sub (show a ≤ b by omega), Int32.zero_sub, Int32.neg_sub]
theorem s_cway {a b : Nat} {tx ty fx fy : Nat → Int32} (k : okS w h) (hta : TO w h (el a (ecN w h)) tx ty) (htb : TO w h (el b (ecN w h)) fx fy) (hhp : ∀ j, (el b (ecN w h)).length ≤ j → j < (el b (ecN w h)).length + (el a (ecN w h)).length → fx (j + 1) = 0 ∧ fy (j + 1) = 0) (hs : (el b (ecN w h)).length + (el a (ecN w h)).length ≤ 31) : ∀ r c (Q' : Int32 → Prop), 1 ≤ r → r ≤ (el a (ecN w h)).length → 1 ≤ c → c ≤ (el b (ecN w h)).length + (el a (ecN w h)).length → Q' (nI (cst w h (el a (ecN w h)) (el b (ecN w h)) r c)) → wp_X0_way (nI r) (nI c) tx ty fx fy Q' := by
  intro r c Q' r1 r2 c1 c2 hQ
  have hec : ecN w h ≤ 31 := ec_le k
  have x1 := eX_le k ((el a (ecN w h)).getD (r - 1) 0)
  have x2 := eX_le k ((el b (ecN w h)).getD (c - 1) 0)
  have y1 := eY_le (w := w) (h := h) (el_31 (m := a) (j := r - 1) hec)
  have y2 := eY_le (w := w) (h := h) (el_31 (m := b) (j := c - 1) hec)
  obtain ⟨t1, t2⟩ := hta (r - 1) (by omega)
  rw [show r - 1 + 1 = r by omega] at t1 t2
  have hr := pk_in r 32 (by omega)
  have hc := pk_in c 63 (by omega)
  unfold wp_X0_way
  refine ⟨hr, hc, hr, hc, ?_⟩
  rw [z_cl (show r < 2 ^ 31 by omega), z_cl (show c < 2 ^ 31 by omega), t1, t2]
  unfold cst at hQ
  by_cases q : c - 1 < (el b (ecN w h)).length
  · rw [if_pos q] at hQ
    obtain ⟨f1, f2⟩ := htb (c - 1) q
    rw [show c - 1 + 1 = c by omega] at f1 f2
    rw [f1, f2, z_absd (by omega) (by omega), z_absd (by omega) (by omega), nI_add]
    exact hQ
  · rw [if_neg q] at hQ
    obtain ⟨f1, f2⟩ := hhp (c - 1) (by omega) (by omega)
    rw [show c - 1 + 1 = c by omega] at f1 f2
    have e0 : (0 : Int32) = nI 0 := rfl
    rw [f1, f2]
    have g1 := z_absd (a := eX w h ((el a (ecN w h)).getD (r - 1) 0)) (b := 0) (by omega) (by omega)
    have g2 := z_absd (a := eY w h ((el a (ecN w h)).getD (r - 1) 0)) (b := 0) (by omega) (by omega)
    have n1 : apN (eX w h ((el a (ecN w h)).getD (r - 1) 0)) 0 = eX w h ((el a (ecN w h)).getD (r - 1) 0) := by unfold apN; split <;> omega
    have n2 : apN (eY w h ((el a (ecN w h)).getD (r - 1) 0)) 0 = eY w h ((el a (ecN w h)).getD (r - 1) 0) := by unfold apN; split <;> omega
    rw [n1] at g1
    rw [n2] at g2
    have g1' : (if 0 ≤ nI (eX w h ((el a (ecN w h)).getD (r - 1) 0)) - 0 then nI (eX w h ((el a (ecN w h)).getD (r - 1) 0)) - 0 else 0 - (nI (eX w h ((el a (ecN w h)).getD (r - 1) 0)) - 0)) = _ := g1
    have g2' : (if 0 ≤ nI (eY w h ((el a (ecN w h)).getD (r - 1) 0)) - 0 then nI (eY w h ((el a (ecN w h)).getD (r - 1) 0)) - 0 else 0 - (nI (eY w h ((el a (ecN w h)).getD (r - 1) 0)) - 0)) = _ := g2
    rw [g1', g2', nI_add]
    exact hQ
def hSm (cs : Nat → Nat → Nat) (f : Nat → Nat) : Nat → Nat → Nat → Nat
  | 0, _, a => a
  | d + 1, c, a => hSm cs f d (c + 1) (if f c = 0 then a else a + cs (f c) c)
theorem s_crows {cs : Nat → Nat → Nat} {P R : Nat} {sx sy tx ty fx fy ua va fa wa sa ea : Nat → Int32} {Q : Int32 → (Int32 × Int32 × (Nat → Int32) × (Nat → Int32) × (Nat → Int32) × (Nat → Int32) × (Nat → Int32) × (Nat → Int32) × (Nat → Int32) × (Nat → Int32) × (Nat → Int32) × (Nat → Int32) × (Nat → Int32) × (Nat → Int32)) → Prop} (hcs : ∀ i c, cs i c ≤ 100) (hR : R ≤ 31) (hP : P ≤ 62) (hRP : R ≤ P) (hway : ∀ r c (Q' : Int32 → Prop), 1 ≤ r → r ≤ R → 1 ≤ c → c ≤ P → Q' (nI (cs r c)) → wp_X0_way (nI r) (nI c) tx ty fx fy Q') (hua : ∀ i, i < 32 → ua i = 0) (hva : ∀ c, c < 63 → va c = 0) (hfa : ∀ c, c < 63 → fa c = 0) (hQ : ∀ u, Q (nI (hSm cs (hun cs P R).2.2 P 1 0)) u) : lp_X0_least_22 Q (nI R) (nI P) sx sy tx ty fx fy ua va fa wa sa ea 1 := by
  unfold lp_X0_least_22
  refine ⟨fun M ua va fa wa sa ea x4 => ∃ t, t ≤ R ∧ M = R - t ∧ x4 = nI (t + 1) ∧ PI cs P t (hun cs P t) ∧ PA P R (hun cs P t) ua va fa, ⟨R, 0, by omega, rfl, rfl, PI_0 cs P, fun i hi => hua i (by omega), fun c hc => hva c (by omega), fun c c1 c2 => hfa c (by omega)⟩, ?_⟩
  clear hua hva hfa
  rintro M ua va fa wa sa ea x4 ⟨t, ht, rfl, rfl, hp, ha⟩
  unfold bd_X0_least_22
  refine pk_lt R (t + 1) (fun q => ?_) (fun q => ?_) rfl rfl
  · have et : t = R := by omega
    subst et
    obtain ⟨p1, p2, p3⟩ := ha
    obtain ⟨V, hV⟩ : ∃ V, hSm cs (hun cs P t).2.2 P 1 0 = V := ⟨_, rfl⟩
    rw [hV] at hQ
    unfold lp_X0_least_49
    refine ⟨fun M x4 x5 => ∃ c a, 1 ≤ c ∧ c ≤ P + 1 ∧ M = P + 1 - c ∧ x5 = nI c ∧ x4 = nI a ∧ hSm cs (hun cs P t).2.2 (P + 1 - c) c a = V, ⟨P, 1, 0, by omega, by omega, rfl, rfl, rfl, hV⟩, ?_⟩
    rintro M x4 x5 ⟨c, a, c1, c2, rfl, rfl, rfl, hS⟩
    unfold bd_X0_least_49 bk_X0_least_86
    refine pk_lt P c (fun q2 => ?_) (fun q2 => ⟨pk_in c 63 (by omega), ?_⟩) rfl rfl
    · rw [show P + 1 - c = 0 by omega, hSm] at hS
      rw [hS]
      exact hQ _
    · rw [show P + 1 - c = (P + 1 - (c + 1)) + 1 by omega, hSm] at hS
      rw [z_cl (by omega), p3 c c1 q2]
      have hfc := hp.2.2.1 c c1 q2
      refine ⟨fun z y6 e6 => ⟨P + 1 - (c + 1), by omega, c + 1, a, by omega, by omega, rfl, by rw [e6, nI_1], rfl, ?_⟩, fun z => ⟨pk_in c 63 (by omega), hway _ c _ ?_ hfc c1 q2 (fun y8 e8 y6 e6 => ⟨P + 1 - (c + 1), by omega, c + 1, a + cs ((hun cs P t).2.2 c) c, by omega, by omega, rfl, by rw [e6, nI_1], by rw [e8, nI_add], ?_⟩)⟩⟩
      · rw [if_pos (z_inj (b := 0) (by omega) (by decide) z)] at hS
        exact hS
      · apply Nat.pos_of_ne_zero
        intro e
        exact z (by rw [e]; rfl)
      · rw [if_neg (fun e => z (by rw [e]; rfl))] at hS
        exact hS
  · refine s_cgive hcs hR hP hRP hway (by omega) hp ha (fun ua' va' fa' wa' sa' ea' h1 h2 y10 e10 => ⟨R - (t + 1), by omega, t + 1, by omega, rfl, by rw [e10, nI_1], h2, h1⟩)
def carV (w h na nb : Nat) : Nat := hSm (cst w h (el (andn na nb) (ecN w h)) (el (andn nb na) (ecN w h))) (hun (cst w h (el (andn na nb) (ecN w h)) (el (andn nb na) (ecN w h))) ((el (andn nb na) (ecN w h)).length + (el (andn na nb) (ecN w h)).length) (el (andn na nb) (ecN w h)).length).2.2 ((el (andn nb na) (ecN w h)).length + (el (andn na nb) (ecN w h)).length) 1 0
theorem andn_dis (a b i : Nat) (h : (andn a b).testBit i = true) : (andn b a).testBit i = false := by
  rw [andn_bit] at h ⊢
  cases e1 : a.testBit i <;> cases e2 : b.testBit i <;> rw [e1, e2] at h <;> first | rfl | exact absurd h (by decide)
theorem s_cleast {na nb : Nat} {sx sy tx ty fx fy ua va fa wa sa ea : Nat → Int32} {Q : Int32 → (Int32 × Int32 × (Nat → Int32) × (Nat → Int32) × (Nat → Int32) × (Nat → Int32) × (Nat → Int32) × (Nat → Int32) × (Nat → Int32) × (Nat → Int32) × (Nat → Int32) × (Nat → Int32) × (Nat → Int32) × (Nat → Int32)) → Prop} (k : okS w h) (hna : na < 2 ^ ecN w h) (hnb : nb < 2 ^ ecN w h) (hQ : ∀ u, Q (nI (carV w h na nb)) u) : wp_X0_least (nI na) (nI nb) sx sy tx ty fx fy ua va fa wa sa ea (nI w) (nI h) Q := by
  have hec : ecN w h ≤ 31 := ec_le k
  unfold wp_X0_least
  refine s_laySpots k (fun sx' sy' hsp => ?_)
  rw [z_andn, z_andn]
  have hsum := el_sum (andn_dis na nb) (ecN w h)
  refine s_clay k hsp (Nat.lt_of_le_of_lt (andn_le _ _) hna) (Nat.lt_of_le_of_lt (andn_le _ _) hnb) (andn_dis na nb) (fun tx' ty' fx' fy' ua' va' fa' h1 h2 h3 h4 h5 h6 => ?_)
  exact s_crows (cst_le k _ _) (by omega) (by omega) (by omega) (s_cway k h1 h2 h3 (by omega)) h4 h5 h6 hQ
end LAY
