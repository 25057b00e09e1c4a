section SPOTS
variable {w h : Nat}
def eX (w h e : Nat) : Nat := if (w + 1) * h ≤ e then 2 * ((e - (w + 1) * h) % w) + 1 else 2 * (e % (w + 1))
def eY (w h e : Nat) : Nat := if (w + 1) * h ≤ e then 2 * ((e - (w + 1) * h) / w) else 2 * (e / (w + 1)) + 1
def pX (w h e : Nat) : Nat := if (w + 1) * h ≤ e then (e - (w + 1) * h) % w else e % (w + 1)
def pY (w h e : Nat) : Nat := if (w + 1) * h ≤ e then (e - (w + 1) * h) / w else e / (w + 1)
def ecN (w h : Nat) : Nat := (w + 1) * h + w * (h + 1)
theorem p_at (k : okS w h) {e : Nat} (he : e < ecN w h) : pX w h e ≤ w ∧ pY w h e ≤ h ∧ ((w + 1) * h ≤ e → pX w h e < w ∧ e = (w + 1) * h + w * pY w h e + pX w h e) ∧ (e < (w + 1) * h → pY w h e < h ∧ e = (w + 1) * pY w h e + pX w h e) := by
  unfold ecN at he
  by_cases q : (w + 1) * h ≤ e
  · unfold pX pY
    rw [if_pos q, if_pos q]
    have h1 := Nat.mod_lt (e - (w + 1) * h) k.1
    have h2 := Nat.div_add_mod (e - (w + 1) * h) w
    have h3 : (e - (w + 1) * h) / w < h + 1 := Nat.div_lt_of_lt_mul (by omega)
    refine ⟨by omega, by omega, fun _ => ⟨h1, by omega⟩, fun y => by omega⟩
  · unfold pX pY
    rw [if_neg q, if_neg q]
    have h1 := Nat.mod_lt e (show 0 < w + 1 by omega)
    have h2 := Nat.div_add_mod e (w + 1)
    have h3 : e / (w + 1) < h := Nat.div_lt_of_lt_mul (by omega)
    refine ⟨by omega, by omega, fun y => absurd y q, fun _ => ⟨h3, by omega⟩⟩
theorem e_of_p {e : Nat} : eX w h e = (if (w + 1) * h ≤ e then 2 * pX w h e + 1 else 2 * pX w h e) ∧ eY w h e = (if (w + 1) * h ≤ e then 2 * pY w h e else 2 * pY w h e + 1) := by
  unfold eX eY pX pY
  by_cases q : (w + 1) * h ≤ e
  · simp only [if_pos q]
    exact ⟨trivial, trivial⟩
  · simp only [if_neg q]
    exact ⟨trivial, trivial⟩
def SP (w h : Nat) (sx sy : Nat → Int32) : Prop := ∀ e, e < ecN w h → sx e = nI (eX w h e) ∧ sy e = nI (eY w h e)
def SPb (w h y x : Nat) (sx sy : Nat → Int32) : Prop := ∀ e, e < ecN w h → (pY w h e < y ∨ pY w h e = y ∧ pX w h e < x) → sx e = nI (eX w h e) ∧ sy e = nI (eY w h e)
theorem s_putSpot {e X Y : Nat} {eI xI yI : Int32} {sx sy : Nat → Int32} {Q : ((Nat → Int32) × (Nat → Int32)) → Prop} (he : e < 31) (heI : eI = nI e) (hx : xI = nI X) (hy : yI = nI Y) (hQ : Q (upd sx e (nI X), upd sy e (nI Y))) : wp_X0_putSpot eI xI yI sx sy Q := by
  subst heI
  subst hx
  subst hy
  unfold wp_X0_putSpot
  refine ⟨fun z => absurd z (nI_nlt (b := 0) (by omega) (by omega)), fun _ => pk_le 31 e (fun q => by omega) (fun _ => ⟨pk_in e 31 he, fun f3 e3 => ⟨pk_in e 31 he, fun f4 e4 => ?_⟩⟩) rfl rfl⟩
  rw [z_cl (by omega)] at e3 e4
  subst e3
  subst e4
  exact hQ
theorem s_laySpots {sx sy : Nat → Int32} {Q : ((Nat → Int32) × (Nat → Int32)) → Prop} (k : okS w h) (hQ : ∀ sx' sy', SP w h sx' sy' → Q (sx', sy')) : wp_X0_laySpots sx sy (nI w) (nI h) Q := by
  have hk := k.lt
  have hec := ec_le k
  unfold wp_X0_laySpots lp_X0_laySpots_2
  refine ⟨fun M sx sy x2 => ∃ y, y ≤ h + 1 ∧ M = h + 1 - y ∧ x2 = nI y ∧ SPb w h y 0 sx sy, ⟨h + 1, 0, by omega, rfl, rfl, fun e _ q => by omega⟩, ?_⟩
  rintro M sx sy x2 ⟨y, hy, rfl, rfl, hsp⟩
  unfold bd_X0_laySpots_2
  refine pk_lt h y (fun q => hQ sx sy (fun e he => hsp e he (Or.inl ?_))) (fun q => ?_) rfl rfl
  · have := (p_at k he).2.1
    omega
  · unfold lp_X0_laySpots_12
    refine ⟨fun M sx sy x3 => ∃ x, x ≤ w + 1 ∧ M = w + 1 - x ∧ x3 = nI x ∧ SPb w h y x sx sy, ⟨w + 1, 0, by omega, rfl, rfl, hsp⟩, ?_⟩
    clear hsp
    rintro M sx sy x3 ⟨x, hx, rfl, rfl, hsp⟩
    unfold bd_X0_laySpots_12
    refine pk_lt w x (fun q2 y3 e3 => ⟨h + 1 - (y + 1), by omega, y + 1, by omega, rfl, by rw [e3, nI_1], fun e he hh => hsp e he ?_⟩) (fun q2 => ?_) rfl rfl
    · have := (p_at k he).1
      omega
    · have h74 : ∀ sx' sy', SPb w h y (x + 1) sx' sy' → bk_X0_laySpots_74 Q (fun c_spotX' c_spotY' x2' => ∃ n', n' < h + 1 - y ∧ ∃ y, y ≤ h + 1 ∧ n' = h + 1 - y ∧ x2' = nI y ∧ SPb w h y 0 c_spotX' c_spotY') (fun c_spotX' c_spotY' x3' => ∃ n', n' < w + 1 - x ∧ ∃ x, x ≤ w + 1 ∧ n' = w + 1 - x ∧ x3' = nI x ∧ SPb w h y x c_spotX' c_spotY') (nI x) sx' sy' := by
        intro sx' sy' hsp'
        unfold bk_X0_laySpots_74
        exact fun y6 e6 => ⟨w + 1 - (x + 1), by omega, x + 1, by omega, rfl, by rw [e6, nI_1], hsp'⟩
      have h47 : ∀ sx' sy', SPb w h y x sx' sy' → (y < h → sx' ((w + 1) * y + x) = nI (eX w h ((w + 1) * y + x)) ∧ sy' ((w + 1) * y + x) = nI (eY w h ((w + 1) * y + x))) → bk_X0_laySpots_47 Q (fun c_spotX' c_spotY' x2' => ∃ n', n' < h + 1 - y ∧ ∃ y, y ≤ h + 1 ∧ n' = h + 1 - y ∧ x2' = nI y ∧ SPb w h y 0 c_spotX' c_spotY') (fun c_spotX' c_spotY' x3' => ∃ n', n' < w + 1 - x ∧ ∃ x, x ≤ w + 1 ∧ n' = w + 1 - x ∧ x3' = nI x ∧ SPb w h y x c_spotX' c_spotY') (nI y) (nI x) sx' sy' (nI w) (nI h) := by
        intro sx' sy' hsp' hleft
        unfold bk_X0_laySpots_47
        refine pk_le w x (fun q3 => h74 _ _ (fun e he hh => ?_)) (fun q3 => ?_) rfl rfl
        · obtain ⟨p1, p2, p3, p4⟩ := p_at k he
          by_cases hb : pY w h e < y ∨ pY w h e = y ∧ pX w h e < x
          · exact hsp' e he hb
          · have e1 : pY w h e = y ∧ pX w h e = x := by omega
            by_cases qe : (w + 1) * h ≤ e
            · have := (p3 qe).1
              omega
            · obtain ⟨r1, r2⟩ := p4 (by omega)
              rw [e1.1, e1.2] at r2
              rw [r2]
              exact hleft (by omega)
        · have hyw : w * y ≤ w * h := Nat.mul_le_mul_left w q
          have hup : (w + 1) * h + w * y + x < ecN w h := by
            unfold ecN
            rw [Nat.mul_add w h 1]
            omega
          have hX : pX w h ((w + 1) * h + w * y + x) = x ∧ pY w h ((w + 1) * h + w * y + x) = y := by
            unfold pX pY
            rw [if_pos (by omega), if_pos (by omega), show (w + 1) * h + w * y + x - (w + 1) * h = w * y + x by omega]
            exact ⟨xy_mod q3, xy_div q3⟩
          have hlt31 : (w + 1) * h + w * y + x < 31 := by unfold ecN at hup; omega
          unfold wp_X4_edgeAt
          refine ⟨fun z => absurd z (by decide), fun z => absurd z (by decide), fun _ => ?_, fun z => absurd rfl z.2.2⟩
          have ew : nI w + 1 = nI (w + 1) := nI_1 w
          have e2 : (2 : Int32) * nI x = nI (2 * x) := z_mul 2 x
          have e3 : (2 : Int32) * nI y = nI (2 * y) := z_mul 2 y
          rw [ew, z_mul, z_mul, nI_add, nI_add, e2, e3]
          refine s_putSpot hlt31 rfl (nI_1 _) rfl (h74 _ _ (fun e he hh => ?_))
          dsimp only
          have hval := e_of_p (w := w) (h := h) (e := (w + 1) * h + w * y + x)
          rw [if_pos (by omega), if_pos (by omega), hX.1, hX.2] at hval
          by_cases ee : e = (w + 1) * h + w * y + x
          · rw [ee, z_upd_eq, z_upd_eq, hval.1, hval.2]
            exact ⟨rfl, rfl⟩
          · rw [z_upd_ne _ _ ee, z_upd_ne _ _ ee]
            obtain ⟨p1, p2, p3, p4⟩ := p_at k he
            by_cases hb : pY w h e < y ∨ pY w h e = y ∧ pX w h e < x
            · exact hsp' e he hb
            · have e1 : pY w h e = y ∧ pX w h e = x := by omega
              by_cases qe : (w + 1) * h ≤ e
              · have := (p3 qe).2
                rw [e1.1, e1.2] at this
                exact absurd this ee
              · obtain ⟨r1, r2⟩ := p4 (by omega)
                rw [e1.1, e1.2] at r2
                rw [r2]
                exact hleft (by omega)
      refine pk_le h y (fun q3 => h47 _ _ hsp (fun q4 => by omega)) (fun q3 => ?_) rfl rfl
      have hyw : (w + 1) * y + (w + 1) ≤ (w + 1) * h := by
        rw [← Nat.mul_succ]
        exact Nat.mul_le_mul_left (w + 1) q3
      have hlt31 : (w + 1) * y + x < 31 := by omega
      have hX : pX w h ((w + 1) * y + x) = x ∧ pY w h ((w + 1) * y + x) = y := by
        unfold pX pY
        rw [if_neg (by omega), if_neg (by omega)]
        exact ⟨xy_mod (by omega), xy_div (by omega)⟩
      unfold wp_X4_edgeAt
      refine ⟨fun _ => ?_, fun z => absurd z (by decide), fun z => absurd z (by decide), fun z => absurd rfl z.1⟩
      have ew : nI w + 1 = nI (w + 1) := nI_1 w
      have e2 : (2 : Int32) * nI x = nI (2 * x) := z_mul 2 x
      have e3 : (2 : Int32) * nI y = nI (2 * y) := z_mul 2 y
      rw [ew, z_mul, nI_add, e2, e3]
      have hval := e_of_p (w := w) (h := h) (e := (w + 1) * y + x)
      rw [if_neg (by omega), if_neg (by omega), hX.1, hX.2] at hval
      refine s_putSpot hlt31 rfl rfl (nI_1 _) (h47 _ _ (fun e he hh => ?_) (fun _ => ?_))
      · dsimp only
        by_cases ee : e = (w + 1) * y + x
        · rw [ee, hX.1, hX.2] at hh
          omega
        · rw [z_upd_ne _ _ ee, z_upd_ne _ _ ee]
          exact hsp e he hh
      · dsimp only
        rw [z_upd_eq, z_upd_eq, hval.1, hval.2]
        exact ⟨rfl, rfl⟩
end SPOTS
