section CARRIED
variable {w h : Nat}
theorem s_edgeX {e : Nat} {Q : Int32 → Prop} (k : okS w h) (he : e < 31) (hQ : Q (nI (eX w h e))) : wp_X11_edgeX (nI e) (nI w) (nI h) Q := by
  have hk := k.lt
  have hec := ec_le k
  unfold wp_X11_edgeX
  intro y1 e1
  have ew : nI w + 1 = nI (w + 1) := nI_1 w
  rw [ew, z_mul] at e1
  subst e1
  unfold eX at hQ
  refine pk_le ((w + 1) * h) e (fun q => ⟨w_ne0 k, ?_⟩) (fun q => ?_) rfl rfl
  · rw [if_pos q] at hQ
    rw [z_sub q, z_rem (by omega) k.1 (by omega)]
    have e2 : (2 : Int32) * nI ((e - (w + 1) * h) % w) = nI (2 * ((e - (w + 1) * h) % w)) := z_mul 2 _
    rw [e2, nI_1]
    exact hQ
  · rw [if_neg (by omega)] at hQ
    rw [ew, z_rem (by omega) (by omega) (by omega)]
    have e2 : (2 : Int32) * nI (e % (w + 1)) = nI (2 * (e % (w + 1))) := z_mul 2 _
    rw [e2]
    exact ⟨nI_ne0 (by omega) (by omega), hQ⟩
theorem s_edgeY {e : Nat} {Q : Int32 → Prop} (k : okS w h) (he : e < 31) (hQ : Q (nI (eY w h e))) : wp_X11_edgeY (nI e) (nI w) (nI h) Q := by
  have hk := k.lt
  have hec := ec_le k
  unfold wp_X11_edgeY
  intro y1 e1
  have ew : nI w + 1 = nI (w + 1) := nI_1 w
  rw [ew, z_mul] at e1
  subst e1
  unfold eY at hQ
  refine pk_le ((w + 1) * h) e (fun q => ⟨w_ne0 k, ?_⟩) (fun q => ?_) rfl rfl
  · rw [if_pos q] at hQ
    rw [z_sub q, pk_div (by omega) k.1 (by omega)]
    have e2 : (2 : Int32) * nI ((e - (w + 1) * h) / w) = nI (2 * ((e - (w + 1) * h) / w)) := z_mul 2 _
    rw [e2]
    exact hQ
  · rw [if_neg (by omega)] at hQ
    rw [ew, pk_div (by omega) (by omega) (by omega)]
    have e2 : (2 : Int32) * nI (e / (w + 1)) = nI (2 * (e / (w + 1))) := z_mul 2 _
    rw [e2, nI_1]
    exact ⟨nI_ne0 (by omega) (by omega), hQ⟩
theorem s_apart {a b : Nat} {Q : Int32 → Prop} (ha : a < 2 ^ 31) (hb : b < 2 ^ 31) (hQ : Q (nI (apN a b))) : wp_X11_apart (nI a) (nI b) Q := by
  unfold wp_X11_apart
  unfold apN at hQ
  refine pk_le a b (fun q => ?_) (fun q => ?_) rfl rfl
  · rw [if_pos q] at hQ
    rw [z_sub q]
    exact hQ
  · rw [if_neg (by omega)] at hQ
    rw [z_sub (by omega)]
    exact hQ
theorem s_mlp {cs : Nat → Nat → Nat} {P R : Nat} {pr ua va fa wa sa ea : Nat → Int32} {Q : Int32 → ((Nat → Int32) × (Nat → Int32) × (Nat → Int32) × (Nat → Int32) × (Nat → Int32) × (Nat → Int32)) → Prop} (hcs : ∀ i c, cs i c ≤ 100) (hR : R ≤ 31) (hP : P ≤ 62) (hRP : R ≤ P) (hpr : ∀ r c, 1 ≤ r → r ≤ R → 1 ≤ c → c ≤ P → pr (64 * (r - 1) + (c - 1)) = nI (cs r c)) (hQ : ∀ u, Q (nI (hSm cs (hun cs P R).2.2 P 1 0)) u) : wp_X11_leastPrice (nI R) (nI P) pr ua va fa wa sa ea Q := by
  unfold wp_X11_leastPrice lp_X11_leastPrice_2
  refine ⟨fun M va fa x3 => ∃ i, i ≤ 64 ∧ M = 64 - i ∧ x3 = nI i ∧ ∀ j, j < i → va j = 0 ∧ fa j = 0, ⟨64, 0, by decide, rfl, rfl, fun j hj => absurd hj (Nat.not_lt_zero j)⟩, ?_⟩
  rintro M va fa x3 ⟨i, hi, rfl, rfl, hz⟩
  unfold bd_X11_leastPrice_2
  refine pk_le 64 i (fun q => ?_) (fun q => ⟨pk_in i 64 q, fun f12 e12 => ⟨pk_in i 64 q, fun f13 e13 y14 e14 => ⟨64 - (i + 1), by omega, i + 1, by omega, rfl, by rw [e14, nI_1], fun j hj => ?_⟩⟩⟩) rfl rfl
  · unfold lp_X11_leastPrice_30
    refine ⟨fun M ua x3 => ∃ i, i ≤ 33 ∧ M = 33 - i ∧ x3 = nI i ∧ ∀ j, j < i → ua j = 0, ⟨33, 0, by decide, rfl, rfl, fun j hj => absurd hj (Nat.not_lt_zero j)⟩, ?_⟩
    rintro M ua x3 ⟨i2, hi2, rfl, rfl, hz2⟩
    unfold bd_X11_leastPrice_30
    refine pk_le 33 i2 (fun q2 => ?_) (fun q2 => ⟨pk_in i2 33 q2, fun f10 e10 y11 e11 => ⟨33 - (i2 + 1), by omega, i2 + 1, by omega, rfl, by rw [e11, nI_1], fun j hj => ?_⟩⟩) rfl rfl
    · unfold lp_X11_leastPrice_51
      refine ⟨fun M ua va fa wa sa ea x3 => ∃ t, t ≤ R ∧ M = R - t ∧ x3 = nI (t + 1) ∧ PI cs P t (hun cs P t) ∧ PA P R (hun cs P t) ua va fa, ⟨R, 0, by omega, rfl, rfl, PI_0 cs P, fun i hi => hz2 i (by omega), fun c hc => (hz c (by omega)).1, fun c c1 c2 => (hz c (by omega)).2⟩, ?_⟩
      clear hz hz2
      rintro M ua va fa wa sa ea x3 ⟨t, ht, rfl, rfl, hp, ha⟩
      unfold bd_X11_leastPrice_51
      refine pk_lt R (t + 1) (fun q3 => ?_) (fun q3 => ?_) rfl rfl
      · have et : t = R := by omega
        subst et
        obtain ⟨p1, p2, p3⟩ := ha
        obtain ⟨V, hV⟩ : ∃ V, hSm cs (hun cs P t).2.2 P 1 0 = V := ⟨_, rfl⟩
        rw [hV] at hQ
        unfold lp_X11_leastPrice_73
        refine ⟨fun M x4 x5 => ∃ c a, 1 ≤ c ∧ c ≤ P + 1 ∧ M = P + 1 - c ∧ x5 = nI c ∧ x4 = nI a ∧ hSm cs (hun cs P t).2.2 (P + 1 - c) c a = V, ⟨P, 1, 0, by omega, by omega, rfl, rfl, rfl, hV⟩, ?_⟩
        rintro M x4 x5 ⟨c, a, c1, c2, rfl, rfl, rfl, hS⟩
        unfold bd_X11_leastPrice_73 bk_X11_leastPrice_116
        refine pk_lt P c (fun q4 => ?_) (fun q4 => ⟨pk_in c 64 (by omega), ?_⟩) rfl rfl
        · rw [show P + 1 - c = 0 by omega, hSm] at hS
          rw [hS]
          exact hQ _
        · rw [show P + 1 - c = (P + 1 - (c + 1)) + 1 by omega, hSm] at hS
          rw [z_cl (show c < 2 ^ 31 by omega), p3 c c1 q4]
          have hfc := hp.2.2.1 c c1 q4
          refine pk_le ((hun cs P t).2.2 c) 0 (fun z y6 e6 y7 e7 => ⟨P + 1 - (c + 1), by omega, c + 1, a, by omega, by omega, rfl, by rw [e7, nI_1], ?_, ?_⟩) (fun z => ⟨pk_in c 64 (by omega), ?_⟩) rfl rfl
          · rw [e6, Int32.add_zero]
          · rw [if_pos (by omega)] at hS
            exact hS
          · rw [z_pidx z c1, z_cl (by omega), hpr _ c z hfc c1 q4]
            refine ⟨pk_in (64 * ((hun cs P t).2.2 c - 1) + (c - 1)) 2048 (by omega), fun y6 e6 y7 e7 => ⟨P + 1 - (c + 1), by omega, c + 1, a + cs ((hun cs P t).2.2 c) c, by omega, by omega, rfl, by rw [e7, nI_1], by rw [e6, nI_add], ?_⟩⟩
            rw [if_neg (by omega)] at hS
            exact hS
      · exact s_mplc hcs hR hP hRP hpr (by omega) hp ha (fun ua' va' fa' wa' sa' ea' h1 h2 y9 e9 => ⟨R - (t + 1), by omega, t + 1, by omega, rfl, by rw [e9, nI_1], h2, h1⟩)
    · rw [e10, z_cl (by omega)]
      by_cases e : j = i2
      · rw [e, z_upd_eq]
      · rw [z_upd_ne _ _ e]
        exact hz2 j (by omega)
  · rw [e12, e13, z_cl (by omega)]
    by_cases e : j = i
    · rw [e, z_upd_eq, z_upd_eq]
      exact ⟨rfl, rfl⟩
    · rw [z_upd_ne _ _ e, z_upd_ne _ _ e]
      exact hz j (by omega)
theorem s_mprice {A B : Nat} {ua va fa wa sa ea li fr pr : Nat → Int32} {Q : Int32 → ((Nat → Int32) × (Nat → Int32) × (Nat → Int32) × (Nat → Int32) × (Nat → Int32) × (Nat → Int32) × (Nat → Int32) × (Nat → Int32) × (Nat → Int32)) → Prop} (k : okS w h) (hs : (el A (ecN w h)).length + (el B (ecN w h)).length ≤ 31) (hli : LA 31 (el A (ecN w h)) li) (hfr : LA 31 (el B (ecN w h)) fr) (hQ : ∀ u, Q (nI (hSm (cst w h (el A (ecN w h)) (el B (ecN w h))) (hun (cst w h (el A (ecN w h)) (el B (ecN w h))) ((el B (ecN w h)).length + (el A (ecN w h)).length) (el A (ecN w h)).length).2.2 ((el B (ecN w h)).length + (el A (ecN w h)).length) 1 0)) u) : lp_X11_carried_107 Q (nI (el A (ecN w h)).length) (nI (el B (ecN w h)).length) (nI w) (nI h) ua va fa wa sa ea li fr pr 0 := by
  have hcs := cst_le k A B
  have hec : ecN w h ≤ 31 := ec_le k
  obtain ⟨cs, hcsd⟩ : ∃ cs, cst w h (el A (ecN w h)) (el B (ecN w h)) = cs := ⟨_, rfl⟩
  have hcd : ∀ r c, cs r c = if c - 1 < (el B (ecN w h)).length then apN (eX w h ((el A (ecN w h)).getD (r - 1) 0)) (eX w h ((el B (ecN w h)).getD (c - 1) 0)) + apN (eY w h ((el A (ecN w h)).getD (r - 1) 0)) (eY w h ((el B (ecN w h)).getD (c - 1) 0)) else eX w h ((el A (ecN w h)).getD (r - 1) 0) + eY w h ((el A (ecN w h)).getD (r - 1) 0) := fun r c => by rw [← hcsd]; rfl
  rw [hcsd] at hQ hcs
  obtain ⟨eA, heA⟩ : ∃ eA, el A (ecN w h) = eA := ⟨_, rfl⟩
  obtain ⟨eB, heB⟩ : ∃ eB, el B (ecN w h) = eB := ⟨_, rfl⟩
  rw [heA] at hQ hcd hs hli ⊢
  rw [heB] at hQ hcd hs hfr ⊢
  clear hcsd heA heB
  have hx : ∀ e, e < 31 → eX w h e ≤ 21 ∧ eY w h e ≤ 61 := fun e he => ⟨eX_le k e, eY_le he⟩
  unfold lp_X11_carried_107
  refine ⟨fun M pr x7 => ∃ r, r ≤ eA.length ∧ M = eA.length - r ∧ x7 = nI r ∧ ∀ r' c', r' < r → c' < eB.length + eA.length → pr (64 * r' + c') = nI (cs (r' + 1) (c' + 1)), ⟨_, 0, by omega, rfl, rfl, fun r' c' q => absurd q (Nat.not_lt_zero r')⟩, ?_⟩
  rintro M pr x7 ⟨r, hr, rfl, rfl, hpr⟩
  unfold bd_X11_carried_107
  refine pk_le eA.length r (fun q => ?_) (fun q => ⟨pk_in r 64 (by omega), ?_⟩) rfl rfl
  · rw [nI_add]
    refine s_mlp (cs := cs) hcs (by omega) (by omega) (by omega) (fun r' c' r1 r2 c1 c2 => ?_) (fun u => hQ _)
    have := hpr (r' - 1) (c' - 1) (by omega) (by omega)
    rw [show r' - 1 + 1 = r' by omega, show c' - 1 + 1 = c' by omega] at this
    exact this
  · have hlr := hli r q
    obtain ⟨x1, y1⟩ := hx _ hlr.2
    rw [z_cl (show r < 2 ^ 31 by omega), hlr.1]
    refine s_edgeX k hlr.2 ⟨pk_in r 64 (by omega), s_edgeY k hlr.2 ?_⟩
    unfold lp_X11_carried_143
    refine ⟨fun M pr x10 => ∃ c, c ≤ eB.length + eA.length ∧ M = eB.length + eA.length - c ∧ x10 = nI c ∧ (∀ r' c', r' < r → c' < eB.length + eA.length → pr (64 * r' + c') = nI (cs (r' + 1) (c' + 1))) ∧ ∀ c', c' < c → pr (64 * r + c') = nI (cs (r + 1) (c' + 1)), ⟨_, 0, by omega, rfl, rfl, hpr, fun c' q => absurd q (Nat.not_lt_zero c')⟩, ?_⟩
    clear hpr
    rintro M pr x10 ⟨c, hc, rfl, rfl, hp1, hp2⟩
    unfold bd_X11_carried_143
    rw [nI_add]
    refine pk_le (eB.length + eA.length) c (fun q2 y9 e9 => ⟨eA.length - (r + 1), by omega, r + 1, by omega, rfl, by rw [e9, nI_1], fun r' c' r1 c1 => ?_⟩) (fun q2 => ?_) rfl rfl
    · by_cases e : r' = r
      · rw [e]
        exact hp2 c' (by omega)
      · exact hp1 r' c' (by omega) c1
    · have e64 : (64 : Int32) * nI r = nI (64 * r) := z_mul 64 r
      rw [e64, nI_add, nI_add]
      have h213 : ∀ v, v = cs (r + 1) (c + 1) → bk_X11_carried_213 Q (fun M_price' x7' => ∃ n', n' < eA.length - r ∧ ∃ r, r ≤ eA.length ∧ n' = eA.length - r ∧ x7' = nI r ∧ ∀ r' c', r' < r → c' < eB.length + eA.length → M_price' (64 * r' + c') = nI (cs (r' + 1) (c' + 1))) (fun M_price' x10' => ∃ n', n' < eB.length + eA.length - c ∧ ∃ c, c ≤ eB.length + eA.length ∧ n' = eB.length + eA.length - c ∧ x10' = nI c ∧ (∀ r' c', r' < r → c' < eB.length + eA.length → M_price' (64 * r' + c') = nI (cs (r' + 1) (c' + 1))) ∧ ∀ c', c' < c → M_price' (64 * r + c') = nI (cs (r + 1) (c' + 1))) (nI c) pr (nI v) (nI (64 * r + c)) := by
        intro v hv
        unfold bk_X11_carried_213
        refine ⟨pk_in (64 * r + c) 2048 (by omega), fun f11 e11 y12 e12 => ⟨eB.length + eA.length - (c + 1), by omega, c + 1, by omega, rfl, by rw [e12, nI_1], fun r' c' r1 c1 => ?_, fun c' c1 => ?_⟩⟩
        · rw [e11, z_cl (by omega), z_upd_ne _ _ (by omega)]
          exact hp1 r' c' r1 c1
        · rw [e11, z_cl (by omega)]
          by_cases e : c' = c
          · rw [e, z_upd_eq, hv]
          · rw [z_upd_ne _ _ (by omega)]
            exact hp2 c' (by omega)
      have hval := hcd (r + 1) (c + 1)
      rw [show r + 1 - 1 = r by omega, show c + 1 - 1 = c by omega] at hval
      refine pk_le eB.length c (fun q3 => h213 _ ?_) (fun q3 => ⟨pk_in c 64 (by omega), ?_⟩) rfl rfl
      · rw [hval, if_neg (by omega)]
      · have hfc := hfr c q3
        obtain ⟨x2, y2⟩ := hx _ hfc.2
        rw [z_cl (show c < 2 ^ 31 by omega), hfc.1]
        refine s_edgeX k hfc.2 (s_apart (by omega) (by omega) ⟨pk_in c 64 (by omega), s_edgeY k hfc.2 (s_apart (by omega) (by omega) ?_)⟩)
        rw [nI_add]
        exact h213 _ (by rw [hval, if_pos q3])
theorem s_mcarried {na nb : Nat} {ua va fa wa sa ea li fr pr : Nat → Int32} {Q : Int32 → ((Nat → Int32) × (Nat → Int32) × (Nat → Int32) × (Nat → Int32) × (Nat → Int32) × (Nat → Int32) × (Nat → Int32) × (Nat → Int32) × (Nat → Int32)) → Prop} (k : okS w h) (hna : na < 2 ^ 31) (hnb : nb < 2 ^ 31) (hQ : ∀ u, Q (nI (carV w h na nb)) u) : wp_X11_carried (lN na) (lN nb) (nI w) (nI h) pr ua va fa wa sa ea li fr Q := by
  have hec : ecN w h ≤ 31 := ec_le k
  have hsum := el_sum (andn_dis na nb) (ecN w h)
  unfold carV at hQ
  obtain ⟨A, hA⟩ : ∃ A, andn na nb = A := ⟨_, rfl⟩
  obtain ⟨B, hB⟩ : ∃ B, andn nb na = B := ⟨_, rfl⟩
  have hAb : ∀ e, A.testBit e = (na.testBit e && !nb.testBit e) := fun e => by rw [← hA]; exact andn_bit _ _ _
  have hBb : ∀ e, B.testBit e = (nb.testBit e && !na.testBit e) := fun e => by rw [← hB]; exact andn_bit _ _ _
  have hdis := andn_dis na nb
  rw [hA] at hQ hsum
  rw [hB] at hQ hsum
  rw [hA, hB] at hdis
  unfold wp_X11_carried lp_X11_carried_9
  refine ⟨fun M li fr x5 x6 x7 => ∃ e, e ≤ ecN w h ∧ M = ecN w h - e ∧ x7 = nI e ∧ x5 = nI (el A e).length ∧ x6 = nI (el B e).length ∧ LA 31 (el A e) li ∧ LA 31 (el B e) fr, ⟨_, 0, by omega, rfl, rfl, rfl, rfl, fun j hj => absurd hj (Nat.not_lt_zero j), fun j hj => absurd hj (Nat.not_lt_zero j)⟩, ?_⟩
  rintro M li fr x5 x6 x7 ⟨e, he, rfl, rfl, rfl, rfl, hli, hfr⟩
  have hse := el_sum hdis e
  unfold bd_X11_carried_9
  refine s_edgeMany ?_
  refine pk_le (ecN w h) e (fun q => ?_) (fun q => ?_) rfl rfl
  · have ee : e = ecN w h := by omega
    subst ee
    exact s_mprice k (by omega) hli hfr hQ
  · rw [z_bitL hna (show e < 31 by omega)]
    have step : ∀ (li' fr' : Nat → Int32) (x5' x6' : Int32) (B9 : (Nat → Int32) → (Nat → Int32) → Int32 → Int32 → Int32 → Prop), (LA 31 (el A (e + 1)) li' → LA 31 (el B (e + 1)) fr' → x5' = nI (el A (e + 1)).length → x6' = nI (el B (e + 1)).length → B9 li' fr' x5' x6' (nI (e + 1))) → LA 31 (el A (e + 1)) li' → LA 31 (el B (e + 1)) fr' → x5' = nI (el A (e + 1)).length → x6' = nI (el B (e + 1)).length → bk_X11_carried_98 Q B9 x5' x6' (nI e) li' fr' := by
      intro li' fr' x5' x6' B9 h1 h2 h3 h4 h5
      unfold bk_X11_carried_98
      intro y21 e21
      rw [e21, nI_1]
      exact h1 h2 h3 h4 h5
    have hAe := hAb e
    have hBe := hBb e
    cases e1 : na.testBit e <;> cases e2 : nb.testBit e <;> rw [e1, e2] at hAe hBe
    · have hAe' : el A (e + 1) = el A e := by rw [el, hAe]; rfl
      have hBe' : el B (e + 1) = el B e := by rw [el, hBe]; rfl
      refine ⟨fun _ => ?_, fun z => absurd z (by decide)⟩
      unfold bk_X11_carried_34
      rw [z_bitL hnb (show e < 31 by omega), e2]
      refine ⟨fun _ => ?_, fun z => absurd z (by decide)⟩
      unfold bk_X11_carried_52 bk_X11_carried_76
      refine ⟨fun _ => ⟨fun _ => step li fr _ _ _ (fun h1 h2 h3 h4 => ⟨ecN w h - (e + 1), by omega, e + 1, by omega, rfl, rfl, h3, h4, h1, h2⟩) (by rw [hAe']; exact hli) (by rw [hBe']; exact hfr) (by rw [hAe']) (by rw [hBe']), fun z => absurd rfl z⟩, fun z => absurd rfl z⟩
    · have hAe' : el A (e + 1) = el A e := by rw [el, hAe]; rfl
      have hBe' : el B (e + 1) = el B e ++ [e] := by rw [el, hBe]; rfl
      refine ⟨fun _ => ?_, fun z => absurd z (by decide)⟩
      unfold bk_X11_carried_34
      rw [z_bitL hnb (show e < 31 by omega), e2]
      refine ⟨fun z => absurd rfl z, fun _ => ?_⟩
      unfold bk_X11_carried_52 bk_X11_carried_76
      refine ⟨fun _ => ⟨fun z => absurd z (by decide), fun _ => ⟨fun z => absurd rfl z, fun _ => ⟨pk_in (el B e).length 64 (by omega), fun f23 e23 y24 e24 => step li f23 _ _ _ (fun h1 h2 h3 h4 => ⟨ecN w h - (e + 1), by omega, e + 1, by omega, rfl, rfl, h3, h4, h1, h2⟩) (by rw [hAe']; exact hli) ?_ (by rw [hAe']) ?_⟩⟩⟩, fun z => absurd rfl z⟩
      · rw [hBe', e23, z_cl (by omega)]
        exact LA_push hfr (by omega)
      · rw [hBe', e24, nI_1, List.length_append]
        rfl
    · have hAe' : el A (e + 1) = el A e ++ [e] := by rw [el, hAe]; rfl
      have hBe' : el B (e + 1) = el B e := by rw [el, hBe]; rfl
      refine ⟨fun z => absurd rfl z, fun _ => ?_⟩
      unfold bk_X11_carried_34
      rw [z_bitL hnb (show e < 31 by omega), e2]
      refine ⟨fun _ => ?_, fun z => absurd z (by decide)⟩
      unfold bk_X11_carried_52
      refine ⟨fun z => absurd z (by decide), fun _ => ⟨fun z => absurd rfl z, fun _ => ⟨pk_in (el A e).length 64 (by omega), fun f26 e26 y27 e27 => ?_⟩⟩⟩
      unfold bk_X11_carried_76
      refine ⟨fun _ => step f26 fr _ _ _ (fun h1 h2 h3 h4 => ⟨ecN w h - (e + 1), by omega, e + 1, by omega, rfl, rfl, h3, h4, h1, h2⟩) ?_ (by rw [hBe']; exact hfr) ?_ (by rw [hBe']), fun z => absurd rfl z⟩
      · rw [hAe', e26, z_cl (by omega)]
        exact LA_push hli (by omega)
      · rw [hAe', e27, nI_1, List.length_append]
        rfl
    · have hAe' : el A (e + 1) = el A e := by rw [el, hAe]; rfl
      have hBe' : el B (e + 1) = el B e := by rw [el, hBe]; rfl
      refine ⟨fun z => absurd rfl z, fun _ => ?_⟩
      unfold bk_X11_carried_34
      rw [z_bitL hnb (show e < 31 by omega), e2]
      refine ⟨fun z => absurd rfl z, fun _ => ?_⟩
      unfold bk_X11_carried_52
      refine ⟨fun z => absurd z (by decide), fun _ => ⟨fun _ => ?_, fun z => absurd z (by decide)⟩⟩
      unfold bk_X11_carried_76
      refine ⟨fun z => absurd z (by decide), fun _ => ⟨fun _ => step li fr _ _ _ (fun h1 h2 h3 h4 => ⟨ecN w h - (e + 1), by omega, e + 1, by omega, rfl, rfl, h3, h4, h1, h2⟩) (by rw [hAe']; exact hli) (by rw [hBe']; exact hfr) (by rw [hAe']) (by rw [hBe']), fun z => absurd z (by decide)⟩⟩
end CARRIED
