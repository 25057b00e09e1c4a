section ROUND
variable {w h : Nat}
def sqP (sq : Nat → Nat) (s : Nat) : Nat := if sq s ≤ 9 then sq s else 0
theorem sqP_le (sq : Nat → Nat) (s : Nat) : sqP sq s ≤ 9 := by
  unfold sqP
  split <;> omega
theorem mk_none {p : Nat → Bool} (hp : ∀ s, p s = false) : ∀ n, mk p n = 0 := by
  intro n
  apply z_zero.mpr
  intro i
  rw [mk_bit, hp i, Bool.and_false]
theorem sqP_bar (sq : Nat → Nat) (n : Nat) : mk (pBar (sqP sq)) n = 0 := mk_none (fun s => by
  unfold pBar
  have := sqP_le sq s
  exact decide_eq_false (by omega)) n
theorem sqP_pe (sq : Nat → Nat) (n : Nat) : pe w h (sqP sq) n = 0 := by
  apply z_zero.mpr
  intro i
  cases e : (pe w h (sqP sq) n).testBit i with
  | false => rfl
  | true =>
    obtain ⟨p, _, h2, _⟩ := (pe_bit (sqP sq) i n).mp e
    have := sqP_le sq p
    omega
theorem sqP_rich (sq : Nat → Nat) : pRich (sqP sq) = pRich sq := by
  funext s
  unfold pRich sqP
  by_cases q : sq s ≤ 9
  · rw [if_pos q]
  · rw [if_neg q, decide_eq_false (show ¬ sq s < 10 by omega)]
    simp
theorem sqP_yd (sq : Nat → Nat) : yd (sqP sq) = yd sq := by
  funext s
  unfold yd sqP
  by_cases q : sq s ≤ 9
  · rw [if_pos q]
  · rw [if_neg q, if_neg (show ¬ sq s < 10 by omega)]
    rfl
/-- the plain field's folds, when they are known -/
def PLK (w h H : Nat) (sq : Nat → Nat) (al wa mo : Int32) (fn fs fy fb kp : Nat → Int32) : Prop := TabOK w h H sq true al wa mo fn fs fy fb ∧ KF w h 0 H (mk (pRich sq) (w * h)) (sumF (yd sq) (w * h)) kp
def LI2 (w h bar af apf : Nat) (li : Option Nat) (ss nx : Nat → Int32) : Prop := (li = some af → STP w h bar ss nx) ∧ (li = some apf → STP w h 0 ss nx)
theorem LI2_f {bar af apf : Nat} {li li' : Option Nat} {ss nx ss' nx' : Nat → Int32} (hne : ¬ af = apf) (hl : LI2 w h bar af apf li ss nx) (ho : LIo w h bar af li ss nx li' ss' nx') : LI2 w h bar af apf li' ss' nx' := by
  rcases ho with ⟨y1, y2, y3⟩ | ⟨y1, y2⟩
  · rw [y1, y2, y3]
    exact hl
  · refine ⟨fun _ => y2, fun e => ?_⟩
    rw [y1] at e
    cases e
    exact absurd rfl hne
theorem LI2_p {bar af apf : Nat} {li li' : Option Nat} {ss nx ss' nx' : Nat → Int32} (hne : ¬ af = apf) (hl : LI2 w h bar af apf li ss nx) (ho : LIo w h 0 apf li ss nx li' ss' nx') : LI2 w h bar af apf li' ss' nx' := by
  rcases ho with ⟨y1, y2, y3⟩ | ⟨y1, y2⟩
  · rw [y1, y2, y3]
    exact hl
  · refine ⟨fun e => ?_, fun _ => y2⟩
    rw [y1] at e
    cases e
    exact absurd rfl hne
theorem s_knowPlain {H : Nat} {sq : Nat → Nat} {af apf bar : Nat} {li : Option Nat} {mp pal pwa pmo pby : Int32} {gk pfn pfs pfy pfb pkp ss nx : Nat → Int32} {Q : (Int32 × Int32 × Int32 × Int32 × (Nat → Int32) × (Nat → Int32) × (Nat → Int32) × (Nat → Int32) × Option Nat × Int32 × (Nat → Int32)) → Prop} (k : okS w h) (hgk : ∀ s, s < w * h → gk s = nI (sq s) ∧ sq s ≤ 11) (hmp : mp = 0 ∨ mp = 1 ∧ PLK w h H sq pal pwa pmo pfn pfs pfy pfb pkp) (hz : pfn 0 = 0 ∧ pfy 0 = 0 ∧ pfb 0 = 0) (hl : LI2 w h bar af apf li ss nx) (hQ : ∀ pal' pwa' pmo' pfn' pfs' pfy' pfb' li' pby' pkp', PLK w h H sq pal' pwa' pmo' pfn' pfs' pfy' pfb' pkp' → LI2 w h bar af apf li' ss nx → Q (1, pal', pwa', pmo', pfn', pfs', pfy', pfb', li', pby', pkp')) : wp_X10_knowPlain mp (nI w) (nI h) (nI H) gk pal pwa pmo pfn pfs pfy pfb li pby pkp Q := by
  unfold wp_X10_knowPlain wp_X1_forget
  refine ⟨fun z => ?_, fun z => ?_⟩
  · rcases hmp with e | ⟨e, hP⟩
    · exact absurd e z
    · subst e
      exact hQ _ _ _ _ _ _ _ _ _ _ hP hl
  · refine s_build true k hgk hz.1 hz.2.1 hz.2.2 (fun al wa mo fn' fs' fy' fb' hT => s_fill (n := 91) (by decide) (fun a ha => hQ _ _ _ _ _ _ _ _ _ _ ⟨hT, fun j j1 j2 => Or.inl ?_⟩ ⟨fun e => ?_, fun e => ?_⟩))
    · show a j = -2
      rw [ha j, if_pos j2]
    · cases e
    · cases e
theorem s_mround {H wy : Nat} {sq : Nat → Nat} {fo : Int32} {gk aS aN aY le ws pa : Nat → Int32} {aE : Nat → Int64} {v1 : Int32} {Q : Int32 → (Int32 × (Nat → Int32) × (Nat → Int32) × (Nat → Int64) × (Nat → Int32) × (Nat → Int32) × (Nat → Int32) × (Nat → Int32) × (Nat → Int32)) → Prop} (k : okS w h) (hgk : ∀ s, s < w * h → gk s = nI (sq s) ∧ sq s ≤ 11) (hwy : wy ≤ 90) (hQ : ∀ v2 r u1 sq' u3 u4 u5 u6 u7 u8 u9, v2 = resO (LTop w h 0 H (mk (pRich sq) (w * h)) (sumF (yd sq) (w * h)) false wy 60) → (∀ j, j < 10 → sq' j = gk j) → (v1 = -1 ∨ v2 = -1 → r = -1) → (¬ v1 = -1 → ¬ v2 = -1 → r = v1 - v2 + 100) → Q r (u1, sq', u3, u4, u5, u6, u7, u8, u9)) : lp_X11_round_21 Q (nI wy) v1 (nI w) (nI h) (lN H) aS aE aN aY le ws gk pa 0 := by
  have hn := n10 k
  unfold lp_X11_round_21
  refine ⟨fun m sa pa x3 => ∃ i, i ≤ 10 ∧ m = 10 - i ∧ x3 = nI i ∧ (∀ j, j < i → pa j = gk j ∧ sa j = if gk j ≤ 9 then gk j else 0) ∧ (∀ j, i ≤ j → sa j = gk j), ⟨10, 0, by decide, rfl, rfl, fun j hj => absurd hj (Nat.not_lt_zero j), fun j _ => rfl⟩, ?_⟩
  rintro m sa pa x3 ⟨i, hi, rfl, rfl, h1, h2⟩
  unfold bd_X11_round_21
  refine pk_le 10 i (fun q => ?_) (fun q => ⟨pk_in i 10 q, fun y14 e14 => ⟨pk_in i 10 q, fun f15 e15 => ⟨pk_in i 10 q, ?_⟩⟩⟩) rfl rfl
  · have hgk' : ∀ s, s < w * h → sa s = nI (sqP sq s) ∧ sqP sq s ≤ 11 := by
      intro s hs
      obtain ⟨g1, g2⟩ := hgk s hs
      have h9 := sqP_le sq s
      refine ⟨?_, by omega⟩
      rw [(h1 s (by omega)).2, g1]
      unfold sqP
      by_cases e : sq s ≤ 9
      · rw [if_pos e, if_pos (show nI (sq s) ≤ (9 : Int32) from nI_le e (by decide))]
      · rw [if_neg e, if_neg ?_]
        · rfl
        · intro y
          have := (fa_le _ _).mp y
          rw [nI_toInt (by omega)] at this
          have e9 : (9 : Int32).toInt = 9 := by decide
          rw [e9] at this
          omega
    refine s_mfewestOf k hgk' hwy (fun u => ?_)
    rw [sqP_bar, sqP_pe, sqP_rich, sqP_yd, Nat.or_zero]
    obtain ⟨v2, hv2⟩ : ∃ v2, resO (LTop w h 0 H (mk (pRich sq) (w * h)) (sumF (yd sq) (w * h)) false wy 60) = v2 := ⟨_, rfl⟩
    rw [hv2]
    unfold lp_X11_round_81
    refine ⟨fun m sa x4 => ∃ i, i ≤ 10 ∧ m = 10 - i ∧ x4 = nI i ∧ (∀ j, j < i → sa j = gk j), ⟨10, 0, by decide, rfl, rfl, fun j hj => absurd hj (Nat.not_lt_zero j)⟩, ?_⟩
    rintro m sa' x4 ⟨i2, hi2, rfl, rfl, h3⟩
    unfold bd_X11_round_81 bk_X11_round_118
    refine pk_le 10 i2 (fun q2 => ⟨fun z => ?_, fun z => ⟨fun z2 => ?_, fun z2 => ?_⟩⟩) (fun q2 => ⟨pk_in i2 10 q2, fun y11 e11 => ⟨pk_in i2 10 q2, fun f12 e12 y13 e13 => ⟨10 - (i2 + 1), by omega, i2 + 1, by omega, rfl, by rw [e13, nI_1], fun j hj => ?_⟩⟩⟩) rfl rfl
    · exact hQ v2 _ _ _ _ _ _ _ _ _ _ hv2.symm (fun j hj => h3 j (by omega)) (fun _ => rfl) (fun y => absurd z y)
    · exact hQ v2 _ _ _ _ _ _ _ _ _ _ hv2.symm (fun j hj => h3 j (by omega)) (fun y => by rcases y with y | y; exact absurd y z; exact absurd y z2) (fun _ _ => rfl)
    · exact hQ v2 _ _ _ _ _ _ _ _ _ _ hv2.symm (fun j hj => h3 j (by omega)) (fun _ => rfl) (fun _ y => absurd z2 y)
    · rw [z_cl (by omega), (h1 i2 (by omega)).1] at e11
      rw [e12, z_cl (by omega), e11]
      by_cases e : j = i2
      · rw [e, z_upd_eq]
      · rw [z_upd_ne _ _ e]
        exact h3 j (by omega)
  · rw [z_cl (by omega)] at e14 e15 ⊢
    have hsi := h2 i (Nat.le_refl i)
    rw [hsi] at e14 ⊢
    have h65 : ∀ s0, s0 = (if gk i ≤ 9 then gk i else 0) → bk_X11_round_65 Q (fun M_square' M_path' x3' => ∃ n', n' < 10 - i ∧ ∃ i, i ≤ 10 ∧ n' = 10 - i ∧ x3' = nI i ∧ (∀ j, j < i → M_path' j = gk j ∧ M_square' j = if gk j ≤ 9 then gk j else 0) ∧ (∀ j, i ≤ j → M_square' j = gk j)) (nI i) sa f15 s0 (nI i) := by
      intro s0 e0
      unfold bk_X11_round_65
      refine ⟨pk_in i 10 q, fun f17 e17 y18 e18 => ⟨10 - (i + 1), by omega, i + 1, by omega, rfl, by rw [e18, nI_1], fun j hj => ?_, fun j hj => ?_⟩⟩
      · rw [e17, e15, z_cl (by omega), e14]
        by_cases e : j = i
        · rw [e, z_upd_eq, z_upd_eq, e0]
          exact ⟨rfl, rfl⟩
        · rw [z_upd_ne _ _ e, z_upd_ne _ _ e]
          exact h1 j (by omega)
      · rw [e17, z_cl (by omega), z_upd_ne _ _ (by omega)]
        exact h2 j (by omega)
    refine ⟨fun z => ⟨pk_in i 10 q, h65 _ ?_⟩, fun z => h65 _ ?_⟩
    · rw [if_pos z]
    · rw [if_neg z]
theorem op_round {H : Nat} {sq : Nat → Nat} {af apf : Nat} {li : Option Nat} {p1 mp al wa mo pal pwa pmo pby oy oh poy poh fo : Int32} {fn fs fy fb pfn pfs pfy pfb ss nx va kp pkp gk gm aS aN aY le ws pa : Nat → Int32} {aE : Nat → Int64} {K : (Int32 × Int32 × Int32 × Int32 × (Nat → Int32) × (Nat → Int32) × (Nat → Int32) × (Nat → Int32) × Option Nat × (Nat → Int32) × (Nat → Int32) × (Nat → Int32) × Int32 × Int32 × (Nat → Int32) × Int32 × Int32 × Int32 × (Nat → Int32)) → (Int32 × (Nat → Int32) × (Nat → Int32) × (Nat → Int64) × (Nat → Int32) × (Nat → Int32) × (Nat → Int32) × (Nat → Int32) × (Nat → Int32)) → Prop} (k : okS w h) (hne : ¬ af = apf) (hT : TabOK w h H sq false al wa mo fn fs fy fb) (hgk : ∀ s, s < w * h → gk s = nI (sq s) ∧ sq s ≤ 11) (hgm : ∀ s, s < w * h → gm s = nI (sq s) ∧ sq s ≤ 11) (hKF : KF w h (mk (pBar sq) (w * h)) (H ||| pe w h sq (w * h)) (mk (pRich sq) (w * h)) (sumF (yd sq) (w * h)) kp) (hmp : mp = 0 ∨ mp = 1 ∧ PLK w h H sq pal pwa pmo pfn pfs pfy pfb pkp) (hz : pfn 0 = 0 ∧ pfy 0 = 0 ∧ pfb 0 = 0) (hl : LI2 w h (mk (pBar sq) (w * h)) af apf li ss nx)
    (hK : ∀ mp' pal' pwa' pmo' pfn' pfs' pfy' pfb' li' ss' nx' va' oy' oh' kp' pby' poy' poh' pkp' u1 sq' u3 u4 u5 u6 u7 u8 u9, (mp' = 0 ∨ mp' = 1 ∧ PLK w h H sq pal' pwa' pmo' pfn' pfs' pfy' pfb' pkp') → (pfn' 0 = 0 ∧ pfy' 0 = 0 ∧ pfb' 0 = 0) → LI2 w h (mk (pBar sq) (w * h)) af apf li' ss' nx' → KF w h (mk (pBar sq) (w * h)) (H ||| pe w h sq (w * h)) (mk (pRich sq) (w * h)) (sumF (yd sq) (w * h)) kp' → (∀ j, j < 10 → sq' j = gm j) → K (mp', pal', pwa', pmo', pfn', pfs', pfy', pfb', li', ss', nx', va', oy', oh', kp', pby', poy', poh', pkp') (u1, sq', u3, u4, u5, u6, u7, u8, u9)) : wp_X10_round af apf p1 mp (nI w) (nI h) (nI H) gk al wa mo fn fs fy fb pal pwa pmo pfn pfs pfy pfb li ss nx va oy oh kp pby poy poh pkp (fun r u => wp_X11_round p1 (nI w) (nI h) (lN H) fo gm aS aE aN aY le ws pa (fun r' u' => EqK r r' (K u u'))) := by
  have hTB : TB w h (mk (pBar sq) (w * h)) (H ||| pe w h sq (w * h)) (sumF (yd sq) (w * h)) (mk (pRich sq) (w * h)) al wa mo fn fs fy fb := hT
  unfold wp_X10_round
  rcases want_tri p1 with ⟨a, b⟩ | ⟨wy, h1, hwy, rfl, a, b⟩
  · refine b _ ⟨fun z => absurd rfl z, fun _ => ?_⟩
    unfold wp_X11_round
    refine s_in ?_
    rw [a]
    exact ⟨fun z => absurd rfl z, fun _ => eqk _ (hK _ _ _ _ _ _ _ _ _ _ _ _ _ _ _ _ _ _ _ _ _ _ _ _ _ _ _ _ hmp hz hl hKF (fun _ _ => rfl))⟩
  · refine b _ ⟨fun _ => ?_, fun z => absurd z (by decide)⟩
    refine s_knowPlain k hgk hmp hz hl (fun pal' pwa' pmo' pfn' pfs' pfy' pfb' li1 pby' pkp' hP hl1 => ?_)
    have hTP : TB w h 0 H (sumF (yd sq) (w * h)) (mk (pRich sq) (w * h)) pal' pwa' pmo' pfn' pfs' pfy' pfb' := hP.1
    refine s_cfewestFor k hTB (rich_lt k) (fun g => yards_le k sq g) h1 hwy hKF hl1.1 (fun oy2 oh2 kp2 li2 ss2 nx2 va2 d1 d2 => ?_)
    have hl2 := LI2_f hne hl1 d2
    refine s_cfewestFor k hTP (rich_lt k) (fun g => yards_le k sq g) h1 hwy hP.2 hl2.2 (fun oy3 oh3 kp3 li3 ss3 nx3 va3 e1 e2 => ?_)
    have hl3 := LI2_p hne hl2 e2
    have hz' := tab_0 hP.1
    obtain ⟨v1, hv1⟩ : ∃ v1, resO (LTop w h (mk (pBar sq) (w * h)) (H ||| pe w h sq (w * h)) (mk (pRich sq) (w * h)) (sumF (yd sq) (w * h)) false wy 60) = v1 := ⟨_, rfl⟩
    obtain ⟨v2, hv2⟩ : ∃ v2, resO (LTop w h 0 H (mk (pRich sq) (w * h)) (sumF (yd sq) (w * h)) false wy 60) = v2 := ⟨_, rfl⟩
    rw [hv1, hv2]
    have href : ∀ r : Int32, (v1 = -1 ∨ v2 = -1 → r = -1) → (¬ v1 = -1 → ¬ v2 = -1 → r = v1 - v2 + 100) → wp_X11_round (nI wy) (nI w) (nI h) (lN H) fo gm aS aE aN aY le ws pa (fun r' u' => EqK r r' (K (1, pal', pwa', pmo', pfn', pfs', pfy', pfb', li3, ss3, nx3, va3, oy2, oh2, kp2, pby', oy3, oh3, kp3) u')) := by
      intro r r1 r2
      unfold wp_X11_round
      refine s_in ?_
      rw [a]
      refine ⟨fun _ => s_mfewestOf k hgm hwy (fun u => ?_), fun z => absurd z (by decide)⟩
      rw [hv1]
      refine s_mround (fo := fo) k hgm hwy (fun w2 r' u1 sq' u3 u4 u5 u6 u7 u8 u9 f1 f2 f3 f4 => ?_)
      rw [hv2] at f1
      subst f1
      have er : r = r' := by
        by_cases q1 : v1 = -1
        · rw [r1 (Or.inl q1), f3 (Or.inl q1)]
        · by_cases q2 : w2 = -1
          · rw [r1 (Or.inr q2), f3 (Or.inr q2)]
          · rw [r2 q1 q2, f4 q1 q2]
      rw [er]
      exact eqk _ (hK _ _ _ _ _ _ _ _ _ _ _ _ _ _ _ _ _ _ _ _ _ _ _ _ _ _ _ _ (Or.inr ⟨rfl, hP.1, e1⟩) hz' hl3 d1 f2)
    unfold bk_X10_round_42
    refine ⟨fun z => href _ (fun _ => rfl) (fun y => absurd z y), fun z => ⟨fun z2 => href _ (fun y => ?_) (fun _ _ => rfl), fun z2 => href _ (fun _ => rfl) (fun _ y => absurd z2 y)⟩⟩
    rcases y with y | y
    · exact absurd y z
    · exact absurd y z2
end ROUND
