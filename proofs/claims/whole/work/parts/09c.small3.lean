theorem pf_lI {a : Nat} (h : a < 2 ^ 63) : (lN a).toInt = (a : Int) := lg_ofNat_toInt h
theorem pf_shr {a d : Nat} {D : Int64} (hD : (D.toBitVec.smod 64).toNat = d) (h : a < 2 ^ 62) : lN a >>> D = lN (a / 2 ^ d) := by
  have hd : a / 2 ^ d ≤ a := Nat.div_le_self _ _
  apply Int64.toInt_inj.mp
  have e : (lN a >>> D).toInt = (lN a).toInt >>> d := by
    rw [← hD]
    exact BitVec.toInt_sshiftRight ..
  rw [e, Int.shiftRight_eq_div_pow, pf_lI (by omega), pf_lI (by omega)]
  rfl
section OPS2
variable {w h : Nat}
theorem geo_ec : allS (fun w h => decide ((w + 1) * h + w * (h + 1) ≤ 31)) = true := by decide +kernel
theorem ec_le (k : okS w h) : (w + 1) * h + w * (h + 1) ≤ 31 := of_decide_eq_true (allS_at geo_ec k)
theorem ec_pos (k : okS w h) : 0 < (w + 1) * h + w * (h + 1) := by
  have : 0 < (w + 1) * h := Nat.mul_pos (by omega) k.2.1
  omega
theorem s_edgeCount {Q : Int32 → Prop} (hQ : Q (nI ((w + 1) * h + w * (h + 1)))) : wp_X4_edgeCount (nI w) (nI h) Q := by
  unfold wp_X4_edgeCount
  rw [nI_1, nI_1, z_mul, z_mul, nI_add]
  exact hQ
theorem s_edgeMany {Q : Int32 → Prop} (hQ : Q (nI ((w + 1) * h + w * (h + 1)))) : wp_X11_edgeMany (nI w) (nI h) Q := by
  unfold wp_X11_edgeMany
  rw [nI_1, nI_1, z_mul, z_mul, nI_add]
  exact hQ
theorem s_gsquares {Q : Int32 → Prop} (hQ : Q (nI (w * h))) : wp_X4_squares (nI w) (nI h) Q := by
  unfold wp_X4_squares
  rw [z_mul]
  exact hQ
theorem op_square {sq : Nat → Nat} {p : Int32} {gk gm : Nat → Int32} {K : Prop} (k : okS w h) (hc : ∀ s, s < w * h → gk s = nI (sq s) ∧ sq s ≤ 11) (hm : ∀ s, s < w * h → gm s = nI (sq s) ∧ sq s ≤ 11) (hK : K) : wp_X10_square p (nI w) (nI h) gk (fun r => wp_X11_square p (nI w) (nI h) gm (fun r' => EqK r r' K)) := by
  have hn := k.2.2
  have hn0 : 0 < w * h := Nat.mul_pos k.1 k.2.1
  have e1 : nI (w * h) - 1 = nI (w * h - 1) := z_sub (a := w * h) (b := 1) hn0
  have bad : inI p 0 (nI (w * h - 1)) = 0 → bk_X10_square_15 (fun r => wp_X11_square p (nI w) (nI h) gm (fun r' => EqK r r' K)) := by
    intro h0
    unfold bk_X10_square_15 wp_X11_square
    refine s_squares (s_in ?_)
    rw [e1, h0]
    exact ⟨fun _ => eqk _ hK, fun z => absurd rfl z⟩
  unfold wp_X10_square
  rcases tri p hn0 (by omega) with ⟨h0, h1⟩ | ⟨h0, h2, h3, h1⟩ | ⟨j, hj, rfl, h1⟩
  · exact ⟨fun _ => bad h1, fun z => absurd h0 z⟩
  · exact ⟨fun z => absurd z h0, fun _ => s_gsquares ⟨fun z => absurd z h3, fun _ => bad h1⟩⟩
  · refine ⟨fun z => absurd z (nI_pos (by omega)), fun _ => s_gsquares ⟨fun _ => ⟨pk_in j 10 (by omega), ?_⟩, fun z => absurd (nI_lt hj (by omega)) z⟩⟩
    unfold wp_X11_square
    refine s_squares (s_in ?_)
    rw [e1, h1, z_cl (by omega), (hc j hj).1, (hm j hj).1]
    exact ⟨fun z => absurd z (by decide), fun _ => ⟨pk_in j 10 (by omega), eqk _ hK⟩⟩
theorem sh_63 : ∀ j, j < 64 → (((nI j).toInt64 &&& 63).toBitVec.smod 64).toNat = j := by decide +kernel
theorem z_bitL {a k : Nat} (ha : a < 2 ^ 31) (hk : k < 31) : (lN a >>> ((nI k).toInt64 &&& 63)) &&& 1 = lN (if a.testBit k then 1 else 0) := by
  rw [pf_shr (sh_63 k (by omega)) (by omega), show (1 : Int64) = lN 1 from rfl, fb_andL, Nat.and_one_is_mod, z_tb]
theorem op_hedge {H : Nat} {p : Int32} {K : Prop} (k : okS w h) (hH : H < 2 ^ 31) (hK : K) : wp_X10_hedge p (nI w) (nI h) (nI H) (fun r => wp_X11_hedge p (nI w) (nI h) (lN H) (fun r' => EqK r r' K)) := by
  have hn := ec_le k
  have hn0 := ec_pos k
  obtain ⟨N, hN⟩ : ∃ N, N = (w + 1) * h + w * (h + 1) := ⟨_, rfl⟩
  rw [← hN] at hn hn0
  have e1 : nI N - 1 = nI (N - 1) := z_sub (a := N) (b := 1) hn0
  have bad : inI p 0 (nI (N - 1)) = 0 → bk_X10_hedge_15 (fun r => wp_X11_hedge p (nI w) (nI h) (lN H) (fun r' => EqK r r' K)) := by
    intro h0
    unfold bk_X10_hedge_15 wp_X11_hedge
    refine s_edgeMany (s_in ?_)
    rw [← hN, e1, h0]
    exact ⟨fun _ => eqk _ hK, fun z => absurd rfl z⟩
  unfold wp_X10_hedge
  rcases tri p hn0 (by omega) with ⟨h0, h1⟩ | ⟨h0, h2, h3, h1⟩ | ⟨j, hj, rfl, h1⟩
  · exact ⟨fun _ => bad h1, fun z => absurd h0 z⟩
  · refine ⟨fun z => absurd z h0, fun _ => s_edgeCount ?_⟩
    rw [← hN]
    exact ⟨fun z => absurd z h3, fun _ => bad h1⟩
  · refine ⟨fun z => absurd z (nI_pos (by omega)), fun _ => s_edgeCount ?_⟩
    rw [← hN]
    refine ⟨fun _ => ?_, fun z => absurd (nI_lt hj (by omega)) z⟩
    unfold wp_X11_hedge
    refine s_edgeMany (s_in ?_)
    rw [← hN, e1, h1, z_bit hH (by omega), z_bitL hH (by omega), lN_i]
    exact ⟨fun z => absurd z (by decide), fun _ => eqk _ hK⟩
def wantN (wl : List Nat) (n : Nat) : Nat := if wl.length = 0 then 1 else wl.getD (n % wl.length) 0
def RW (wl : List Nat) (cnt : Int32) (arr : Nat → Int32) : Prop := cnt = nI wl.length ∧ wl.length ≤ 7 ∧ LA 91 wl arr
theorem s_cwant {wl : List Nat} {n : Nat} {cnt : Int32} {arr : Nat → Int32} {Q : Int32 → Prop} (hn : n < 2 ^ 31) (hw : RW wl cnt arr) (hQ : Q (nI (wantN wl n))) : wp_X4_wantOf (nI n) cnt arr Q := by
  obtain ⟨rfl, w2, w3⟩ := hw
  unfold wp_X4_wantOf bk_X4_wantOf_12
  unfold wantN at hQ
  refine pk_lt wl.length 1 (fun q => ?_) (fun q => ?_) rfl rfl
  · rw [if_pos (by omega)] at hQ
    exact hQ
  · rw [if_neg (by omega)] at hQ
    refine ⟨fun _ => ⟨nI_ne0 (by omega) (by omega), ?_⟩, fun z => absurd (nI_pos' hn) z⟩
    rw [z_rem hn (by omega) (by omega)]
    have hm := Nat.mod_lt n (show 0 < wl.length by omega)
    refine ⟨pk_in (n % wl.length) 7 (by omega), ?_⟩
    rw [z_cl (by omega), (w3 _ hm).1]
    exact hQ
theorem s_mwant {wl : List Nat} {n : Nat} {cnt : Int32} {arr : Nat → Int32} {Q : Int32 → Prop} (hn : n < 2 ^ 31) (hw : RW wl cnt arr) (hQ : Q (nI (wantN wl n))) : wp_X11_wantOf (nI n) cnt arr Q := by
  obtain ⟨rfl, w2, w3⟩ := hw
  unfold wp_X11_wantOf
  unfold wantN at hQ
  by_cases h0 : wl.length = 0
  · rw [if_pos h0] at hQ
    rw [h0]
    exact ⟨fun z => absurd rfl z, fun _ => hQ⟩
  · rw [if_neg h0] at hQ
    have hne : ¬ nI wl.length = 0 := nI_ne0 (by omega) (by omega)
    refine ⟨fun _ => ⟨hne, ?_⟩, fun z => absurd z hne⟩
    rw [z_rem hn (by omega) (by omega)]
    have hm := Nat.mod_lt n (show 0 < wl.length by omega)
    refine ⟨pk_in (n % wl.length) 7 (by omega), ?_⟩
    rw [z_cl (by omega), (w3 _ hm).1]
    exact hQ
theorem op_night {wl : List Nat} {p q cc cm fz : Int32} {ac am : Nat → Int32} {K : Prop} (hc : RW wl cc ac) (hm : RW wl cm am) (hK : K) : wp_X10_night p q cc fz ac (fun r => wp_X11_night p q cm fz am (fun r' => EqK r r' K)) := by
  have bad : inI p 0 (nI (20 - 1)) = 0 → wp_X11_night p q cm fz am (fun r' => EqK (-2) r' K) := by
    intro h0
    unfold wp_X11_night
    refine s_in ?_
    rw [show (19 : Int32) = nI (20 - 1) from rfl, h0]
    exact ⟨fun z => absurd rfl z, fun _ => eqk _ hK⟩
  unfold wp_X10_night
  rcases tri p (N := 20) (by decide) (by decide) with ⟨h0, h1⟩ | ⟨h0, h2, h3, h1⟩ | ⟨j, hj, rfl, h1⟩
  · exact ⟨fun _ => bad h1, fun z => absurd h0 z⟩
  · exact ⟨fun z => absurd z h0, fun _ => ⟨fun z => absurd z h3, fun _ => bad h1⟩⟩
  · have good : ∀ v : Int32, (¬ q = 0 → (¬ q = 1 → EqK v (-3) K) ∧ (q = 1 → EqK v ((fz >>> (nI j &&& 31)) &&& 1) K)) → (q = 0 → EqK v (nI (wantN wl j)) K) → wp_X11_night (nI j) q cm fz am (fun r' => EqK v r' K) := by
      intro v g1 g2
      unfold wp_X11_night
      refine s_in ?_
      rw [show (19 : Int32) = nI (20 - 1) from rfl, h1]
      exact ⟨fun _ => ⟨g1, fun z => s_mwant (by omega) hm (g2 z)⟩, fun z => absurd z (by decide)⟩
    have e0 : (0 : Int32).toInt = 0 := by decide
    have e1 : (1 : Int32).toInt = 1 := by decide
    refine ⟨fun z => absurd z (nI_pos (by omega)), fun _ => ⟨fun _ => ⟨fun z => ?_, fun z => ⟨fun z2 => ⟨fun z3 => ?_, fun z3 => ?_⟩, fun z2 => ?_⟩⟩, fun z => absurd (nI_lt hj (by decide)) z⟩⟩
    · have n0 : ¬ q = 0 := fun y => by rw [y] at z; exact absurd z (by decide)
      have n1 : ¬ q = 1 := fun y => by rw [y] at z; exact absurd z (by decide)
      exact good _ (fun _ => ⟨fun _ => eqk _ hK, fun y => absurd y n1⟩) (fun y => absurd y n0)
    · have q1 : q = 1 := by
        apply Int32.toInt_inj.mp
        rw [Int32.lt_iff_toInt_lt, e0] at z
        rw [Int32.le_iff_toInt_le, e1] at z2
        have : q.toInt ≠ 0 := fun y => z3 (Int32.toInt_inj.mp (by rw [y, e0]))
        rw [e1]
        omega
      exact good _ (fun _ => ⟨fun y => absurd q1 y, fun _ => eqk _ hK⟩) (fun y => absurd y z3)
    · exact s_cwant (by omega) hc (good _ (fun y => absurd z3 y) (fun _ => eqk _ hK))
    · have n0 : ¬ q = 0 := fun y => by rw [y] at z2; exact absurd (by decide) z2
      have n1 : ¬ q = 1 := fun y => by rw [y] at z2; exact absurd (by decide) z2
      exact good _ (fun _ => ⟨fun _ => eqk _ hK, fun y => absurd y n1⟩) (fun y => absurd y n0)
def RR (B : Nat) (ro : List Nat) (cnt : Int32) (arr : Nat → Int32) : Prop := cnt = nI ro.length ∧ ro.length ≤ 20 ∧ LA B ro arr
theorem op_fold {ro : List Nat} {p al nc nm : Int32} {ac am : Nat → Int32} {K : Int32 × (Nat → Int32) → Int32 × (Nat → Int32) → Prop} (k : okS w h) (hal : al = nI (2 ^ (w * h) - 1)) (hc : RR (2 ^ (w * h)) ro nc ac) (hm : RR (2 ^ (w * h)) ro nm am) (hK : ∀ ro' nc' nm' ac' am', RR (2 ^ (w * h)) ro' nc' ac' → RR (2 ^ (w * h)) ro' nm' am' → K (nc', ac') (nm', am')) : wp_X10_fold p al nc ac (fun r u => wp_X11_fold p (nI w) (nI h) nm am (fun r' u' => EqK r r' (K u u'))) := by
  have hp := pow10 k
  have stay := hK ro nc nm ac am hc hm
  obtain ⟨c1, c2, c3⟩ := hc
  obtain ⟨m1, m2, m3⟩ := hm
  rw [hal]
  unfold wp_X10_fold
  refine s_knows ?_
  rcases tri_set k p with h0 | ⟨j, hj, rfl, h1⟩
  · rw [h0]
    refine ⟨fun z => absurd rfl z, fun _ => ?_⟩
    unfold wp_X11_fold
    refine s_isSetI k ?_
    rw [h0]
    exact ⟨fun z => absurd rfl z, fun _ => eqk _ stay⟩
  · rw [h1]
    refine ⟨fun _ => ?_, fun z => absurd z (by decide)⟩
    rw [c1]
    refine pk_lt ro.length 20 (fun q => ?_) (fun q => ?_) rfl rfl
    · unfold wp_X2_put
      refine pk_le 20 ro.length (fun z => by omega) (fun _ => ⟨pk_in ro.length 20 q, fun f2 e2 y3 e3 => ?_⟩) rfl rfl
      unfold wp_X11_fold
      refine s_isSetI k ?_
      rw [h1, m1]
      have hne : ¬ nI ro.length = 20 := fun z => by
        have := (nI_eq (a := ro.length) (b := 20) (by omega) (by decide)).mp z
        omega
      refine ⟨fun _ => ⟨fun _ => ⟨pk_in ro.length 20 q, fun f4 e4 y5 e5 => ?_⟩, fun z => absurd z hne⟩, fun z => absurd z (by decide)⟩
      rw [e3, e5]
      rw [z_cl (by omega)] at e2 e4
      refine eqk _ (hK (ro ++ [j]) _ _ _ _ ⟨by rw [nI_1, List.length_append]; rfl, by rw [List.length_append]; exact q, by rw [e2]; exact LA_push c3 hj⟩ ⟨by rw [nI_1, List.length_append]; rfl, by rw [List.length_append]; exact q, by rw [e4]; exact LA_push m3 hj⟩)
    · have h20 : ro.length = 20 := by omega
      unfold wp_X11_fold
      refine s_isSetI k ?_
      rw [h1, m1, h20]
      rw [c1, m1, h20] at stay
      exact ⟨fun _ => ⟨fun z => absurd rfl z, fun _ => eqk _ stay⟩, fun z => absurd z (by decide)⟩
end OPS2
