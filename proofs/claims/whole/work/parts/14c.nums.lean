section NUMS
def pNum (b : Nat → Nat) (n lo hi p : Nat) : Except Nat (Nat × Nat) := if tK b n (tS b n p) = 2 ∧ tE b n (tS b n p) - tS b n p ≤ 2 ∧ lo ≤ v10 b (tS b n p) (tE b n (tS b n p) - tS b n p) ∧ v10 b (tS b n p) (tE b n (tS b n p) - tS b n p) ≤ hi then .ok (v10 b (tS b n p) (tE b n (tS b n p) - tS b n p), tE b n (tS b n p)) else .error (tS b n p)
theorem pNum_eq {b : Nat → Nat} {n lo hi p S E : Nat} (hS : tS b n p = S) (hE : tE b n S = E) : pNum b n lo hi p = if tK b n S = 2 ∧ E - S ≤ 2 ∧ lo ≤ v10 b S (E - S) ∧ v10 b S (E - S) ≤ hi then .ok (v10 b S (E - S), E) else .error S := by
  subst hS
  subst hE
  rfl
theorem s_cnum {T : List Nat} {len : Int32} {arr : Nat → Int32} {lo hi p : Nat} {loI hiI : Int32} {Q : Int32 → Int32 × Int32 × Int32 → Prop} (hR : RT T len arr) (hp : p ≤ T.length) (hlo : lo < 200) (hhi : hi < 200) (hloI : loI = nI lo) (hhiI : hiI = nI hi) (hEr : ∀ S e k, pNum (bT T) T.length lo hi p = .error S → Q (-1) (nI S, e, k)) (hOk : ∀ v E s k, pNum (bT T) T.length lo hi p = .ok (v, E) → lo ≤ v → v ≤ hi → E ≤ T.length → Q (nI v) (s, nI E, k)) : wp_X6_readNumber loI hiI (nI p) len arr Q := by
  obtain ⟨rfl, h200, hA⟩ := id hR
  subst hloI
  subst hhiI
  unfold wp_X6_readNumber
  obtain ⟨S, hS⟩ : ∃ S, tS (bT T) T.length p = S := ⟨_, rfl⟩
  obtain ⟨E, hE⟩ : ∃ E, tE (bT T) T.length S = E := ⟨_, rfl⟩
  have hSl := tS_le (b := bT T) hp
  rw [hS] at hSl
  have hEl := tE_le (b := bT T) hSl.2
  rw [hE] at hEl
  have hpn := pNum_eq (lo := lo) (hi := hi) hS hE
  refine s_ctok hR hp hS ?_
  rw [hE]
  have hk4 : tK (bT T) T.length S ≤ 3 := by
    unfold tK
    split
    · omega
    · exact (kd_le _).2
  refine ⟨fun z => ?_, fun z => ?_⟩
  · rw [if_neg (fun y => z (by rw [y.1]; rfl))] at hpn
    exact hEr _ _ _ hpn
  · have hk : tK (bT T) T.length S = 2 := z_inj (b := 2) (by omega) (by decide) z
    obtain ⟨hlt, hall, _⟩ := tk_num hk
    rw [hE] at hall
    show (nI E - nI S ≤ 2 → lp_X6_readNumber_35 Q (nI lo) (nI hi) (nI S) (nI E) (nI (tK (bT T) T.length S)) arr 0 (nI S)) ∧ (¬ nI E - nI S ≤ 2 → Q (-1) (nI S, nI E, nI (tK (bT T) T.length S)))
    rw [z_sub hEl.1]
    refine pk_le (E - S) 2 (fun q => ?_) (fun q => ?_) rfl rfl
    · unfold lp_X6_readNumber_35
      refine ⟨fun m x3 x4 => ∃ j, S ≤ j ∧ j ≤ E ∧ m = E - j ∧ x3 = nI (v10 (bT T) S (j - S)) ∧ x4 = nI j, ⟨E - S, S, Nat.le_refl S, hEl.1, rfl, by rw [Nat.sub_self]; rfl, rfl⟩, ?_⟩
      rintro m x3 x4 ⟨j, hj1, hj2, rfl, rfl, rfl⟩
      unfold bd_X6_readNumber_35 bk_X6_readNumber_79
      refine pk_le E j (fun q2 => ?_) (fun q2 => ?_) rfl rfl
      · have ej : j = E := by omega
        subst ej
        have hv := v10_lt (b := bT T) (s := S) (l := j - S) (fun t ht => (hall (S + t) (by omega) (by omega)).2) q
        refine pk_lt _ lo (fun q3 => ?_) (fun q3 => pk_le _ hi (fun q4 => ?_) (fun q4 => ?_) rfl rfl) rfl rfl
        · rw [if_neg (by omega)] at hpn
          exact hEr _ _ _ hpn
        · rw [if_pos ⟨hk, q, q3, q4⟩] at hpn
          exact hOk _ _ _ _ hpn q3 q4 hEl.2
        · rw [if_neg (by omega)] at hpn
          exact hEr _ _ _ hpn
      · have hc := bT_at hR (show j < T.length by omega)
        have hd := hall j hj1 (by omega)
        refine ⟨pk_in j 200 (by omega), fun y7 e7 y8 e8 => ⟨E - (j + 1), by omega, j + 1, by omega, by omega, rfl, ?_, by rw [e8, nI_1]⟩⟩
        rw [e7, z_cl (by omega), hc.1, show j + 1 - S = (j - S) + 1 by omega, v10, show S + (j - S) = j by omega]
        have e1 : nI (v10 (bT T) S (j - S)) * 10 = nI (v10 (bT T) S (j - S) * 10) := z_mul _ 10
        rw [e1, nI_add]
        have e2 : nI (v10 (bT T) S (j - S) * 10 + bT T j) - 48 = nI (v10 (bT T) S (j - S) * 10 + bT T j - 48) := z_sub (b := 48) (by omega)
        rw [e2]
        congr 1
        omega
    · rw [if_neg (by omega)] at hpn
      exact hEr _ _ _ hpn
theorem s_mnum {T : List Nat} {len fa : Int32} {arr rd : Nat → Int32} {lo hi p w : Nat} {wI loI hiI : Int32} {Q : Int32 → (Int32 × Int32 × Int64 × Int32 × Int32 × Int32 × (Nat → Int32)) → Prop} (hR : RT T len arr) (hp : p ≤ T.length) (hlo : lo < 200) (hhi : hi < 200) (hloI : loI = nI lo) (hhiI : hiI = nI hi) (hwI : wI = nI w) (hw : w < 40) (hEr : ∀ S a c d e f, pNum (bT T) T.length lo hi p = .error S → Q 0 (a, c, d, e, f, nI S, rd)) (hOk : ∀ v E c d e f, pNum (bT T) T.length lo hi p = .ok (v, E) → lo ≤ v → v ≤ hi → E ≤ T.length → Q 1 (nI E, c, d, e, f, fa, upd rd w (nI v))) : wp_X11_isNumber wI loI hiI len (nI p) fa arr rd Q := by
  obtain ⟨rfl, h200, hA⟩ := id hR
  subst hloI
  subst hhiI
  subst hwI
  unfold wp_X11_isNumber
  obtain ⟨S, hS⟩ : ∃ S, tS (bT T) T.length p = S := ⟨_, rfl⟩
  obtain ⟨E, hE⟩ : ∃ E, tE (bT T) T.length S = E := ⟨_, rfl⟩
  have hSl := tS_le (b := bT T) hp
  rw [hS] at hSl
  have hEl := tE_le (b := bT T) hSl.2
  rw [hE] at hEl
  have hpn := pNum_eq (lo := lo) (hi := hi) hS hE
  have htv := tV_num (b := bT T) (n := T.length) (s := S)
  refine s_mtok hR hp hS (fun dg nu hnu => ?_)
  rw [hE] at hnu htv ⊢
  have h27 : ∀ (tk : Int64), (¬ (tK (bT T) T.length S = 2 ∧ E - S ≤ 2 ∧ lo ≤ v10 (bT T) S (E - S) ∧ v10 (bT T) S (E - S) ≤ hi)) → bk_X11_isNumber_27 Q (nI E) (nI S) tk dg nu rd := by
    intro tk hn
    rw [if_neg hn] at hpn
    unfold bk_X11_isNumber_27 wp_X11_fails
    exact ⟨Or.inl rfl, hEr _ _ _ _ _ _ hpn⟩
  refine ⟨fun z => h27 _ (fun y => z (htv.mpr ⟨y.1, y.2.1⟩)), fun z => ?_⟩
  obtain ⟨hk, hq⟩ := htv.mp z
  obtain ⟨hlt, hall, _⟩ := tk_num hk
  rw [hE] at hall
  have hv := v10_lt (b := bT T) (s := S) (l := E - S) (fun t ht => (hall (S + t) (by omega) (by omega)).2) hq
  have hnu' := hnu hk hq
  refine s_in ?_
  show (¬ inI nu (nI lo) (nI hi) = 0 → _) ∧ (inI nu (nI lo) (nI hi) = 0 → _)
  rw [hnu', inI_nat (by omega) (by omega) (by omega)]
  by_cases hb : lo ≤ v10 (bT T) S (E - S) ∧ v10 (bT T) S (E - S) ≤ hi
  · rw [if_pos hb]
    rw [if_pos ⟨hk, hq, hb⟩] at hpn
    refine ⟨fun _ => ⟨pk_in w 40 hw, fun f7 e7 => ?_⟩, fun z => absurd z (by decide)⟩
    rw [z_cl (by omega)] at e7
    subst hnu'
    subst e7
    exact hOk _ _ _ _ _ _ hpn hb.1 hb.2 hEl.2
  · rw [if_neg hb, ← hnu']
    exact ⟨fun z => absurd rfl z, fun _ => h27 _ (fun y => hb y.2.2)⟩
def bE {α β : Type} (x : Except Nat α) (f : α → Except Nat β) : Except Nat β := match x with
  | .error e => .error e
  | .ok a => f a
theorem bE_er {α β : Type} {x : Except Nat α} {f : α → Except Nat β} {S : Nat} (h : x = .error S) : bE x f = .error S := by rw [h]; rfl
theorem bE_ok {α β : Type} {x : Except Nat α} {f : α → Except Nat β} {a : α} (h : x = .ok a) : bE x f = f a := by rw [h]; rfl
def pPlace (b : Nat → Nat) (n w h p : Nat) : Except Nat (Nat × Nat × Nat) := bE (pNum b n 0 (w - 1) p) fun x => bE (pNum b n 0 (h - 1) x.2) fun y => .ok (x.1, y.1, y.2)
def pSize (b : Nat → Nat) (n p : Nat) : Except Nat (Nat × Nat × Nat) := bE (pNum b n 1 10 p) fun x => bE (pNum b n 1 (10 / x.1) x.2) fun y => .ok (x.1, y.1, y.2)
def pDir (b : Nat → Nat) (n p : Nat) : Except Nat (Nat × Nat) := if fndN (tV b n (tS b n p)) 11 4 0 < 4 then .ok (fndN (tV b n (tS b n p)) 11 4 0, tE b n (tS b n p)) else .error (tS b n p)
theorem s_keep {ln : Nat} {v : Int32} {arr : Nat → Int32} {Q : Int32 → ((Nat → Int32)) → Prop} (hl : ln < 10) (hQ : Q (if v = -1 then 0 else 1) (upd arr ln v)) : wp_X6_keep 10 (nI ln) v arr Q := by
  unfold wp_X6_keep bk_X6_keep_14
  refine ⟨fun z => absurd z (nI_nlt (b := 0) (by omega) (by omega)), fun _ => pk_le 10 ln (fun q => by omega) (fun _ => ⟨pk_in ln 10 hl, fun f4 e4 => ?_⟩) rfl rfl⟩
  rw [z_cl (by omega)] at e4
  subst e4
  refine ⟨fun z => ?_, fun z => ?_⟩
  · rw [if_pos z] at hQ
    exact hQ
  · rw [if_neg z] at hQ
    exact hQ
theorem z_minus1 {w : Nat} (h : 0 < w) : nI w - 1 = nI (w - 1) := z_sub (a := w) (b := 1) h
theorem s_cplace {T : List Nat} {len : Int32} {arr fi se : Nat → Int32} {w h p ln : Nat} {Q : Int32 → (Int32 × Int32 × Int32 × (Nat → Int32) × (Nat → Int32)) → Prop} (hR : RT T len arr) (hp : p ≤ T.length) (hw : 0 < w) (hw2 : w < 11) (hh : 0 < h) (hh2 : h < 11) (hl : ln < 10) (hEr : ∀ S a c d e, pPlace (bT T) T.length w h p = .error S → Q 0 (nI S, a, c, d, e)) (hOk : ∀ f s E a c, pPlace (bT T) T.length w h p = .ok (f, s, E) → f < w → s < h → E ≤ T.length → Q 1 (a, nI E, c, upd fi ln (nI f), upd se ln (nI s))) : wp_X6_readPlace (nI ln) (nI w) (nI h) (nI p) fi se len arr Q := by
  unfold wp_X6_readPlace
  unfold pPlace at hEr hOk
  refine s_cnum hR hp (by decide) (show w - 1 < 200 by omega) rfl (z_minus1 hw) (fun S e k er => ?_) (fun v E s k ok h1 h2 hE => ?_)
  · refine s_keep hl ?_
    rw [if_pos rfl]
    exact ⟨fun _ => hEr _ _ _ _ _ (bE_er er), fun z => absurd rfl z⟩
  · refine s_keep hl ?_
    rw [if_neg (z_m1 (by omega))]
    refine ⟨fun z => absurd z (by decide), fun _ => ?_⟩
    rw [bE_ok ok] at hEr hOk
    refine s_cnum hR hE (by decide) (show h - 1 < 200 by omega) rfl (z_minus1 hh) (fun S e k er => ?_) (fun v2 E2 s2 k2 ok2 h3 h4 hE2 => ?_)
    · refine s_keep hl ?_
      rw [if_pos rfl]
      exact ⟨fun _ => hEr _ _ _ _ _ (bE_er er), fun z => absurd rfl z⟩
    · refine s_keep hl ?_
      rw [if_neg (z_m1 (by omega))]
      exact ⟨fun z => absurd z (by decide), fun _ => hOk v v2 E2 _ _ (bE_ok ok2) (by omega) (by omega) hE2⟩
theorem s_mplace {T : List Nat} {len fa : Int32} {arr rd : Nat → Int32} {w h p q : Nat} {Q : Int32 → (Int32 × Int32 × Int64 × Int32 × Int32 × Int32 × (Nat → Int32)) → Prop} (hR : RT T len arr) (hp : p ≤ T.length) (hw : 0 < w) (hw2 : w < 11) (hh : 0 < h) (hh2 : h < 11) (hq : q + 3 < 40) (hEr : ∀ S a c d e f r, pPlace (bT T) T.length w h p = .error S → Q 0 (a, c, d, e, f, nI S, r)) (hOk : ∀ x y E c d e f, pPlace (bT T) T.length w h p = .ok (x, y, E) → x < w → y < h → E ≤ T.length → Q 1 (nI E, c, d, e, f, fa, upd (upd rd (q + 1) (nI x)) (q + 2) (nI y))) : wp_X11_isPlace (nI q) len (nI p) fa (nI w) (nI h) arr rd Q := by
  unfold wp_X11_isPlace
  unfold pPlace at hEr hOk
  refine s_mnum hR hp (by decide) (show w - 1 < 200 by omega) rfl (z_minus1 hw) (nI_1 q) (by omega) (fun S a c d e f er => ?_) (fun v E c d e f ok h1 h2 hE => ?_)
  · exact ⟨fun _ => hEr _ _ _ _ _ _ _ (bE_er er), fun z => absurd rfl z⟩
  · refine ⟨fun z => absurd z (by decide), fun _ => ?_⟩
    rw [bE_ok ok] at hEr hOk
    refine s_mnum hR hE (by decide) (show h - 1 < 200 by omega) rfl (z_minus1 hh) (nI_add q 2) (by omega) (fun S a c d e f er => ?_) (fun v2 E2 c d e f ok2 h3 h4 hE2 => ?_)
    · exact ⟨fun _ => hEr _ _ _ _ _ _ _ (bE_er er), fun z => absurd rfl z⟩
    · exact ⟨fun z => absurd z (by decide), fun _ => hOk v v2 E2 _ _ _ _ (bE_ok ok2) (by omega) (by omega) hE2⟩
theorem ok_size {x y : Nat} (h1 : 1 ≤ x) (h2 : x ≤ 10) (h3 : 1 ≤ y) (h4 : y ≤ 10 / x) : okS x y := by
  refine ⟨h1, h3, ?_⟩
  have : x * y ≤ x * (10 / x) := Nat.mul_le_mul_left x h4
  have h5 : x * (10 / x) ≤ 10 := Nat.mul_div_le 10 x
  omega
theorem s_csize {T : List Nat} {len cI rI : Int32} {arr fi se : Nat → Int32} {p ln : Nat} {Q : Int32 → (Int32 × Int32 × Int32 × Int32 × Int32 × (Nat → Int32) × (Nat → Int32)) → Prop} (hR : RT T len arr) (hp : p ≤ T.length) (hl : ln < 10) (hEr : ∀ S a c d e f g, pSize (bT T) T.length p = .error S → Q 0 (a, c, nI S, d, e, f, g)) (hOk : ∀ x y E a c, pSize (bT T) T.length p = .ok (x, y, E) → okS x y → E ≤ T.length → Q 1 (nI x, nI y, a, nI E, c, upd fi ln (nI x), upd se ln (nI y))) : wp_X6_readSize (nI ln) cI rI (nI p) fi se len arr Q := by
  unfold wp_X6_readSize
  unfold pSize at hEr hOk
  refine s_cnum hR hp (lo := 1) (hi := 10) (by decide) (by decide) rfl rfl (fun S e k er => ?_) (fun v E s k ok h1 h2 hE => ?_)
  · exact ⟨fun z => absurd z (by decide), fun _ => hEr _ _ _ _ _ _ _ (bE_er er)⟩
  · rw [bE_ok ok] at hEr hOk
    refine ⟨fun _ => ⟨nI_ne0 (by omega) (by omega), ?_⟩, fun z => absurd (nI_le (a := 1) h1 (by omega)) z⟩
    have hd : 10 / v ≤ 10 := Nat.div_le_self 10 v
    refine s_cnum hR hE (lo := 1) (hi := 10 / v) (by decide) (by omega) rfl (pk_div (a := 10) (by decide) (by omega) (by omega)) (fun S e k er => ?_) (fun v2 E2 s2 k2 ok2 h3 h4 hE2 => ?_)
    · exact ⟨fun z => absurd z (by decide), fun _ => hEr _ _ _ _ _ _ _ (bE_er er)⟩
    · refine ⟨fun _ => s_keep hl ?_, fun z => absurd (nI_le (a := 1) h3 (by omega)) z⟩
      rw [if_neg (z_m1 (by omega))]
      refine ⟨fun z => absurd z (by decide), fun _ => s_keep hl ?_⟩
      rw [if_neg (z_m1 (by omega))]
      exact ⟨fun z => absurd z (by decide), fun _ => hOk v v2 E2 _ _ (bE_ok ok2) (ok_size h1 h2 h3 h4) hE2⟩
theorem s_msize {T : List Nat} {len fa cI rI : Int32} {arr rd : Nat → Int32} {p q : Nat} {Q : Int32 → (Int32 × Int32 × Int64 × Int32 × Int32 × Int32 × Int32 × Int32 × (Nat → Int32)) → Prop} (hR : RT T len arr) (hp : p ≤ T.length) (hq : q + 3 < 40) (hEr : ∀ S a c d e f g i r, pSize (bT T) T.length p = .error S → Q 0 (a, c, d, e, f, nI S, g, i, r)) (hOk : ∀ x y E c d e f, pSize (bT T) T.length p = .ok (x, y, E) → okS x y → E ≤ T.length → Q 1 (nI E, c, d, e, f, fa, nI x, nI y, upd (upd rd (q + 1) (nI x)) (q + 2) (nI y))) : wp_X11_isField (nI q) len (nI p) fa cI rI arr rd Q := by
  unfold wp_X11_isField
  unfold pSize at hEr hOk
  have e1 : nI q + 1 = nI (q + 1) := nI_1 q
  have e2 : nI q + 2 = nI (q + 2) := nI_add q 2
  rw [e1, e2, z_cl (show q + 1 < 2 ^ 31 by omega), z_cl (show q + 2 < 2 ^ 31 by omega)]
  refine s_mnum hR hp (lo := 1) (hi := 10) (by decide) (by decide) rfl rfl rfl (show q + 1 < 40 by omega) (fun S a c d e f er => ?_) (fun v E c d e f ok h1 h2 hE => ?_)
  · exact ⟨fun _ => hEr _ _ _ _ _ _ _ _ _ (bE_er er), fun z => absurd rfl z⟩
  · rw [bE_ok ok] at hEr hOk
    refine ⟨fun z => absurd z (by decide), fun _ => ⟨pk_in (q + 1) 40 (by omega), ?_⟩⟩
    show ¬ upd rd (q + 1) (nI v) (q + 1) = 0 ∧ _
    rw [z_upd_eq]
    refine ⟨nI_ne0 (by omega) (by omega), ?_⟩
    have hd : 10 / v ≤ 10 := Nat.div_le_self 10 v
    have hdi : (10 : Int32) / upd rd (q + 1) (nI v) (q + 1) = nI (10 / v) := by
      rw [z_upd_eq]
      exact pk_div (a := 10) (by decide) (by omega) (by omega)
    refine s_mnum hR hE (lo := 1) (hi := 10 / v) (by decide) (by omega) rfl hdi rfl (show q + 2 < 40 by omega) (fun S a c d e f er => ?_) (fun v2 E2 c d e f ok2 h3 h4 hE2 => ?_)
    · exact ⟨fun z => absurd rfl z, fun _ => hEr _ _ _ _ _ _ _ _ _ (bE_er er)⟩
    · refine ⟨fun _ => ⟨pk_in (q + 1) 40 (by omega), fun y7 e7 => ⟨pk_in (q + 2) 40 (by omega), fun y8 e8 => ?_⟩⟩, fun z => absurd z (by decide)⟩
      have e9 : y7 = nI v := by rw [e7]; show upd (upd rd (q + 1) (nI v)) (q + 2) (nI v2) (q + 1) = nI v; rw [z_upd_ne _ _ (by omega), z_upd_eq]
      have e10 : y8 = nI v2 := by rw [e8]; show upd (upd rd (q + 1) (nI v)) (q + 2) (nI v2) (q + 2) = nI v2; rw [z_upd_eq]
      rw [e9, e10]
      exact hOk v v2 E2 _ _ _ _ (bE_ok ok2) (ok_size h1 h2 h3 h4) hE2
theorem s_mhedge {T : List Nat} {len fa : Int32} {arr rd : Nat → Int32} {w h p q : Nat} {Q : Int32 → (Int32 × Int32 × Int64 × Int32 × Int32 × Int32 × (Nat → Int32)) → Prop} (hR : RT T len arr) (hp : p ≤ T.length) (hw : 0 < w) (hw2 : w < 11) (hh : 0 < h) (hh2 : h < 11) (hq : q + 3 < 40) (hEr : ∀ S a c d e f r, bE (pPlace (bT T) T.length w h p) (fun x => bE (pDir (bT T) T.length x.2.2) fun y => .ok ((x.1, x.2.1, y.1), y.2)) = .error S → Q 0 (a, c, d, e, f, nI S, r)) (hOk : ∀ x y t E c d e f, bE (pPlace (bT T) T.length w h p) (fun x => bE (pDir (bT T) T.length x.2.2) fun y => .ok ((x.1, x.2.1, y.1), y.2)) = .ok ((x, y, t), E) → x < w → y < h → t < 4 → E ≤ T.length → Q 1 (nI E, c, d, e, f, fa, upd (upd (upd rd (q + 1) (nI x)) (q + 2) (nI y)) (q + 3) (nI t))) : wp_X11_isHedge (nI q) len (nI p) fa (nI w) (nI h) arr rd Q := by
  unfold wp_X11_isHedge
  refine s_mplace hR hp hw hw2 hh hh2 hq (fun S a c d e f r er => ?_) (fun x y E c d e f ok hx hy hE => ?_)
  · exact ⟨fun z => absurd rfl z, fun _ => hEr _ _ _ _ _ _ _ (bE_er er)⟩
  · rw [bE_ok ok] at hEr hOk
    refine ⟨fun _ => ?_, fun z => absurd z (by decide)⟩
    obtain ⟨S, hS⟩ : ∃ S, tS (bT T) T.length E = S := ⟨_, rfl⟩
    have hSl := tS_le (b := bT T) hE
    rw [hS] at hSl
    have hEl := tE_le (b := bT T) hSl.2
    have e3 : nI q + 3 = nI (q + 3) := nI_add q 3
    rw [e3]
    have hF := fndN_le (tV (bT T) T.length S) 11 4 0
    have h82 : ∀ (F : Nat) (s0 : Int32) (tk : Int64) (dg nu : Int32), fndN (tV (bT T) T.length S) 11 4 0 = F → s0 = resN 4 F → bk_X11_isHedge_82 Q (nI q) (nI (tE (bT T) T.length S)) (nI S) tk dg nu fa (upd (upd rd (q + 1) (nI x)) (q + 2) (nI y)) s0 (nI (q + 3)) := by
      intro F s0 tk dg nu hFe hs0
      unfold bk_X11_isHedge_82 bk_X11_isHedge_102 wp_X11_fails
      refine ⟨pk_in (q + 3) 40 (by omega), fun f9 e9 => ?_⟩
      rw [e3]
      refine ⟨pk_in (q + 3) 40 (by omega), ?_⟩
      rw [z_cl (by omega)] at e9 ⊢
      subst e9
      rw [z_upd_eq, hs0]
      have hpd : pDir (bT T) T.length E = if F < 4 then .ok (F, tE (bT T) T.length S) else .error S := by
        unfold pDir
        rw [hS, hFe]
      by_cases hF4 : F < 4
      · rw [if_pos hF4] at hpd
        rw [resN, if_pos hF4]
        exact ⟨fun _ => hOk _ _ _ _ _ _ _ _ (bE_ok hpd) hx hy hF4 hEl.2, fun z => absurd z (z_m1 (by omega))⟩
      · rw [if_neg hF4] at hpd
        rw [resN, if_neg hF4]
        exact ⟨fun z => absurd rfl z, fun _ => ⟨fun _ => hEr _ _ _ _ _ _ _ (bE_er hpd), fun z => absurd rfl z⟩⟩
    refine s_mtok hR hE hS (fun dg nu hnu => ?_)
    show (¬ tV (bT T) T.length S = lN (wA 11) → ((¬ tV (bT T) T.length S = lN (wA 12) → ((¬ tV (bT T) T.length S = lN (wA 13) → ((¬ tV (bT T) T.length S = lN (wA 14) → _) ∧ (tV (bT T) T.length S = lN (wA 14) → _))) ∧ (tV (bT T) T.length S = lN (wA 13) → _))) ∧ (tV (bT T) T.length S = lN (wA 12) → _))) ∧ (tV (bT T) T.length S = lN (wA 11) → _)
    refine ⟨fun z1 => ⟨fun z2 => ⟨fun z3 => ⟨fun z4 => h82 4 _ _ _ _ ?_ rfl, fun z4 => h82 3 _ _ _ _ ?_ rfl⟩, fun z3 => h82 2 _ _ _ _ ?_ rfl⟩, fun z2 => h82 1 _ _ _ _ ?_ rfl⟩, fun z1 => h82 0 _ _ _ _ ?_ rfl⟩
    · rw [fndN, if_neg z1, fndN, if_neg z2, fndN, if_neg z3, fndN, if_neg z4, fndN]
    · rw [fndN, if_neg z1, fndN, if_neg z2, fndN, if_neg z3, fndN, if_pos z4]
    · rw [fndN, if_neg z1, fndN, if_neg z2, fndN, if_pos z3]
    · rw [fndN, if_neg z1, fndN, if_pos z2]
    · rw [fndN, if_pos z1]
end NUMS
