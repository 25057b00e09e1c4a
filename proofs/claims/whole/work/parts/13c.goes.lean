section GOES
variable {w h : Nat}
theorem z_andnL (a b : Nat) : lN a &&& (lN b ^^^ (-1)) = lN (andn a b) := by
  apply Int64.toBitVec_inj.1
  show BitVec.ofNat 64 a &&& (BitVec.ofNat 64 b ^^^ (-1 : Int64).toBitVec) = BitVec.ofNat 64 (andn a b)
  apply BitVec.eq_of_getLsbD_eq
  intro i hi
  have h1 : (-1 : Int64).toBitVec.getLsbD i = true := by
    have : ∀ j : Fin 64, (-1 : Int64).toBitVec.getLsbD j.val = true := by decide +kernel
    exact this ⟨i, hi⟩
  rw [BitVec.getLsbD_and, BitVec.getLsbD_xor, h1, BitVec.getLsbD_ofNat, BitVec.getLsbD_ofNat, BitVec.getLsbD_ofNat, andn_bit]
  simp [hi]
def prt (l : List Nat) : Nat → Nat → Nat → Nat
  | 0, _, s => s
  | d + 1, i, s => prt l d (i + 1) (s ||| 2 ^ l.getD i 0)
theorem prt_lt {l : List Nat} {n : Nat} : ∀ (d i s : Nat), (∀ j, j < i + d → l.getD j 0 < n) → s < 2 ^ n → prt l d i s < 2 ^ n
  | 0, _, _, _, hs => hs
  | d + 1, i, s, hl, hs => by
    rw [prt]
    exact prt_lt d (i + 1) _ (fun j hj => hl j (by omega)) (Nat.or_lt_two_pow hs (Nat.pow_lt_pow_right (by decide) (hl i (by omega))))
theorem s_part {l : List Nat} {a b : Nat} {arr : Nat → Int32} {Q : Int32 → Prop} (hab : a ≤ b) (hb : b ≤ l.length) (hl : l.length ≤ 10) (he : ∀ j, j < l.length → l.getD j 0 < 31) (hk : LA 1024 l arr) (hQ : Q (nI (prt l (b - a) a 0))) : wp_X9_part (nI a) (nI b) arr Q := by
  unfold wp_X9_part lp_X9_part_5
  refine ⟨fun m x3 x4 => ∃ i s, i ≤ b ∧ m = b - i ∧ x3 = nI s ∧ x4 = nI i ∧ prt l (b - i) i s = prt l (b - a) a 0, ⟨b - a, a, 0, hab, rfl, rfl, rfl, rfl⟩, ?_⟩
  rintro m x3 x4 ⟨i, s, hi, rfl, rfl, rfl, hL⟩
  unfold bd_X9_part_5
  refine pk_le b i (fun q => ?_) (fun q => ?_) rfl rfl
  · rw [show b - i = 0 by omega, prt] at hL
    rw [hL]
    exact hQ
  · rw [show b - i = (b - (i + 1)) + 1 by omega, prt] at hL
    refine ⟨pk_in i 10 (by omega), fun y2 e2 y3 e3 => ⟨b - (i + 1), by omega, i + 1, s ||| 2 ^ l.getD i 0, by omega, rfl, ?_, ?_, hL⟩⟩
    · rw [e2, z_cl (by omega), (hk i (by omega)).1, z_shl1 _ (he i (by omega)), z_or]
    · rw [e3, nI_1]
def nda (w h bar U a : Nat) : Nat := if isFd w h bar a then nds w h U a else 0
def gsF (w h bar U : Nat) (l : List Nat) (k : Nat) : Nat → Nat → Nat → Nat → Nat → Option (Nat × Nat)
  | 0, _, _, m, li => some (m, li)
  | d + 1, fr, a, m, li => if l.length ≤ fr then some (m, li) else
    if isFd w h bar (prt l (min (fr + k) l.length - fr) fr 0) then gsF w h bar U l k d (fr + k) (prt l (min (fr + k) l.length - fr) fr 0) (max m (pc (nds w h U (prt l (min (fr + k) l.length - fr) fr 0)))) (li + pc (andn (nds w h U (prt l (min (fr + k) l.length - fr) fr 0)) (nda w h bar U a))) else none
def gN (o : Option (Nat × Nat)) : Int32 := match o with
  | none => -1
  | some x => nI x.1
def gL (o : Option (Nat × Nat)) : Int32 := match o with
  | none => -1
  | some x => nI x.2
theorem nda_lt {bar U a : Nat} (k : okS w h) (ha : a < 2 ^ (w * h)) : nda w h bar U a < 2 ^ 31 := by
  unfold nda
  split
  · exact nds_lt k U ha
  · decide
theorem z_k1 : ∀ k, k < 11 → 1 ≤ k → (if (1 : Int32) < nI k then nI k else 1) = nI k := by decide +kernel
theorem z_min {a b : Nat} (ha : a < 2 ^ 31) (hb : b < 2 ^ 31) : (if nI a < nI b then nI a else nI b) = nI (min a b) := by
  by_cases q : a < b
  · rw [if_pos (nI_lt q hb), Nat.min_eq_left (by omega)]
  · rw [if_neg (nI_nlt (by omega) ha), Nat.min_eq_right (by omega)]
theorem z_max {a b : Nat} (ha : a < 2 ^ 31) (hb : b < 2 ^ 31) : (if nI a < nI b then nI b else nI a) = nI (max a b) := by
  by_cases q : a < b
  · rw [if_pos (nI_lt q hb), Nat.max_eq_right (by omega)]
  · rw [if_neg (nI_nlt (by omega) ha), Nat.max_eq_left (by omega)]
theorem gs_exit {bar U : Nat} {l : List Nat} {k d fr a m li : Nat} (q : l.length ≤ fr) : gsF w h bar U l k d fr a m li = some (m, li) := by
  cases d with
  | zero => rfl
  | succ d => rw [gsF, if_pos q]
theorem s_measure {H kk : Nat} {sq : Nat → Nat} {l : List Nat} {al wa mo len : Int32} {fn fs fy fb arr : Nat → Int32} {Q : Int32 × Int32 → Prop} (k : okS w h) (hT : TabOK w h H sq false al wa mo fn fs fy fb) (h1 : 1 ≤ kk) (h10 : kk ≤ 10) (hl : l.length = w * h) (he : ∀ j, j < w * h → l.getD j 0 < w * h) (hk : KO l len arr) (hQ : ∀ o, gsF w h (mk (pBar sq) (w * h)) (H ||| pe w h sq (w * h)) l kk 11 0 0 0 0 = o → Q (gN o, gL o)) : wp_X9_measure (nI kk) len arr fn fs Q := by
  have hn := n10 k
  have hp := pow10 k
  obtain ⟨rfl, _, hA⟩ := hk
  obtain ⟨o, ho⟩ : ∃ o, gsF w h (mk (pBar sq) (w * h)) (H ||| pe w h sq (w * h)) l kk 11 0 0 0 0 = o := ⟨_, rfl⟩
  replace hQ := hQ o ho
  unfold wp_X9_measure lp_X9_measure_15
  refine ⟨fun M kn kl x3 x4 => ∃ d fr a m li, M = d ∧ l.length < fr + d ∧ fr ≤ 20 ∧ a < 2 ^ (w * h) ∧ m ≤ 31 ∧ kn = nI m ∧ kl = nI li ∧ x3 = nI a ∧ x4 = nI fr ∧ gsF w h (mk (pBar sq) (w * h)) (H ||| pe w h sq (w * h)) l kk d fr a m li = o, ⟨11, 11, 0, 0, 0, 0, rfl, by omega, by omega, Nat.two_pow_pos _, by omega, rfl, rfl, rfl, rfl, ho⟩, ?_⟩
  rintro M kn kl x3 x4 ⟨d, fr, a, m, li, rfl, hd, hfr, ha, hm, rfl, rfl, rfl, rfl, hg⟩
  unfold bd_X9_measure_15
  refine pk_le l.length fr (fun q => ?_) (fun q => ?_) rfl rfl
  · rw [gs_exit q] at hg
    subst hg
    exact hQ
  · obtain ⟨d, rfl⟩ : ∃ d', M = d' + 1 := ⟨M - 1, by omega⟩
    rw [gsF, if_neg (by omega)] at hg
    rw [nI_add, z_min (by omega) (by omega), z_k1 kk (by omega) h1, nI_add]
    have hmi : min (fr + kk) l.length ≤ l.length := Nat.min_le_right _ _
    have hmf : fr ≤ min (fr + kk) l.length := Nat.le_min.mpr ⟨by omega, by omega⟩
    have hset := prt_lt (l := l) (n := w * h) (min (fr + kk) l.length - fr) fr 0 (fun j hj => he j (by omega)) (Nat.two_pow_pos _)
    refine s_part hmf hmi (by omega) (fun j hj => by have := he j (by omega); omega) hA ?_
    obtain ⟨S, hS⟩ : ∃ S, prt l (min (fr + kk) l.length - fr) fr 0 = S := ⟨_, rfl⟩
    rw [hS] at hg hset ⊢
    obtain ⟨t1, t2, _, _⟩ := tab_f hT hset
    obtain ⟨u1, _, _, _⟩ := tab_f hT ha
    have hi := pk_in S 1024 (by omega)
    unfold wp_X3_isFold wp_X3_liftedTo
    rw [z_cl (show S < 2 ^ 31 by omega), z_cl (show a < 2 ^ 31 by omega), t1, t2, u1]
    by_cases hf : isFd w h (mk (pBar sq) (w * h)) S = true
    · rw [if_pos hf] at hg
      rw [if_pos hf, if_pos hf]
      have hpc := pc_le (nds_lt k (H ||| pe w h sq (w * h)) hset)
      refine ⟨hi, fun z => absurd z (z_m1 (by omega)), fun _ => ⟨fun _ => ⟨hi, fun y5 e5 => ⟨hi, pk_in a 1024 (by omega), ?_⟩⟩, fun z => absurd z (by decide)⟩⟩
      rw [z_andn]
      refine s_bitCount (Nat.lt_of_le_of_lt (andn_le _ _) (nds_lt k _ hset)) (fun y7 e7 y8 e8 => ?_)
      rw [z_max (by omega) (by omega)] at e5
      refine ⟨d, by omega, d, fr + kk, S, _, _, rfl, by omega, by omega, hset, ?_, e5, ?_, rfl, e8, hg⟩
      · exact Nat.max_le.mpr ⟨hm, hpc⟩
      · rw [e7, nI_add]
        rfl
    · rw [if_neg hf] at hg
      rw [if_neg hf, if_neg hf]
      subst hg
      exact ⟨hi, fun _ => ⟨fun z => absurd rfl z, fun _ => hQ⟩, fun z => absurd rfl z⟩
def gA (o : Option (Nat × Nat)) (p : Int32) : Int32 := if p = 0 then gN o else gL o
theorem s_m103 {H kk fr a S m li : Nat} {sq : Nat → Nat} {o : Option (Nat × Nat)} {p3 : Int32} {gk pa : Nat → Int32} {Q : Int32 → ((Nat → Int32)) → Prop} {B49 : Int32 → Int32 → Int64 → Int32 → Prop} (k : okS w h) (hgk : ∀ s, s < w * h → gk s = nI (sq s) ∧ sq s ≤ 11) (hm : m ≤ 31) (hS : S < 2 ^ (w * h)) (ha : a < 2 ^ (w * h)) (hno : isFd w h (mk (pBar sq) (w * h)) S = false → Q (-1) pa) (hB : isFd w h (mk (pBar sq) (w * h)) S = true → B49 (nI (max m (pc (nds w h (H ||| pe w h sq (w * h)) S)))) (nI (li + pc (andn (nds w h (H ||| pe w h sq (w * h)) S) (nda w h (mk (pBar sq) (w * h)) (H ||| pe w h sq (w * h)) a)))) (lN (nda w h (mk (pBar sq) (w * h)) (H ||| pe w h sq (w * h)) S)) (nI (fr + kk))) : bk_X11_goes_103 Q B49 (nI kk) (nI m) (nI li) (lN (nda w h (mk (pBar sq) (w * h)) (H ||| pe w h sq (w * h)) a)) (nI fr) (nI S) (nI w) (nI h) (lN H) gk pa := by
  unfold bk_X11_goes_103
  refine s_misFold k hS hgk ?_
  by_cases hf : isFd w h (mk (pBar sq) (w * h)) S = true
  · rw [if_pos hf]
    refine ⟨fun _ => s_edgesOf k hS hgk ?_, fun z => absurd z (by decide)⟩
    rw [edM_nds k hS hf]
    have hnd : nda w h (mk (pBar sq) (w * h)) (H ||| pe w h sq (w * h)) S = nds w h (H ||| pe w h sq (w * h)) S := by
      unfold nda
      rw [if_pos hf]
    have hl := nds_lt k (H ||| pe w h sq (w * h)) hS
    have hpc := pc_le hl
    have h142 : ∀ s0, s0 = nI (max m (pc (nds w h (H ||| pe w h sq (w * h)) S))) → bk_X11_goes_142 Q B49 (nI kk) (nI li) (lN (nda w h (mk (pBar sq) (w * h)) (H ||| pe w h sq (w * h)) a)) (nI fr) (lN (nds w h (H ||| pe w h sq (w * h)) S)) s0 := by
      intro s0 e0
      unfold bk_X11_goes_142
      rw [z_andnL]
      refine s_bits (Nat.lt_of_le_of_lt (andn_le _ _) hl) (fun y17 e17 y18 e18 => ?_)
      have := hB hf
      rw [hnd] at this
      rw [e0, e17, e18, nI_add, nI_add]
      exact this
    refine s_bits hl (pk_le _ m (fun q => h142 _ ?_) (fun q => s_bits hl (h142 _ ?_)) rfl rfl)
    · rw [Nat.max_eq_left q]
    · rw [Nat.max_eq_right (by omega)]
  · rw [if_neg hf]
    exact ⟨fun z => absurd rfl z, fun _ => hno (Bool.eq_false_iff.mpr hf)⟩
theorem s_mgoes {H kk : Nat} {sq : Nat → Nat} {l : List Nat} {p3 : Int32} {gk pa : Nat → Int32} {Q : Int32 → ((Nat → Int32)) → Prop} (k : okS w h) (hgk : ∀ s, s < w * h → gk s = nI (sq s) ∧ sq s ≤ 11) (h1 : 1 ≤ kk) (h10 : kk ≤ 10) (hl : l.length = w * h) (he : ∀ j, j < w * h → l.getD j 0 < w * h) (hA : LA 1024 l pa) (hQ : Q (gA (gsF w h (mk (pBar sq) (w * h)) (H ||| pe w h sq (w * h)) l kk 11 0 0 0 0) p3) pa) : bk_X11_goes_37 Q (nI kk) p3 (nI w) (nI h) (lN H) gk pa := by
  have hn := n10 k
  have hp := pow10 k
  obtain ⟨o, ho⟩ : ∃ o, gsF w h (mk (pBar sq) (w * h)) (H ||| pe w h sq (w * h)) l kk 11 0 0 0 0 = o := ⟨_, rfl⟩
  rw [ho] at hQ
  unfold bk_X11_goes_37 lp_X11_goes_49
  refine ⟨fun M kn kl xl x4 => ∃ d fr a m li, M = d ∧ l.length < fr + d ∧ fr ≤ 20 ∧ a < 2 ^ (w * h) ∧ m ≤ 31 ∧ kn = nI m ∧ kl = nI li ∧ xl = lN (nda w h (mk (pBar sq) (w * h)) (H ||| pe w h sq (w * h)) a) ∧ x4 = nI fr ∧ gsF w h (mk (pBar sq) (w * h)) (H ||| pe w h sq (w * h)) l kk d fr a m li = o, ⟨11, 11, 0, 0, 0, 0, rfl, by omega, by omega, Nat.two_pow_pos _, by omega, rfl, rfl, by unfold nda isFd; rfl, rfl, ho⟩, ?_⟩
  rintro M kn kl xl x4 ⟨d, fr, a, m, li, rfl, hd, hfr, ha, hm, rfl, rfl, rfl, rfl, hg⟩
  unfold bd_X11_goes_49
  refine s_squares ?_
  refine pk_le (w * h) fr (fun q => ?_) (fun q => ?_) rfl rfl
  · rw [gs_exit (by omega)] at hg
    subst hg
    unfold gA at hQ
    refine ⟨fun z => ?_, fun z => ?_⟩
    · rw [if_neg z] at hQ
      exact hQ
    · rw [if_pos z] at hQ
      exact hQ
  · obtain ⟨d, rfl⟩ : ∃ d', M = d' + 1 := ⟨M - 1, by omega⟩
    rw [gsF, if_neg (by omega)] at hg
    have hmi : min (fr + kk) l.length ≤ l.length := Nat.min_le_right _ _
    have hmf : fr ≤ min (fr + kk) l.length := Nat.le_min.mpr ⟨by omega, by omega⟩
    have hset := prt_lt (l := l) (n := w * h) (min (fr + kk) l.length - fr) fr 0 (fun j hj => he j (by omega)) (Nat.two_pow_pos _)
    obtain ⟨S, hS⟩ : ∃ S, prt l (min (fr + kk) l.length - fr) fr 0 = S := ⟨_, rfl⟩
    rw [hS] at hg hset
    obtain ⟨mn, hmn⟩ : ∃ mn, min (fr + kk) l.length = mn := ⟨_, rfl⟩
    have hmn1 : mn ≤ fr + kk := by rw [← hmn]; exact Nat.min_le_left _ _
    have hmn2 : mn = fr + kk ∨ mn = w * h := by omega
    rw [hmn] at hS hmi hmf
    unfold lp_X11_goes_65
    refine ⟨fun M x9 x10 => ∃ i s, i ≤ mn ∧ M = mn - i ∧ x9 = nI s ∧ x10 = nI i ∧ prt l (mn - i) i s = S, ⟨mn - fr, fr, 0, hmf, rfl, rfl, rfl, hS⟩, ?_⟩
    rintro M x9 x10 ⟨i, s, hi, rfl, rfl, rfl, hL⟩
    unfold bd_X11_goes_65
    rw [nI_add]
    have hend : mn ≤ i → bk_X11_goes_103 Q (fun x4' x5' xl6' x8' => ∃ n', n' < d + 1 ∧ ∃ d' fr a m li, n' = d' ∧ l.length < fr + d' ∧ fr ≤ 20 ∧ a < 2 ^ (w * h) ∧ m ≤ 31 ∧ x4' = nI m ∧ x5' = nI li ∧ xl6' = lN (nda w h (mk (pBar sq) (w * h)) (H ||| pe w h sq (w * h)) a) ∧ x8' = nI fr ∧ gsF w h (mk (pBar sq) (w * h)) (H ||| pe w h sq (w * h)) l kk d' fr a m li = o) (nI kk) (nI m) (nI li) (lN (nda w h (mk (pBar sq) (w * h)) (H ||| pe w h sq (w * h)) a)) (nI fr) (nI s) (nI w) (nI h) (lN H) gk pa := by
      intro q
      rw [show mn - i = 0 by omega, prt] at hL
      subst hL
      refine s_m103 (p3 := p3) (o := o) k hgk hm hset ha (fun e => ?_) (fun e => ?_)
      · rw [e] at hg
        subst hg
        unfold gA gN gL at hQ
        by_cases z : p3 = 0
        · rw [if_pos z] at hQ
          exact hQ
        · rw [if_neg z] at hQ
          exact hQ
      · rw [if_pos e] at hg
        exact ⟨d, by omega, d, fr + kk, s, _, _, rfl, by omega, by omega, hset, Nat.max_le.mpr ⟨hm, pc_le (nds_lt k _ hset)⟩, rfl, rfl, rfl, rfl, hg⟩
    refine pk_le (fr + kk) i (fun q => hend (by omega)) (fun q => s_squares (pk_le (w * h) i (fun q2 => hend (by omega)) (fun q2 => ?_) rfl rfl)) rfl rfl
    rw [show mn - i = (mn - (i + 1)) + 1 by omega, prt] at hL
    refine ⟨pk_in i 10 (by omega), fun y2 e2 y3 e3 => ⟨mn - (i + 1), by omega, i + 1, s ||| 2 ^ l.getD i 0, by omega, rfl, ?_, ?_, hL⟩⟩
    · rw [e2, z_cl (by omega), (hA i (by omega)).1, z_shl1 _ (by have := he i (by omega); omega), z_or]
    · rw [e3, nI_1]
theorem op_goes {H : Nat} {sq : Nat → Nat} {p1 p2 p3 al wa mo kl kn ki : Int32} {fn fs fy fb gk ko mp : Nat → Int32} {K : (Int32 × Int32 × Int32 × (Nat → Int32)) → (Nat → Int32) → Prop} (k : okS w h) (hT : TabOK w h H sq false al wa mo fn fs fy fb) (hgk : ∀ s, s < w * h → gk s = nI (sq s) ∧ sq s ≤ 11) (hK : ∀ u u', K u u') : wp_X10_goes p1 p2 p3 (nI w) (nI h) fn fs kl kn ki ko (fun r u => wp_X11_goes p1 p2 p3 (nI w) (nI h) (lN H) gk mp (fun r' u' => EqK r r' (K u u'))) := by
  obtain ⟨hl, he, hgo⟩ := goL_at k p1
  have href : ∀ (r : Int32) (u : Int32 × Int32 × Int32 × (Nat → Int32)), (p2 < 1 ∨ 10 < p2 ∨ p3 < 0 ∨ ¬ p3 ≤ 1) → r = -3 → wp_X11_goes p1 p2 p3 (nI w) (nI h) (lN H) gk mp (fun r' u' => EqK r r' (K u u')) := by
    intro r u hq e
    subst e
    unfold wp_X11_goes
    refine s_in ?_
    unfold inI
    by_cases q1 : p2 < 1
    · rw [if_pos q1]
      exact ⟨fun _ => eqk _ (hK _ _), fun z => absurd rfl z⟩
    · rw [if_neg q1]
      by_cases q2 : 10 < p2
      · rw [if_pos q2]
        exact ⟨fun _ => eqk _ (hK _ _), fun z => absurd rfl z⟩
      · rw [if_neg q2]
        refine ⟨fun z => absurd z (by decide), fun _ => s_in ?_⟩
        unfold inI
        by_cases q3 : p3 < 0
        · rw [if_pos q3]
          exact ⟨fun z => absurd rfl z, fun _ => eqk _ (hK _ _)⟩
        · rw [if_neg q3, if_pos (fa_of_nle (by rcases hq with q | q | q | q <;> first | exact absurd q (by assumption) | exact q))]
          exact ⟨fun z => absurd rfl z, fun _ => eqk _ (hK _ _)⟩
  unfold wp_X10_goes
  refine ⟨fun q1 => href _ _ (Or.inl q1) rfl, fun q1 => ⟨fun q2 => href _ _ (Or.inr (Or.inl q2)) rfl, fun q2 => ⟨fun q3 => href _ _ (Or.inr (Or.inr (Or.inl q3))) rfl, fun q3 => ⟨fun q4 => ?_, fun q4 => href _ _ (Or.inr (Or.inr (Or.inr q4))) rfl⟩⟩⟩⟩
  obtain ⟨kk, h1, h10, rfl⟩ : ∃ kk, 1 ≤ kk ∧ kk ≤ 10 ∧ p2 = nI kk := by
    rcases tri p2 (N := 11) (by decide) (by decide) with ⟨a, _⟩ | ⟨_, a, _⟩ | ⟨j, hj, rfl, _⟩
    · exact absurd (fa_trans a (by decide)) q1
    · exact absurd a q2
    · refine ⟨j, ?_, by omega, rfl⟩
      apply Classical.byContradiction
      intro q
      exact q1 (by rw [show j = 0 by omega]; decide)
  have hin : ∀ (r : Int32) (u : Int32 × Int32 × Int32 × (Nat → Int32)), r = gA (gsF w h (mk (pBar sq) (w * h)) (H ||| pe w h sq (w * h)) (goL w h p1) kk 11 0 0 0 0) p3 → wp_X11_goes p1 (nI kk) p3 (nI w) (nI h) (lN H) gk mp (fun r' u' => EqK r r' (K u u')) := by
    intro r u e
    subst e
    unfold wp_X11_goes
    refine s_in ?_
    unfold inI
    rw [if_neg q1, if_neg q2]
    refine ⟨fun z => absurd z (by decide), fun _ => s_in ?_⟩
    unfold inI
    rw [if_neg q3, if_neg (fun y => (fa_of_lt y).2.1 q4)]
    refine ⟨fun _ => ⟨fun z => ?_, fun z => ?_⟩, fun z => absurd z (by decide)⟩
    · refine s_mstrip k (fun arr' hA => s_mgoes (l := goL w h p1) k hgk h1 h10 hl he ?_ (eqk _ (hK _ _)))
      rw [hgo, if_pos z]
      exact hA
    · refine s_msnail k (fun arr' hA => s_mgoes (l := goL w h p1) k hgk h1 h10 hl he ?_ (eqk _ (hK _ _)))
      rw [hgo, if_neg z]
      exact hA
  have h72 : ∀ len arr, KO (goL w h p1) len arr → bk_X10_goes_72 (fun r u => wp_X11_goes p1 (nI kk) p3 (nI w) (nI h) (lN H) gk mp (fun r' u' => EqK r r' (K u u'))) (nI kk) p3 fn fs len arr := by
    intro len arr hk
    unfold bk_X10_goes_72
    refine s_measure k hT h1 h10 hl he hk (fun o ho => ?_)
    refine ⟨fun z => hin _ _ ?_, fun z => hin _ _ ?_⟩
    · rw [ho, gA, if_neg z]
    · rw [ho, gA, if_pos z]
  refine ⟨fun z => s_strip k (fun len arr hk => h72 len arr ?_), fun z => s_snail k (fun len arr hk => h72 len arr ?_)⟩
  · rw [goL, if_pos z]
    exact hk
  · rw [goL, if_neg z]
    exact hk
end GOES
