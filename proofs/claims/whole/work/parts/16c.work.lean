section WORK
variable {w h bar U rich : Nat} {Y : Nat → Nat}
def eO (F : Nat) (o : Option Nat) : Int32 := match o with
  | none => nI F
  | some x => nI x
def bdO (B : Nat) (o : Option Nat) : Prop := ∀ x, o = some x → x ≤ B
def leO (a b : Option Nat) : Prop := match b with
  | none => True
  | some y => match a with
    | none => False
    | some x => x ≤ y
theorem eO_le {F B : Nat} {a b : Option Nat} (hF : F < 2 ^ 31) (hB : B < F) (ha : bdO B a) (hb : bdO B b) : eO F a ≤ eO F b ↔ leO a b := by
  cases b with
  | none =>
    cases a with
    | none => exact ⟨fun _ => trivial, fun _ => nI_le (Nat.le_refl F) hF⟩
    | some x =>
      have := ha x rfl
      exact ⟨fun _ => trivial, fun _ => nI_le (by omega) hF⟩
  | some y =>
    have h2 := hb y rfl
    cases a with
    | none =>
      refine ⟨fun q => ?_, fun q => q.elim⟩
      have := (fa_le _ _).mp q
      change (nI F).toInt ≤ (nI y).toInt at this
      rw [nI_toInt hF, nI_toInt (by omega)] at this
      omega
    | some x =>
      have h1 := ha x rfl
      refine ⟨fun q => ?_, fun q => nI_le q (by omega)⟩
      have := (fa_le _ _).mp q
      change (nI x).toInt ≤ (nI y).toInt at this
      rw [nI_toInt (by omega), nI_toInt (by omega)] at this
      show x ≤ y
      omega
theorem leO_keep {a b : Option Nat} {f : Nat → Nat} (hf : ∀ v, v ≤ f v) (hl : leO a b) : omin a (b.map f) = a := by
  cases b with
  | none => exact omin_none a
  | some y =>
    cases a with
    | none => exact hl.elim
    | some x =>
      have h1 : x ≤ y := hl
      have h2 := hf y
      show some (if f y < x then f y else x) = some x
      rw [if_neg (by omega)]
theorem leO_no {a b : Option Nat} (hl : ¬ leO a b) : ∃ y, b = some y := by
  cases b with
  | none => exact absurd trivial hl
  | some y => exact ⟨y, rfl⟩
theorem eO_min {F B m : Nat} {a : Option Nat} (hF : F < 2 ^ 31) (hB : B < F) (ha : bdO B a) (hm : m ≤ B) : (if nI m < eO F a then nI m else eO F a) = eO F (omin a (some m)) := by
  cases a with
  | none =>
    show (if nI m < nI F then nI m else nI F) = nI m
    rw [if_pos (nI_lt (by omega) hF)]
  | some x =>
    have h1 := ha x rfl
    show (if nI m < nI x then nI m else nI x) = nI (if m < x then m else x)
    by_cases q : m < x
    · rw [if_pos (nI_lt q (by omega)), if_pos q]
    · rw [if_neg (nI_nlt (by omega) (by omega)), if_neg q]
theorem bdO_min {B : Nat} {a b : Option Nat} (ha : bdO B a) (hb : bdO B b) : bdO B (omin a b) := by
  cases a with
  | none => exact hb
  | some x =>
    cases b with
    | none => exact ha
    | some y =>
      intro z hz
      change some (if y < x then y else x) = some z at hz
      have h1 := ha x rfl
      have h2 := hb y rfl
      cases hz
      split <;> omega
theorem bdO_mL {B : Nat} {c : Nat → Option Nat} (hc : ∀ g, bdO B (c g)) (l : List Nat) : bdO B (mL c l) := by
  intro x hx
  obtain ⟨g, _, h2⟩ := mL_some hx
  exact hc g x h2
/-- values of the steps from some had on -/
def VOK (w h bar : Nat) (vE : Nat → Nat → Int32) (b : Nat) (va : Nat → Int32) : Prop := ∀ h', b ≤ h' → h' < 2 ^ (w * h) → ∀ j, j < (sLx w h bar h').length → va (st w h bar h' + j) = vE h' ((sLx w h bar h').getD j 0)
theorem VOK_at {vE : Nat → Nat → Int32} {b : Nat} {va : Nat → Int32} (hv : VOK w h bar vE b va) {had : Nat} (h1 : b ≤ had) (h2 : had < 2 ^ (w * h)) {j : Nat} (hj : j < (sLx w h bar had).length) : va (st w h bar had + j) = vE had ((sLx w h bar had).getD j 0) := hv had h1 h2 j hj
def cN1 (w h U : Nat) (_last g v : Nat) : Nat := if pc (nds w h U g) < v then v else pc (nds w h U g)
def cL1 (w h bar U : Nat) (last g v : Nat) : Nat := pc (andn (nda w h bar U g) (nda w h bar U last)) + v
def onC (w h : Nat) (cb : Nat → Nat → Nat → Nat) (vO : Nat → Nat → Option Nat) (had last : Nat) : Nat → Option Nat := fun g => if nearN w h last &&& g = 0 then none else (vO had g).map (cb last g)
theorem s_onN {last had b : Nat} {al wa mo : Int32} {fn fs fy fb ss nx va : Nat → Int32} {vO : Nat → Nat → Option Nat} {Q : Int32 → Prop} (k : okS w h) (hT : TB w h bar U Y rich al wa mo fn fs fy fb) (hS : STP w h bar ss nx) (hv : VOK w h bar (fun a g => eO 1048576 (vO a g)) b va) (hbd : ∀ a g, bdO 31744 (vO a g)) (hb : b ≤ had) (hh : had < 2 ^ (w * h)) (hl : last < 2 ^ (w * h)) (hQ : Q (eO 1048576 (mL (onC w h (cN1 w h U) vO had last) (sLx w h bar had)))) : wp_X1_leastNeededOn (nI had) (nI last) al fs fb ss nx va Q := by
  have hp := pow10 k
  have h4 := st_4096 (bar := bar) k
  have hst := st_mono (w := w) (h := h) (bar := bar) (show had + 1 ≤ 2 ^ (w * h) by omega)
  unfold wp_X1_leastNeededOn
  refine s_nextTo k hT hl ⟨pk_in had 1025 (by omega), fun y2 e2 => ?_⟩
  rw [z_cl (by omega), hS.1 had (by omega)] at e2
  subst e2
  have e1 : nI had + 1 = nI (had + 1) := nI_1 had
  have hcb : ∀ g, bdO 31775 (onC w h (cN1 w h U) vO had last g) ∨ ¬ g < 2 ^ (w * h) := by
    intro g
    by_cases hg : g < 2 ^ (w * h)
    · left
      intro x hx
      unfold onC at hx
      split at hx
      · cases hx
      · cases e : vO had g with
        | none => rw [e] at hx; cases hx
        | some y =>
          rw [e] at hx
          change some (cN1 w h U last g y) = some x at hx
          cases hx
          have h1 := hbd had g y e
          have h2 := pc_le (nds_lt k U hg)
          unfold cN1
          split <;> omega
    · exact Or.inr hg
  unfold lp_X1_leastNeededOn_24
  refine ⟨fun m x4 x5 => ∃ j, j ≤ (sLx w h bar had).length ∧ m = (sLx w h bar had).length - j ∧ x5 = nI (st w h bar had + j) ∧ x4 = eO 1048576 (mL (onC w h (cN1 w h U) vO had last) ((sLx w h bar had).take j)) ∧ bdO 31775 (mL (onC w h (cN1 w h U) vO had last) ((sLx w h bar had).take j)), ⟨_, 0, Nat.zero_le _, rfl, rfl, rfl, fun x hx => by cases hx⟩, ?_⟩
  rintro m x4 x5 ⟨j, hj, rfl, rfl, rfl, hbj⟩
  rw [st] at hst
  unfold bd_X1_leastNeededOn_24 bk_X1_leastNeededOn_104
  rw [e1, z_cl (show had + 1 < 2 ^ 31 by omega), hS.1 (had + 1) (by omega), st]
  refine ⟨pk_in (had + 1) 1025 (by omega), pk_le _ _ (fun q => ?_) (fun q => ⟨pk_in (st w h bar had + j) 4096 (by omega), fun y4 e4 => ⟨pk_in (st w h bar had + j) 4096 (by omega), ?_⟩⟩) rfl rfl⟩
  · rw [List.take_of_length_le (by omega)]
    exact hQ
  · have hj' : j < (sLx w h bar had).length := by omega
    rw [z_cl (by omega), hS.2 had hh j hj'] at e4
    subst e4
    obtain ⟨g, hg⟩ : ∃ g, (sLx w h bar had).getD j 0 = g := ⟨_, rfl⟩
    obtain ⟨hgp, hgl⟩ := sLx_at hj'
    have hvj := VOK_at hv hb hh hj'
    rw [hg] at hgp hgl hvj
    have hgf := (pS_at.mp hgp).1
    rw [z_cl (show st w h bar had + j < 2 ^ 31 by omega), hvj, hg]
    have hpush : mL (onC w h (cN1 w h U) vO had last) ((sLx w h bar had).take (j + 1)) = omin (mL (onC w h (cN1 w h U) vO had last) ((sLx w h bar had).take j)) (onC w h (cN1 w h U) vO had last g) := by
      rw [take_push hj', mL_push, hg]
    obtain ⟨a, ha⟩ : ∃ a, mL (onC w h (cN1 w h U) vO had last) ((sLx w h bar had).take j) = a := ⟨_, rfl⟩
    rw [ha] at hbj hpush ⊢
    have hcg : bdO 31775 (onC w h (cN1 w h U) vO had last g) := by
      rcases hcb g with y | y
      · exact y
      · exact absurd hgl y
    have hnext : ∀ (a' : Option Nat) (y6 : Int32), a' = omin a (onC w h (cN1 w h U) vO had last g) → y6 = nI (st w h bar had + j) + 1 → ∃ n', n' < (sLx w h bar had).length - j ∧ ∃ j', j' ≤ (sLx w h bar had).length ∧ n' = (sLx w h bar had).length - j' ∧ y6 = nI (st w h bar had + j') ∧ eO 1048576 a' = eO 1048576 (mL (onC w h (cN1 w h U) vO had last) ((sLx w h bar had).take j')) ∧ bdO 31775 (mL (onC w h (cN1 w h U) vO had last) ((sLx w h bar had).take j')) := by
      intro a' y6 ea ey
      refine ⟨(sLx w h bar had).length - (j + 1), by omega, j + 1, by omega, rfl, by rw [ey, nI_1]; congr 1, by rw [hpush, ea], ?_⟩
      rw [hpush]
      exact bdO_min hbj hcg
    have hv1 : bdO 31775 (vO had g) := fun x hx => by have := hbd had g x hx; omega
    have hle := eO_le (F := 1048576) (B := 31775) (by decide) (by decide) hbj hv1
    have hmono : ∀ v, v ≤ cN1 w h U last g v := by
      intro v
      unfold cN1
      split <;> omega
    have hna : nearN w h last &&& g < 2 ^ 31 := Nat.lt_of_le_of_lt Nat.and_le_right (by omega)
    refine ⟨fun z y6 e6 => hnext a y6 ?_ e6, fun z => ?_⟩
    · unfold onC
      split
      · rw [omin_none]
      · exact (leO_keep hmono (hle.mp z)).symm
    · rw [z_and]
      refine pk_eq (nearN w h last &&& g) 0 (fun q2 y6 e6 => hnext a y6 ?_ e6) (fun q2 => ⟨pk_in g 1024 (by omega), pk_in (st w h bar had + j) 4096 (by omega), fun y8 e8 y6 e6 => ?_⟩) rfl rfl
      · unfold onC
        rw [if_pos q2, omin_none]
      · obtain ⟨y, hy⟩ := leO_no (fun y => z (hle.mpr y))
        have hyb := hv1 y hy
        have hpc := pc_le (nds_lt k U hgl)
        rw [z_cl (show g < 2 ^ 31 by omega), (hT.2.2.2 g hgl).2.1, if_pos hgf, hy] at e8
        have e9 : (if nI (pc (nds w h U g)) < nI y then nI y else nI (pc (nds w h U g))) = nI (cN1 w h U last g y) := by
          unfold cN1
          by_cases q3 : pc (nds w h U g) < y
          · rw [if_pos (nI_lt q3 (by omega)), if_pos q3]
          · rw [if_neg (nI_nlt (by omega) (by omega)), if_neg q3]
        change y8 = if (if nI (pc (nds w h U g)) < nI y then nI y else nI (pc (nds w h U g))) < eO 1048576 a then (if nI (pc (nds w h U g)) < nI y then nI y else nI (pc (nds w h U g))) else eO 1048576 a at e8
        have hcm : cN1 w h U last g y ≤ 31775 := by
          unfold cN1
          split <;> omega
        rw [e9, eO_min (B := 31775) (by decide) (by decide) hbj hcm] at e8
        rw [e8]
        refine hnext _ y6 ?_ e6
        unfold onC
        rw [if_neg q2, hy]
        rfl
theorem s_onL {last had b : Nat} {al wa mo : Int32} {fn fs fy fb ss nx va : Nat → Int32} {vO : Nat → Nat → Option Nat} {Q : Int32 → Prop} (k : okS w h) (hT : TB w h bar U Y rich al wa mo fn fs fy fb) (hS : STP w h bar ss nx) (hv : VOK w h bar (fun a g => eO 1048576 (vO a g)) b va) (hbd : ∀ a g, bdO 31744 (vO a g)) (hb : b ≤ had) (hh : had < 2 ^ (w * h)) (hl : last < 2 ^ (w * h)) (hQ : Q (eO 1048576 (mL (onC w h (cL1 w h bar U) vO had last) (sLx w h bar had)))) : wp_X1_leastLiftedOn (nI had) (nI last) al fn fb ss nx va Q := by
  have hp := pow10 k
  have h4 := st_4096 (bar := bar) k
  have hst := st_mono (w := w) (h := h) (bar := bar) (show had + 1 ≤ 2 ^ (w * h) by omega)
  unfold wp_X1_leastLiftedOn
  refine s_nextTo k hT hl ⟨pk_in had 1025 (by omega), fun y2 e2 => ?_⟩
  rw [z_cl (by omega), hS.1 had (by omega)] at e2
  subst e2
  have e1 : nI had + 1 = nI (had + 1) := nI_1 had
  have hpcl : ∀ g, g < 2 ^ (w * h) → pc (andn (nda w h bar U g) (nda w h bar U last)) ≤ 31 := fun g hg => pc_le (Nat.lt_of_le_of_lt (andn_le _ _) (nda_lt k hg))
  have hcb : ∀ g, g < 2 ^ (w * h) → bdO 31775 (onC w h (cL1 w h bar U) vO had last g) := by
    intro g hg x hx
    unfold onC at hx
    split at hx
    · cases hx
    · cases e : vO had g with
      | none => rw [e] at hx; cases hx
      | some y =>
        rw [e] at hx
        change some (cL1 w h bar U last g y) = some x at hx
        cases hx
        have h1 := hbd had g y e
        have h2 := hpcl g hg
        unfold cL1
        omega
  unfold lp_X1_leastLiftedOn_24
  refine ⟨fun m x4 x5 => ∃ j, j ≤ (sLx w h bar had).length ∧ m = (sLx w h bar had).length - j ∧ x5 = nI (st w h bar had + j) ∧ x4 = eO 1048576 (mL (onC w h (cL1 w h bar U) vO had last) ((sLx w h bar had).take j)) ∧ bdO 31775 (mL (onC w h (cL1 w h bar U) vO had last) ((sLx w h bar had).take j)), ⟨_, 0, Nat.zero_le _, rfl, rfl, rfl, fun x hx => by cases hx⟩, ?_⟩
  rintro m x4 x5 ⟨j, hj, rfl, rfl, rfl, hbj⟩
  rw [st] at hst
  unfold bd_X1_leastLiftedOn_24 bk_X1_leastLiftedOn_102
  rw [e1, z_cl (show had + 1 < 2 ^ 31 by omega), hS.1 (had + 1) (by omega), st]
  refine ⟨pk_in (had + 1) 1025 (by omega), pk_le _ _ (fun q => ?_) (fun q => ⟨pk_in (st w h bar had + j) 4096 (by omega), fun y4 e4 => ⟨pk_in (st w h bar had + j) 4096 (by omega), ?_⟩⟩) rfl rfl⟩
  · rw [List.take_of_length_le (by omega)]
    exact hQ
  · have hj' : j < (sLx w h bar had).length := by omega
    rw [z_cl (by omega), hS.2 had hh j hj'] at e4
    subst e4
    obtain ⟨g, hg⟩ : ∃ g, (sLx w h bar had).getD j 0 = g := ⟨_, rfl⟩
    obtain ⟨hgp, hgl⟩ := sLx_at hj'
    have hvj := VOK_at hv hb hh hj'
    rw [hg] at hgp hgl hvj
    rw [z_cl (show st w h bar had + j < 2 ^ 31 by omega), hvj, hg]
    have hpush : mL (onC w h (cL1 w h bar U) vO had last) ((sLx w h bar had).take (j + 1)) = omin (mL (onC w h (cL1 w h bar U) vO had last) ((sLx w h bar had).take j)) (onC w h (cL1 w h bar U) vO had last g) := by
      rw [take_push hj', mL_push, hg]
    obtain ⟨a, ha⟩ : ∃ a, mL (onC w h (cL1 w h bar U) vO had last) ((sLx w h bar had).take j) = a := ⟨_, rfl⟩
    rw [ha] at hbj hpush ⊢
    have hnext : ∀ (a' : Option Nat) (y6 : Int32), a' = omin a (onC w h (cL1 w h bar U) vO had last g) → y6 = nI (st w h bar had + j) + 1 → ∃ n', n' < (sLx w h bar had).length - j ∧ ∃ j', j' ≤ (sLx w h bar had).length ∧ n' = (sLx w h bar had).length - j' ∧ y6 = nI (st w h bar had + j') ∧ eO 1048576 a' = eO 1048576 (mL (onC w h (cL1 w h bar U) vO had last) ((sLx w h bar had).take j')) ∧ bdO 31775 (mL (onC w h (cL1 w h bar U) vO had last) ((sLx w h bar had).take j')) := by
      intro a' y6 ea ey
      refine ⟨(sLx w h bar had).length - (j + 1), by omega, j + 1, by omega, rfl, by rw [ey, nI_1]; congr 1, by rw [hpush, ea], ?_⟩
      rw [hpush]
      exact bdO_min hbj (hcb g hgl)
    have hv1 : bdO 31775 (vO had g) := fun x hx => by have := hbd had g x hx; omega
    have hle := eO_le (F := 1048576) (B := 31775) (by decide) (by decide) hbj hv1
    have hmono : ∀ v, v ≤ cL1 w h bar U last g v := by
      intro v
      unfold cL1
      omega
    have hna : nearN w h last &&& g < 2 ^ 31 := Nat.lt_of_le_of_lt Nat.and_le_right (by omega)
    refine ⟨fun z y6 e6 => hnext a y6 ?_ e6, fun z => ?_⟩
    · unfold onC
      split
      · rw [omin_none]
      · exact (leO_keep hmono (hle.mp z)).symm
    · rw [z_and]
      refine pk_eq (nearN w h last &&& g) 0 (fun q2 y6 e6 => hnext a y6 ?_ e6) (fun q2 => ?_) rfl rfl
      · unfold onC
        rw [if_pos q2, omin_none]
      · obtain ⟨y, hy⟩ := leO_no (fun y => z (hle.mpr y))
        have hyb := hbd had g y hy
        have hpl := hpcl g hgl
        unfold wp_X3_liftedTo
        have t1 : fn g = nI (nda w h bar U g) := (hT.2.2.2 g hgl).1
        have t2 : fn last = nI (nda w h bar U last) := (hT.2.2.2 last hl).1
        rw [z_cl (show g < 2 ^ 31 by omega), z_cl (show last < 2 ^ 31 by omega), t1, t2, z_andn]
        refine ⟨pk_in g 1024 (by omega), pk_in last 1024 (by omega), s_bitCount (Nat.lt_of_le_of_lt (andn_le _ _) (nda_lt k hgl)) ⟨pk_in (st w h bar had + j) 4096 (by omega), fun y9 e9 y6 e6 => ?_⟩⟩
        rw [hy] at e9
        change y9 = if nI (pc (andn (nda w h bar U g) (nda w h bar U last))) + nI y < eO 1048576 a then nI (pc (andn (nda w h bar U g) (nda w h bar U last))) + nI y else eO 1048576 a at e9
        rw [nI_add] at e9
        have hcm : cL1 w h bar U last g y ≤ 31775 := by
          unfold cL1
          omega
        change y9 = if nI (cL1 w h bar U last g y) < eO 1048576 a then nI (cL1 w h bar U last g y) else eO 1048576 a at e9
        rw [eO_min (B := 31775) (by decide) (by decide) hbj hcm] at e9
        rw [e9]
        refine hnext _ y6 ?_ e6
        unfold onC
        rw [if_neg q2, hy]
        rfl
theorem z_modI {a : Nat} (ha : a < 2 ^ 31) : nI a - nI a / 1000000007 * 1000000007 = nI (a % 1000000007) := z_rem (a := a) (d := 1000000007) ha (by decide) (by decide)
def onW (w h : Nat) (vN : Nat → Nat → Nat) (had last : Nat) : Nat → Nat := fun g => if nearN w h last &&& g = 0 then 0 else vN had g
theorem s_onW {last had b : Nat} {al wa mo : Int32} {fn fs fy fb ss nx va : Nat → Int32} {vN : Nat → Nat → Nat} {Q : Int32 → Prop} (k : okS w h) (hT : TB w h bar U Y rich al wa mo fn fs fy fb) (hS : STP w h bar ss nx) (hv : VOK w h bar (fun a g => nI (vN a g)) b va) (hbd : ∀ a g, vN a g < 1000000007) (hb : b ≤ had) (hh : had < 2 ^ (w * h)) (hl : last < 2 ^ (w * h)) (hQ : Q (nI (sumL (onW w h vN had last) (sLx w h bar had) % 1000000007))) : wp_X1_waysOn (nI had) (nI last) al fb ss nx va Q := by
  have hp := pow10 k
  have h4 := st_4096 (bar := bar) k
  have hst := st_mono (w := w) (h := h) (bar := bar) (show had + 1 ≤ 2 ^ (w * h) by omega)
  unfold wp_X1_waysOn
  refine s_nextTo k hT hl ⟨pk_in had 1025 (by omega), fun y2 e2 => ?_⟩
  rw [z_cl (by omega), hS.1 had (by omega)] at e2
  subst e2
  have e1 : nI had + 1 = nI (had + 1) := nI_1 had
  unfold lp_X1_waysOn_23
  refine ⟨fun m x4 x5 => ∃ j, j ≤ (sLx w h bar had).length ∧ m = (sLx w h bar had).length - j ∧ x5 = nI (st w h bar had + j) ∧ x4 = nI (sumL (onW w h vN had last) ((sLx w h bar had).take j) % 1000000007), ⟨_, 0, Nat.zero_le _, rfl, rfl, rfl⟩, ?_⟩
  rintro m x4 x5 ⟨j, hj, rfl, rfl, rfl⟩
  rw [st] at hst
  unfold bd_X1_waysOn_23 bk_X1_waysOn_72
  rw [e1, z_cl (show had + 1 < 2 ^ 31 by omega), hS.1 (had + 1) (by omega), st]
  refine ⟨pk_in (had + 1) 1025 (by omega), pk_le _ _ (fun q => ?_) (fun q => ⟨pk_in (st w h bar had + j) 4096 (by omega), ?_⟩) rfl rfl⟩
  · rw [List.take_of_length_le (by omega)]
    exact hQ
  · have hj' : j < (sLx w h bar had).length := by omega
    obtain ⟨g, hg⟩ : ∃ g, (sLx w h bar had).getD j 0 = g := ⟨_, rfl⟩
    obtain ⟨hgp, hgl⟩ := sLx_at hj'
    have hvj := VOK_at hv hb hh hj'
    rw [hg] at hgp hgl hvj
    rw [z_cl (show st w h bar had + j < 2 ^ 31 by omega), hvj, hS.2 had hh j hj', hg, z_and]
    have hpush : sumL (onW w h vN had last) ((sLx w h bar had).take (j + 1)) = sumL (onW w h vN had last) ((sLx w h bar had).take j) + onW w h vN had last g := by
      rw [take_push hj', sumL_push, hg]
    obtain ⟨a, ha⟩ : ∃ a, sumL (onW w h vN had last) ((sLx w h bar had).take j) = a := ⟨_, rfl⟩
    rw [ha] at hpush ⊢
    have hna : nearN w h last &&& g < 2 ^ 31 := Nat.lt_of_le_of_lt Nat.and_le_right (by omega)
    refine pk_eq (nearN w h last &&& g) 0 (fun q2 y5 e5 => ⟨_, ?_, j + 1, by omega, rfl, by rw [e5, nI_1]; congr 1, ?_⟩) (fun q2 => ⟨pk_in (st w h bar had + j) 4096 (by omega), fun y6 e6 y5 e5 => ⟨_, ?_, j + 1, by omega, rfl, by rw [e5, nI_1]; congr 1, ?_⟩⟩) rfl rfl
    · omega
    · rw [hpush]
      unfold onW
      rw [if_pos q2]
      rfl
    · omega
    · have h1 := Nat.mod_lt a (show 0 < 1000000007 by decide)
      have h2 := hbd had g
      rw [nI_add, z_modI (by omega)] at e6
      rw [hpush, e6]
      unfold onW
      rw [if_neg q2, Nat.mod_add_mod]
end WORK
