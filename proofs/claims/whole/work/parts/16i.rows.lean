section ROWS
variable {w h bar U rich : Nat} {Y : Nat → Nat}
def lft (w h bar U last g : Nat) : Nat := pc (andn (nda w h bar U g) (nda w h bar U last))
def Pn (w h bar U rich : Nat) (Y : Nat → Nat) (wy hb had last left g : Nat) : Prop := g ∈ flS w h bar (2 ^ (w * h)) ∧ cnd w h (okH w h U hb) had last g = true ∧ ∃ y, LDP w h bar U rich Y true wy hb (had ||| g) g = some y ∧ lft w h bar U last g + y = left
def P0 (w h bar U rich : Nat) (Y : Nat → Nat) (wy hb left g : Nat) : Prop := g ∈ flS w h bar (2 ^ (w * h)) ∧ okH w h U hb g = true ∧ ∃ y, LDP w h bar U rich Y true wy hb g g = some y ∧ lft w h bar U 0 g + y = left
def lst (P : Nat → Prop) (g : Nat) : Prop := P g ∧ ∀ g', P g' → g ≤ g'
def isRow (w h bar U rich : Nat) (Y : Nat → Nat) (wy hb : Nat) : Nat → Nat → Nat → List Nat → Prop
  | had, _, _, [] => andn rich had = 0
  | had, last, left, g :: r => andn rich had ≠ 0 ∧ lst (Pn w h bar U rich Y wy hb had last left) g ∧ isRow w h bar U rich Y wy hb (had ||| g) g (left - lft w h bar U last g) r
def tRow (w h bar U rich : Nat) (Y : Nat → Nat) (wy hb L0 : Nat) : List Nat → Prop
  | [] => False
  | g :: r => lst (P0 w h bar U rich Y wy hb L0) g ∧ isRow w h bar U rich Y wy hb g g (L0 - lft w h bar U 0 g) r
theorem lst_u {P : Nat → Prop} {a b : Nat} (ha : lst P a) (hb : lst P b) : a = b := Nat.le_antisymm (ha.2 b hb.1) (hb.2 a ha.1)
theorem isRow_u {wy hb : Nat} : ∀ (l l' : List Nat) (had last left : Nat), isRow w h bar U rich Y wy hb had last left l → isRow w h bar U rich Y wy hb had last left l' → l = l'
  | [], [], _, _, _, _, _ => rfl
  | [], g :: r, had, last, left, h1, h2 => absurd h1 h2.1
  | g :: r, [], had, last, left, h1, h2 => absurd h2 h1.1
  | g :: r, g' :: r', had, last, left, h1, h2 => by
    obtain ⟨a1, a2, a3⟩ := h1
    obtain ⟨b1, b2, b3⟩ := h2
    have e := lst_u a2 b2
    subst e
    rw [isRow_u r r' _ _ _ a3 b3]
theorem tRow_u {wy hb L0 : Nat} {l l' : List Nat} (h1 : tRow w h bar U rich Y wy hb L0 l) (h2 : tRow w h bar U rich Y wy hb L0 l') : l = l' := by
  cases l with
  | nil => exact h1.elim
  | cons g r =>
    cases l' with
    | nil => exact h2.elim
    | cons g' r' =>
      have e := lst_u h1.1 h2.1
      subst e
      rw [isRow_u r r' _ _ _ h1.2 h2.2]
theorem tRow_ok {wy hb hb' L0 : Nat} (he : ∀ g, g ∈ flS w h bar (2 ^ (w * h)) → okH w h U hb g = okH w h U hb' g) (l : List Nat) : tRow w h bar U rich Y wy hb L0 l → tRow w h bar U rich Y wy hb' L0 l := by
  have hD := (LTop_ok (rich := rich) (Y := Y) (lf := true) (wy := wy) he).1
  have hPn : Pn w h bar U rich Y wy hb = Pn w h bar U rich Y wy hb' := by
    funext had last left g
    apply propext
    unfold Pn
    rw [hD]
    refine ⟨fun q => ⟨q.1, ?_, q.2.2⟩, fun q => ⟨q.1, ?_, q.2.2⟩⟩
    · have := q.2.1
      unfold cnd at this ⊢
      rw [← he g q.1]
      exact this
    · have := q.2.1
      unfold cnd at this ⊢
      rw [he g q.1]
      exact this
  have hP0 : P0 w h bar U rich Y wy hb L0 = P0 w h bar U rich Y wy hb' L0 := by
    funext g
    apply propext
    unfold P0
    rw [hD]
    refine ⟨fun q => ⟨q.1, ?_, q.2.2⟩, fun q => ⟨q.1, ?_, q.2.2⟩⟩
    · rw [← he g q.1]; exact q.2.1
    · rw [he g q.1]; exact q.2.1
  have hRow : ∀ (l : List Nat) (had last left : Nat), isRow w h bar U rich Y wy hb had last left l → isRow w h bar U rich Y wy hb' had last left l := by
    intro l
    induction l with
    | nil => exact fun _ _ _ q => q
    | cons g r ih =>
      intro had last left q
      obtain ⟨a1, a2, a3⟩ := q
      rw [hPn] at a2
      exact ⟨a1, a2, ih _ _ _ a3⟩
  cases l with
  | nil => exact fun q => q
  | cons g r =>
    intro q
    obtain ⟨a1, a2⟩ := q
    rw [hP0] at a1
    exact ⟨a1, hRow r _ _ _ a2⟩
def bitc (n g : Nat) : Nat := sumF (fun _ => 1) n g
theorem bitc_le (g : Nat) : ∀ n, bitc n g ≤ n
  | 0 => Nat.le_refl 0
  | n + 1 => by
    have := bitc_le g n
    unfold bitc at this ⊢
    rw [sumF]
    split <;> omega
theorem bitc_lt {g i : Nat} (hi : g.testBit i = false) : ∀ n, i < n → bitc n g < n
  | 0, hn => absurd hn (Nat.not_lt_zero i)
  | n + 1, hn => by
    unfold bitc
    rw [sumF]
    by_cases e : i = n
    · subst e
      rw [hi]
      have := bitc_le g i
      unfold bitc at this
      simp
      omega
    · have := bitc_lt hi n (by omega)
      unfold bitc at this
      split <;> omega
theorem bitc_pos {g i : Nat} (hi : g.testBit i = true) : ∀ n, i < n → 0 < bitc n g
  | 0, hn => absurd hn (Nat.not_lt_zero i)
  | n + 1, hn => by
    unfold bitc
    rw [sumF]
    by_cases e : i = n
    · subst e
      rw [if_pos hi]
      omega
    · have := bitc_pos hi n (by omega)
      unfold bitc at this
      omega
theorem bit_lt {n g i : Nat} (hg : g < 2 ^ n) (hi : g.testBit i = true) : i < n := by
  apply Classical.byContradiction
  intro y
  rw [Nat.testBit_lt_two_pow (Nat.lt_of_lt_of_le hg (Nat.pow_le_pow_right (by decide) (Nat.le_of_not_lt y)))] at hi
  exact absurd hi (by decide)
theorem bitc_or {n had g : Nat} (hg : g < 2 ^ n) (h0 : g ≠ 0) (hd : g &&& had = 0) : bitc n had + 1 ≤ bitc n (had ||| g) := by
  have hd' : had &&& g = 0 := by rw [Nat.and_comm]; exact hd
  obtain ⟨i, hi⟩ := z_nz h0
  have h1 := bitc_pos hi n (bit_lt hg hi)
  unfold bitc at h1 ⊢
  rw [or_of_xor hd', sumF_dis _ hd']
  omega
/-- a row under way -/
def RS (w h bar U rich : Nat) (Y : Nat → Nat) (wy hb L0 : Nat) (acc : List Nat) (had last left : Nat) : Prop :=
  had < 2 ^ (w * h) ∧ isFd w h bar had = true ∧ last < 2 ^ (w * h) ∧ isFd w h bar last = true ∧ (∃ h0, had = h0 ||| last) ∧ LDP w h bar U rich Y true wy hb had last = some left ∧ acc.length ≤ bitc (w * h) had ∧ 1 ≤ acc.length ∧ ∀ r, isRow w h bar U rich Y wy hb had last left r → tRow w h bar U rich Y wy hb L0 (acc ++ r)
theorem RS_gone {wy hb L0 : Nat} {acc : List Nat} {had last left : Nat} (hs : RS w h bar U rich Y wy hb L0 acc had last left) (hg : andn rich had = 0) : left = 0 ∧ tRow w h bar U rich Y wy hb L0 acc := by
  obtain ⟨h1, h2, h3, h4, h5, h6, h7, h8, h9⟩ := hs
  refine ⟨?_, ?_⟩
  · rw [LDP_eq h1] at h6
    unfold EL at h6
    rw [if_pos hg] at h6
    cases h6
    rfl
  · have := h9 [] hg
    rw [List.append_nil] at this
    exact this
theorem RS_go (k : okS w h) {wy hb L0 : Nat} {acc : List Nat} {had last left : Nat} (hs : RS w h bar U rich Y wy hb L0 acc had last left) (hri : rich < 2 ^ (w * h)) (hg : andn rich had ≠ 0) : acc.length < 10 ∧ (∃ g, Pn w h bar U rich Y wy hb had last left g) ∧ ∀ g, lst (Pn w h bar U rich Y wy hb had last left) g → RS w h bar U rich Y wy hb L0 (acc ++ [g]) (had ||| g) g (left - lft w h bar U last g) ∧ lft w h bar U last g ≤ left := by
  obtain ⟨h1, h2, h3, h4, h5, h6, h7, h8, h9⟩ := hs
  have hn := n10 k
  refine ⟨?_, ?_, fun g hl => ?_⟩
  · obtain ⟨i, hi⟩ := z_nz hg
    rw [andn_bit] at hi
    simp only [Bool.and_eq_true, Bool.not_eq_true'] at hi
    have := bitc_lt hi.2 (w * h) (bit_lt hri hi.1)
    omega
  · rw [LDP_eq h1] at h6
    rcases EL_some h6 with ⟨q, _⟩ | ⟨_, _, g, g1, g2, y, g3, g4⟩
    · exact absurd q hg
    · exact ⟨g, g1, g2, y, g3, g4.symm⟩
  · obtain ⟨g1, g2, y, g3, g4⟩ := hl.1
    obtain ⟨f1, f2⟩ := flS_mem.mp g1
    obtain ⟨c1, c2, c3⟩ := cnd_dis g2
    have hg0 : g ≠ 0 := by have := isFd_pos f2; omega
    have hl0 : last ≠ 0 := by have := isFd_pos h4; omega
    obtain ⟨ho, rfl⟩ := h5
    have hy : left - lft w h bar U last g = y := by omega
    refine ⟨⟨Nat.or_lt_two_pow h1 f1, un_fold k h1 f1 (Or.inr h2) (pS_at.mpr ⟨f2, c1, near_up hl0 c2⟩), f1, f2, ⟨_, rfl⟩, by rw [hy]; exact g3, ?_, ?_, fun r hr => ?_⟩, by omega⟩
    · rw [List.length_append]
      have := bitc_or f1 hg0 c1
      simp only [List.length_cons, List.length_nil]
      omega
    · rw [List.length_append]
      omega
    · rw [List.append_assoc]
      exact h9 (g :: r) ⟨hg, hl, hr⟩
theorem RS_top {wy hb L0 g : Nat} (hl : lst (P0 w h bar U rich Y wy hb L0) g) : RS w h bar U rich Y wy hb L0 [g] g g (L0 - lft w h bar U 0 g) ∧ lft w h bar U 0 g ≤ L0 := by
  obtain ⟨g1, g2, y, g3, g4⟩ := hl.1
  obtain ⟨f1, f2⟩ := flS_mem.mp g1
  have hg0 : g ≠ 0 := by have := isFd_pos f2; omega
  have hy : L0 - lft w h bar U 0 g = y := by omega
  obtain ⟨i, hi⟩ := z_nz hg0
  exact ⟨⟨f1, f2, f1, f2, ⟨0, (Nat.zero_or g).symm⟩, by rw [hy]; exact g3, bitc_pos hi _ (bit_lt f1 hi), Nat.le_refl 1, fun r hr => ⟨hl, hr⟩⟩, by omega⟩
theorem P0_ex {wy hb L0 : Nat} (hT : LTop w h bar U rich Y true wy hb = some L0) : ∃ g, P0 w h bar U rich Y wy hb L0 g := by
  obtain ⟨g, g1, g2⟩ := mL_some hT
  refine ⟨g, g1, ?_⟩
  split at g2
  · rename_i q
    refine ⟨q, ?_⟩
    cases e : LDP w h bar U rich Y true wy hb g g with
    | none => rw [e] at g2; cases g2
    | some y =>
      rw [e] at g2
      change some (lft w h bar U 0 g + y) = some L0 at g2
      cases g2
      exact ⟨y, rfl, rfl⟩
  · cases g2
theorem dn_pw (p : Nat → Bool) : ∀ k, (dn p k).Pairwise (· > ·)
  | 0 => List.Pairwise.nil
  | k + 1 => by
    rw [dn]
    split
    · show (k :: dn p k).Pairwise (· > ·)
      refine List.Pairwise.cons (fun a ha => ?_) (dn_pw p k)
      exact ((dn_mem k).mp ha).1
    · exact dn_pw p k
theorem sLx_pw {had i j : Nat} (hij : i < j) (hj : j < (sLx w h bar had).length) : (sLx w h bar had).getD j 0 < (sLx w h bar had).getD i 0 := by
  have hp : (sLx w h bar had).Pairwise (· > ·) := by
    unfold sLx
    split
    · exact dn_pw _ _
    · exact List.Pairwise.nil
  rw [List.pairwise_iff_getElem] at hp
  have e := hp i j (by omega) hj hij
  rw [List.getD_eq_getElem?_getD, List.getD_eq_getElem?_getD, List.getElem?_eq_getElem hj, List.getElem?_eq_getElem (show i < (sLx w h bar had).length by omega)]
  exact e
def Pg (w h bar U rich : Nat) (Y : Nat → Nat) (wy hb had last left g : Nat) : Prop := g ∈ sLx w h bar had ∧ nearN w h last &&& g ≠ 0 ∧ okH w h U hb g = true ∧ ∃ y, LDP w h bar U rich Y true wy hb (had ||| g) g = some y ∧ lft w h bar U last g + y = left
theorem s_leastNext {wy hb had last left : Nat} {al wa mo : Int32} {fn fs fy fb ss nx va : Nat → Int32} {Q : Int32 → Prop} (k : okS w h) (hT : TB w h bar U Y rich al wa mo fn fs fy fb) (hS : STP w h bar ss nx) (hv : VOK w h bar (fun a g => eO 1048576 (vL w h (okH w h U hb) (LDP w h bar U rich Y true wy hb) a g)) 0 va) (hh : had < 2 ^ (w * h)) (hl : last < 2 ^ (w * h)) (hle : left ≤ 40000) (hex : ∃ g, Pg w h bar U rich Y wy hb had last left g) (hQ : ∀ g, lst (Pg w h bar U rich Y wy hb had last left) g → Q (nI g)) : wp_X1_leastNext (nI had) (nI last) (nI left) al fn fb ss nx va Q := by
  have hp := pow10 k
  have h4 := st_4096 (bar := bar) k
  have hst := st_mono (w := w) (h := h) (bar := bar) (show had + 1 ≤ 2 ^ (w * h) by omega)
  have hst2 : st w h bar (had + 1) = st w h bar had + (sLx w h bar had).length := rfl
  unfold wp_X1_leastNext
  have e1 : nI had + 1 = nI (had + 1) := nI_1 had
  rw [e1, z_cl (show had + 1 < 2 ^ 31 by omega), hS.1 (had + 1) (by omega)]
  refine s_nextTo k hT hl ⟨pk_in (had + 1) 1025 (by omega), fun y2 e2 => ?_⟩
  have hidx : ∀ g, g ∈ sLx w h bar had → ∃ j, j < (sLx w h bar had).length ∧ (sLx w h bar had).getD j 0 = g := by
    intro g hg
    obtain ⟨j, hj, e⟩ := List.getElem_of_mem hg
    refine ⟨j, hj, ?_⟩
    rw [List.getD_eq_getElem?_getD, List.getElem?_eq_getElem hj]
    exact e
  unfold lp_X1_leastNext_25
  refine ⟨fun m x5 => ∃ j, j ≤ (sLx w h bar had).length ∧ m = j ∧ x5 = nI (st w h bar had + j) - 1 ∧ ∀ j', j ≤ j' → j' < (sLx w h bar had).length → ¬ Pg w h bar U rich Y wy hb had last left ((sLx w h bar had).getD j' 0), ⟨_, (sLx w h bar had).length, Nat.le_refl _, rfl, by rw [e2, hst2], fun j' h1 h2 => by omega⟩, ?_⟩
  rintro m x5 ⟨j, hj, rfl, rfl, hno⟩
  unfold bd_X1_leastNext_25 bk_X1_leastNext_87
  rw [z_cl (show had < 2 ^ 31 by omega), hS.1 had (by omega)]
  refine ⟨pk_in had 1025 (by omega), ?_⟩
  rcases Nat.eq_zero_or_pos m with e | e
  · exfalso
    obtain ⟨g, hg⟩ := hex
    obtain ⟨j', h1, h2⟩ := hidx g hg.1
    have := hno j' (by omega) h1
    rw [h2] at this
    exact this hg
  · obtain ⟨i, rfl⟩ : ∃ i, m = i + 1 := ⟨m - 1, by omega⟩
    have e3 : nI (st w h bar had + (i + 1)) - 1 = nI (st w h bar had + i) := by
      rw [z_minus1 (by omega)]
      congr 1
    rw [e3]
    refine pk_lt (st w h bar had + i) (st w h bar had) (fun q => by omega) (fun _ => ⟨pk_in (st w h bar had + i) 4096 (by omega), fun y4 e4 => ?_⟩) rfl rfl
    have hi' : i < (sLx w h bar had).length := by omega
    rw [z_cl (show st w h bar had + i < 2 ^ 31 by omega), hS.2 had hh i hi'] at e4
    subst e4
    obtain ⟨g, hg⟩ : ∃ g, (sLx w h bar had).getD i 0 = g := ⟨_, rfl⟩
    obtain ⟨hgp, hgl⟩ := sLx_at hi'
    have hvj := VOK_at hv (Nat.zero_le had) hh hi'
    rw [hg] at hgp hgl hvj
    have hgm : g ∈ sLx w h bar had := by
      rw [← hg, List.getD_eq_getElem?_getD, List.getElem?_eq_getElem hi']
      exact List.getElem_mem hi'
    rw [hg]
    have hskip : ¬ Pg w h bar U rich Y wy hb had last left g → ∀ y6, y6 = nI (st w h bar had + i) + (-1) → ∃ n', n' < i + 1 ∧ ∃ j, j ≤ (sLx w h bar had).length ∧ n' = j ∧ y6 = nI (st w h bar had + j) - 1 ∧ ∀ j', j ≤ j' → j' < (sLx w h bar had).length → ¬ Pg w h bar U rich Y wy hb had last left ((sLx w h bar had).getD j' 0) := by
      intro hng y6 e6
      refine ⟨i, by omega, i, by omega, rfl, by rw [e6, Int32.sub_eq_add_neg], fun j' h1 h2 => ?_⟩
      by_cases ej : j' = i
      · rw [ej, hg]
        exact hng
      · exact hno j' (by omega) h2
    have hna : nearN w h last &&& g < 2 ^ 31 := Nat.lt_of_le_of_lt Nat.and_le_right (by omega)
    rw [z_and]
    refine pk_eq (nearN w h last &&& g) 0 (fun q y6 e6 => hskip (fun y => y.2.1 q) y6 e6) (fun q => ?_) rfl rfl
    unfold wp_X3_liftedTo
    have t1 : fn g = nI (nda w h bar U g) := (hT.2.2.2 g hgl).1
    have t2 : fn last = nI (nda w h bar U last) := (hT.2.2.2 last hl).1
    rw [z_cl (show g < 2 ^ 31 by omega), z_cl (show last < 2 ^ 31 by omega), t1, t2, z_andn]
    have hpl := pc_le (Nat.lt_of_le_of_lt (andn_le (nda w h bar U g) (nda w h bar U last)) (nda_lt k hgl))
    refine ⟨pk_in g 1024 (by omega), pk_in last 1024 (by omega), s_bitCount (Nat.lt_of_le_of_lt (andn_le _ _) (nda_lt k hgl)) ⟨pk_in (st w h bar had + i) 4096 (by omega), ?_⟩⟩
    rw [z_cl (show st w h bar had + i < 2 ^ 31 by omega), hvj]
    have hll : lft w h bar U last g = pc (andn (nda w h bar U g) (nda w h bar U last)) := rfl
    cases eV : vL w h (okH w h U hb) (LDP w h bar U rich Y true wy hb) had g with
    | none =>
      have hne : ¬ Pg w h bar U rich Y wy hb had last left g := by
        intro y
        obtain ⟨_, _, y3, y', y4, _⟩ := y
        unfold vL at eV
        rw [if_pos y3, y4] at eV
        cases eV
      refine ⟨fun _ y6 e6 => hskip hne y6 e6, fun z => ?_⟩
      exfalso
      change nI (pc (andn (nda w h bar U g) (nda w h bar U last))) + nI 1048576 = nI left at z
      rw [nI_add] at z
      have := z_inj (by omega) (by omega) z
      omega
    | some y =>
      have hok : okH w h U hb g = true := by
        cases eo : okH w h U hb g with
        | true => rfl
        | false =>
          unfold vL at eV
          rw [eo] at eV
          cases eV
      have hD : LDP w h bar U rich Y true wy hb (had ||| g) g = some y := by
        unfold vL at eV
        rw [if_pos hok] at eV
        exact eV
      have hyb := LDP_bd k hD
      show (¬ nI (pc (andn (nda w h bar U g) (nda w h bar U last))) + nI y = nI left → _) ∧ (nI (pc (andn (nda w h bar U g) (nda w h bar U last))) + nI y = nI left → _)
      rw [nI_add]
      refine pk_eq (pc (andn (nda w h bar U g) (nda w h bar U last)) + y) left (fun q2 => ?_) (fun q2 y6 e6 => hskip (fun yy => ?_) y6 e6) rfl rfl |>.symm
      · refine hQ g ⟨⟨hgm, q, hok, y, hD, q2⟩, fun g' hg' => ?_⟩
        obtain ⟨j', h1, h2⟩ := hidx g' hg'.1
        apply Classical.byContradiction
        intro q3
        rcases Nat.lt_trichotomy i j' with y1 | y1 | y1
        · have := hno j' (by omega) h1
          rw [h2] at this
          exact this hg'
        · rw [← y1, hg] at h2
          omega
        · have := sLx_pw y1 hi'
          rw [h2, hg] at this
          omega
      · obtain ⟨_, _, _, y', y4, y5⟩ := yy
        rw [hD] at y4
        cases y4
        exact q2 y5
end ROWS
