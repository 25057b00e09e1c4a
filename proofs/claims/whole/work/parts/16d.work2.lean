section WORK2
variable {w h bar U rich : Nat} {Y : Nat → Nat}
theorem isFd_at {g : Nat} : isFd w h bar g = true ↔ 0 < g ∧ g &&& bar = 0 ∧ conn w h g = true := by
  unfold isFd
  simp only [Bool.and_eq_true, beq_iff_eq, decide_eq_true_eq]
  exact ⟨fun q => ⟨q.1.1, q.1.2, q.2⟩, fun q => ⟨⟨q.1, q.2.1⟩, q.2.2⟩⟩
theorem un_fold (k : okS w h) {had g : Nat} (hh : had < 2 ^ (w * h)) (hg : g < 2 ^ (w * h)) (hf : had = 0 ∨ isFd w h bar had = true) (hp : pS w h bar had g = true) : isFd w h bar (had ||| g) = true := by
  obtain ⟨p1, p2, p3⟩ := pS_at.mp hp
  rcases hf with e | e
  · rw [e, Nat.zero_or]
    exact p1
  · obtain ⟨a1, a2, a3⟩ := isFd_at.mp e
    obtain ⟨b1, b2, b3⟩ := isFd_at.mp p1
    unfold nearN at p3
    rw [if_neg (by omega)] at p3
    have h0 : had ≤ had ||| g := Nat.left_le_or
    refine isFd_at.mpr ⟨by omega, ?_, conn_un k hh a1 a3 hg b1 b3 (by rw [Nat.and_comm]; exact p2) p3⟩
    rw [Nat.and_or_distrib_right, a2, b2]
    rfl
theorem bes_or (a b : Nat) : bes w h (a ||| b) = bes w h a ||| bes w h b := orF_or _ _ _ _
theorem near_up {had last g : Nat} (hl : last ≠ 0) (hg : bes w h last &&& g ≠ 0) : nearN w h (had ||| last) &&& g ≠ 0 := by
  have h0 : last ≤ had ||| last := Nat.right_le_or
  unfold nearN
  rw [if_neg (by omega), bes_or]
  obtain ⟨i, hi⟩ := z_nz hg
  intro e
  have := z_zero.mp e i
  rw [Nat.testBit_and] at hi this
  rw [Nat.testBit_or] at this
  cases e1 : (bes w h last).testBit i <;> cases e2 : g.testBit i <;> rw [e1, e2] at hi this <;> simp_all
def vL (w h : Nat) (ok : Nat → Bool) (D : Nat → Nat → Option Nat) (had g : Nat) : Option Nat := if ok g then D (had ||| g) g else none
def vW (w h : Nat) (ok : Nat → Bool) (D : Nat → Nat → Nat) (had g : Nat) : Nat := if ok g then D (had ||| g) g else 0
theorem on_eq {ok : Nat → Bool} {cb : Nat → Nat → Nat → Nat} {D : Nat → Nat → Option Nat} {had last : Nat} (hl : last ≠ 0) (hf : isFd w h bar (had ||| last) = true) : mL (onC w h cb (vL w h ok D) (had ||| last) last) (sLx w h bar (had ||| last)) = mL (fun g => if cnd w h ok (had ||| last) last g then (D (had ||| last ||| g) g).map (cb last g) else none) (flS w h bar (2 ^ (w * h))) := by
  have hs : sLx w h bar (had ||| last) = dn (pS w h bar (had ||| last)) (2 ^ (w * h)) := by unfold sLx; rw [if_pos (Or.inr hf)]
  rw [hs, dn_mL (fun g hg => (pS_at.mp hg).1)]
  apply mL_cong
  intro g hg
  have hgf := (flS_mem.mp hg).2
  have hn : nearN w h last = bes w h last := by unfold nearN; rw [if_neg hl]
  by_cases c : cnd w h ok (had ||| last) last g = true
  · obtain ⟨c1, c2, c3⟩ := cnd_dis c
    rw [if_pos c, if_pos (pS_at.mpr ⟨hgf, c1, near_up hl c2⟩)]
    unfold onC vL
    rw [hn, if_neg c2, if_pos c3]
  · rw [if_neg c]
    by_cases p : pS w h bar (had ||| last) g = true
    · rw [if_pos p]
      unfold onC vL
      rw [hn]
      by_cases q : bes w h last &&& g = 0
      · rw [if_pos q]
      · rw [if_neg q]
        have : ok g = false := by
          cases e : ok g with
          | false => rfl
          | true =>
            refine absurd ?_ c
            unfold cnd
            simp only [Bool.and_eq_true, beq_iff_eq, bne_iff_ne, ne_eq]
            exact ⟨⟨(pS_at.mp p).2.1, q⟩, e⟩
        rw [this]
        rfl
    · rw [if_neg p]
theorem onW_eq {ok : Nat → Bool} {D : Nat → Nat → Nat} {had last : Nat} (hl : last ≠ 0) (hf : isFd w h bar (had ||| last) = true) : sumL (onW w h (vW w h ok D) (had ||| last) last) (sLx w h bar (had ||| last)) = sumL (fun g => if cnd w h ok (had ||| last) last g then D (had ||| last ||| g) g else 0) (flS w h bar (2 ^ (w * h))) := by
  have hs : sLx w h bar (had ||| last) = dn (pS w h bar (had ||| last)) (2 ^ (w * h)) := by unfold sLx; rw [if_pos (Or.inr hf)]
  rw [hs, dn_sum (fun g hg => (pS_at.mp hg).1)]
  apply sumL_cong
  intro g hg
  have hgf := (flS_mem.mp hg).2
  have hn : nearN w h last = bes w h last := by unfold nearN; rw [if_neg hl]
  by_cases c : cnd w h ok (had ||| last) last g = true
  · obtain ⟨c1, c2, c3⟩ := cnd_dis c
    rw [if_pos c, if_pos (pS_at.mpr ⟨hgf, c1, near_up hl c2⟩)]
    unfold onW vW
    rw [hn, if_neg c2, if_pos c3]
  · rw [if_neg c]
    by_cases p : pS w h bar (had ||| last) g = true
    · rw [if_pos p]
      unfold onW vW
      rw [hn]
      by_cases q : bes w h last &&& g = 0
      · rw [if_pos q]
      · rw [if_neg q]
        have : ok g = false := by
          cases e : ok g with
          | false => rfl
          | true =>
            refine absurd ?_ c
            unfold cnd
            simp only [Bool.and_eq_true, beq_iff_eq, bne_iff_ne, ne_eq]
            exact ⟨⟨(pS_at.mp p).2.1, q⟩, e⟩
        rw [this]
        rfl
    · rw [if_neg p]
theorem near_0 {g : Nat} (hg : g < 2 ^ (w * h)) : nearN w h 0 &&& g = g := by
  unfold nearN
  rw [if_pos rfl, Nat.and_comm, Nat.and_two_pow_sub_one_eq_mod, Nat.mod_eq_of_lt hg]
theorem pS_0 {g : Nat} (hg : g < 2 ^ (w * h)) (hf : isFd w h bar g = true) : pS w h bar 0 g = true := by
  refine pS_at.mpr ⟨hf, Nat.and_zero g, ?_⟩
  rw [near_0 hg]
  have := isFd_pos hf
  omega
theorem on_top {ok : Nat → Bool} {cb : Nat → Nat → Nat → Nat} {D : Nat → Nat → Option Nat} : mL (onC w h cb (vL w h ok D) 0 0) (sLx w h bar 0) = mL (fun g => if ok g then (D g g).map (cb 0 g) else none) (flS w h bar (2 ^ (w * h))) := by
  have hs : sLx w h bar 0 = dn (pS w h bar 0) (2 ^ (w * h)) := by unfold sLx; rw [if_pos (Or.inl rfl)]
  rw [hs, dn_mL (fun g hg => (pS_at.mp hg).1)]
  apply mL_cong
  intro g hg
  obtain ⟨g1, g2⟩ := flS_mem.mp hg
  have := isFd_pos g2
  rw [if_pos (pS_0 g1 g2)]
  unfold onC vL
  rw [near_0 g1, if_neg (by omega), Nat.zero_or]
  split <;> rfl
theorem onW_top {ok : Nat → Bool} {D : Nat → Nat → Nat} : sumL (onW w h (vW w h ok D) 0 0) (sLx w h bar 0) = sumL (fun g => if ok g then D g g else 0) (flS w h bar (2 ^ (w * h))) := by
  have hs : sLx w h bar 0 = dn (pS w h bar 0) (2 ^ (w * h)) := by unfold sLx; rw [if_pos (Or.inl rfl)]
  rw [hs, dn_sum (fun g hg => (pS_at.mp hg).1)]
  apply sumL_cong
  intro g hg
  obtain ⟨g1, g2⟩ := flS_mem.mp hg
  have := isFd_pos g2
  rw [if_pos (pS_0 g1 g2)]
  unfold onW vW
  rw [near_0 g1, if_neg (by omega), Nat.zero_or]
/-- the three questions, and their values -/
def cbF (w h bar U : Nat) (lf : Bool) (last g v : Nat) : Nat := if lf then cL1 w h bar U last g v else cN1 w h U last g v
def okH (w h U hb : Nat) (g : Nat) : Bool := decide (pc (nds w h U g) ≤ hb)
def LDP (w h bar U rich : Nat) (Y : Nat → Nat) (lf : Bool) (wy hb : Nat) : Nat → Nat → Option Nat := DP (2 ^ (w * h)) none (EL w h rich wy Y (okH w h U hb) (cbF w h bar U lf) (flS w h bar (2 ^ (w * h))))
def WDP (w h bar U rich : Nat) (Y : Nat → Nat) (wy hb : Nat) : Nat → Nat → Nat := DP (2 ^ (w * h)) 0 (EW w h rich wy Y (okH w h U hb) (flS w h bar (2 ^ (w * h))))
def LTop (w h bar U rich : Nat) (Y : Nat → Nat) (lf : Bool) (wy hb : Nat) : Option Nat := mL (fun g => if okH w h U hb g then (LDP w h bar U rich Y lf wy hb g g).map (cbF w h bar U lf 0 g) else none) (flS w h bar (2 ^ (w * h)))
def WTop (w h bar U rich : Nat) (Y : Nat → Nat) (wy hb : Nat) : Nat := sumL (fun g => if okH w h U hb g then WDP w h bar U rich Y wy hb g g else 0) (flS w h bar (2 ^ (w * h))) % 1000000007
theorem cbF_b (k : okS w h) (lf : Bool) : CBb (flS w h bar (2 ^ (w * h))) (cbF w h bar U lf) := by
  intro last g v hg
  have hgl := (flS_mem.mp hg).1
  unfold cbF
  cases lf with
  | true =>
    have := pc_le (Nat.lt_of_le_of_lt (andn_le (nda w h bar U g) (nda w h bar U last)) (nda_lt k hgl))
    show pc _ + v ≤ v + 31
    omega
  | false =>
    have := pc_le (nds_lt k U hgl)
    show (if pc (nds w h U g) < v then v else pc (nds w h U g)) ≤ v + 31
    split <;> omega
theorem LDP_bd (k : okS w h) {lf : Bool} {wy hb had last x : Nat} (e : LDP w h bar U rich Y lf wy hb had last = some x) : x ≤ 31744 := DP_bd (bar := bar) k (cbF_b k lf) e
theorem LDP_eq {lf : Bool} {wy hb had last : Nat} (hh : had < 2 ^ (w * h)) : LDP w h bar U rich Y lf wy hb had last = EL w h rich wy Y (okH w h U hb) (cbF w h bar U lf) (flS w h bar (2 ^ (w * h))) had last (fun g => LDP w h bar U rich Y lf wy hb (had ||| g) g) := DP_eq (EL_C w h rich wy Y _ _ _) hh
theorem WDP_eq {wy hb had last : Nat} (hh : had < 2 ^ (w * h)) : WDP w h bar U rich Y wy hb had last = EW w h rich wy Y (okH w h U hb) (flS w h bar (2 ^ (w * h))) had last (fun g => WDP w h bar U rich Y wy hb (had ||| g) g) := DP_eq (EW_C w h rich wy Y _ _) hh
theorem EW_lt {wy had last : Nat} {ok : Nat → Bool} {fl : List Nat} {k : Nat → Nat} : EW w h rich wy Y ok fl had last k < 1000000007 := Nat.mod_lt _ (by decide)
theorem WDP_lt {wy hb had last : Nat} : WDP w h bar U rich Y wy hb had last < 1000000007 := by
  unfold WDP DP
  cases 2 ^ (w * h) - had with
  | zero => show 0 < _; decide
  | succ d => exact EW_lt
def gI (lf : Bool) : Int32 := if lf then 1 else 0
theorem vL_bd (k : okS w h) {lf : Bool} {wy hb : Nat} : ∀ a g, bdO 31744 (vL w h (okH w h U hb) (LDP w h bar U rich Y lf wy hb) a g) := by
  intro a g x hx
  unfold vL at hx
  split at hx
  · exact LDP_bd k hx
  · cases hx
theorem s_on {lf : Bool} {last had b : Nat} {al wa mo : Int32} {fn fs fy fb ss nx va : Nat → Int32} {vO : Nat → Nat → Option Nat} {Q : Int32 → Prop} (k : okS w h) (hT : TB w h bar U Y rich al wa mo fn fs fy fb) (hS : STP w h bar ss nx) (hv : VOK w h bar (fun a g => eO 1048576 (vO a g)) b va) (hbd : ∀ a g, bdO 31744 (vO a g)) (hb : b ≤ had) (hh : had < 2 ^ (w * h)) (hl : last < 2 ^ (w * h)) (hQ : Q (eO 1048576 (mL (onC w h (cbF w h bar U lf) vO had last) (sLx w h bar had)))) : (lf = true → wp_X1_leastLiftedOn (nI had) (nI last) al fn fb ss nx va Q) ∧ (lf = false → wp_X1_leastNeededOn (nI had) (nI last) al fs fb ss nx va Q) := by
  refine ⟨fun e => ?_, fun e => ?_⟩
  · subst e
    exact s_onL k hT hS hv hbd hb hh hl hQ
  · subst e
    exact s_onN k hT hS hv hbd hb hh hl hQ
theorem s_gone {had : Nat} {al wa mo : Int32} {fn fs fy fb : Nat → Int32} {Q : Int32 → Prop} (hT : TB w h bar U Y rich al wa mo fn fs fy fb) (hri : rich < 2 ^ 31) (hQ : Q (if andn rich had = 0 then 1 else 0)) : wp_X1_isGone (nI had) wa Q := by
  unfold wp_X1_isGone
  rw [hT.2.1, z_andn]
  have hlt : andn rich had < 2 ^ 31 := Nat.lt_of_le_of_lt (andn_le _ _) hri
  by_cases e : andn rich had = 0
  · rw [if_pos e] at hQ
    rw [e]
    exact ⟨fun z => absurd rfl z, fun _ => hQ⟩
  · rw [if_neg e] at hQ
    exact ⟨fun _ => hQ, fun z => absurd z (nI_ne0 (by omega) hlt)⟩
theorem s_behL {lf : Bool} {had g wy hb : Nat} {al wa mo : Int32} {fn fs fy fb ss nx va : Nat → Int32} {Q : Int32 → Prop} (k : okS w h) (hT : TB w h bar U Y rich al wa mo fn fs fy fb) (hri : rich < 2 ^ 31) (hY : ∀ g, Y g ≤ 90) (hwy : wy ≤ 90) (hhb : hb ≤ 60) (hS : STP w h bar ss nx) (hh : had < 2 ^ (w * h)) (hg : g < 2 ^ (w * h)) (hf : had = 0 ∨ isFd w h bar had = true) (hp : pS w h bar had g = true) (hv : VOK w h bar (fun a g => eO 1048576 (vL w h (okH w h U hb) (LDP w h bar U rich Y lf wy hb) a g)) (had + 1) va) (hQ : Q (eO 1048576 (vL w h (okH w h U hb) (LDP w h bar U rich Y lf wy hb) had g))) : wp_X1_leastBehind (gI lf) (nI (had ||| g)) (nI g) (nI wy) (nI hb) al wa fn fs fy fb ss nx va Q := by
  have hp1 := pow10 k
  obtain ⟨p1, p2, p3⟩ := pS_at.mp hp
  have hg0 : g ≠ 0 := by have := isFd_pos p1; omega
  have hgt := or_gt hg0 p2
  have hul := Nat.or_lt_two_pow hh hg
  have huf := un_fold k hh hg hf hp
  have hpc := pc_le (nds_lt k U hg)
  have hYg := hY g
  have hin := pk_in g 1024 (by omega)
  unfold wp_X1_leastBehind
  rw [z_cl (show g < 2 ^ 31 by omega), (hT.2.2.2 g hg).2.1, (hT.2.2.2 g hg).2.2.1, if_pos p1]
  unfold vL okH at hQ
  refine ⟨hin, pk_le (pc (nds w h U g)) hb (fun q => s_gone hT hri ?_) (fun q => ?_) rfl rfl⟩
  · rw [decide_eq_true q, if_pos rfl, LDP_eq hul] at hQ
    unfold EL at hQ
    by_cases e : andn rich (had ||| g) = 0
    · rw [if_pos e] at hQ
      rw [if_pos e]
      exact ⟨fun z => absurd z (by decide), fun _ => hQ⟩
    · rw [if_neg e] at hQ
      rw [if_neg e]
      refine ⟨fun _ => ⟨hin, pk_le wy (Y g) (fun q2 => ?_) (fun q2 => ?_) rfl rfl⟩, fun z => absurd rfl z⟩
      · rw [if_neg (by omega)] at hQ
        have hon := on_eq (ok := okH w h U hb) (cb := cbF w h bar U lf) (D := LDP w h bar U rich Y lf wy hb) hg0 huf
        have := s_on (lf := lf) (Q := Q) k hT hS hv (vL_bd k) (by omega) hul hg (by rw [hon]; exact hQ)
        cases lf with
        | true => exact ⟨fun _ => this.1 rfl, fun z => absurd z (by decide)⟩
        | false => exact ⟨fun z => absurd rfl z, fun _ => this.2 rfl⟩
      · rw [if_pos q2] at hQ
        exact hQ
  · rw [decide_eq_false (by omega), if_neg (by decide)] at hQ
    exact hQ
theorem s_behW {had g wy hb : Nat} {al wa mo : Int32} {fn fs fy fb ss nx va : Nat → Int32} {Q : Int32 → Prop} (k : okS w h) (hT : TB w h bar U Y rich al wa mo fn fs fy fb) (hri : rich < 2 ^ 31) (hY : ∀ g, Y g ≤ 90) (hwy : wy ≤ 90) (hhb : hb ≤ 60) (hS : STP w h bar ss nx) (hh : had < 2 ^ (w * h)) (hg : g < 2 ^ (w * h)) (hf : had = 0 ∨ isFd w h bar had = true) (hp : pS w h bar had g = true) (hv : VOK w h bar (fun a g => nI (vW w h (okH w h U hb) (WDP w h bar U rich Y wy hb) a g)) (had + 1) va) (hQ : Q (nI (vW w h (okH w h U hb) (WDP w h bar U rich Y wy hb) had g))) : wp_X1_waysBehind (nI (had ||| g)) (nI g) (nI wy) (nI hb) al wa fs fy fb ss nx va Q := by
  have hp1 := pow10 k
  obtain ⟨p1, p2, p3⟩ := pS_at.mp hp
  have hg0 : g ≠ 0 := by have := isFd_pos p1; omega
  have hgt := or_gt hg0 p2
  have hul := Nat.or_lt_two_pow hh hg
  have huf := un_fold k hh hg hf hp
  have hpc := pc_le (nds_lt k U hg)
  have hYg := hY g
  have hin := pk_in g 1024 (by omega)
  have hbW : ∀ a g, vW w h (okH w h U hb) (WDP w h bar U rich Y wy hb) a g < 1000000007 := by
    intro a g
    unfold vW
    split
    · exact WDP_lt
    · decide
  unfold wp_X1_waysBehind
  rw [z_cl (show g < 2 ^ 31 by omega), (hT.2.2.2 g hg).2.1, if_pos p1]
  unfold vW okH at hQ
  refine ⟨hin, pk_le (pc (nds w h U g)) hb (fun q => s_gone hT hri ?_) (fun q => ?_) rfl rfl⟩
  · rw [decide_eq_true q, if_pos rfl, WDP_eq hul] at hQ
    unfold EW at hQ
    have h31 : ∀ en : Nat, en ≤ 1 → Q (nI ((en + (if Y g < wy then 0 else sumL (fun g_1 => if cnd w h (okH w h U hb) (had ||| g) g g_1 = true then WDP w h bar U rich Y wy hb (had ||| g ||| g_1) g_1 else 0) (flS w h bar (2 ^ (w * h))))) % 1000000007)) → bk_X1_waysBehind_31 Q (nI (had ||| g)) (nI g) (nI wy) al fy fb ss nx va (nI en) := by
      intro en hen hQ'
      unfold bk_X1_waysBehind_31
      rw [z_cl (show g < 2 ^ 31 by omega), (hT.2.2.2 g hg).2.2.1]
      refine ⟨hin, pk_le wy (Y g) (fun q2 => ?_) (fun q2 => ?_) rfl rfl⟩
      · rw [if_neg (by omega)] at hQ'
        have hon := onW_eq (ok := okH w h U hb) (D := WDP w h bar U rich Y wy hb) hg0 huf
        refine s_onW k hT hS hv hbW (by omega) hul hg ?_
        rw [hon]
        have h1 := Nat.mod_lt (sumL (fun g_1 => if cnd w h (okH w h U hb) (had ||| g) g g_1 = true then WDP w h bar U rich Y wy hb (had ||| g ||| g_1) g_1 else 0) (flS w h bar (2 ^ (w * h)))) (show 0 < 1000000007 by decide)
        rw [nI_add, z_modI (by omega), Nat.add_mod_mod]
        exact hQ'
      · rw [if_pos q2, Nat.add_zero, Nat.mod_eq_of_lt (by omega)] at hQ'
        exact hQ'
    by_cases e : andn rich (had ||| g) = 0
    · rw [if_pos e] at hQ
      rw [if_pos e]
      exact ⟨fun z => absurd z (by decide), fun _ => h31 1 (by decide) hQ⟩
    · rw [if_neg e] at hQ
      rw [if_neg e]
      exact ⟨fun _ => h31 0 (by decide) hQ, fun z => absurd rfl z⟩
  · rw [decide_eq_false (by omega), if_neg (by decide)] at hQ
    exact hQ
theorem s_workOut {vE : Nat → Nat → Int32} {p1 p2 p3 : Int32} {af : Nat} {li : Option Nat} {al wa mo : Int32} {fn fs fy fb ss nx va : Nat → Int32} {Q : (Int32 × Int32 × Option Nat × (Nat → Int32) × (Nat → Int32) × (Nat → Int32)) → Prop} (k : okS w h) (hT : TB w h bar U Y rich al wa mo fn fs fy fb) (hli : li = some af → STP w h bar ss nx) (hBeh : ∀ ss nx had g va, STP w h bar ss nx → had < 2 ^ (w * h) → g < 2 ^ (w * h) → (had = 0 ∨ isFd w h bar had = true) → pS w h bar had g = true → VOK w h bar vE (had + 1) va → ∀ Q' : Int32 → Prop, Q' (vE had g) → ((¬ p1 = 2 → wp_X1_leastBehind p1 (nI (had ||| g)) (nI g) p2 p3 al wa fn fs fy fb ss nx va Q') ∧ (p1 = 2 → wp_X1_waysBehind (nI (had ||| g)) (nI g) p2 p3 al wa fs fy fb ss nx va Q'))) (hQ : ∀ ss' nx' va', STP w h bar ss' nx' → VOK w h bar vE 0 va' → Q (p2, p3, some af, ss', nx', va')) : wp_X1_workOut af p1 p2 p3 al wa fn fs fy fb li ss nx va Q := by
  have hp := pow10 k
  have hp0 := Nat.two_pow_pos (w * h)
  have h4 := st_4096 (bar := bar) k
  unfold wp_X1_workOut
  refine s_clist k hT hli (fun ss nx hS => ?_)
  show lp_X1_workOut_30 Q p1 p2 p3 al wa fn fs fy fb (some af) ss nx va al
  have hal := hT.1
  unfold lp_X1_workOut_30
  refine ⟨fun m va x4 => ∃ c, c ≤ 2 ^ (w * h) ∧ m = c ∧ x4 = nI c - 1 ∧ VOK w h bar vE c va, ⟨_, 2 ^ (w * h), Nat.le_refl _, rfl, ?_, fun h' h1 h2 => by omega⟩, ?_⟩
  · rw [hal, z_minus1 hp0]
  rintro m va x4 ⟨c, hc, rfl, rfl, hv⟩
  unfold bd_X1_workOut_30
  rcases Nat.eq_zero_or_pos m with e | e
  · subst e
    exact ⟨fun _ => hQ ss nx va hS hv, fun z => absurd (by decide) z⟩
  · obtain ⟨had, rfl⟩ : ∃ had, m = had + 1 := ⟨m - 1, by omega⟩
    have e1 : nI (had + 1) - 1 = nI had := by rw [z_minus1 (by omega)]; rfl
    have e2 : nI had + 1 = nI (had + 1) := nI_1 had
    have hst := st_mono (w := w) (h := h) (bar := bar) hc
    rw [e1]
    refine ⟨fun z => absurd z (nI_nlt (b := 0) (by omega) (by omega)), fun _ => ⟨pk_in had 1025 (by omega), fun y3 e3 => ?_⟩⟩
    rw [z_cl (by omega), hS.1 had (by omega)] at e3
    subst e3
    unfold lp_X1_workOut_47
    refine ⟨fun m va x5 => ∃ j, j ≤ (sLx w h bar had).length ∧ m = (sLx w h bar had).length - j ∧ x5 = nI (st w h bar had + j) ∧ VOK w h bar vE (had + 1) va ∧ ∀ i, i < j → va (st w h bar had + i) = vE had ((sLx w h bar had).getD i 0), ⟨_, 0, Nat.zero_le _, rfl, rfl, hv, fun i hi => absurd hi (Nat.not_lt_zero i)⟩, ?_⟩
    clear hv
    rintro m va x5 ⟨j, hj, rfl, rfl, hv, hvi⟩
    rw [st] at hst
    unfold bd_X1_workOut_47
    rw [e2, z_cl (show had + 1 < 2 ^ 31 by omega), hS.1 (had + 1) (by omega), st]
    refine ⟨pk_in (had + 1) 1025 (by omega), pk_le _ _ (fun q y5 e5 => ⟨had, by omega, had, by omega, rfl, ?_, fun h' h1 h2 i hi => ?_⟩) (fun q => ⟨pk_in (st w h bar had + j) 4096 (by omega), fun y6 e6 => ?_⟩) rfl rfl⟩
    · rw [e5, Int32.sub_eq_add_neg]
    · by_cases eh : h' = had
      · subst eh
        exact hvi i (by omega)
      · exact hv h' (by omega) h2 i hi
    · have hj' : j < (sLx w h bar had).length := by omega
      rw [z_cl (by omega), hS.2 had (by omega) j hj'] at e6
      subst e6
      obtain ⟨g, hg⟩ : ∃ g, (sLx w h bar had).getD j 0 = g := ⟨_, rfl⟩
      obtain ⟨hgp, hgl⟩ := sLx_at hj'
      rw [hg] at hgp hgl ⊢
      have hf : had = 0 ∨ isFd w h bar had = true := by
        apply Classical.byContradiction
        intro y
        unfold sLx at hj'
        rw [if_neg y] at hj'
        exact absurd hj' (Nat.not_lt_zero j)
      rw [z_or]
      have hfin : ∀ B30 : (Nat → Int32) → Int32 → Prop, bk_X1_workOut_116 Q B30 (fun s_values' x5' => ∃ n', n' < (sLx w h bar had).length - j ∧ ∃ j, j ≤ (sLx w h bar had).length ∧ n' = (sLx w h bar had).length - j ∧ x5' = nI (st w h bar had + j) ∧ VOK w h bar vE (had + 1) s_values' ∧ ∀ i, i < j → s_values' (st w h bar had + i) = vE had ((sLx w h bar had).getD i 0)) (nI (st w h bar had + j)) va (vE had g) (nI (st w h bar had + j)) := by
        intro B30
        unfold bk_X1_workOut_116
        refine ⟨pk_in (st w h bar had + j) 4096 (by omega), fun f9 e9 y10 e10 => ⟨(sLx w h bar had).length - (j + 1), by omega, j + 1, by omega, rfl, by rw [e10, nI_1]; congr 1, fun h' h1 h2 i hi => ?_, fun i hi => ?_⟩⟩
        · have h5 := st_mono (w := w) (h := h) (bar := bar) h1
          rw [st] at h5
          rw [e9, z_cl (by omega), z_upd_ne _ _ (by omega)]
          exact hv h' h1 h2 i hi
        · rw [e9, z_cl (by omega)]
          by_cases ei : i = j
          · rw [ei, z_upd_eq, hg]
          · rw [z_upd_ne _ _ (by omega)]
            exact hvi i (by omega)
      exact hBeh ss nx had g va hS (by omega) hgl hf hgp hv _ (hfin _) |>.imp (fun a b => a b) (fun a b => a b)
end WORK2
