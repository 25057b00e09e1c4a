section STEPS
variable {w h bar : Nat}
def nearN (w h had : Nat) : Nat := if had = 0 then 2 ^ (w * h) - 1 else bes w h had
def pS (w h bar had g : Nat) : Bool := isFd w h bar g && (g &&& had == 0) && (nearN w h had &&& g != 0)
def sLx (w h bar had : Nat) : List Nat := if had = 0 ∨ isFd w h bar had = true then dn (pS w h bar had) (2 ^ (w * h)) else []
def st (w h bar : Nat) : Nat → Nat
  | 0 => 0
  | k + 1 => st w h bar k + (sLx w h bar k).length
theorem pS_at {had g : Nat} : pS w h bar had g = true ↔ isFd w h bar g = true ∧ g &&& had = 0 ∧ nearN w h had &&& g ≠ 0 := by
  unfold pS
  simp only [Bool.and_eq_true, beq_iff_eq, bne_iff_ne, ne_eq]
  exact ⟨fun q => ⟨q.1.1, q.1.2, q.2⟩, fun q => ⟨⟨q.1, q.2.1⟩, q.2.2⟩⟩
theorem cntL_eq (p : Nat → Bool) : ∀ (l : List Nat) (n : Nat), cntL p l n = n + l.countP p
  | [], n => rfl
  | x :: l, n => by
    rw [cntL, force_eq, cntL_eq p l, List.countP_cons]
    split <;> omega
theorem stpL_eq {f : Nat → Nat → Nat} {C : Nat → Nat} : ∀ (l : List Nat) (n : Nat), (∀ a, a ∈ l → ∀ n, f a n = n + C a) → stpL f l n = n + sumL C l
  | [], n, _ => rfl
  | x :: l, n, h => by
    rw [stpL, force_eq, h x List.mem_cons_self, stpL_eq l _ (fun a ha => h a (List.mem_cons_of_mem x ha))]
    show n + C x + sumL C l = n + (C x + sumL C l)
    omega
theorem dn_len (p : Nat → Bool) : ∀ k, (dn p k).length = (List.range k).countP p
  | 0 => rfl
  | k + 1 => by
    rw [dn, List.length_append, dn_len p k, List.range_succ, List.countP_append]
    simp only [List.countP_cons, List.countP_nil]
    split <;> simp_all <;> omega
def Cc (w h a : Nat) : Nat := (clT w h).countP (fun b => a &&& b == 0 && bes w h a &&& b != 0)
theorem Cc_sum (k : okS w h) : (clT w h).length + sumL (Cc w h) (clT w h) ≤ 4096 := by
  have h1 := allS_at geo_steps k
  unfold withM at h1
  rw [force_eq, force_eq, force_eq] at h1
  have h2 := of_decide_eq_true h1
  rw [stpL_eq (C := Cc w h)] at h2
  · exact h2
  · intro a ha n
    rw [force_eq, cntL_eq, besX_eq k ((cl_mem k).mp ha).1]
    rfl
theorem sLx_len (k : okS w h) (had : Nat) : (had = 0 → (sLx w h bar had).length ≤ (clT w h).length) ∧ (had ≠ 0 → (sLx w h bar had).length ≤ Cc w h had) := by
  have hcl : ∀ p : Nat → Bool, (clT w h).countP p = (List.range (2 ^ (w * h))).countP (fun b => p b && (0 < b && conn w h b)) := by
    intro p
    rw [cl_eq k, List.countP_filter]
  have hfd : ∀ g, isFd w h bar g = true → (decide (0 < g) && conn w h g) = true := by
    intro g hg
    simp only [isFd, Bool.and_eq_true] at hg ⊢
    exact ⟨hg.1.1, hg.2⟩
  constructor
  · intro e
    unfold sLx
    rw [if_pos (Or.inl e), dn_len]
    have h1 : (clT w h).length = (clT w h).countP (fun _ => true) := by simp
    rw [h1, hcl]
    apply List.countP_mono_left
    intro g _ hg
    rw [Bool.true_and]
    exact hfd g (pS_at.mp hg).1
  · intro e
    unfold sLx
    by_cases hf : had = 0 ∨ isFd w h bar had = true
    · rw [if_pos hf, dn_len]
      unfold Cc
      rw [hcl]
      apply List.countP_mono_left
      intro g _ hg
      obtain ⟨g1, g2, g3⟩ := pS_at.mp hg
      rw [hfd g g1, Bool.and_true]
      unfold nearN at g3
      rw [if_neg e] at g3
      simp only [Bool.and_eq_true, beq_iff_eq, bne_iff_ne, ne_eq]
      exact ⟨by rw [Nat.and_comm]; exact g2, g3⟩
    · rw [if_neg hf]
      exact Nat.zero_le _
theorem st_le (k : okS w h) : ∀ j, st w h bar j ≤ (if 0 < j then (clT w h).length else 0) + sumL (Cc w h) ((List.range j).filter (fun s => 0 < s && conn w h s))
  | 0 => Nat.zero_le _
  | j + 1 => by
    have ih := st_le k j
    obtain ⟨s1, s2⟩ := sLx_len (bar := bar) k j
    rw [st, List.range_succ, List.filter_append, sumL_app, if_pos (by omega)]
    rcases Nat.eq_zero_or_pos j with e | e
    · subst e
      have := s1 rfl
      rw [if_neg (by omega)] at ih
      omega
    · rw [if_pos e] at ih
      by_cases hf : isFd w h bar j = true
      · have hc : (decide (0 < j) && conn w h j) = true := by
          simp only [isFd, Bool.and_eq_true] at hf ⊢
          exact ⟨hf.1.1, hf.2⟩
        have h1 : sumL (Cc w h) (List.filter (fun s => decide (0 < s) && conn w h s) [j]) = Cc w h j := by
          rw [List.filter_cons, if_pos hc]
          rfl
        rw [h1]
        have := s2 (by omega)
        omega
      · have h1 : (sLx w h bar j).length = 0 := by
          unfold sLx
          rw [if_neg (fun y => by rcases y with y | y; omega; exact hf y)]
          rfl
        omega
theorem st_4096 (k : okS w h) : st w h bar (2 ^ (w * h)) ≤ 4096 := by
  have h1 := st_le (bar := bar) k (2 ^ (w * h))
  rw [if_pos (Nat.two_pow_pos _), ← cl_eq k] at h1
  have := Cc_sum k
  omega
theorem st_mono {a b : Nat} (hab : a ≤ b) : st w h bar a ≤ st w h bar b := by
  induction b with
  | zero =>
    rw [show a = 0 by omega]
    exact Nat.le_refl _
  | succ b ih =>
    by_cases e : a = b + 1
    · rw [e]
      exact Nat.le_refl _
    · have := ih (by omega)
      rw [st]
      omega
theorem sLx_at {had j : Nat} (hj : j < (sLx w h bar had).length) : pS w h bar had ((sLx w h bar had).getD j 0) = true ∧ (sLx w h bar had).getD j 0 < 2 ^ (w * h) := by
  have hm : (sLx w h bar had).getD j 0 ∈ sLx w h bar had := by
    rw [List.getD_eq_getElem?_getD, List.getElem?_eq_getElem hj]
    exact List.getElem_mem hj
  unfold sLx at hm ⊢
  split at hm
  · rename_i q
    rw [if_pos q] at *
    have := (dn_mem _).mp hm
    exact ⟨this.2, this.1⟩
  · cases hm
/-- the table, as the steps need it -/
def TB (w h bar U : Nat) (Y : Nat → Nat) (rich : Nat) (al wa mo : Int32) (fn fs fy fb : Nat → Int32) : Prop :=
  al = nI (2 ^ (w * h) - 1) ∧ wa = nI rich ∧ mo = nI (mxS w h bar U (2 ^ (w * h))) ∧
  ∀ g, g < 2 ^ (w * h) → fn g = nI (if isFd w h bar g then nds w h U g else 0) ∧ (fs g = if isFd w h bar g then nI (pc (nds w h U g)) else -1) ∧ fy g = nI (Y g) ∧ fb g = nI (bes w h g)
theorem TB_of {H : Nat} {sq : Nat → Nat} {pl : Bool} {al wa mo : Int32} {fn fs fy fb : Nat → Int32} (hT : TabOK w h H sq pl al wa mo fn fs fy fb) : TB w h (barP pl sq (w * h)) (unnP w h H pl sq (w * h)) (sumF (yd sq) (w * h)) (mk (pRich sq) (w * h)) al wa mo fn fs fy fb := hT
theorem s_nextTo {U rich had : Nat} {Y : Nat → Nat} {al wa mo : Int32} {fn fs fy fb : Nat → Int32} {Q : Int32 → Prop} (k : okS w h) (hT : TB w h bar U Y rich al wa mo fn fs fy fb) (hh : had < 2 ^ (w * h)) (hQ : Q (nI (nearN w h had))) : wp_X3_nextTo (nI had) al fb Q := by
  have hp := pow10 k
  unfold wp_X3_nextTo
  unfold nearN at hQ
  refine ⟨fun z => ⟨pk_in had 1024 (by omega), ?_⟩, fun z => ?_⟩
  · rw [if_neg (fun e => z (by rw [e]; rfl))] at hQ
    rw [z_cl (by omega), (hT.2.2.2 had hh).2.2.2]
    exact hQ
  · rw [if_pos (z_inj (b := 0) (by omega) (by decide) z)] at hQ
    rw [hT.1]
    exact hQ
theorem nearN_lt (k : okS w h) {had : Nat} : nearN w h had < 2 ^ (w * h) := by
  unfold nearN
  have := Nat.two_pow_pos (w * h)
  split
  · omega
  · exact bes_lt k had
theorem s_fold {U rich g : Nat} {Y : Nat → Nat} {al wa mo : Int32} {fn fs fy fb : Nat → Int32} {Q : Int32 → Prop} (k : okS w h) (hT : TB w h bar U Y rich al wa mo fn fs fy fb) (hg : g < 2 ^ (w * h)) (hQ : Q (if isFd w h bar g then 1 else 0)) : wp_X3_isFold (nI g) fs Q := by
  have hp := pow10 k
  unfold wp_X3_isFold
  rw [z_cl (by omega), (hT.2.2.2 g hg).2.1]
  refine ⟨pk_in g 1024 (by omega), ?_⟩
  by_cases e : isFd w h bar g = true
  · have := pc_le (nds_lt k U hg)
    rw [if_pos e] at hQ ⊢
    exact ⟨fun z => absurd z (z_m1 (by omega)), fun _ => hQ⟩
  · rw [if_neg e] at hQ ⊢
    exact ⟨fun _ => hQ, fun z => absurd rfl z⟩
theorem s_listBehind {U rich had c0 : Nat} {Y : Nat → Nat} {al wa mo : Int32} {fn fs fy fb nx : Nat → Int32} {Q : Int32 → ((Nat → Int32)) → Prop} (k : okS w h) (hT : TB w h bar U Y rich al wa mo fn fs fy fb) (hh : had < 2 ^ (w * h)) (hcap : c0 + (dn (pS w h bar had) (2 ^ (w * h))).length ≤ 4096) (hQ : ∀ nx', (∀ j, j < (dn (pS w h bar had) (2 ^ (w * h))).length → nx' (c0 + j) = nI ((dn (pS w h bar had) (2 ^ (w * h))).getD j 0)) → (∀ j, j < c0 → nx' j = nx j) → Q (nI (c0 + (dn (pS w h bar had) (2 ^ (w * h))).length)) nx') : wp_X7_listBehind (nI had) (nI c0) nx al fs fb Q := by
  have hp := pow10 k
  have hp0 := Nat.two_pow_pos (w * h)
  unfold wp_X7_listBehind
  refine s_nextTo k hT hh (fun y2 e2 => ?_)
  rw [hT.1, z_andn] at e2
  subst e2
  obtain ⟨p, hpd⟩ : ∃ p, pS w h bar had = p := ⟨_, rfl⟩
  have hpa : ∀ g, p g = true ↔ isFd w h bar g = true ∧ g &&& had = 0 ∧ nearN w h had &&& g ≠ 0 := fun g => by rw [← hpd]; exact pS_at
  rw [hpd] at hQ hcap
  obtain ⟨M, hM⟩ : ∃ M, andn (2 ^ (w * h) - 1) had = M := ⟨_, rfl⟩
  have hMl : M < 2 ^ (w * h) := by
    rw [← hM]
    exact Nat.lt_of_le_of_lt (andn_le _ _) (by omega)
  have hsub : ∀ g, g < 2 ^ (w * h) → (g &&& M = g ↔ g &&& had = 0) := fun g hg => by
    rw [← hM, sb_mask hg, Nat.and_comm]
  rw [hM]
  have hnl := nearN_lt (had := had) k
  unfold lp_X7_listBehind_24
  refine ⟨fun m nx' x4 x7 => ∃ y dl, y &&& M = y ∧ y < 2 ^ (w * h) ∧ m = y ∧ x7 = nI y ∧ dl ++ dn p (y + 1) = dn p (2 ^ (w * h)) ∧ x4 = nI (c0 + dl.length) ∧ (∀ j, j < dl.length → nx' (c0 + j) = nI (dl.getD j 0)) ∧ (∀ j, j < c0 → nx' j = nx j), ⟨M, M, [], Nat.and_self M, hMl, rfl, rfl, ?_, rfl, fun j hj => absurd hj (Nat.not_lt_zero j), fun j _ => rfl⟩, ?_⟩
  · have := dn_skip (p := p) (y := M + 1) (2 ^ (w * h) - (M + 1)) (fun g h1 h2 => by
      cases e : p g with
      | false => rfl
      | true =>
        have h3 := (hsub g (by omega)).mpr ((hpa g).mp e).2.1
        have h4 : g &&& M ≤ M := Nat.and_le_right
        omega)
    rw [show M + 1 + (2 ^ (w * h) - (M + 1)) = 2 ^ (w * h) by omega] at this
    exact this.symm
  · rintro m nx' x4 x7 ⟨y, dl, hyM, hyl, rfl, rfl, hdl, rfl, hnx, hkeep⟩
    unfold bd_X7_listBehind_24
    refine pk_le m 0 (fun q => ?_) (fun q => ?_) rfl rfl
    · have e0 : m = 0 := by omega
      subst e0
      have hp0' : p 0 = false := by
        cases e : p 0 with
        | false => rfl
        | true =>
          have := isFd_pos ((hpa 0).mp e).1
          omega
      have e1 : dn p (0 + 1) = [] := by rw [dn, hp0']; rfl
      rw [e1, List.append_nil] at hdl
      subst hdl
      exact hQ nx' hnx hkeep
    · have hlen : dl.length + (dn p (m + 1)).length = (dn p (2 ^ (w * h))).length := by rw [← hdl, List.length_append]
      have hstep : dn p m = dn p (((m - 1) &&& M) + 1) := by
        have hl := sb_lt M q
        have := dn_skip (p := p) (y := ((m - 1) &&& M) + 1) (m - (((m - 1) &&& M) + 1)) (fun g h1 h2 => by
          cases e : p g with
          | false => rfl
          | true =>
            have h3 := (hsub g (by omega)).mpr ((hpa g).mp e).2.1
            have h4 := sb_next (m + 1) M m g (by omega) hyM h3 (by omega)
            omega)
        rw [show ((m - 1) &&& M) + 1 + (m - (((m - 1) &&& M) + 1)) = m by omega] at this
        exact this
      have h66 : ∀ nx'' dl', dl' ++ dn p m = dn p (2 ^ (w * h)) → (∀ j, j < dl'.length → nx'' (c0 + j) = nI (dl'.getD j 0)) → (∀ j, j < c0 → nx'' j = nx j) → bk_X7_listBehind_66 Q (fun s_nexts' x4' x7' => ∃ n', n' < m ∧ ∃ y dl, y &&& M = y ∧ y < 2 ^ (w * h) ∧ n' = y ∧ x7' = nI y ∧ dl ++ dn p (y + 1) = dn p (2 ^ (w * h)) ∧ x4' = nI (c0 + dl.length) ∧ (∀ j, j < dl.length → s_nexts' (c0 + j) = nI (dl.getD j 0)) ∧ (∀ j, j < c0 → s_nexts' j = nx j)) (nI (c0 + dl'.length)) (nI M) (nI m) nx'' := by
        intro nx'' dl' h1 h2 h3
        unfold bk_X7_listBehind_66
        intro y5 e5
        rw [z_minus1 q, z_and] at e5
        have hl := sb_lt M q
        exact ⟨(m - 1) &&& M, hl, (m - 1) &&& M, dl', sb_in _ _, by omega, rfl, e5, by rw [← hstep]; exact h1, rfl, h2, h3⟩
      have hno : p m = false → dl ++ dn p m = dn p (2 ^ (w * h)) := by
        intro e
        rw [dn, e] at hdl
        exact hdl
      rw [z_and]
      have hlt : nearN w h had &&& m < 2 ^ 31 := Nat.lt_of_le_of_lt Nat.and_le_right (by omega)
      have hyh := (hsub m hyl).mp hyM
      refine pk_eq (nearN w h had &&& m) 0 (fun q2 => h66 nx' dl (hno ?_) hnx hkeep) (fun q2 => s_fold k hT hyl ?_) rfl rfl
      · cases e : p m with
        | false => rfl
        | true => exact absurd q2 ((hpa m).mp e).2.2
      · by_cases hf : isFd w h bar m = true
        · rw [if_pos hf]
          have hpm : p m = true := (hpa m).mpr ⟨hf, hyh, q2⟩
          have hdl2 : (dl ++ [m]) ++ dn p m = dn p (2 ^ (w * h)) := by
            rw [dn, hpm] at hdl
            rw [List.append_assoc]
            exact hdl
          have hlen2 : dl.length + 1 ≤ (dn p (2 ^ (w * h))).length := by
            rw [← hdl2, List.length_append, List.length_append]
            simp only [List.length_cons, List.length_nil]
            omega
          refine ⟨fun z => absurd z (by decide), fun _ => pk_le 4096 (c0 + dl.length) (fun q3 => by omega) (fun q3 => ⟨pk_in (c0 + dl.length) 4096 q3, fun f9 e9 y10 e10 => ?_⟩) rfl rfl⟩
          have hl1 : (dl ++ [m]).length = dl.length + 1 := by rw [List.length_append]; rfl
          have e11 : y10 = nI (c0 + (dl ++ [m]).length) := by
            rw [e10, nI_1, hl1]
            congr 1
          rw [e11]
          refine h66 f9 (dl ++ [m]) hdl2 (fun j hj => ?_) (fun j hj => ?_)
          · rw [e9, z_cl (by omega), getD_push]
            by_cases ej : j < dl.length
            · rw [if_pos ej, z_upd_ne _ _ (by omega)]
              exact hnx j ej
            · have ej2 : j = dl.length := by omega
              rw [if_neg ej, if_pos ej2, ej2, z_upd_eq]
          · rw [e9, z_cl (by omega), z_upd_ne _ _ (by omega)]
            exact hkeep j hj
        · rw [if_neg hf]
          refine ⟨fun _ => h66 nx' dl (hno ?_) hnx hkeep, fun z => absurd rfl z⟩
          cases e : p m with
          | false => rfl
          | true => exact absurd ((hpa m).mp e).1 hf
/-- starts and nexts hold the steps -/
def STP (w h bar : Nat) (ss nx : Nat → Int32) : Prop := (∀ j, j ≤ 2 ^ (w * h) → ss j = nI (st w h bar j)) ∧ ∀ had, had < 2 ^ (w * h) → ∀ j, j < (sLx w h bar had).length → nx (st w h bar had + j) = nI ((sLx w h bar had).getD j 0)
theorem s_clist {U rich : Nat} {Y : Nat → Nat} {af : Nat} {li : Option Nat} {al wa mo : Int32} {fn fs fy fb ss nx : Nat → Int32} {Q : (Option Nat × (Nat → Int32) × (Nat → Int32)) → Prop} (k : okS w h) (hT : TB w h bar U Y rich al wa mo fn fs fy fb) (hli : li = some af → STP w h bar ss nx) (hQ : ∀ ss' nx', STP w h bar ss' nx' → Q (some af, ss', nx')) : wp_X7_list af li ss nx al fs fb Q := by
  have hp := pow10 k
  have hp0 := Nat.two_pow_pos (w * h)
  have h4 := st_4096 (bar := bar) k
  unfold wp_X7_list
  refine ⟨fun _ => ?_, fun z => by rw [z]; exact hQ ss nx (hli z)⟩
  rw [hT.1]
  unfold lp_X7_list_18
  refine ⟨fun m ss nx x2 x3 => ∃ had, had ≤ 2 ^ (w * h) ∧ m = 2 ^ (w * h) - had ∧ x3 = nI had ∧ x2 = nI (st w h bar had) ∧ (∀ j, j < had → ss j = nI (st w h bar j)) ∧ ∀ h', h' < had → ∀ j, j < (sLx w h bar h').length → nx (st w h bar h' + j) = nI ((sLx w h bar h').getD j 0), ⟨_, 0, Nat.zero_le _, rfl, rfl, rfl, fun j hj => absurd hj (Nat.not_lt_zero j), fun h' hh => absurd hh (Nat.not_lt_zero h')⟩, ?_⟩
  clear hli
  rintro m ss nx x2 x3 ⟨had, hh, rfl, rfl, rfl, hss, hnx⟩
  have hst := st_mono (w := w) (h := h) (bar := bar) hh
  unfold bd_X7_list_18
  refine pk_lt (2 ^ (w * h) - 1) had (fun q => ?_) (fun q => ⟨pk_in had 1025 (by omega), fun f4 e4 => ?_⟩) rfl rfl
  · have eh : had = 2 ^ (w * h) := by omega
    have e1 : nI (2 ^ (w * h) - 1) + 1 = nI (2 ^ (w * h)) := by
      rw [nI_1]
      congr 1
      omega
    rw [e1]
    refine ⟨pk_in (2 ^ (w * h)) 1025 (by omega), fun f3 e3 => hQ _ _ ⟨fun j hj => ?_, fun h' hh' => hnx h' (by omega)⟩⟩
    rw [e3, z_cl (by omega)]
    by_cases ej : j = 2 ^ (w * h)
    · rw [ej, z_upd_eq, eh]
    · rw [z_upd_ne _ _ ej]
      exact hss j (by omega)
  · rw [z_cl (by omega)] at e4
    have hss' : ∀ j, j < had + 1 → f4 j = nI (st w h bar j) := by
      intro j hj
      rw [e4]
      by_cases ej : j = had
      · rw [ej, z_upd_eq]
      · rw [z_upd_ne _ _ ej]
        exact hss j (by omega)
    have hst2 := st_mono (w := w) (h := h) (bar := bar) (show had + 1 ≤ 2 ^ (w * h) by omega)
    have h53 : ∀ nx' x2', x2' = nI (st w h bar (had + 1)) → (∀ j, j < (sLx w h bar had).length → nx' (st w h bar had + j) = nI ((sLx w h bar had).getD j 0)) → (∀ j, j < st w h bar had → nx' j = nx j) → bk_X7_list_53 Q (fun s_starts' s_nexts' x2' x3' => ∃ n', n' < 2 ^ (w * h) - had ∧ ∃ had, had ≤ 2 ^ (w * h) ∧ n' = 2 ^ (w * h) - had ∧ x3' = nI had ∧ x2' = nI (st w h bar had) ∧ (∀ j, j < had → s_starts' j = nI (st w h bar j)) ∧ ∀ h', h' < had → ∀ j, j < (sLx w h bar h').length → s_nexts' (st w h bar h' + j) = nI ((sLx w h bar h').getD j 0)) x2' (nI had) f4 nx' := by
      intro nx' x2' e2 h1 h2
      unfold bk_X7_list_53
      refine fun y8 e8 => ⟨2 ^ (w * h) - (had + 1), by omega, had + 1, by omega, rfl, by rw [e8, nI_1], e2, hss', fun h' hh' j hj => ?_⟩
      by_cases eh : h' = had
      · subst eh
        exact h1 j hj
      · have h3 := st_mono (w := w) (h := h) (bar := bar) (show h' + 1 ≤ had by omega)
        rw [st] at h3
        rw [h2 _ (by omega)]
        exact hnx h' (by omega) j hj
    have h45 : (had = 0 ∨ isFd w h bar had = true) → bk_X7_list_45 Q (fun s_starts' s_nexts' x2' x3' => ∃ n', n' < 2 ^ (w * h) - had ∧ ∃ had, had ≤ 2 ^ (w * h) ∧ n' = 2 ^ (w * h) - had ∧ x3' = nI had ∧ x2' = nI (st w h bar had) ∧ (∀ j, j < had → s_starts' j = nI (st w h bar j)) ∧ ∀ h', h' < had → ∀ j, j < (sLx w h bar h').length → s_nexts' (st w h bar h' + j) = nI ((sLx w h bar h').getD j 0)) (nI (st w h bar had)) (nI had) f4 nx (nI (2 ^ (w * h) - 1)) fs fb := by
      intro hc
      have hs : sLx w h bar had = dn (pS w h bar had) (2 ^ (w * h)) := by unfold sLx; rw [if_pos hc]
      unfold bk_X7_list_45
      have hT1 := hT.1
      rw [← hT1]
      refine s_listBehind k hT (by omega) ?_ (fun nx' h1 h2 => h53 nx' _ ?_ ?_ h2)
      · rw [← hs]
        rw [st] at hst2
        omega
      · rw [st, hs]
      · rw [hs]
        exact h1
    refine ⟨fun z => h45 (Or.inl (z_inj (b := 0) (by omega) (by decide) z)), fun z => s_fold k hT (by omega) ?_⟩
    by_cases hf : isFd w h bar had = true
    · rw [if_pos hf]
      exact ⟨fun y => absurd y (by decide), fun _ => h45 (Or.inr hf)⟩
    · rw [if_neg hf]
      have hs : sLx w h bar had = [] := by
        unfold sLx
        rw [if_neg (fun y => by rcases y with y | y; exact z (by rw [y]; rfl); exact hf y)]
      refine ⟨fun _ => h53 nx _ ?_ (fun j hj => ?_) (fun j _ => rfl), fun y => absurd rfl y⟩
      · rw [st, hs]
        rfl
      · rw [hs] at hj
        exact absurd hj (Nat.not_lt_zero j)
end STEPS
