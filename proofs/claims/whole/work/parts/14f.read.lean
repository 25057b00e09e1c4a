section READ
def bdE {α : Type} (n : Nat) (x : Except Nat α) (g : α → Nat) : Prop := match x with
  | .error S => S ≤ n
  | .ok a => g a ≤ n
theorem bdE_b {α β : Type} {n : Nat} {x : Except Nat α} {g : α → Nat} {f : α → Except Nat β} {g' : β → Nat} (h : bdE n x g) (hf : ∀ a, g a ≤ n → bdE n (f a) g') : bdE n (bE x f) g' := by
  cases x with
  | error S => exact h
  | ok a => exact hf a h
theorem bd_num {b : Nat → Nat} {n lo hi p : Nat} (hp : p ≤ n) : bdE n (pNum b n lo hi p) (fun x => x.2) := by
  have h1 := tS_le (b := b) hp
  have h2 := tE_le (b := b) h1.2
  unfold pNum
  split
  · exact h2.2
  · exact h1.2
theorem bd_place {b : Nat → Nat} {n w h p : Nat} (hp : p ≤ n) : bdE n (pPlace b n w h p) (fun x => x.2.2) :=
  bdE_b (bd_num hp) (fun _ ha => bdE_b (bd_num ha) (fun _ hc => hc))
theorem bd_size {b : Nat → Nat} {n p : Nat} (hp : p ≤ n) : bdE n (pSize b n p) (fun x => x.2.2) :=
  bdE_b (bd_num hp) (fun _ ha => bdE_b (bd_num ha) (fun _ hc => hc))
theorem bd_dir {b : Nat → Nat} {n p : Nat} (hp : p ≤ n) : bdE n (pDir b n p) (fun x => x.2) := by
  have h1 := tS_le (b := b) hp
  have h2 := tE_le (b := b) h1.2
  unfold pDir
  split
  · exact h2.2
  · exact h1.2
theorem bd_line {b : Nat → Nat} {n w h p : Nat} (hp : p ≤ n) : bdE n (pLine b n w h p) (fun x => x.2) := by
  have h1 := tS_le (b := b) hp
  have h2 := (tE_le (b := b) h1.2).2
  unfold pLine pArg
  split
  · exact bdE_b (bd_size h2) (fun _ hc => hc)
  split
  · exact bdE_b (bd_place h2) (fun _ ha => bdE_b (bd_num ha) (fun _ hc => hc))
  split
  · exact bdE_b (bd_place h2) (fun _ hc => hc)
  split
  · refine bdE_b (g := fun x : (Nat × Nat × Nat) × Nat => x.2) (bdE_b (bd_place h2) (fun _ ha => bdE_b (bd_dir ha) (fun y hc => ?_))) (fun _ hc => hc)
    exact hc
  split
  · exact bdE_b (bd_num h2) (fun _ hc => hc)
  split
  · exact h2
  · exact h1.2
def pRd (b : Nat → Nat) (n : Nat) : Nat → Nat → Nat → Nat → List (Nat × Nat × Nat × Nat) → Except Nat (List (Nat × Nat × Nat × Nat))
  | 0, _, _, _, _ => .error 0
  | d + 1, w, h, p, acc => bE (pLine b n w h p) fun x => if n ≤ tS b n x.2 then .ok (acc ++ [x.1]) else if b (tS b n x.2) = 59 ∧ 0 < d then pRd b n d (nW w x.1) (nH h x.1) (tS b n x.2 + 1) (acc ++ [x.1]) else .error (tS b n x.2)
def chk : Nat → Nat → List (Nat × Nat × Nat × Nat) → Nat → Nat → Prop
  | w0, h0, [], w, h => w0 = w ∧ h0 = h
  | w0, h0, l :: r, w, h => lOK w0 h0 l ∧ chk (nW w0 l) (nH h0 l) r w h
theorem chk_push {w h : Nat} {l : Nat × Nat × Nat × Nat} (hl : lOK w h l) : ∀ (acc : List (Nat × Nat × Nat × Nat)) (w0 h0 : Nat), chk w0 h0 acc w h → chk w0 h0 (acc ++ [l]) (nW w l) (nH h l)
  | [], w0, h0, hc => by
    obtain ⟨rfl, rfl⟩ := hc
    exact ⟨hl, rfl, rfl⟩
  | x :: r, w0, h0, hc => ⟨hc.1, chk_push hl r _ _ hc.2⟩
theorem lOK_ok {w h : Nat} {l : Nat × Nat × Nat × Nat} (k : okS w h) (hl : lOK w h l) : okS (nW w l) (nH h l) := by
  unfold nW nH
  by_cases e : l.1 = 0
  · rw [if_pos e, if_pos e]
    exact hl.2.1 e
  · rw [if_neg e, if_neg e]
    exact k
def l0 : Nat × Nat × Nat × Nat := (0, 0, 0, 0)
theorem getD_pushL (acc : List (Nat × Nat × Nat × Nat)) (l : Nat × Nat × Nat × Nat) (j : Nat) (hj : j < acc.length + 1) : (acc ++ [l]).getD j l0 = if j = acc.length then l else acc.getD j l0 := by
  rw [List.getD_eq_getElem?_getD, List.getD_eq_getElem?_getD]
  by_cases e : j = acc.length
  · subst e
    simp
  · rw [if_neg e, List.getElem?_append_left (by omega)]
def allC (acc : List (Nat × Nat × Nat × Nat)) (vb fi se th : Nat → Int32) : Prop := ∀ j, j < acc.length → cLn vb fi se th j (acc.getD j l0)
def allM (acc : List (Nat × Nat × Nat × Nat)) (rd : Nat → Int32) : Prop := ∀ j, j < acc.length → mLn rd j (acc.getD j l0)
theorem allC_push {acc : List (Nat × Nat × Nat × Nat)} {l : Nat × Nat × Nat × Nat} {vb fi se th vb' fi' se' th' : Nat → Int32} (ha : allC acc vb fi se th) (hc : cLn vb' fi' se' th' acc.length l) (hs : ∀ j, j ≠ acc.length → vb' j = vb j ∧ fi' j = fi j ∧ se' j = se j ∧ th' j = th j) : allC (acc ++ [l]) vb' fi' se' th' := by
  intro j hj
  rw [List.length_append] at hj
  simp only [List.length_cons, List.length_nil] at hj
  rw [getD_pushL acc l j (by omega)]
  by_cases e : j = acc.length
  · rw [if_pos e, e]
    exact hc
  · rw [if_neg e]
    obtain ⟨s1, s2, s3, s4⟩ := hs j e
    obtain ⟨a1, a2, a3, a4⟩ := ha j (by omega)
    exact ⟨s1.trans a1, fun q => s2.trans (a2 q), fun q => s3.trans (a3 q), fun q => s4.trans (a4 q)⟩
theorem allM_push {acc : List (Nat × Nat × Nat × Nat)} {l : Nat × Nat × Nat × Nat} {rd rd' : Nat → Int32} (ha : allM acc rd) (hc : mLn rd' acc.length l) (hs : ∀ j, j < 4 * acc.length ∨ 4 * acc.length + 4 ≤ j → rd' j = rd j) : allM (acc ++ [l]) rd' := by
  intro j hj
  rw [List.length_append] at hj
  simp only [List.length_cons, List.length_nil] at hj
  rw [getD_pushL acc l j (by omega)]
  by_cases e : j = acc.length
  · rw [if_pos e, e]
    exact hc
  · rw [if_neg e]
    obtain ⟨a1, a2, a3, a4⟩ := ha j (by omega)
    exact ⟨(hs _ (by omega)).trans a1, fun q => (hs _ (by omega)).trans (a2 q), fun q => (hs _ (by omega)).trans (a3 q), fun q => (hs _ (by omega)).trans (a4 q)⟩
theorem s_ends {T : List Nat} {len : Int32} {arr : Nat → Int32} {S : Nat} {Q : Int32 → Prop} (hR : RT T len arr) (hS : S < T.length) (hQ : Q (if bT T S = 59 then 1 else 0)) : wp_X6_endsLine (nI S) (nI (tK (bT T) T.length S)) arr Q := by
  obtain ⟨rfl, h200, hA⟩ := id hR
  have hc := bT_at hR hS
  have hk : tK (bT T) T.length S = kd (bT T S) := by unfold tK; rw [if_neg (by omega)]
  unfold wp_X6_endsLine
  rw [hk]
  have hkl := kd_le (bT T S)
  refine ⟨fun z => ?_, fun z => ⟨pk_in S 200 (by omega), ?_⟩⟩
  · rw [if_neg (fun y => z (by rw [y]; rfl))] at hQ
    exact hQ
  · rw [z_cl (by omega), hc.1]
    refine ⟨fun z => ?_, fun z => ?_⟩
    · rw [if_neg (fun y => z (by rw [y]; rfl))] at hQ
      exact hQ
    · rw [if_pos (z_inj (a := bT T S) (b := 59) (by omega) (by decide) z)] at hQ
      exact hQ
theorem s_cread {T : List Nat} {len st0 kd0 : Int32} {arr vb fi se th : Nat → Int32} {w0 h0 : Nat} {Q : Int32 → (Int32 × Int32 × Int32 × Int32 × Int32 × Int32 × (Nat → Int32) × (Nat → Int32) × (Nat → Int32) × (Nat → Int32)) → Prop} (ks0 : okS w0 h0) (hR : RT T len arr) (hEr : ∀ S u, pRd (bT T) T.length 10 w0 h0 0 [] = .error S → S ≤ T.length → Q (nI S) u) (hOk : ∀ ls wE hE a c d e f vb' fi' se' th', pRd (bT T) T.length 10 w0 h0 0 [] = .ok ls → ls.length ≤ 10 → allC ls vb' fi' se' th' → chk w0 h0 ls wE hE → Q (-1) (nI ls.length, a, c, d, e, f, vb', fi', se', th')) : wp_X6_read (nI w0) (nI h0) st0 kd0 vb fi se th len arr Q := by
  obtain ⟨rfl, h200, hA⟩ := id hR
  obtain ⟨R, hRR⟩ : ∃ R, pRd (bT T) T.length 10 w0 h0 0 [] = R := ⟨_, rfl⟩
  rw [hRR] at hEr hOk
  unfold wp_X6_read lp_X6_read_22
  refine ⟨fun M li cI rI st sp kk vb fi se th x3 => (∃ w h p acc, okS w h ∧ acc.length ≤ 9 ∧ M = 10 - acc.length ∧ li = nI acc.length ∧ cI = nI w ∧ rI = nI h ∧ sp = nI p ∧ p ≤ T.length ∧ x3 = nI acc.length ∧ allC acc vb fi se th ∧ chk w0 h0 acc w h ∧ pRd (bT T) T.length (10 - acc.length) w h p acc = R) ∨ (x3 = nI 10 ∧ M = 0 ∧ ∃ S, st = nI S ∧ S ≤ T.length ∧ R = .error S), ⟨10, Or.inl ⟨w0, h0, 0, [], ks0, by decide, rfl, rfl, rfl, rfl, rfl, Nat.zero_le _, rfl, fun j hj => absurd hj (Nat.not_lt_zero j), ⟨rfl, rfl⟩, hRR⟩⟩, ?_⟩
  clear hRR
  rintro M li cI rI st sp kk vb fi se th x3 (⟨w, h, p, acc, ks, hac, rfl, rfl, rfl, rfl, rfl, hp, rfl, hall, hch, hrd⟩ | ⟨rfl, rfl, S, rfl, hS, hrd⟩)
  · unfold bd_X6_read_22
    refine pk_le 10 acc.length (fun q => by omega) (fun _ => ?_) rfl rfl
    rw [show 10 - acc.length = (10 - (acc.length + 1)) + 1 by omega, pRd] at hrd
    refine s_cline ks hR hp (by omega) ?_ ?_
    · intro S a c d e f1 f2 f3 f4 er
      rw [bE_er er] at hrd
      have hb := bd_line (b := bT T) (w := w) (h := h) hp
      rw [er] at hb
      exact ⟨fun z => absurd rfl z, fun _ => hEr S _ hrd.symm hb⟩
    · intro l E a c vb' fi' se' th' ok hl hE hcl hsame
      rw [bE_ok ok] at hrd
      refine ⟨fun _ y5 e5 => ?_, fun z => absurd z (by decide)⟩
      rw [nI_1] at e5
      subst e5
      obtain ⟨S, hS⟩ : ∃ S, tS (bT T) T.length E = S := ⟨_, rfl⟩
      have hSl := tS_le (b := bT T) hE
      rw [hS] at hSl
      simp only [hS] at hrd
      refine s_ctok hR hE hS ?_
      have hall' := allC_push hall hcl hsame
      have hch' := chk_push hl acc w0 h0 hch
      have hlen : (acc ++ [l]).length = acc.length + 1 := by rw [List.length_append]; rfl
      by_cases hend : T.length ≤ S
      · have hk : tK (bT T) T.length S = 0 := by unfold tK; rw [if_pos hend]
        rw [if_pos hend] at hrd
        rw [hk]
        refine ⟨fun z => absurd rfl z, fun _ => ?_⟩
        rw [← hlen]
        exact hOk _ _ _ _ _ _ _ _ _ _ _ _ hrd.symm (by omega) hall' hch'
      · rw [if_neg hend] at hrd
        have hkp : tK (bT T) T.length S = kd (bT T S) := by unfold tK; rw [if_neg hend]
        have hkl := kd_le (bT T S)
        refine ⟨fun _ => s_ends hR (by omega) ?_, fun z => absurd z (nI_ne0 (by omega) (by omega))⟩
        by_cases h59 : bT T S = 59
        · rw [if_pos h59]
          refine ⟨fun _ y10 e10 => ?_, fun z => absurd z (by decide)⟩
          rw [nI_1] at e10
          subst e10
          by_cases hd : 0 < 10 - (acc.length + 1)
          · rw [if_pos ⟨h59, hd⟩] at hrd
            have hE1 : tE (bT T) T.length S = S + 1 := by
              unfold tE
              rw [if_neg hend, h59]
              rfl
            refine ⟨10 - (acc.length + 1), by omega, Or.inl ⟨nW w l, nH h l, S + 1, acc ++ [l], lOK_ok ks hl, by omega, by omega, by rw [hlen], rfl, rfl, by rw [hE1], by omega, by rw [hlen], hall', hch', ?_⟩⟩
            rw [hlen]
            exact hrd
          · rw [if_neg (fun y => hd y.2)] at hrd
            have e9 : acc.length + 1 = 10 := by omega
            exact ⟨0, by omega, Or.inr ⟨by rw [e9], rfl, S, rfl, hSl.2, hrd.symm⟩⟩
        · rw [if_neg h59]
          rw [if_neg (fun y => h59 y.1)] at hrd
          exact ⟨fun z => absurd rfl z, fun _ => hEr S _ hrd.symm hSl.2⟩
  · unfold bd_X6_read_22
    exact ⟨fun _ => hEr S _ hrd hS, fun z => absurd (by decide) z⟩
theorem s_mread {T : List Nat} {len ta dg nu fa : Int32} {tk : Int64} {arr rd : Nat → Int32} {w0 h0 : Nat} {Q : Int32 → (Int32 × Int32 × Int64 × Int32 × Int32 × Int32 × Int32 × Int32 × Int32 × (Nat → Int32)) → Prop} (ks0 : okS w0 h0) (hR : RT T len arr) (hEr : ∀ S a c d e f g i j r, pRd (bT T) T.length 10 w0 h0 0 [] = .error S → Q 0 (a, c, d, e, f, nI S, g, i, j, r)) (hOk : ∀ ls wE hE a c d e f g i j rd', pRd (bT T) T.length 10 w0 h0 0 [] = .ok ls → ls.length ≤ 10 → allM ls rd' → chk w0 h0 ls wE hE → Q 1 (a, c, d, e, f, g, nI ls.length, i, j, rd')) : wp_X11_isRead (nI w0) (nI h0) len ta tk dg nu fa arr rd Q := by
  obtain ⟨rfl, h200, hA⟩ := id hR
  obtain ⟨R, hRR⟩ : ∃ R, pRd (bT T) T.length 10 w0 h0 0 [] = R := ⟨_, rfl⟩
  rw [hRR] at hEr hOk
  unfold wp_X11_isRead lp_X11_isRead_28
  refine ⟨fun M po ta tk dg nu fa rm rW rH rd x1 => (∃ w h p acc, okS w h ∧ acc.length ≤ 9 ∧ M = 11 - acc.length ∧ x1 = 1 ∧ rm = nI acc.length ∧ rW = nI w ∧ rH = nI h ∧ po = nI p ∧ p ≤ T.length ∧ allM acc rd ∧ chk w0 h0 acc w h ∧ pRd (bT T) T.length (10 - acc.length) w h p acc = R) ∨ (x1 = 0 ∧ M = 0 ∧ (tk = -2 → ∃ ls wE hE, R = .ok ls ∧ ls.length ≤ 10 ∧ allM ls rd ∧ chk w0 h0 ls wE hE ∧ rm = nI ls.length) ∧ (¬ tk = -2 → ∃ S, ta = nI S ∧ R = .error S)), ⟨11, Or.inl ⟨w0, h0, 0, [], ks0, by decide, rfl, rfl, rfl, rfl, rfl, rfl, Nat.zero_le _, fun j hj => absurd hj (Nat.not_lt_zero j), ⟨rfl, rfl⟩, hRR⟩⟩, ?_⟩
  clear hRR
  rintro M po ta tk dg nu fa rm rW rH rd x1 (⟨w, h, p, acc, ks, hac, rfl, rfl, rfl, rfl, rfl, rfl, hp, hall, hch, hrd⟩ | ⟨rfl, rfl, hy, hn⟩)
  · unfold bd_X11_isRead_28
    refine ⟨fun z => absurd z (by decide), fun _ => ?_⟩
    have e4 : 4 * nI acc.length = nI (4 * acc.length) := z_mul 4 _
    rw [e4]
    rw [show 10 - acc.length = (10 - (acc.length + 1)) + 1 by omega, pRd] at hrd
    refine s_mline ks hR hp (by omega) ?_ ?_
    · intro S a c d e f g i r er
      rw [bE_er er] at hrd
      exact ⟨fun z => absurd rfl z, fun _ => hEr S _ _ _ _ _ _ _ _ _ hrd.symm⟩
    · intro l E c d e f rd' ok hl hE hcl hsame
      rw [bE_ok ok] at hrd
      refine ⟨fun _ y9 e9 => ?_, fun z => absurd z (by decide)⟩
      rw [nI_1] at e9
      subst e9
      obtain ⟨S, hS⟩ : ∃ S, tS (bT T) T.length E = S := ⟨_, rfl⟩
      have hSl := tS_le (b := bT T) hE
      rw [hS] at hSl
      simp only [hS] at hrd
      have hall' := allM_push hall hcl hsame
      have hch' := chk_push hl acc w0 h0 hch
      have hlen : (acc ++ [l]).length = acc.length + 1 := by rw [List.length_append]; rfl
      have hte := tV_end (b := bT T) (n := T.length) (s := S)
      have hts := tV_semi (b := bT T) (n := T.length) (s := S)
      refine s_mtok hR hE hS (fun dg nu _ => ?_)
      unfold bk_X11_isRead_85 bk_X11_isRead_86
      refine ⟨fun z => ⟨0, by omega, Or.inr ⟨rfl, rfl, fun y => ?_, fun y => ?_⟩⟩, fun z => ?_⟩
      · have := hte.mp y
        rw [if_pos this] at hrd
        exact ⟨_, _, _, hrd.symm, by omega, hall', hch', by rw [hlen]⟩
      · have h1 : ¬ T.length ≤ S := fun q => y (hte.mpr q)
        rw [if_neg h1, if_neg (fun q => z (hts.mpr ⟨by omega, q.1⟩))] at hrd
        exact ⟨S, rfl, hrd.symm⟩
      · obtain ⟨h1, h59⟩ := hts.mp z
        rw [if_neg (by omega)] at hrd
        refine pk_le 10 (acc.length + 1) (fun q => ⟨0, by omega, Or.inr ⟨rfl, rfl, fun y => ?_, fun y => ?_⟩⟩) (fun q => ⟨10 - acc.length, by omega, Or.inl ⟨nW w l, nH h l, S + 1, acc ++ [l], lOK_ok ks hl, by omega, by omega, rfl, by rw [hlen], rfl, rfl, ?_, by omega, hall', hch', ?_⟩⟩) rfl rfl
        · have := hte.mp y
          omega
        · rw [if_neg (fun q2 => by omega)] at hrd
          exact ⟨S, rfl, hrd.symm⟩
        · have hE1 : tE (bT T) T.length S = S + 1 := by
            unfold tE
            rw [if_neg (by omega), h59]
            rfl
          rw [hE1]
        · rw [if_pos ⟨h59, by omega⟩] at hrd
          rw [hlen]
          exact hrd
  · unfold bd_X11_isRead_28 bk_X11_isRead_108 wp_X11_fails
    refine ⟨fun _ => ⟨fun z => ?_, fun z => ⟨fun _ => ?_, fun z2 => absurd rfl z2⟩⟩, fun z => absurd rfl z⟩
    · obtain ⟨ls, wE, hE, h1, h2, h3, h4, h5⟩ := hy z
      rw [h5]
      exact hOk ls wE hE _ _ _ _ _ _ _ _ _ h1 h2 h3 h4
    · obtain ⟨S, h1, h2⟩ := hn z
      rw [h1]
      exact hEr S _ _ _ _ _ _ _ _ _ h2
theorem op_fault {T : List Nat} {w h : Nat} {lc lm st0 kd0 ta dg nu fa : Int32} {tk : Int64} {ac am vb fi se th rd : Nat → Int32} {K : (Int32 × Int32 × Int32 × Int32 × Int32 × Int32 × (Nat → Int32) × (Nat → Int32) × (Nat → Int32) × (Nat → Int32)) → (Int32 × Int32 × Int64 × Int32 × Int32 × Int32 × Int32 × Int32 × Int32 × (Nat → Int32)) → Prop} (k : okS w h) (hc : RT T lc ac) (hm : RT T lm am) (hK : ∀ u u', K u u') : wp_X10_fault lc ac st0 kd0 vb fi se th (nI w) (nI h) (fun r u => wp_X11_fault (nI w) (nI h) lm ta tk dg nu fa am rd (fun r' u' => EqK r r' (K u u'))) := by
  unfold wp_X10_fault wp_X11_fault
  refine s_cread k hc (fun S u eS _ => ?_) (fun ls wE hE a c d e f vb' fi' se' th' ok h1 h2 h3 => ?_)
  · refine s_mread k hm (fun S2 a c d e f g i j r er => ?_) (fun ls wE hE a c d e f g i j rd' ok h1 h2 h3 => ?_)
    · rw [eS] at er
      cases er
      exact ⟨fun _ => eqk _ (hK _ _), fun z => absurd rfl z⟩
    · rw [eS] at ok
      cases ok
  · refine s_mread k hm (fun S2 a c d e f g i j r er => ?_) (fun ls wE hE a c d e f g i j rd' ok2 h1 h2 h3 => ?_)
    · rw [ok] at er
      cases er
    · exact ⟨fun z => absurd z (by decide), fun _ => eqk _ (hK _ _)⟩
end READ
