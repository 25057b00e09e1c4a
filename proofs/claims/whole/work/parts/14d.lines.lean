section LINES
def limV (v : Nat) : Nat := if v = 6 then 60 else if v = 7 then 90 else if v = 8 then 99 else 19
def pArg (b : Nat → Nat) (n w h v S E : Nat) : Except Nat ((Nat × Nat × Nat × Nat) × Nat) :=
  if v = 0 then bE (pSize b n E) fun x => .ok ((0, x.1, x.2.1, 0), x.2.2)
  else if v = 1 then bE (pPlace b n w h E) fun x => bE (pNum b n 0 9 x.2.2) fun y => .ok ((1, x.1, x.2.1, y.1), y.2)
  else if v = 2 ∨ v = 3 then bE (pPlace b n w h E) fun x => .ok ((v, x.1, x.2.1, 0), x.2.2)
  else if v = 4 ∨ v = 5 then bE (bE (pPlace b n w h E) (fun x => bE (pDir b n x.2.2) fun y => .ok ((x.1, x.2.1, y.1), y.2))) fun x => .ok ((v, x.1.1, x.1.2.1, x.1.2.2), x.2)
  else if v < 10 then bE (pNum b n 0 (limV v) E) fun x => .ok ((v, x.1, 0, 0), x.2)
  else if v = 10 then .ok ((10, 0, 0, 0), E)
  else .error S
def pLine (b : Nat → Nat) (n w h p : Nat) : Except Nat ((Nat × Nat × Nat × Nat) × Nat) := pArg b n w h (fndN (tV b n (tS b n p)) 0 11 0) (tS b n p) (tE b n (tS b n p))
def cLn (vb fi se th : Nat → Int32) (j : Nat) (l : Nat × Nat × Nat × Nat) : Prop := vb j = nI l.1 ∧ (l.1 ≠ 10 → fi j = nI l.2.1) ∧ (l.1 ≤ 5 → se j = nI l.2.2.1) ∧ (l.1 = 1 ∨ l.1 = 4 ∨ l.1 = 5 → th j = nI l.2.2.2)
def mLn (rd : Nat → Int32) (j : Nat) (l : Nat × Nat × Nat × Nat) : Prop := rd (4 * j) = nI l.1 ∧ (l.1 ≠ 10 → rd (4 * j + 1) = nI l.2.1) ∧ (l.1 ≤ 5 → rd (4 * j + 2) = nI l.2.2.1) ∧ (l.1 = 1 ∨ l.1 = 4 ∨ l.1 = 5 → rd (4 * j + 3) = nI l.2.2.2)
def lOK (w h : Nat) (l : Nat × Nat × Nat × Nat) : Prop := l.1 ≤ 10 ∧ (l.1 = 0 → okS l.2.1 l.2.2.1) ∧ (1 ≤ l.1 → l.1 ≤ 5 → l.2.1 < w ∧ l.2.2.1 < h) ∧ (l.1 = 1 → l.2.2.2 ≤ 9) ∧ (l.1 = 4 ∨ l.1 = 5 → l.2.2.2 < 4) ∧ (l.1 = 6 → l.2.1 ≤ 60) ∧ (l.1 = 7 → l.2.1 ≤ 90) ∧ (l.1 = 8 → l.2.1 ≤ 99) ∧ (l.1 = 9 → l.2.1 ≤ 19)
def nW (w : Nat) (l : Nat × Nat × Nat × Nat) : Nat := if l.1 = 0 then l.2.1 else w
def nH (h : Nat) (l : Nat × Nat × Nat × Nat) : Nat := if l.1 = 0 then l.2.2.1 else h
theorem lOK_0 {w h x y : Nat} (k : okS x y) : lOK w h (0, x, y, 0) := ⟨show 0 ≤ 10 by decide, fun _ => k, fun q => absurd q (show ¬ 1 ≤ 0 by decide), fun q => absurd q (show ¬ 0 = 1 by decide), fun q => absurd q (show ¬ (0 = 4 ∨ 0 = 5) by decide), fun q => absurd q (show ¬ 0 = 6 by decide), fun q => absurd q (show ¬ 0 = 7 by decide), fun q => absurd q (show ¬ 0 = 8 by decide), fun q => absurd q (show ¬ 0 = 9 by decide)⟩
theorem lOK_p {w h v x y t : Nat} (hv : 1 ≤ v ∧ v ≤ 5) (hx : x < w) (hy : y < h) (h1 : v = 1 → t ≤ 9) (h4 : v = 4 ∨ v = 5 → t < 4) : lOK w h (v, x, y, t) := ⟨show v ≤ 10 by omega, fun q => absurd q (show ¬ v = 0 by omega), fun _ _ => ⟨hx, hy⟩, h1, h4, fun q => absurd q (show ¬ v = 6 by omega), fun q => absurd q (show ¬ v = 7 by omega), fun q => absurd q (show ¬ v = 8 by omega), fun q => absurd q (show ¬ v = 9 by omega)⟩
theorem lOK_n {w h v x : Nat} (hv : 6 ≤ v ∧ v ≤ 9) (hx : x ≤ limV v) : lOK w h (v, x, 0, 0) := by
  refine ⟨show v ≤ 10 by omega, fun q => absurd q (show ¬ v = 0 by omega), fun _ q => absurd q (show ¬ v ≤ 5 by omega), fun q => absurd q (show ¬ v = 1 by omega), fun q => absurd q (show ¬ (v = 4 ∨ v = 5) by omega), fun q => ?_, fun q => ?_, fun q => ?_, fun q => ?_⟩ <;> (change v = _ at q; subst q; exact hx)
theorem lOK_t {w h : Nat} : lOK w h (10, 0, 0, 0) := ⟨by decide, fun q => absurd q (by decide), fun _ q => absurd q (by decide), fun q => absurd q (by decide), fun q => absurd q (by decide), fun q => absurd q (by decide), fun q => absurd q (by decide), fun q => absurd q (by decide), fun q => absurd q (by decide)⟩
def okC (T : List Nat) (w h ln p : Nat) (vb fi se th : Nat → Int32) (Q : Int32 → (Int32 × Int32 × Int32 × Int32 × Int32 × (Nat → Int32) × (Nat → Int32) × (Nat → Int32) × (Nat → Int32)) → Prop) : Prop := ∀ l E a c vb' fi' se' th', pLine (bT T) T.length w h p = .ok (l, E) → lOK w h l → E ≤ T.length → cLn vb' fi' se' th' ln l → (∀ j, j ≠ ln → vb' j = vb j ∧ fi' j = fi j ∧ se' j = se j ∧ th' j = th j) → Q 1 (nI (nW w l), nI (nH h l), a, nI E, c, vb', fi', se', th')
def erC (T : List Nat) (w h p : Nat) (Q : Int32 → (Int32 × Int32 × Int32 × Int32 × Int32 × (Nat → Int32) × (Nat → Int32) × (Nat → Int32) × (Nat → Int32)) → Prop) : Prop := ∀ S a c d e f1 f2 f3 f4, pLine (bT T) T.length w h p = .error S → Q 0 (a, c, nI S, d, e, f1, f2, f3, f4)
theorem s_cl6 {T : List Nat} {len : Int32} {arr vb fi se th f3 : Nat → Int32} {w h p ln E0 v : Nat} {hiI : Int32} {Q : Int32 → (Int32 × Int32 × Int32 × Int32 × Int32 × (Nat → Int32) × (Nat → Int32) × (Nat → Int32) × (Nat → Int32)) → Prop} (hR : RT T len arr) (hE0 : E0 ≤ T.length) (hl : ln < 10) (hv : 6 ≤ v ∧ v ≤ 9) (hhi : hiI = nI (limV v)) (hpl : pLine (bT T) T.length w h p = bE (pNum (bT T) T.length 0 (limV v) E0) fun x => .ok ((v, x.1, 0, 0), x.2)) (h1 : f3 ln = nI v) (h2 : ∀ j, j ≠ ln → f3 j = vb j) (hEr : erC T w h p Q) (hOk : okC T w h ln p vb fi se th Q) : wp_X6_readNumber 0 hiI (nI E0) len arr (fun (r34 : Int32) (u35 : Int32 × Int32 × Int32) => wp_X6_keep 10 (nI ln) r34 fi (fun (r36 : Int32) (u37 : (Nat → Int32)) => (r36 = 0 ∨ r36 = 1) ∧ Q r36 (nI w, nI h, u35.1, u35.2.1, u35.2.2, f3, u37, se, th))) := by
  have hlim : limV v < 200 := by
    have : ∀ u, u < 10 → limV u < 200 := by decide +kernel
    exact this v (by omega)
  refine s_cnum hR hE0 (lo := 0) (by decide) hlim rfl hhi (fun S e k er => s_keep hl ?_) (fun x E s k ok q1 q2 hE => s_keep hl ?_)
  · rw [if_pos rfl]
    rw [bE_er er] at hpl
    exact ⟨Or.inl rfl, hEr _ _ _ _ _ _ _ _ _ hpl⟩
  · rw [if_neg (z_m1 (by omega))]
    rw [bE_ok ok] at hpl
    refine ⟨Or.inr rfl, ?_⟩
    have := hOk (v, x, 0, 0) E s k f3 (upd fi ln (nI x)) se th hpl (lOK_n hv q2) hE ⟨h1, fun _ => z_upd_eq _ _ _, fun q => absurd q (show ¬ v ≤ 5 by omega), fun q => absurd q (show ¬ (v = 1 ∨ v = 4 ∨ v = 5) by omega)⟩ (fun j hj => ⟨h2 j hj, z_upd_ne _ _ hj, rfl, rfl⟩)
    unfold nW nH at this
    rw [if_neg (show ¬ v = 0 by omega), if_neg (show ¬ v = 0 by omega)] at this
    exact this
theorem s_cl2 {T : List Nat} {len : Int32} {arr vb fi se th f3 : Nat → Int32} {w h p ln E0 v : Nat} {Q : Int32 → (Int32 × Int32 × Int32 × Int32 × Int32 × (Nat → Int32) × (Nat → Int32) × (Nat → Int32) × (Nat → Int32)) → Prop} (ks : okS w h) (hR : RT T len arr) (hE0 : E0 ≤ T.length) (hl : ln < 10) (hv : v = 2 ∨ v = 3) (hpl : pLine (bT T) T.length w h p = bE (pPlace (bT T) T.length w h E0) fun x => .ok ((v, x.1, x.2.1, 0), x.2.2)) (h1 : f3 ln = nI v) (h2 : ∀ j, j ≠ ln → f3 j = vb j) (hEr : erC T w h p Q) (hOk : okC T w h ln p vb fi se th Q) : wp_X6_readPlace (nI ln) (nI w) (nI h) (nI E0) fi se len arr (fun (r14 : Int32) (u15 : Int32 × Int32 × Int32 × (Nat → Int32) × (Nat → Int32)) => (r14 = 0 ∨ r14 = 1) ∧ Q r14 (nI w, nI h, u15.1, u15.2.1, u15.2.2.1, f3, u15.2.2.2.1, u15.2.2.2.2, th)) := by
  refine s_cplace hR hE0 ks.1 ks.lt.1 ks.2.1 ks.lt.2 hl (fun S a c d e er => ?_) (fun x y E a c ok hx hy hE => ?_)
  · rw [bE_er er] at hpl
    exact ⟨Or.inl rfl, hEr _ _ _ _ _ _ _ _ _ hpl⟩
  · rw [bE_ok ok] at hpl
    refine ⟨Or.inr rfl, ?_⟩
    have := hOk (v, x, y, 0) E a c f3 (upd fi ln (nI x)) (upd se ln (nI y)) th hpl (lOK_p (by omega) hx hy (fun q => absurd q (by omega)) (fun q => absurd q (by omega))) hE ⟨h1, fun _ => z_upd_eq _ _ _, fun _ => z_upd_eq _ _ _, fun q => absurd q (show ¬ (v = 1 ∨ v = 4 ∨ v = 5) by omega)⟩ (fun j hj => ⟨h2 j hj, z_upd_ne _ _ hj, z_upd_ne _ _ hj, rfl⟩)
    unfold nW nH at this
    rw [if_neg (show ¬ v = 0 by omega), if_neg (show ¬ v = 0 by omega)] at this
    exact this
theorem s_cl1 {T : List Nat} {len : Int32} {arr vb fi se th f3 : Nat → Int32} {w h p ln E0 : Nat} {Q : Int32 → (Int32 × Int32 × Int32 × Int32 × Int32 × (Nat → Int32) × (Nat → Int32) × (Nat → Int32) × (Nat → Int32)) → Prop} (ks : okS w h) (hR : RT T len arr) (hE0 : E0 ≤ T.length) (hl : ln < 10) (hpl : pLine (bT T) T.length w h p = bE (pPlace (bT T) T.length w h E0) fun x => bE (pNum (bT T) T.length 0 9 x.2.2) fun y => .ok ((1, x.1, x.2.1, y.1), y.2)) (h1 : f3 ln = nI 1) (h2 : ∀ j, j ≠ ln → f3 j = vb j) (hEr : erC T w h p Q) (hOk : okC T w h ln p vb fi se th Q) : wp_X6_readPlace (nI ln) (nI w) (nI h) (nI E0) fi se len arr (fun (r6 : Int32) (u7 : Int32 × Int32 × Int32 × (Nat → Int32) × (Nat → Int32)) => ((r6 = 0 → Q 0 (nI w, nI h, u7.1, u7.2.1, u7.2.2.1, f3, u7.2.2.2.1, u7.2.2.2.2, th)) ∧ (¬ r6 = 0 → wp_X6_readNumber 0 9 u7.2.1 len arr (fun (r9 : Int32) (u10 : Int32 × Int32 × Int32) => wp_X6_keep 10 (nI ln) r9 th (fun (r11 : Int32) (u12 : (Nat → Int32)) => ((r11 = 0 → Q 0 (nI w, nI h, u10.1, u10.2.1, u10.2.2, f3, u7.2.2.2.1, u7.2.2.2.2, u12)) ∧ (¬ r11 = 0 → Q 1 (nI w, nI h, u10.1, u10.2.1, u10.2.2, f3, u7.2.2.2.1, u7.2.2.2.2, u12)))))))) := by
  refine s_cplace hR hE0 ks.1 ks.lt.1 ks.2.1 ks.lt.2 hl (fun S a c d e er => ?_) (fun x y E a c ok hx hy hE => ?_)
  · rw [bE_er er] at hpl
    exact ⟨fun _ => hEr _ _ _ _ _ _ _ _ _ hpl, fun z => absurd rfl z⟩
  · rw [bE_ok ok] at hpl
    refine ⟨fun z => absurd z (by decide), fun _ => s_cnum hR hE (lo := 0) (hi := 9) (by decide) (by decide) rfl rfl (fun S e k er => s_keep hl ?_) (fun t E2 s k ok2 q1 q2 hE2 => s_keep hl ?_)⟩
    · rw [if_pos rfl]
      replace hpl := hpl.trans (bE_er er)
      exact ⟨fun _ => hEr _ _ _ _ _ _ _ _ _ hpl, fun z => absurd rfl z⟩
    · rw [if_neg (z_m1 (by omega))]
      replace hpl := hpl.trans (bE_ok ok2)
      refine ⟨fun z => absurd z (by decide), fun _ => ?_⟩
      exact hOk (1, x, y, t) E2 s k f3 (upd fi ln (nI x)) (upd se ln (nI y)) (upd th ln (nI t)) hpl (lOK_p (by omega) hx hy (fun _ => q2) (fun q => absurd q (by omega))) hE2 ⟨h1, fun _ => z_upd_eq _ _ _, fun _ => z_upd_eq _ _ _, fun _ => z_upd_eq _ _ _⟩ (fun j hj => ⟨h2 j hj, z_upd_ne _ _ hj, z_upd_ne _ _ hj, z_upd_ne _ _ hj⟩)
theorem s_cl4 {T : List Nat} {len : Int32} {arr vb fi se th f3 : Nat → Int32} {w h p ln E0 v : Nat} {Q : Int32 → (Int32 × Int32 × Int32 × Int32 × Int32 × (Nat → Int32) × (Nat → Int32) × (Nat → Int32) × (Nat → Int32)) → Prop} (ks : okS w h) (hR : RT T len arr) (hE0 : E0 ≤ T.length) (hl : ln < 10) (hv : v = 4 ∨ v = 5) (hpl : pLine (bT T) T.length w h p = bE (bE (pPlace (bT T) T.length w h E0) (fun x => bE (pDir (bT T) T.length x.2.2) fun y => .ok ((x.1, x.2.1, y.1), y.2))) fun x => .ok ((v, x.1.1, x.1.2.1, x.1.2.2), x.2)) (h1 : f3 ln = nI v) (h2 : ∀ j, j ≠ ln → f3 j = vb j) (hEr : erC T w h p Q) (hOk : okC T w h ln p vb fi se th Q) : wp_X6_readPlace (nI ln) (nI w) (nI h) (nI E0) fi se len arr (fun (r18 : Int32) (u19 : Int32 × Int32 × Int32 × (Nat → Int32) × (Nat → Int32)) => ((r18 = 0 → Q 0 (nI w, nI h, u19.1, u19.2.1, u19.2.2.1, f3, u19.2.2.2.1, u19.2.2.2.2, th)) ∧ (¬ r18 = 0 → wp_X6_readDirection u19.2.1 len arr (fun (r21 : Int32) (u22 : Int32 × Int32 × Int32) => wp_X6_keep 10 (nI ln) r21 th (fun (r23 : Int32) (u24 : (Nat → Int32)) => ((r23 = 0 → Q 0 (nI w, nI h, u22.1, u22.2.1, u22.2.2, f3, u19.2.2.2.1, u19.2.2.2.2, u24)) ∧ (¬ r23 = 0 → Q 1 (nI w, nI h, u22.1, u22.2.1, u22.2.2, f3, u19.2.2.2.1, u19.2.2.2.2, u24)))))))) := by
  refine s_cplace hR hE0 ks.1 ks.lt.1 ks.2.1 ks.lt.2 hl (fun S a c d e er => ?_) (fun x y E a c ok hx hy hE => ?_)
  · rw [bE_er (bE_er er)] at hpl
    exact ⟨fun _ => hEr _ _ _ _ _ _ _ _ _ hpl, fun z => absurd rfl z⟩
  · rw [bE_ok ok] at hpl
    obtain ⟨S, hS⟩ : ∃ S, tS (bT T) T.length E = S := ⟨_, rfl⟩
    obtain ⟨F, hF⟩ : ∃ F, fndN (tV (bT T) T.length S) 11 4 0 = F := ⟨_, rfl⟩
    have hSl := tS_le (b := bT T) hE
    rw [hS] at hSl
    have hEl := tE_le (b := bT T) hSl.2
    have hpd : pDir (bT T) T.length E = if F < 4 then .ok (F, tE (bT T) T.length S) else .error S := by
      unfold pDir
      rw [hS, hF]
    refine ⟨fun z => absurd z (by decide), fun _ => s_cdir hR hE hS (s_keep hl ?_)⟩
    rw [hF]
    by_cases hF4 : F < 4
    · rw [if_pos hF4] at hpd
      rw [resN, if_pos hF4, if_neg (z_m1 (by omega))]
      replace hpl := hpl.trans (bE_ok (bE_ok hpd))
      refine ⟨fun z => absurd z (by decide), fun _ => ?_⟩
      have := hOk (v, x, y, F) (tE (bT T) T.length S) (nI S) (nI (tK (bT T) T.length S)) f3 (upd fi ln (nI x)) (upd se ln (nI y)) (upd th ln (nI F)) hpl (lOK_p (by omega) hx hy (fun q => absurd q (by omega)) (fun _ => hF4)) hEl.2 ⟨h1, fun _ => z_upd_eq _ _ _, fun _ => z_upd_eq _ _ _, fun _ => z_upd_eq _ _ _⟩ (fun j hj => ⟨h2 j hj, z_upd_ne _ _ hj, z_upd_ne _ _ hj, z_upd_ne _ _ hj⟩)
      unfold nW nH at this
      rw [if_neg (show ¬ v = 0 by omega), if_neg (show ¬ v = 0 by omega)] at this
      exact this
    · rw [if_neg hF4] at hpd
      rw [resN, if_neg hF4, if_pos rfl]
      replace hpl := hpl.trans (bE_er (bE_er hpd))
      exact ⟨fun _ => hEr _ _ _ _ _ _ _ _ _ hpl, fun z => absurd rfl z⟩
theorem s_cl0 {T : List Nat} {len : Int32} {arr vb fi se th f3 : Nat → Int32} {w h p ln E0 : Nat} {Q : Int32 → (Int32 × Int32 × Int32 × Int32 × Int32 × (Nat → Int32) × (Nat → Int32) × (Nat → Int32) × (Nat → Int32)) → Prop} (hR : RT T len arr) (hE0 : E0 ≤ T.length) (hl : ln < 10) (hpl : pLine (bT T) T.length w h p = bE (pSize (bT T) T.length E0) fun x => .ok ((0, x.1, x.2.1, 0), x.2.2)) (h1 : f3 ln = nI 0) (h2 : ∀ j, j ≠ ln → f3 j = vb j) (hEr : erC T w h p Q) (hOk : okC T w h ln p vb fi se th Q) : wp_X6_readSize (nI ln) (nI w) (nI h) (nI E0) fi se len arr (fun (r4 : Int32) (u5 : Int32 × Int32 × Int32 × Int32 × Int32 × (Nat → Int32) × (Nat → Int32)) => (r4 = 0 ∨ r4 = 1) ∧ Q r4 (u5.1, u5.2.1, u5.2.2.1, u5.2.2.2.1, u5.2.2.2.2.1, f3, u5.2.2.2.2.2.1, u5.2.2.2.2.2.2, th)) := by
  refine s_csize hR hE0 hl (fun S a c d e f g er => ?_) (fun x y E a c ok kxy hE => ?_)
  · rw [bE_er er] at hpl
    exact ⟨Or.inl rfl, hEr _ _ _ _ _ _ _ _ _ hpl⟩
  · rw [bE_ok ok] at hpl
    exact ⟨Or.inr rfl, hOk (0, x, y, 0) E a c f3 (upd fi ln (nI x)) (upd se ln (nI y)) th hpl (lOK_0 kxy) hE ⟨h1, fun _ => z_upd_eq _ _ _, fun _ => z_upd_eq _ _ _, fun q => absurd q (show ¬ (0 = 1 ∨ 0 = 4 ∨ 0 = 5) by decide)⟩ (fun j hj => ⟨h2 j hj, z_upd_ne _ _ hj, z_upd_ne _ _ hj, rfl⟩)⟩
theorem s_cline {T : List Nat} {len : Int32} {arr vb fi se th : Nat → Int32} {w h p ln : Nat} {Q : Int32 → (Int32 × Int32 × Int32 × Int32 × Int32 × (Nat → Int32) × (Nat → Int32) × (Nat → Int32) × (Nat → Int32)) → Prop} (ks : okS w h) (hR : RT T len arr) (hp : p ≤ T.length) (hl : ln < 10) (hEr : erC T w h p Q) (hOk : okC T w h ln p vb fi se th Q) : wp_X6_readLine (nI ln) (nI w) (nI h) (nI p) vb fi se th len arr Q := by
  unfold wp_X6_readLine
  obtain ⟨S, hS⟩ : ∃ S, tS (bT T) T.length p = S := ⟨_, rfl⟩
  obtain ⟨E0, hE0⟩ : ∃ E0, tE (bT T) T.length S = E0 := ⟨_, rfl⟩
  obtain ⟨V, hV⟩ : ∃ V, fndN (tV (bT T) T.length S) 0 11 0 = V := ⟨_, rfl⟩
  have hSl := tS_le (b := bT T) hp
  rw [hS] at hSl
  have hEl := tE_le (b := bT T) hSl.2
  rw [hE0] at hEl
  have hVl := fndN_le (tV (bT T) T.length S) 0 11 0
  rw [hV] at hVl
  have hpl : pLine (bT T) T.length w h p = pArg (bT T) T.length w h V S E0 := by
    unfold pLine
    rw [hS, hV, hE0]
  refine s_cverb hR hp hS ?_
  rw [hV, hE0]
  refine ⟨pk_in ln 10 hl, fun f3 e3 => ?_⟩
  rw [z_cl (by omega)] at e3
  have h2 : ∀ j, j ≠ ln → f3 j = vb j := fun j hj => by rw [e3, z_upd_ne _ _ hj]
  have h1 : f3 ln = resN 11 V := by rw [e3, z_upd_eq]
  clear e3 hVl
  rcases (show V = 0 ∨ V = 1 ∨ V = 2 ∨ V = 3 ∨ V = 4 ∨ V = 5 ∨ V = 6 ∨ V = 7 ∨ V = 8 ∨ V = 9 ∨ V = 10 ∨ V = 11 by have := fndN_le (tV (bT T) T.length S) 0 11 0; omega) with e | e | e | e | e | e | e | e | e | e | e | e
  · subst e
    exact ⟨fun _ => s_cl0 hR hEl.2 hl hpl h1 h2 hEr hOk, fun z => absurd z (by decide), fun z => absurd z (by decide), fun z => absurd z (by decide), fun z => absurd z (by decide), fun z => absurd z (by decide), fun z => absurd z (by decide), fun z => absurd z (by decide), fun z => absurd z (by decide), fun z => absurd z (by decide), fun z => absurd z (by decide), fun z => absurd rfl (z.1)⟩
  · subst e
    exact ⟨fun z => absurd z (by decide), fun _ => s_cl1 ks hR hEl.2 hl hpl h1 h2 hEr hOk, fun z => absurd z (by decide), fun z => absurd z (by decide), fun z => absurd z (by decide), fun z => absurd z (by decide), fun z => absurd z (by decide), fun z => absurd z (by decide), fun z => absurd z (by decide), fun z => absurd z (by decide), fun z => absurd z (by decide), fun z => absurd rfl (z.2.1)⟩
  · subst e
    exact ⟨fun z => absurd z (by decide), fun z => absurd z (by decide), fun _ => s_cl2 ks hR hEl.2 hl (Or.inl rfl) hpl h1 h2 hEr hOk, fun z => absurd z (by decide), fun z => absurd z (by decide), fun z => absurd z (by decide), fun z => absurd z (by decide), fun z => absurd z (by decide), fun z => absurd z (by decide), fun z => absurd z (by decide), fun z => absurd z (by decide), fun z => absurd rfl (z.2.2.1)⟩
  · subst e
    exact ⟨fun z => absurd z (by decide), fun z => absurd z (by decide), fun z => absurd z (by decide), fun _ => s_cl2 ks hR hEl.2 hl (Or.inr rfl) hpl h1 h2 hEr hOk, fun z => absurd z (by decide), fun z => absurd z (by decide), fun z => absurd z (by decide), fun z => absurd z (by decide), fun z => absurd z (by decide), fun z => absurd z (by decide), fun z => absurd z (by decide), fun z => absurd rfl (z.2.2.2.1)⟩
  · subst e
    exact ⟨fun z => absurd z (by decide), fun z => absurd z (by decide), fun z => absurd z (by decide), fun z => absurd z (by decide), fun _ => s_cl4 ks hR hEl.2 hl (Or.inl rfl) hpl h1 h2 hEr hOk, fun z => absurd z (by decide), fun z => absurd z (by decide), fun z => absurd z (by decide), fun z => absurd z (by decide), fun z => absurd z (by decide), fun z => absurd z (by decide), fun z => absurd rfl (z.2.2.2.2.1)⟩
  · subst e
    exact ⟨fun z => absurd z (by decide), fun z => absurd z (by decide), fun z => absurd z (by decide), fun z => absurd z (by decide), fun z => absurd z (by decide), fun _ => s_cl4 ks hR hEl.2 hl (Or.inr rfl) hpl h1 h2 hEr hOk, fun z => absurd z (by decide), fun z => absurd z (by decide), fun z => absurd z (by decide), fun z => absurd z (by decide), fun z => absurd z (by decide), fun z => absurd rfl (z.2.2.2.2.2.1)⟩
  · subst e
    exact ⟨fun z => absurd z (by decide), fun z => absurd z (by decide), fun z => absurd z (by decide), fun z => absurd z (by decide), fun z => absurd z (by decide), fun z => absurd z (by decide), fun _ => s_cl6 hR hEl.2 hl (by decide) rfl hpl h1 h2 hEr hOk, fun z => absurd z (by decide), fun z => absurd z (by decide), fun z => absurd z (by decide), fun z => absurd z (by decide), fun z => absurd rfl (z.2.2.2.2.2.2.1)⟩
  · subst e
    exact ⟨fun z => absurd z (by decide), fun z => absurd z (by decide), fun z => absurd z (by decide), fun z => absurd z (by decide), fun z => absurd z (by decide), fun z => absurd z (by decide), fun z => absurd z (by decide), fun _ => s_cl6 hR hEl.2 hl (by decide) rfl hpl h1 h2 hEr hOk, fun z => absurd z (by decide), fun z => absurd z (by decide), fun z => absurd z (by decide), fun z => absurd rfl (z.2.2.2.2.2.2.2.1)⟩
  · subst e
    exact ⟨fun z => absurd z (by decide), fun z => absurd z (by decide), fun z => absurd z (by decide), fun z => absurd z (by decide), fun z => absurd z (by decide), fun z => absurd z (by decide), fun z => absurd z (by decide), fun z => absurd z (by decide), fun _ => s_cl6 hR hEl.2 hl (by decide) rfl hpl h1 h2 hEr hOk, fun z => absurd z (by decide), fun z => absurd z (by decide), fun z => absurd rfl (z.2.2.2.2.2.2.2.2.1)⟩
  · subst e
    exact ⟨fun z => absurd z (by decide), fun z => absurd z (by decide), fun z => absurd z (by decide), fun z => absurd z (by decide), fun z => absurd z (by decide), fun z => absurd z (by decide), fun z => absurd z (by decide), fun z => absurd z (by decide), fun z => absurd z (by decide), fun _ => s_cl6 hR hEl.2 hl (by decide) rfl hpl h1 h2 hEr hOk, fun z => absurd z (by decide), fun z => absurd rfl (z.2.2.2.2.2.2.2.2.2.1)⟩
  · subst e
    exact ⟨fun z => absurd z (by decide), fun z => absurd z (by decide), fun z => absurd z (by decide), fun z => absurd z (by decide), fun z => absurd z (by decide), fun z => absurd z (by decide), fun z => absurd z (by decide), fun z => absurd z (by decide), fun z => absurd z (by decide), fun z => absurd z (by decide), fun _ => hOk (10, 0, 0, 0) E0 _ _ _ _ _ _ hpl lOK_t hEl.2 ⟨h1, fun q => absurd rfl q, fun q => absurd q (by decide), fun q => absurd q (by decide)⟩ (fun j hj => ⟨h2 j hj, rfl, rfl, rfl⟩), fun z => absurd rfl (z.2.2.2.2.2.2.2.2.2.2)⟩
  · subst e
    exact ⟨fun z => absurd z (by decide), fun z => absurd z (by decide), fun z => absurd z (by decide), fun z => absurd z (by decide), fun z => absurd z (by decide), fun z => absurd z (by decide), fun z => absurd z (by decide), fun z => absurd z (by decide), fun z => absurd z (by decide), fun z => absurd z (by decide), fun z => absurd z (by decide), fun _ => hEr _ _ _ _ _ _ _ _ _ hpl⟩
end LINES
