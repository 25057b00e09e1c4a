section LINES2
def okM (T : List Nat) (w h ln p : Nat) (fa : Int32) (rd : Nat → Int32) (Q : Int32 → (Int32 × Int32 × Int64 × Int32 × Int32 × Int32 × Int32 × Int32 × (Nat → Int32)) → Prop) : Prop := ∀ l E c d e f rd', pLine (bT T) T.length w h p = .ok (l, E) → lOK w h l → E ≤ T.length → mLn rd' ln l → (∀ j, j < 4 * ln ∨ 4 * ln + 4 ≤ j → rd' j = rd j) → Q 1 (nI E, c, d, e, f, fa, nI (nW w l), nI (nH h l), rd')
def erM (T : List Nat) (w h p : Nat) (Q : Int32 → (Int32 × Int32 × Int64 × Int32 × Int32 × Int32 × Int32 × Int32 × (Nat → Int32)) → Prop) : Prop := ∀ S a c d e f g i r, pLine (bT T) T.length w h p = .error S → Q 0 (a, c, d, e, f, nI S, g, i, r)
theorem s_ml6 {T : List Nat} {len fa : Int32} {arr rd f14 : Nat → Int32} {w h p ln E0 v : Nat} {qI hiI : Int32} {Q : Int32 → (Int32 × Int32 × Int64 × Int32 × Int32 × Int32 × Int32 × Int32 × (Nat → Int32)) → Prop} (hR : RT T len arr) (hE0 : E0 ≤ T.length) (hl : ln < 10) (hv : 6 ≤ v ∧ v ≤ 9) (hqI : qI = nI (4 * ln + 1)) (hhi : hiI = nI (limV v)) (hpl : pLine (bT T) T.length w h p = bE (pNum (bT T) T.length 0 (limV v) E0) fun x => .ok ((v, x.1, 0, 0), x.2)) (h1 : f14 (4 * ln) = nI v) (h2 : ∀ j, j ≠ 4 * ln → f14 j = rd j) (hEr : erM T w h p Q) (hOk : okM T w h ln p fa rd Q) : wp_X11_isNumber qI 0 hiI len (nI E0) fa arr f14 (fun (r31 : Int32) (u32 : Int32 × Int32 × Int64 × Int32 × Int32 × Int32 × (Nat → Int32)) => (r31 = 0 ∨ r31 = 1) ∧ Q r31 (u32.1, u32.2.1, u32.2.2.1, u32.2.2.2.1, u32.2.2.2.2.1, u32.2.2.2.2.2.1, nI w, nI h, u32.2.2.2.2.2.2)) := by
  have hlim : limV v < 200 := by
    have : ∀ u, u < 10 → limV u < 200 := by decide +kernel
    exact this v (by omega)
  refine s_mnum hR hE0 (lo := 0) (by decide) hlim rfl hhi hqI (by omega) (fun S a c d e f er => ?_) (fun x E c d e f ok q1 q2 hE => ?_)
  · rw [bE_er er] at hpl
    exact ⟨Or.inl rfl, hEr _ _ _ _ _ _ _ _ _ hpl⟩
  · rw [bE_ok ok] at hpl
    refine ⟨Or.inr rfl, ?_⟩
    have := hOk (v, x, 0, 0) E c d e f (upd f14 (4 * ln + 1) (nI x)) hpl (lOK_n hv q2) hE ⟨by rw [z_upd_ne _ _ (by omega)]; exact h1, fun _ => z_upd_eq _ _ _, fun q => absurd q (show ¬ v ≤ 5 by omega), fun q => absurd q (show ¬ (v = 1 ∨ v = 4 ∨ v = 5) by omega)⟩ (fun j hj => by rw [z_upd_ne _ _ (by omega)]; exact h2 j (by omega))
    unfold nW nH at this
    rw [if_neg (show ¬ v = 0 by omega), if_neg (show ¬ v = 0 by omega)] at this
    exact this
theorem s_ml2 {T : List Nat} {len fa : Int32} {arr rd f14 : Nat → Int32} {w h p ln E0 v : Nat} {Q : Int32 → (Int32 × Int32 × Int64 × Int32 × Int32 × Int32 × Int32 × Int32 × (Nat → Int32)) → Prop} (ks : okS w h) (hR : RT T len arr) (hE0 : E0 ≤ T.length) (hl : ln < 10) (hv : v = 2 ∨ v = 3) (hpl : pLine (bT T) T.length w h p = bE (pPlace (bT T) T.length w h E0) fun x => .ok ((v, x.1, x.2.1, 0), x.2.2)) (h1 : f14 (4 * ln) = nI v) (h2 : ∀ j, j ≠ 4 * ln → f14 j = rd j) (hEr : erM T w h p Q) (hOk : okM T w h ln p fa rd Q) : wp_X11_isPlace (nI (4 * ln)) len (nI E0) fa (nI w) (nI h) arr f14 (fun (r23 : Int32) (u24 : Int32 × Int32 × Int64 × Int32 × Int32 × Int32 × (Nat → Int32)) => (r23 = 0 ∨ r23 = 1) ∧ Q r23 (u24.1, u24.2.1, u24.2.2.1, u24.2.2.2.1, u24.2.2.2.2.1, u24.2.2.2.2.2.1, nI w, nI h, u24.2.2.2.2.2.2)) := by
  refine s_mplace hR hE0 ks.1 ks.lt.1 ks.2.1 ks.lt.2 (by omega) (fun S a c d e f r er => ?_) (fun x y E c d e f ok hx hy hE => ?_)
  · rw [bE_er er] at hpl
    exact ⟨Or.inl rfl, hEr _ _ _ _ _ _ _ _ _ hpl⟩
  · rw [bE_ok ok] at hpl
    refine ⟨Or.inr rfl, ?_⟩
    have := hOk (v, x, y, 0) E c d e f (upd (upd f14 (4 * ln + 1) (nI x)) (4 * ln + 2) (nI y)) hpl (lOK_p (by omega) hx hy (fun q => absurd q (by omega)) (fun q => absurd q (by omega))) hE ⟨by rw [z_upd_ne _ _ (by omega), z_upd_ne _ _ (by omega)]; exact h1, fun _ => by rw [z_upd_ne _ _ (by omega), z_upd_eq], fun _ => z_upd_eq _ _ _, fun q => absurd q (show ¬ (v = 1 ∨ v = 4 ∨ v = 5) by omega)⟩ (fun j hj => by rw [z_upd_ne _ _ (by omega), z_upd_ne _ _ (by omega)]; exact h2 j (by omega))
    unfold nW nH at this
    rw [if_neg (show ¬ v = 0 by omega), if_neg (show ¬ v = 0 by omega)] at this
    exact this
theorem s_ml1 {T : List Nat} {len fa : Int32} {arr rd f14 : Nat → Int32} {w h p ln E0 : Nat} {qI : Int32} {Q : Int32 → (Int32 × Int32 × Int64 × Int32 × Int32 × Int32 × Int32 × Int32 × (Nat → Int32)) → Prop} (ks : okS w h) (hR : RT T len arr) (hE0 : E0 ≤ T.length) (hl : ln < 10) (hqI : qI = nI (4 * ln + 3)) (hpl : pLine (bT T) T.length w h p = bE (pPlace (bT T) T.length w h E0) fun x => bE (pNum (bT T) T.length 0 9 x.2.2) fun y => .ok ((1, x.1, x.2.1, y.1), y.2)) (h1 : f14 (4 * ln) = nI 1) (h2 : ∀ j, j ≠ 4 * ln → f14 j = rd j) (hEr : erM T w h p Q) (hOk : okM T w h ln p fa rd Q) : wp_X11_isPlace (nI (4 * ln)) len (nI E0) fa (nI w) (nI h) arr f14 (fun (r17 : Int32) (u18 : Int32 × Int32 × Int64 × Int32 × Int32 × Int32 × (Nat → Int32)) => ((r17 = 0 → Q 0 (u18.1, u18.2.1, u18.2.2.1, u18.2.2.2.1, u18.2.2.2.2.1, u18.2.2.2.2.2.1, nI w, nI h, u18.2.2.2.2.2.2)) ∧ (¬ r17 = 0 → wp_X11_isNumber qI 0 9 len u18.1 u18.2.2.2.2.2.1 arr u18.2.2.2.2.2.2 (fun (r20 : Int32) (u21 : Int32 × Int32 × Int64 × Int32 × Int32 × Int32 × (Nat → Int32)) => ((r20 = 0 → Q 0 (u21.1, u21.2.1, u21.2.2.1, u21.2.2.2.1, u21.2.2.2.2.1, u21.2.2.2.2.2.1, nI w, nI h, u21.2.2.2.2.2.2)) ∧ (¬ r20 = 0 → Q 1 (u21.1, u21.2.1, u21.2.2.1, u21.2.2.2.1, u21.2.2.2.2.1, u21.2.2.2.2.2.1, nI w, nI h, u21.2.2.2.2.2.2))))))) := by
  refine s_mplace hR hE0 ks.1 ks.lt.1 ks.2.1 ks.lt.2 (by omega) (fun S a c d e f r er => ?_) (fun x y E c d e f ok hx hy hE => ?_)
  · rw [bE_er er] at hpl
    exact ⟨fun _ => hEr _ _ _ _ _ _ _ _ _ hpl, fun z => absurd rfl z⟩
  · rw [bE_ok ok] at hpl
    refine ⟨fun z => absurd z (by decide), fun _ => s_mnum hR hE (lo := 0) (hi := 9) (by decide) (by decide) rfl rfl hqI (by omega) (fun S a c d e f er => ?_) (fun t E2 c d e f ok2 q1 q2 hE2 => ?_)⟩
    · replace hpl := hpl.trans (bE_er er)
      exact ⟨fun _ => hEr _ _ _ _ _ _ _ _ _ hpl, fun z => absurd rfl z⟩
    · replace hpl := hpl.trans (bE_ok ok2)
      refine ⟨fun z => absurd z (by decide), fun _ => ?_⟩
      exact hOk (1, x, y, t) E2 c d e f (upd (upd (upd f14 (4 * ln + 1) (nI x)) (4 * ln + 2) (nI y)) (4 * ln + 3) (nI t)) hpl (lOK_p (by omega) hx hy (fun _ => q2) (fun q => absurd q (by omega))) hE2 ⟨by rw [z_upd_ne _ _ (by omega), z_upd_ne _ _ (by omega), z_upd_ne _ _ (by omega)]; exact h1, fun _ => by rw [z_upd_ne _ _ (by omega), z_upd_ne _ _ (by omega), z_upd_eq], fun _ => by rw [z_upd_ne _ _ (by omega), z_upd_eq], fun _ => z_upd_eq _ _ _⟩ (fun j hj => by rw [z_upd_ne _ _ (by omega), z_upd_ne _ _ (by omega), z_upd_ne _ _ (by omega)]; exact h2 j (by omega))
theorem s_ml4 {T : List Nat} {len fa : Int32} {arr rd f14 : Nat → Int32} {w h p ln E0 v : Nat} {Q : Int32 → (Int32 × Int32 × Int64 × Int32 × Int32 × Int32 × Int32 × Int32 × (Nat → Int32)) → Prop} (ks : okS w h) (hR : RT T len arr) (hE0 : E0 ≤ T.length) (hl : ln < 10) (hv : v = 4 ∨ v = 5) (hpl : pLine (bT T) T.length w h p = bE (bE (pPlace (bT T) T.length w h E0) (fun x => bE (pDir (bT T) T.length x.2.2) fun y => .ok ((x.1, x.2.1, y.1), y.2))) fun x => .ok ((v, x.1.1, x.1.2.1, x.1.2.2), x.2)) (h1 : f14 (4 * ln) = nI v) (h2 : ∀ j, j ≠ 4 * ln → f14 j = rd j) (hEr : erM T w h p Q) (hOk : okM T w h ln p fa rd Q) : wp_X11_isHedge (nI (4 * ln)) len (nI E0) fa (nI w) (nI h) arr f14 (fun (r27 : Int32) (u28 : Int32 × Int32 × Int64 × Int32 × Int32 × Int32 × (Nat → Int32)) => (r27 = 0 ∨ r27 = 1) ∧ Q r27 (u28.1, u28.2.1, u28.2.2.1, u28.2.2.2.1, u28.2.2.2.2.1, u28.2.2.2.2.2.1, nI w, nI h, u28.2.2.2.2.2.2)) := by
  refine s_mhedge hR hE0 ks.1 ks.lt.1 ks.2.1 ks.lt.2 (by omega) (fun S a c d e f r er => ?_) (fun x y t E c d e f ok hx hy ht hE => ?_)
  · rw [bE_er er] at hpl
    exact ⟨Or.inl rfl, hEr _ _ _ _ _ _ _ _ _ hpl⟩
  · rw [bE_ok ok] at hpl
    refine ⟨Or.inr rfl, ?_⟩
    have := hOk (v, x, y, t) E c d e f (upd (upd (upd f14 (4 * ln + 1) (nI x)) (4 * ln + 2) (nI y)) (4 * ln + 3) (nI t)) hpl (lOK_p (by omega) hx hy (fun q => absurd q (by omega)) (fun _ => ht)) hE ⟨by rw [z_upd_ne _ _ (by omega), z_upd_ne _ _ (by omega), z_upd_ne _ _ (by omega)]; exact h1, fun _ => by rw [z_upd_ne _ _ (by omega), z_upd_ne _ _ (by omega), z_upd_eq], fun _ => by rw [z_upd_ne _ _ (by omega), z_upd_eq], fun _ => z_upd_eq _ _ _⟩ (fun j hj => by rw [z_upd_ne _ _ (by omega), z_upd_ne _ _ (by omega), z_upd_ne _ _ (by omega)]; exact h2 j (by omega))
    unfold nW nH at this
    rw [if_neg (show ¬ v = 0 by omega), if_neg (show ¬ v = 0 by omega)] at this
    exact this
theorem s_ml0 {T : List Nat} {len fa : Int32} {arr rd f14 : Nat → Int32} {w h p ln E0 : Nat} {Q : Int32 → (Int32 × Int32 × Int64 × Int32 × Int32 × Int32 × Int32 × Int32 × (Nat → Int32)) → Prop} (hR : RT T len arr) (hE0 : E0 ≤ T.length) (hl : ln < 10) (hpl : pLine (bT T) T.length w h p = bE (pSize (bT T) T.length E0) fun x => .ok ((0, x.1, x.2.1, 0), x.2.2)) (h1 : f14 (4 * ln) = nI 0) (h2 : ∀ j, j ≠ 4 * ln → f14 j = rd j) (hEr : erM T w h p Q) (hOk : okM T w h ln p fa rd Q) : wp_X11_isField (nI (4 * ln)) len (nI E0) fa (nI w) (nI h) arr f14 (fun (r15 : Int32) (u16 : Int32 × Int32 × Int64 × Int32 × Int32 × Int32 × Int32 × Int32 × (Nat → Int32)) => (r15 = 0 ∨ r15 = 1) ∧ Q r15 (u16.1, u16.2.1, u16.2.2.1, u16.2.2.2.1, u16.2.2.2.2.1, u16.2.2.2.2.2.1, u16.2.2.2.2.2.2.1, u16.2.2.2.2.2.2.2.1, u16.2.2.2.2.2.2.2.2)) := by
  refine s_msize hR hE0 (by omega) (fun S a c d e f g i r er => ?_) (fun x y E c d e f ok kxy hE => ?_)
  · rw [bE_er er] at hpl
    exact ⟨Or.inl rfl, hEr _ _ _ _ _ _ _ _ _ hpl⟩
  · rw [bE_ok ok] at hpl
    exact ⟨Or.inr rfl, hOk (0, x, y, 0) E c d e f (upd (upd f14 (4 * ln + 1) (nI x)) (4 * ln + 2) (nI y)) hpl (lOK_0 kxy) hE ⟨by rw [z_upd_ne _ _ (by omega), z_upd_ne _ _ (by omega)]; exact h1, fun _ => by rw [z_upd_ne _ _ (by omega), z_upd_eq], fun _ => z_upd_eq _ _ _, fun q => absurd q (show ¬ (0 = 1 ∨ 0 = 4 ∨ 0 = 5) by decide)⟩ (fun j hj => by rw [z_upd_ne _ _ (by omega), z_upd_ne _ _ (by omega)]; exact h2 j (by omega))⟩
theorem s_ml193 {T : List Nat} {len fa dg nu : Int32} {tk : Int64} {arr rd : Nat → Int32} {w h p ln S E0 V : Nat} {s0 : Int32} {Q : Int32 → (Int32 × Int32 × Int64 × Int32 × Int32 × Int32 × Int32 × Int32 × (Nat → Int32)) → Prop} (ks : okS w h) (hR : RT T len arr) (hS : S ≤ T.length) (hE : E0 ≤ T.length) (hl : ln < 10) (hV : V ≤ 11) (hpl : pLine (bT T) T.length w h p = pArg (bT T) T.length w h V S E0) (hs0 : s0 = resN 11 V) (hEr : erM T w h p Q) (hOk : okM T w h ln p fa rd Q) : bk_X11_isLine_193 Q (nI (4 * ln)) len (nI E0) (nI S) tk dg nu fa (nI w) (nI h) arr rd s0 (nI (4 * ln)) := by
  unfold bk_X11_isLine_193 wp_X11_fails
  have hin := pk_in (4 * ln) 40 (by omega)
  refine ⟨hin, fun f14 e14 => ⟨hin, ?_⟩⟩
  rw [z_cl (by omega)] at e14 ⊢
  have h2 : ∀ j, j ≠ 4 * ln → f14 j = rd j := fun j hj => by rw [e14, z_upd_ne _ _ hj]
  have h1 : f14 (4 * ln) = resN 11 V := by rw [e14, z_upd_eq, hs0]
  have hq1 : nI (4 * ln) + 1 = nI (4 * ln + 1) := nI_1 _
  have hq3 : nI (4 * ln) + 3 = nI (4 * ln + 3) := nI_add _ 3
  clear e14
  rw [h1]
  rcases (show V = 0 ∨ V = 1 ∨ V = 2 ∨ V = 3 ∨ V = 4 ∨ V = 5 ∨ V = 6 ∨ V = 7 ∨ V = 8 ∨ V = 9 ∨ V = 10 ∨ V = 11 by omega) with e | e | e | e | e | e | e | e | e | e | e | e
  · subst e
    exact ⟨fun _ => s_ml0 hR hE hl hpl h1 h2 hEr hOk, fun z => absurd z (by decide), fun z => absurd z (by decide), fun z => absurd z (by decide), fun z => absurd z (by decide), fun z => absurd z (by decide), fun z => absurd z (by decide), fun z => absurd z (by decide), fun z => absurd z (by decide), fun z => absurd z (by decide), fun z => absurd z (by decide), fun z => absurd rfl (z.1)⟩
  · subst e
    exact ⟨fun z => absurd z (by decide), fun _ => s_ml1 ks hR hE hl hq3 hpl h1 h2 hEr hOk, fun z => absurd z (by decide), fun z => absurd z (by decide), fun z => absurd z (by decide), fun z => absurd z (by decide), fun z => absurd z (by decide), fun z => absurd z (by decide), fun z => absurd z (by decide), fun z => absurd z (by decide), fun z => absurd z (by decide), fun z => absurd rfl (z.2.1)⟩
  · subst e
    exact ⟨fun z => absurd z (by decide), fun z => absurd z (by decide), fun _ => s_ml2 ks hR hE hl (Or.inl rfl) hpl h1 h2 hEr hOk, fun z => absurd z (by decide), fun z => absurd z (by decide), fun z => absurd z (by decide), fun z => absurd z (by decide), fun z => absurd z (by decide), fun z => absurd z (by decide), fun z => absurd z (by decide), fun z => absurd z (by decide), fun z => absurd rfl (z.2.2.1)⟩
  · subst e
    exact ⟨fun z => absurd z (by decide), fun z => absurd z (by decide), fun z => absurd z (by decide), fun _ => s_ml2 ks hR hE hl (Or.inr rfl) hpl h1 h2 hEr hOk, fun z => absurd z (by decide), fun z => absurd z (by decide), fun z => absurd z (by decide), fun z => absurd z (by decide), fun z => absurd z (by decide), fun z => absurd z (by decide), fun z => absurd z (by decide), fun z => absurd rfl (z.2.2.2.1)⟩
  · subst e
    exact ⟨fun z => absurd z (by decide), fun z => absurd z (by decide), fun z => absurd z (by decide), fun z => absurd z (by decide), fun _ => s_ml4 ks hR hE hl (Or.inl rfl) hpl h1 h2 hEr hOk, fun z => absurd z (by decide), fun z => absurd z (by decide), fun z => absurd z (by decide), fun z => absurd z (by decide), fun z => absurd z (by decide), fun z => absurd z (by decide), fun z => absurd rfl (z.2.2.2.2.1)⟩
  · subst e
    exact ⟨fun z => absurd z (by decide), fun z => absurd z (by decide), fun z => absurd z (by decide), fun z => absurd z (by decide), fun z => absurd z (by decide), fun _ => s_ml4 ks hR hE hl (Or.inr rfl) hpl h1 h2 hEr hOk, fun z => absurd z (by decide), fun z => absurd z (by decide), fun z => absurd z (by decide), fun z => absurd z (by decide), fun z => absurd z (by decide), fun z => absurd rfl (z.2.2.2.2.2.1)⟩
  · subst e
    exact ⟨fun z => absurd z (by decide), fun z => absurd z (by decide), fun z => absurd z (by decide), fun z => absurd z (by decide), fun z => absurd z (by decide), fun z => absurd z (by decide), fun _ => s_ml6 hR hE hl (by decide) hq1 rfl hpl h1 h2 hEr hOk, fun z => absurd z (by decide), fun z => absurd z (by decide), fun z => absurd z (by decide), fun z => absurd z (by decide), fun z => absurd rfl (z.2.2.2.2.2.2.1)⟩
  · subst e
    exact ⟨fun z => absurd z (by decide), fun z => absurd z (by decide), fun z => absurd z (by decide), fun z => absurd z (by decide), fun z => absurd z (by decide), fun z => absurd z (by decide), fun z => absurd z (by decide), fun _ => s_ml6 hR hE hl (by decide) hq1 rfl hpl h1 h2 hEr hOk, fun z => absurd z (by decide), fun z => absurd z (by decide), fun z => absurd z (by decide), fun z => absurd rfl (z.2.2.2.2.2.2.2.1)⟩
  · subst e
    exact ⟨fun z => absurd z (by decide), fun z => absurd z (by decide), fun z => absurd z (by decide), fun z => absurd z (by decide), fun z => absurd z (by decide), fun z => absurd z (by decide), fun z => absurd z (by decide), fun z => absurd z (by decide), fun _ => s_ml6 hR hE hl (by decide) hq1 rfl hpl h1 h2 hEr hOk, fun z => absurd z (by decide), fun z => absurd z (by decide), fun z => absurd rfl (z.2.2.2.2.2.2.2.2.1)⟩
  · subst e
    exact ⟨fun z => absurd z (by decide), fun z => absurd z (by decide), fun z => absurd z (by decide), fun z => absurd z (by decide), fun z => absurd z (by decide), fun z => absurd z (by decide), fun z => absurd z (by decide), fun z => absurd z (by decide), fun z => absurd z (by decide), fun _ => s_ml6 hR hE hl (by decide) hq1 rfl hpl h1 h2 hEr hOk, fun z => absurd z (by decide), fun z => absurd rfl (z.2.2.2.2.2.2.2.2.2.1)⟩
  · subst e
    exact ⟨fun z => absurd z (by decide), fun z => absurd z (by decide), fun z => absurd z (by decide), fun z => absurd z (by decide), fun z => absurd z (by decide), fun z => absurd z (by decide), fun z => absurd z (by decide), fun z => absurd z (by decide), fun z => absurd z (by decide), fun z => absurd z (by decide), fun _ => hOk (10, 0, 0, 0) E0 _ _ _ _ _ hpl lOK_t hE ⟨h1, fun q => absurd rfl q, fun q => absurd q (by decide), fun q => absurd q (by decide)⟩ (fun j hj => h2 j (by omega)), fun z => absurd rfl (z.2.2.2.2.2.2.2.2.2.2)⟩
  · subst e
    exact ⟨fun z => absurd z (by decide), fun z => absurd z (by decide), fun z => absurd z (by decide), fun z => absurd z (by decide), fun z => absurd z (by decide), fun z => absurd z (by decide), fun z => absurd z (by decide), fun z => absurd z (by decide), fun z => absurd z (by decide), fun z => absurd z (by decide), fun z => absurd z (by decide), fun _ => ⟨Or.inl rfl, hEr _ _ _ _ _ _ _ _ _ hpl⟩⟩
theorem s_mline {T : List Nat} {len fa : Int32} {arr rd : Nat → Int32} {w h p ln : Nat} {Q : Int32 → (Int32 × Int32 × Int64 × Int32 × Int32 × Int32 × Int32 × Int32 × (Nat → Int32)) → Prop} (ks : okS w h) (hR : RT T len arr) (hp : p ≤ T.length) (hl : ln < 10) (hEr : erM T w h p Q) (hOk : okM T w h ln p fa rd Q) : wp_X11_isLine (nI (4 * ln)) len (nI p) fa (nI w) (nI h) arr rd Q := by
  unfold wp_X11_isLine
  obtain ⟨S, hS⟩ : ∃ S, tS (bT T) T.length p = S := ⟨_, rfl⟩
  obtain ⟨E0, hE0⟩ : ∃ E0, tE (bT T) T.length S = E0 := ⟨_, rfl⟩
  have hSl := tS_le (b := bT T) hp
  rw [hS] at hSl
  have hEl := tE_le (b := bT T) hSl.2
  rw [hE0] at hEl
  refine s_mtok hR hp hS (fun dg nu _ => ?_)
  rw [hE0]
  obtain ⟨tk, htk⟩ : ∃ tk, tV (bT T) T.length S = tk := ⟨_, rfl⟩
  have hVl := fndN_le tk 0 11 0
  have hpl : ∀ V, fndN tk 0 11 0 = V → pLine (bT T) T.length w h p = pArg (bT T) T.length w h V S E0 := by
    intro V hV
    unfold pLine
    rw [hS, htk, hV, hE0]
  rw [htk]
  have h193 : ∀ V s0, fndN tk 0 11 0 = V → s0 = resN 11 V → bk_X11_isLine_193 Q (nI (4 * ln)) len (nI E0) (nI S) tk dg nu fa (nI w) (nI h) arr rd s0 (nI (4 * ln)) := by
    intro V s0 hV hs
    rw [hV] at hVl
    exact s_ml193 ks hR hSl.2 hEl.2 hl hVl.2 (hpl V hV) hs hEr hOk
  have h177a : ∀ V x2 s0, fndN tk 0 11 0 = V → x2 = resN 11 V → ¬ x2 = -1 → bk_X11_isLine_177 Q (nI (4 * ln)) x2 len (nI E0) (nI S) tk dg nu fa (nI w) (nI h) arr rd s0 := by
    intro V x2 s0 hV hx hn
    unfold bk_X11_isLine_177
    exact ⟨fun _ => h193 V _ hV hx, fun z => absurd z hn⟩
  have h177b : ∀ V s0, fndN tk 0 11 0 = V → s0 = resN 11 V → bk_X11_isLine_177 Q (nI (4 * ln)) (-1) len (nI E0) (nI S) tk dg nu fa (nI w) (nI h) arr rd s0 := by
    intro V s0 hV hx
    unfold bk_X11_isLine_177
    exact ⟨fun z => absurd rfl z, fun _ => h193 V _ hV hx⟩
  have h95a : ∀ V x2, fndN tk 0 11 0 = V → x2 = resN 11 V → ¬ x2 = -1 → bk_X11_isLine_95 Q (nI (4 * ln)) len (nI E0) (nI S) tk dg nu fa (nI w) (nI h) arr rd x2 := by
    intro V x2 hV hx hn
    unfold bk_X11_isLine_95
    exact ⟨fun _ => ⟨fun _ => ⟨fun _ => ⟨fun _ => ⟨fun _ => h177a V _ _ hV hx hn, fun _ => h177a V _ _ hV hx hn⟩, fun _ => h177a V _ _ hV hx hn⟩, fun _ => h177a V _ _ hV hx hn⟩, fun _ => h177a V _ _ hV hx hn⟩, fun _ => h177a V _ _ hV hx hn⟩
  show (¬ tk = lN (wA 0) → ((¬ tk = lN (wA 1) → ((¬ tk = lN (wA 2) → ((¬ tk = lN (wA 3) → ((¬ tk = lN (wA 4) → ((¬ tk = lN (wA 5) → _) ∧ (tk = lN (wA 5) → _))) ∧ (tk = lN (wA 4) → _))) ∧ (tk = lN (wA 3) → _))) ∧ (tk = lN (wA 2) → _))) ∧ (tk = lN (wA 1) → _))) ∧ (tk = lN (wA 0) → _)
  refine ⟨fun z0 => ⟨fun z1 => ⟨fun z2 => ⟨fun z3 => ⟨fun z4 => ⟨fun z5 => ?_, fun z5 => h95a 5 _ ?_ rfl (by decide)⟩, fun z4 => h95a 4 _ ?_ rfl (by decide)⟩, fun z3 => h95a 3 _ ?_ rfl (by decide)⟩, fun z2 => h95a 2 _ ?_ rfl (by decide)⟩, fun z1 => h95a 1 _ ?_ rfl (by decide)⟩, fun z0 => h95a 0 _ ?_ rfl (by decide)⟩
  · unfold bk_X11_isLine_95
    show (¬ tk = lN (wA 6) → ((¬ tk = lN (wA 7) → ((¬ tk = lN (wA 8) → ((¬ tk = lN (wA 9) → ((¬ tk = lN (wA 10) → _) ∧ (tk = lN (wA 10) → _))) ∧ (tk = lN (wA 9) → _))) ∧ (tk = lN (wA 8) → _))) ∧ (tk = lN (wA 7) → _))) ∧ (tk = lN (wA 6) → _)
    have hbase : fndN tk 0 11 0 = fndN tk 0 5 6 := by rw [fndN, if_neg z0, fndN, if_neg z1, fndN, if_neg z2, fndN, if_neg z3, fndN, if_neg z4, fndN, if_neg z5]
    refine ⟨fun z6 => ⟨fun z7 => ⟨fun z8 => ⟨fun z9 => ⟨fun z10 => h177b 11 _ ?_ rfl, fun z10 => h177b 10 _ ?_ rfl⟩, fun z9 => h177b 9 _ ?_ rfl⟩, fun z8 => h177b 8 _ ?_ rfl⟩, fun z7 => h177b 7 _ ?_ rfl⟩, fun z6 => h177b 6 _ ?_ rfl⟩
    · rw [hbase, fndN, if_neg z6, fndN, if_neg z7, fndN, if_neg z8, fndN, if_neg z9, fndN, if_neg z10, fndN]
    · rw [hbase, fndN, if_neg z6, fndN, if_neg z7, fndN, if_neg z8, fndN, if_neg z9, fndN, if_pos z10]
    · rw [hbase, fndN, if_neg z6, fndN, if_neg z7, fndN, if_neg z8, fndN, if_pos z9]
    · rw [hbase, fndN, if_neg z6, fndN, if_neg z7, fndN, if_pos z8]
    · rw [hbase, fndN, if_neg z6, fndN, if_pos z7]
    · rw [hbase, fndN, if_pos z6]
  · rw [fndN, if_neg z0, fndN, if_neg z1, fndN, if_neg z2, fndN, if_neg z3, fndN, if_neg z4, fndN, if_pos z5]
  · rw [fndN, if_neg z0, fndN, if_neg z1, fndN, if_neg z2, fndN, if_neg z3, fndN, if_pos z4]
  · rw [fndN, if_neg z0, fndN, if_neg z1, fndN, if_neg z2, fndN, if_pos z3]
  · rw [fndN, if_neg z0, fndN, if_neg z1, fndN, if_pos z2]
  · rw [fndN, if_neg z0, fndN, if_pos z1]
  · rw [fndN, if_pos z0]
end LINES2
