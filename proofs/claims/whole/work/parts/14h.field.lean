section FIELD
abbrev LT := Nat × Nat × Nat × Nat
def doLs (g : GT) (ls : List LT) : GT := ls.foldl doL g
theorem drop_cons {ls : List LT} {j : Nat} (hj : j < ls.length) : ls.drop j = ls.getD j l0 :: ls.drop (j + 1) := by
  rw [List.drop_eq_getElem_cons hj, List.getD_eq_getElem?_getD, List.getElem?_eq_getElem hj]
  rfl
theorem RO_0 {g : GT} {l : LT} {wf : Nat → Int32} (e : l.1 = 0) : RO (doL g l) 0 wf := by
  unfold doL
  rw [if_pos e]
  exact ⟨rfl, Nat.zero_le _, fun j hj => absurd hj (Nat.not_lt_zero j)⟩
theorem RO_1 {g : GT} {l : LT} {nn : Int32} {wf : Nat → Int32} (hl : l.1 ≤ 10) (e : ¬ l.1 = 0) (hr : RO g nn wf) : RO (doL g l) nn wf := by
  obtain ⟨w, h, H, sq, hun, ren, fzz, wl, ro⟩ := g
  obtain ⟨v, f, s, t⟩ := l
  change v ≤ 10 at hl
  change ¬ v = 0 at e
  rcases (show v = 1 ∨ v = 2 ∨ v = 3 ∨ v = 4 ∨ v = 5 ∨ v = 6 ∨ v = 7 ∨ v = 8 ∨ v = 9 ∨ v = 10 by omega) with e | e | e | e | e | e | e | e | e | e <;> (subst e; exact hr)
theorem tab_0 {w h H : Nat} {sq : Nat → Nat} {pl : Bool} {al wa mo : Int32} {fn fs fy fb : Nat → Int32} (hT : TabOK w h H sq pl al wa mo fn fs fy fb) : fn 0 = 0 ∧ fy 0 = 0 ∧ fb 0 = 0 := by
  obtain ⟨t1, _, t3, t4⟩ := hT.2.2.2 0 (Nat.two_pow_pos _)
  refine ⟨?_, ?_, ?_⟩
  · rw [t1]
    rfl
  · rw [t3, sumF_0]
    rfl
  · rw [t4, bes, orF_0]
    rfl
theorem s_look {g : GT} {c r hh hu wc re fz : Int32} {kk wa fn fs fy fb kp : Nat → Int32} {Q : (Int32 × Int32 × Int32 × Int32 × (Nat → Int32) × (Nat → Int32) × (Nat → Int32) × (Nat → Int32) × Option Nat × Int32 × (Nat → Int32)) → Prop} (hg : VG g) (hc : CS g c r hh hu wc re fz kk wa) (z1 : fn 0 = 0) (z2 : fy 0 = 0) (z3 : fb 0 = 0) (hQ : ∀ al wa mo fn' fs' fy' fb' kp', TabOK g.1 g.2.1 g.2.2.1 g.2.2.2.1 false al wa mo fn' fs' fy' fb' → (∀ j, j < 91 → kp' j = -2) → Q (0, al, wa, mo, fn', fs', fy', fb', none, -2, kp')) : wp_X10_lookAgain c r hh kk fn fs fy fb kp Q := by
  obtain ⟨c1, c2, c3, c4, c5, c6, c7, c8⟩ := hc
  subst c1 c2 c3
  unfold wp_X10_lookAgain wp_X1_forget
  refine s_build false hg.1 c8 z1 z2 z3 (fun al wa mo fn' fs' fy' fb' hT => s_fill (n := 91) (by decide) (fun a ha => hQ _ _ _ _ _ _ _ _ hT (fun j hj => ?_)))
  show a j = -2
  rw [ha j, if_pos hj]
theorem s_cfield {ls : List LT} {g : GT} {wE hE : Nat} {cI rI st sp kd0 gc gr gh gu gn ge gf wn : Int32} {vb fi se th fn fs fy fb kp gk ga wf : Nat → Int32} {Q : Int32 → (Int32 × Int32 × Int32 × Int32 × Int32 × Int32 × Int32 × Int32 × (Nat → Int32) × (Nat → Int32) × (Nat → Int32) × (Nat → Int32) × Int32 × Int32 × Int32 × Int32 × Int32 × Int32 × Int32 × (Nat → Int32) × (Nat → Int32) × Int32 × Int32 × Int32 × (Nat → Int32) × (Nat → Int32) × (Nat → Int32) × (Nat → Int32) × Int32 × Option Nat × Int32 × (Nat → Int32)) → Prop} (hls : ls.length ≤ 10) (hall : allC ls vb fi se th) (hch : chk g.1 g.2.1 ls wE hE) (hg : VG g) (hc : CS g gc gr gh gu gn ge gf gk ga) (hro : RO g wn wf) (z1 : fn 0 = 0) (z2 : fy 0 = 0) (z3 : fb 0 = 0) (hQ : ∀ c' r' hh' hu' wc' re' fz' kk' wa' nn' al wa mo fn' fs' fy' fb' kp', VG (doLs g ls) → CS (doLs g ls) c' r' hh' hu' wc' re' fz' kk' wa' → RO (doLs g ls) nn' wf → TabOK (doLs g ls).1 (doLs g ls).2.1 (doLs g ls).2.2.1 (doLs g ls).2.2.2.1 false al wa mo fn' fs' fy' fb' → (∀ j, j < 91 → kp' j = -2) → Q (nI ls.length) (0, 0, nI ls.length, cI, rI, st, sp, kd0, vb, fi, se, th, c', r', hh', hu', wc', re', fz', kk', wa', al, wa, mo, fn', fs', fy', fb', nn', none, -2, kp')) : lp_X10_field_30 Q (nI ls.length) cI rI st sp kd0 vb fi se th fn fs fy fb kp gc gr gh gu gn ge gf gk ga wn 0 := by
  obtain ⟨G, hG⟩ : ∃ G, doLs g ls = G := ⟨_, rfl⟩
  rw [hG] at hQ
  unfold lp_X10_field_30
  refine ⟨fun M gc gr gh gu gn ge gf gk ga wn x1 => ∃ j g, j ≤ ls.length ∧ M = ls.length - j ∧ x1 = nI j ∧ VG g ∧ CS g gc gr gh gu gn ge gf gk ga ∧ RO g wn wf ∧ chk g.1 g.2.1 (ls.drop j) wE hE ∧ doLs g (ls.drop j) = G, ⟨ls.length, 0, g, Nat.zero_le _, rfl, rfl, hg, hc, hro, hch, hG⟩, ?_⟩
  clear hg hc hro hch hG g gc gr gh gu gn ge gf gk ga wn
  rintro M gc gr gh gu gn ge gf gk ga wn x1 ⟨j, g, hj, rfl, rfl, hg, hc, hro, hch, hG⟩
  unfold bd_X10_field_30
  refine pk_le ls.length j (fun q => ?_) (fun q => ?_) rfl rfl
  · rw [List.drop_eq_nil_of_le q] at hG
    change g = G at hG
    subst hG
    exact s_look hg hc z1 z2 z3 (fun al wa mo fn' fs' fy' fb' kp' hT hk => hQ _ _ _ _ _ _ _ _ _ _ _ _ _ _ _ _ _ _ hg hc hro hT hk)
  · rw [drop_cons q] at hG hch
    have hin := pk_in j 10 (by omega)
    obtain ⟨a1, a2, a3, a4⟩ := hall j q
    obtain ⟨v1, v2, v3⟩ := VG_do hg hch.1
    refine ⟨hin, hin, hin, hin, ?_⟩
    rw [z_cl (by omega)]
    refine s_tell hg hch.1 a1 a2 a3 a4 hc (fun c' r' hh' hu' wc' re' fz' kk' wa' hcs => ⟨hin, ?_⟩)
    have hc2 := hch.2
    rw [← v2, ← v3] at hc2
    have hl10 := hch.1.1
    rw [a1]
    unfold bk_X10_field_104
    refine ⟨fun z y8 e8 => ⟨ls.length - (j + 1), by omega, j + 1, doL g (ls.getD j l0), by omega, rfl, by rw [e8, nI_1], v1, hcs, RO_1 hl10 (fun y => z (by rw [y]; rfl)) hro, hc2, hG⟩, fun z y8 e8 => ⟨ls.length - (j + 1), by omega, j + 1, doL g (ls.getD j l0), by omega, rfl, by rw [e8, nI_1], v1, hcs, RO_0 (z_inj (b := 0) (by omega) (by decide) z), hc2, hG⟩⟩
theorem s_mfield {ls : List LT} {g : GT} {wE hE : Nat} {po ta dg nu fa rW rH c r hu wc re fz nn : Int32} {tk hh : Int64} {rd kk wa ar : Nat → Int32} {Q : Int32 → (Int32 × Int32 × Int64 × Int32 × Int32 × Int32 × Int32 × Int32 × Int32 × Int32 × Int64 × Int32 × Int32 × Int32 × Int32 × Int32 × Int32 × Int32 × (Nat → Int32) × (Nat → Int32) × (Nat → Int32)) → Prop} (hls : ls.length ≤ 10) (hall : allM ls rd) (hch : chk g.1 g.2.1 ls wE hE) (hg : VG g) (hc : MS g c r hh hu wc re fz kk wa) (hro : RO g nn ar) (hQ : ∀ c' r' hh' hu' wc' re' fz' nn' kk' wa', MS (doLs g ls) c' r' hh' hu' wc' re' fz' kk' wa' → RO (doLs g ls) nn' ar → Q (nI ls.length) (c', r', hh', hu', wc', re', fz', 0, po, ta, tk, dg, nu, fa, nI ls.length, rW, rH, nn', kk', wa', rd)) : lp_X11_field_12 Q po ta tk dg nu fa (nI ls.length) rW rH rd c r hh hu wc re fz nn kk wa 0 := by
  obtain ⟨G, hG⟩ : ∃ G, doLs g ls = G := ⟨_, rfl⟩
  rw [hG] at hQ
  unfold lp_X11_field_12
  refine ⟨fun M c r hh hu wc re fz nn kk wa x1 => ∃ j g, j ≤ ls.length ∧ M = ls.length - j ∧ x1 = nI j ∧ VG g ∧ MS g c r hh hu wc re fz kk wa ∧ RO g nn ar ∧ chk g.1 g.2.1 (ls.drop j) wE hE ∧ doLs g (ls.drop j) = G, ⟨ls.length, 0, g, Nat.zero_le _, rfl, rfl, hg, hc, hro, hch, hG⟩, ?_⟩
  clear hg hc hro hch hG g c r hh hu wc re fz nn kk wa
  rintro M c r hh hu wc re fz nn kk wa x1 ⟨j, g, hj, rfl, rfl, hg, hc, hro, hch, hG⟩
  unfold bd_X11_field_12
  refine pk_le ls.length j (fun q => ?_) (fun q => ?_) rfl rfl
  · rw [List.drop_eq_nil_of_le q] at hG
    change g = G at hG
    subst hG
    exact hQ _ _ _ _ _ _ _ _ _ _ hc hro
  · rw [drop_cons q] at hG hch
    obtain ⟨v1, v2, v3⟩ := VG_do hg hch.1
    have hc2 := hch.2
    rw [← v2, ← v3] at hc2
    have e4 : 4 * nI j = nI (4 * j) := z_mul 4 j
    rw [e4]
    refine s_mdo hg (by omega) hch.1 (hall j q) hc hro (fun c' r' hh' hu' wc' re' fz' nn' kk' wa' hm hr y6 e6 => ⟨ls.length - (j + 1), by omega, j + 1, doL g (ls.getD j l0), by omega, rfl, by rw [e6, nI_1], v1, hm, hr, hc2, hG⟩)
theorem op_field {T : List Nat} {g : GT} {mp lc lm st0 kd0 gc gr gh gu gn ge gf al wa mo wn ob mc mr mu mn me mf ta dg nu fa nn : Int32} {tk mh : Int64} {sl : Option Nat} {ac am vb fi se th gk ga fn fs fy fb kp wf mk' mw rd ar : Nat → Int32} {K : (Int32 × Int32 × Int32 × Int32 × Int32 × Int32 × Int32 × Int32 × (Nat → Int32) × (Nat → Int32) × (Nat → Int32) × (Nat → Int32) × Int32 × Int32 × Int32 × Int32 × Int32 × Int32 × Int32 × (Nat → Int32) × (Nat → Int32) × Int32 × Int32 × Int32 × (Nat → Int32) × (Nat → Int32) × (Nat → Int32) × (Nat → Int32) × Int32 × Option Nat × Int32 × (Nat → Int32)) → (Int32 × Int32 × Int64 × Int32 × Int32 × Int32 × Int32 × Int32 × Int32 × Int32 × Int64 × Int32 × Int32 × Int32 × Int32 × Int32 × Int32 × Int32 × (Nat → Int32) × (Nat → Int32) × (Nat → Int32)) → Prop} (hg : VG g) (hT : RT T lc ac) (hTm : RT T lm am) (hc : CS g gc gr gh gu gn ge gf gk ga) (hro : RO g wn wf) (hm : MS g mc mr mh mu mn me mf mk' mw) (hrm : RO g nn ar) (z : fn 0 = 0 ∧ fy 0 = 0 ∧ fb 0 = 0)
    (hN : ∀ a1 a2 a3 a4 a5 a6 a7 a8 a9 a10 b1 b2 b3 b4 b5 b6 b7 b8 b9 b10, K (mp, lc, a1, a2, a3, a4, a5, a6, a7, a8, a9, a10, gc, gr, gh, gu, gn, ge, gf, gk, ga, al, wa, mo, fn, fs, fy, fb, wn, sl, ob, kp) (mc, mr, mh, mu, mn, me, mf, lm, b1, b2, b3, b4, b5, b6, b7, b8, b9, nn, mk', mw, b10))
    (hY : ∀ G a1 a2 a3 a4 a5 a6 a7 a8 a9 a10 b1 b2 b3 b4 b5 b6 b7 b8 b9 b10 c' r' hh' hu' wc' re' fz' kk' wa' n' al' wa2 mo' fn' fs' fy' fb' kp' c2 r2 hh2 hu2 wc2 re2 fz2 n2 kk2 wa3, VG G → CS G c' r' hh' hu' wc' re' fz' kk' wa' → RO G n' wf → TabOK G.1 G.2.1 G.2.2.1 G.2.2.2.1 false al' wa2 mo' fn' fs' fy' fb' → (∀ j, j < 91 → kp' j = -2) → MS G c2 r2 hh2 hu2 wc2 re2 fz2 kk2 wa3 → RO G n2 ar → K (0, 0, a1, a2, a3, a4, a5, a6, a7, a8, a9, a10, c', r', hh', hu', wc', re', fz', kk', wa', al', wa2, mo', fn', fs', fy', fb', n', none, -2, kp') (c2, r2, hh2, hu2, wc2, re2, fz2, 0, b1, b2, b3, b4, b5, b6, b7, b8, b9, n2, kk2, wa3, b10)) :
    wp_X10_field mp lc ac st0 kd0 vb fi se th gc gr gh gu gn ge gf gk ga al wa mo fn fs fy fb wn sl ob kp (fun r u => wp_X11_field mc mr mh mu mn me mf lm ta tk dg nu fa nn mk' mw am rd (fun r' u' => EqK r r' (K u u'))) := by
  have c1 := hc.1
  have c2 := hc.2.1
  have m1 := hm.1
  have m2 := hm.2.1
  unfold wp_X10_field wp_X11_field
  subst c1 c2 m1 m2
  refine s_cread hg.1 hT (fun S u eS hS => ?_) (fun ls wE hE a c d e f vb' fi' se' th' ok h1 h2 h3 => ?_)
  · refine ⟨fun y => absurd y (z_m1 (by have := hT.2.1; omega)), fun _ => ?_⟩
    refine s_mread hg.1 hTm (fun S2 a c d e f g i j r er => ?_) (fun ls wE hE a c d e f g i j rd' ok h1 h2 h3 => ?_)
    · exact ⟨fun y => absurd rfl y, fun _ => eqk _ (hN _ _ _ _ _ _ _ _ _ _ _ _ _ _ _ _ _ _ _ _)⟩
    · rw [eS] at ok
      cases ok
  · refine ⟨fun _ => ?_, fun y => absurd rfl y⟩
    refine s_cfield h1 h2 h3 hg hc hro z.1 z.2.1 z.2.2 (fun c' r' hh' hu' wc' re' fz' kk' wa' nn' al wa mo fn' fs' fy' fb' kp' q1 q2 q3 q4 q5 => ?_)
    refine s_mread hg.1 hTm (fun S2 a c d e f g i j r er => ?_) (fun ls2 wE2 hE2 a c d e f g i j rd' ok2 p1 p2 p3 => ?_)
    · rw [ok] at er
      cases er
    · rw [ok] at ok2
      cases ok2
      refine ⟨fun _ => ?_, fun y => absurd y (by decide)⟩
      exact s_mfield p1 p2 p3 hg hm hrm (fun c2 r2 hh2 hu2 wc2 re2 fz2 n2 kk2 wa3 w1 w2 => eqk _ (hY _ _ _ _ _ _ _ _ _ _ _ _ _ _ _ _ _ _ _ _ _ _ _ _ _ _ _ _ _ _ _ _ _ _ _ _ _ _ _ _ _ _ _ _ _ _ _ _ _ q1 q2 q3 q4 q5 w1 w2))
end FIELD
