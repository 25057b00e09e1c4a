section TELL
theorem lN_or (a b : Nat) : lN a ||| lN b = lN (a ||| b) := by
  apply Int64.toBitVec_inj.1
  show BitVec.ofNat 64 a ||| BitVec.ofNat 64 b = BitVec.ofNat 64 (a ||| b)
  apply BitVec.eq_of_getLsbD_eq
  intro i hi
  simp [hi]
abbrev GT := Nat × Nat × Nat × (Nat → Nat) × Nat × Nat × Int32 × List Nat × List Nat
def updN (f : Nat → Nat) (k v : Nat) : Nat → Nat := fun j => if j = k then v else f j
def doL (g : GT) (l : Nat × Nat × Nat × Nat) : GT :=
  if l.1 = 0 then (l.2.1, l.2.2.1, 0, (fun _ => 1), g.2.2.2.2.1, g.2.2.2.2.2.1, g.2.2.2.2.2.2.1, g.2.2.2.2.2.2.2.1, [])
  else if l.1 = 1 then (g.1, g.2.1, g.2.2.1, updN g.2.2.2.1 (g.1 * l.2.2.1 + l.2.1) l.2.2.2, g.2.2.2.2)
  else if l.1 = 2 then (g.1, g.2.1, g.2.2.1, updN g.2.2.2.1 (g.1 * l.2.2.1 + l.2.1) 10, g.2.2.2.2)
  else if l.1 = 3 then (g.1, g.2.1, g.2.2.1, updN g.2.2.2.1 (g.1 * l.2.2.1 + l.2.1) 11, g.2.2.2.2)
  else if l.1 = 4 then (g.1, g.2.1, g.2.2.1 ||| 2 ^ edn g.1 g.2.1 (g.1 * l.2.2.1 + l.2.1) l.2.2.2, g.2.2.2)
  else if l.1 = 5 then (g.1, g.2.1, andn g.2.2.1 (2 ^ edn g.1 g.2.1 (g.1 * l.2.2.1 + l.2.1) l.2.2.2), g.2.2.2)
  else if l.1 = 6 then (g.1, g.2.1, g.2.2.1, g.2.2.2.1, l.2.1, g.2.2.2.2.2)
  else if l.1 = 7 then (g.1, g.2.1, g.2.2.1, g.2.2.2.1, g.2.2.2.2.1, g.2.2.2.2.2.1, g.2.2.2.2.2.2.1, (if g.2.2.2.2.2.2.2.1.length < 7 then g.2.2.2.2.2.2.2.1 ++ [l.2.1] else g.2.2.2.2.2.2.2.1), g.2.2.2.2.2.2.2.2)
  else if l.1 = 8 then (g.1, g.2.1, g.2.2.1, g.2.2.2.1, g.2.2.2.2.1, l.2.1, g.2.2.2.2.2.2)
  else if l.1 = 9 then (g.1, g.2.1, g.2.2.1, g.2.2.2.1, g.2.2.2.2.1, g.2.2.2.2.2.1, (g.2.2.2.2.2.2.1 ||| (1 <<< (nI l.2.1 &&& 31))), g.2.2.2.2.2.2.2)
  else (g.1, g.2.1, g.2.2.1, g.2.2.2.1, g.2.2.2.2.1, g.2.2.2.2.2.1, 0, [], g.2.2.2.2.2.2.2.2)
def VG (g : GT) : Prop := okS g.1 g.2.1 ∧ g.2.2.1 < 2 ^ 31 ∧ g.2.2.2.2.2.1 < 100
def SQ (w h : Nat) (sq : Nat → Nat) (kk : Nat → Int32) : Prop := ∀ s, s < w * h → kk s = nI (sq s) ∧ sq s ≤ 11
def CS (g : GT) (c r hh hu wc re fz : Int32) (kk wa : Nat → Int32) : Prop := c = nI g.1 ∧ r = nI g.2.1 ∧ hh = nI g.2.2.1 ∧ hu = nI g.2.2.2.2.1 ∧ RW g.2.2.2.2.2.2.2.1 wc wa ∧ re = nI g.2.2.2.2.2.1 ∧ fz = g.2.2.2.2.2.2.1 ∧ SQ g.1 g.2.1 g.2.2.2.1 kk
def MS (g : GT) (c r : Int32) (hh : Int64) (hu wc re fz : Int32) (kk wa : Nat → Int32) : Prop := c = nI g.1 ∧ r = nI g.2.1 ∧ hh = lN g.2.2.1 ∧ hu = nI g.2.2.2.2.1 ∧ RW g.2.2.2.2.2.2.2.1 wc wa ∧ re = nI g.2.2.2.2.2.1 ∧ fz = g.2.2.2.2.2.2.1 ∧ SQ g.1 g.2.1 g.2.2.2.1 kk
def RO (g : GT) (nn : Int32) (ar : Nat → Int32) : Prop := RR (2 ^ (g.1 * g.2.1)) g.2.2.2.2.2.2.2.2 nn ar
theorem SQ_upd {w h x y v : Nat} {sq : Nat → Nat} {kk : Nat → Int32} (hx : x < w) (hy : y < h) (hv : v ≤ 11) (hs : SQ w h sq kk) : SQ w h (updN sq (w * y + x) v) (upd kk (w * y + x) (nI v)) := by
  intro s h1
  unfold updN
  by_cases e : s = w * y + x
  · rw [e, z_upd_eq, if_pos rfl]
    exact ⟨rfl, hv⟩
  · rw [z_upd_ne _ _ e, if_neg e]
    exact hs s h1
theorem RW_push {wl : List Nat} {wc : Int32} {wa : Nat → Int32} {f : Nat} (hw : RW wl wc wa) (hf : f ≤ 90) (h7 : wl.length < 7) : RW (wl ++ [f]) (nI (wl.length + 1)) (upd wa wl.length (nI f)) := by
  refine ⟨?_, ?_, LA_push hw.2.2 (by omega)⟩
  · rw [List.length_append]; rfl
  · rw [List.length_append]; simp; omega
theorem VG_do {g : GT} {l : Nat × Nat × Nat × Nat} (hg : VG g) (hl : lOK g.1 g.2.1 l) : VG (doL g l) ∧ (doL g l).1 = nW g.1 l ∧ (doL g l).2.1 = nH g.2.1 l := by
  obtain ⟨w, h, H, sq, hu, re, fz, wl, ro⟩ := g
  obtain ⟨v, f, s, t⟩ := l
  obtain ⟨k, hH, hr⟩ := hg
  obtain ⟨l1, l2, l3, l4, l5, l6, l7, l8, l9⟩ := hl
  change okS w h at k
  change H < 2 ^ 31 at hH
  change re < 100 at hr
  change v ≤ 10 at l1
  change v = 0 → okS f s at l2
  change 1 ≤ v → v ≤ 5 → f < w ∧ s < h at l3
  change v = 4 ∨ v = 5 → t < 4 at l5
  change v = 8 → f ≤ 99 at l8
  rcases (show v = 0 ∨ v = 1 ∨ v = 2 ∨ v = 3 ∨ v = 4 ∨ v = 5 ∨ v = 6 ∨ v = 7 ∨ v = 8 ∨ v = 9 ∨ v = 10 by omega) with e | e | e | e | e | e | e | e | e | e | e
  · subst e; exact ⟨⟨l2 rfl, show 0 < 2 ^ 31 by decide, hr⟩, rfl, rfl⟩
  · subst e; exact ⟨⟨k, hH, hr⟩, rfl, rfl⟩
  · subst e; exact ⟨⟨k, hH, hr⟩, rfl, rfl⟩
  · subst e; exact ⟨⟨k, hH, hr⟩, rfl, rfl⟩
  · subst e
    obtain ⟨hf, hs⟩ := l3 (by decide) (by decide)
    exact ⟨⟨k, Nat.or_lt_two_pow hH (Nat.pow_lt_pow_right (by decide) (edn_lt k (xy_lt hf hs) (l5 (Or.inl rfl)))), hr⟩, rfl, rfl⟩
  · subst e; exact ⟨⟨k, Nat.lt_of_le_of_lt (andn_le _ _) hH, hr⟩, rfl, rfl⟩
  · subst e; exact ⟨⟨k, hH, hr⟩, rfl, rfl⟩
  · subst e; exact ⟨⟨k, hH, hr⟩, rfl, rfl⟩
  · subst e; exact ⟨⟨k, hH, Nat.lt_succ_of_le (l8 rfl)⟩, rfl, rfl⟩
  · subst e; exact ⟨⟨k, hH, hr⟩, rfl, rfl⟩
  · subst e; exact ⟨⟨k, hH, hr⟩, rfl, rfl⟩
theorem s_gput {w h x y v : Nat} {sq : Nat → Nat} {kk : Nat → Int32} {xI yI vI : Int32} {Q : ((Nat → Int32)) → Prop} (k : okS w h) (hx : x < w) (hy : y < h) (hv : v ≤ 11) (hxI : xI = nI x) (hyI : yI = nI y) (hvI : vI = nI v) (hs : SQ w h sq kk) (hQ : ∀ kk', SQ w h (updN sq (w * y + x) v) kk' → Q kk') : wp_X4_put xI yI vI (nI w) kk Q := by
  subst hxI
  subst hyI
  subst hvI
  have h1 := xy_lt hx hy
  have h2 := k.2.2
  unfold wp_X4_put
  intro y1 e1
  rw [z_mul, nI_add] at e1
  subst e1
  refine ⟨fun z => absurd z (nI_nlt (b := 0) (by omega) (by omega)), fun _ => pk_le 10 (w * y + x) (fun q => by omega) (fun _ => ⟨pk_in (w * y + x) 10 (by omega), fun f4 e4 => ?_⟩) rfl rfl⟩
  rw [z_cl (by omega)] at e4
  subst e4
  exact hQ _ (SQ_upd hx hy hv hs)
theorem s_tell {g : GT} {l : Nat × Nat × Nat × Nat} {p1 p2 p3 p4 c r hh hu wc re fz : Int32} {kk wa : Nat → Int32} {Q : (Int32 × Int32 × Int32 × Int32 × Int32 × Int32 × Int32 × (Nat → Int32) × (Nat → Int32)) → Prop} (hg : VG g) (hl : lOK g.1 g.2.1 l) (h1 : p1 = nI l.1) (h2 : l.1 ≠ 10 → p2 = nI l.2.1) (h3 : l.1 ≤ 5 → p3 = nI l.2.2.1) (h4 : l.1 = 1 ∨ l.1 = 4 ∨ l.1 = 5 → p4 = nI l.2.2.2) (hc : CS g c r hh hu wc re fz kk wa) (hQ : ∀ c' r' hh' hu' wc' re' fz' kk' wa', CS (doL g l) c' r' hh' hu' wc' re' fz' kk' wa' → Q (c', r', hh', hu', wc', re', fz', kk', wa')) : wp_X4_tell p1 p2 p3 p4 c r hh hu wc re fz kk wa Q := by
  obtain ⟨w, h, H, sq, hun, ren, fzz, wl, ro⟩ := g
  obtain ⟨v, f, s, t⟩ := l
  obtain ⟨k, hH, hr⟩ := hg
  obtain ⟨l1, l2, l3, l4, l5, l6, l7, l8, l9⟩ := hl
  obtain ⟨c1, c2, c3, c4, c5, c6, c7, c8⟩ := hc
  change okS w h at k
  change H < 2 ^ 31 at hH
  change v ≤ 10 at l1
  change v = 0 → okS f s at l2
  change 1 ≤ v → v ≤ 5 → f < w ∧ s < h at l3
  change v = 1 → t ≤ 9 at l4
  change v = 4 ∨ v = 5 → t < 4 at l5
  change v = 7 → f ≤ 90 at l7
  change c = nI w at c1
  change r = nI h at c2
  change hh = nI H at c3
  change hu = nI hun at c4
  change RW wl wc wa at c5
  change re = nI ren at c6
  change fz = fzz at c7
  change SQ w h sq kk at c8
  change p1 = nI v at h1
  change v ≠ 10 → p2 = nI f at h2
  change v ≤ 5 → p3 = nI s at h3
  change v = 1 ∨ v = 4 ∨ v = 5 → p4 = nI t at h4
  subst c1 c2 c3 c4 c6 c7 h1
  unfold wp_X4_tell
  rcases (show v = 0 ∨ v = 1 ∨ v = 2 ∨ v = 3 ∨ v = 4 ∨ v = 5 ∨ v = 6 ∨ v = 7 ∨ v = 8 ∨ v = 9 ∨ v = 10 by omega) with e | e | e | e | e | e | e | e | e | e | e
  · subst e
    refine ⟨fun _ => ?_, fun z => absurd z (by decide), fun z => absurd z (by decide), fun z => absurd z (by decide), fun z => absurd z (by decide), fun z => absurd z (by decide), fun z => absurd z (by decide), fun z => absurd z (by decide), fun z => absurd z (by decide), fun z => absurd z (by decide), fun z => absurd rfl (z.1)⟩
    rw [h2 (by decide), h3 (by decide)]
    unfold wp_X4_lay
    refine s_fill (n := 10) (by decide) (fun a ha => hQ _ _ _ _ _ _ _ _ _ ⟨rfl, rfl, rfl, rfl, c5, rfl, rfl, fun j hj => ?_⟩)
    change j < f * s at hj
    have := (l2 rfl).2.2
    show a j = nI 1 ∧ 1 ≤ 11
    rw [ha j, if_pos (by omega)]
    exact ⟨rfl, by decide⟩
  · subst e
    obtain ⟨hf, hs⟩ := l3 (by decide) (by decide)
    have h9 := l4 rfl
    refine ⟨fun z => absurd z (by decide), fun _ => ?_, fun z => absurd z (by decide), fun z => absurd z (by decide), fun z => absurd z (by decide), fun z => absurd z (by decide), fun z => absurd z (by decide), fun z => absurd z (by decide), fun z => absurd z (by decide), fun z => absurd z (by decide), fun z => absurd rfl (z.2.1)⟩
    exact s_gput k hf hs (by omega) (h2 (by decide)) (h3 (by decide)) (h4 (Or.inl rfl)) c8 (fun kk' hk => hQ _ _ _ _ _ _ _ _ _ ⟨rfl, rfl, rfl, rfl, c5, rfl, rfl, hk⟩)
  · subst e
    obtain ⟨hf, hs⟩ := l3 (by decide) (by decide)
    refine ⟨fun z => absurd z (by decide), fun z => absurd z (by decide), fun _ => ?_, fun z => absurd z (by decide), fun z => absurd z (by decide), fun z => absurd z (by decide), fun z => absurd z (by decide), fun z => absurd z (by decide), fun z => absurd z (by decide), fun z => absurd z (by decide), fun z => absurd rfl (z.2.2.1)⟩
    exact s_gput (v := 10) k hf hs (by decide) (h2 (by decide)) (h3 (by decide)) rfl c8 (fun kk' hk => hQ _ _ _ _ _ _ _ _ _ ⟨rfl, rfl, rfl, rfl, c5, rfl, rfl, hk⟩)
  · subst e
    obtain ⟨hf, hs⟩ := l3 (by decide) (by decide)
    refine ⟨fun z => absurd z (by decide), fun z => absurd z (by decide), fun z => absurd z (by decide), fun _ => ?_, fun z => absurd z (by decide), fun z => absurd z (by decide), fun z => absurd z (by decide), fun z => absurd z (by decide), fun z => absurd z (by decide), fun z => absurd z (by decide), fun z => absurd rfl (z.2.2.2.1)⟩
    exact s_gput (v := 11) k hf hs (by decide) (h2 (by decide)) (h3 (by decide)) rfl c8 (fun kk' hk => hQ _ _ _ _ _ _ _ _ _ ⟨rfl, rfl, rfl, rfl, c5, rfl, rfl, hk⟩)
  · subst e
    obtain ⟨hf, hs⟩ := l3 (by decide) (by decide)
    refine ⟨fun z => absurd z (by decide), fun z => absurd z (by decide), fun z => absurd z (by decide), fun z => absurd z (by decide), fun _ => ?_, fun z => absurd z (by decide), fun z => absurd z (by decide), fun z => absurd z (by decide), fun z => absurd z (by decide), fun z => absurd z (by decide), fun z => absurd rfl (z.2.2.2.2.1)⟩
    rw [h2 (by decide), h3 (by decide), h4 (Or.inr (Or.inl rfl))]
    refine s_edgeAt hf (l5 (Or.inl rfl)) (fun y6 e6 => hQ _ _ _ _ _ _ _ _ _ ⟨rfl, rfl, ?_, rfl, c5, rfl, rfl, c8⟩)
    rw [e6, z_shl1 _ (edn_lt k (xy_lt hf hs) (l5 (Or.inl rfl))), z_or]
    rfl
  · subst e
    obtain ⟨hf, hs⟩ := l3 (by decide) (by decide)
    refine ⟨fun z => absurd z (by decide), fun z => absurd z (by decide), fun z => absurd z (by decide), fun z => absurd z (by decide), fun z => absurd z (by decide), fun _ => ?_, fun z => absurd z (by decide), fun z => absurd z (by decide), fun z => absurd z (by decide), fun z => absurd z (by decide), fun z => absurd rfl (z.2.2.2.2.2.1)⟩
    rw [h2 (by decide), h3 (by decide), h4 (Or.inr (Or.inr rfl))]
    refine s_edgeAt hf (l5 (Or.inr rfl)) (fun y6 e6 => hQ _ _ _ _ _ _ _ _ _ ⟨rfl, rfl, ?_, rfl, c5, rfl, rfl, c8⟩)
    rw [e6, z_shl1 _ (edn_lt k (xy_lt hf hs) (l5 (Or.inr rfl))), z_andn]
    rfl
  · subst e
    refine ⟨fun z => absurd z (by decide), fun z => absurd z (by decide), fun z => absurd z (by decide), fun z => absurd z (by decide), fun z => absurd z (by decide), fun z => absurd z (by decide), fun _ => ?_, fun z => absurd z (by decide), fun z => absurd z (by decide), fun z => absurd z (by decide), fun z => absurd rfl (z.2.2.2.2.2.2.1)⟩
    exact hQ _ _ _ _ _ _ _ _ _ ⟨rfl, rfl, rfl, h2 (by decide), c5, rfl, rfl, c8⟩
  · subst e
    refine ⟨fun z => absurd z (by decide), fun z => absurd z (by decide), fun z => absurd z (by decide), fun z => absurd z (by decide), fun z => absurd z (by decide), fun z => absurd z (by decide), fun z => absurd z (by decide), fun _ => ?_, fun z => absurd z (by decide), fun z => absurd z (by decide), fun z => absurd rfl (z.2.2.2.2.2.2.2.1)⟩
    rw [h2 (by decide)]
    obtain ⟨d1, d2, d3⟩ := id c5
    subst d1
    unfold wp_X4_want
    refine pk_le 7 wl.length (fun q => hQ _ _ _ _ _ _ _ _ _ ⟨rfl, rfl, rfl, rfl, ?_, rfl, rfl, c8⟩) (fun q => ⟨pk_in wl.length 7 q, fun f2 e2 y3 e3 => hQ _ _ _ _ _ _ _ _ _ ⟨rfl, rfl, rfl, rfl, ?_, rfl, rfl, c8⟩⟩) rfl rfl
    · show RW (if wl.length < 7 then wl ++ [f] else wl) _ _
      rw [if_neg (by omega)]
      exact c5
    · show RW (if wl.length < 7 then wl ++ [f] else wl) _ _
      rw [if_pos q, e2, e3, nI_1, z_cl (by omega)]
      exact RW_push c5 (l7 rfl) q
  · subst e
    refine ⟨fun z => absurd z (by decide), fun z => absurd z (by decide), fun z => absurd z (by decide), fun z => absurd z (by decide), fun z => absurd z (by decide), fun z => absurd z (by decide), fun z => absurd z (by decide), fun z => absurd z (by decide), fun _ => ?_, fun z => absurd z (by decide), fun z => absurd rfl (z.2.2.2.2.2.2.2.2.1)⟩
    exact hQ _ _ _ _ _ _ _ _ _ ⟨rfl, rfl, rfl, rfl, c5, h2 (by decide), rfl, c8⟩
  · subst e
    refine ⟨fun z => absurd z (by decide), fun z => absurd z (by decide), fun z => absurd z (by decide), fun z => absurd z (by decide), fun z => absurd z (by decide), fun z => absurd z (by decide), fun z => absurd z (by decide), fun z => absurd z (by decide), fun z => absurd z (by decide), fun _ => ?_, fun z => absurd rfl (z.2.2.2.2.2.2.2.2.2)⟩
    intro y10 e10
    refine hQ _ _ _ _ _ _ _ _ _ ⟨rfl, rfl, rfl, rfl, c5, rfl, ?_, c8⟩
    rw [e10, h2 (by decide)]
    rfl
  · subst e
    refine ⟨fun z => absurd z (by decide), fun z => absurd z (by decide), fun z => absurd z (by decide), fun z => absurd z (by decide), fun z => absurd z (by decide), fun z => absurd z (by decide), fun z => absurd z (by decide), fun z => absurd z (by decide), fun z => absurd z (by decide), fun z => absurd z (by decide), fun _ => ?_⟩
    unfold wp_X4_thaw
    exact hQ _ _ _ _ _ _ _ _ _ ⟨rfl, rfl, rfl, rfl, ⟨rfl, Nat.zero_le _, fun j hj => absurd hj (Nat.not_lt_zero j)⟩, rfl, rfl, c8⟩
theorem s_mlay {c r hu wc re fz nn : Int32} {hh : Int64} {kk wa : Nat → Int32} {Q : (Int32 × Int32 × Int64 × Int32 × Int32 × Int32 × Int32 × Int32 × (Nat → Int32) × (Nat → Int32)) → Prop} (hQ : ∀ kk', (∀ j, j < 10 → kk' j = 1) → Q (c, r, hh, hu, wc, re, fz, nn, kk', wa)) : lp_X11_doLine_104 Q c r hh hu wc re fz nn wa kk 0 := by
  unfold lp_X11_doLine_104
  refine ⟨fun m kk z => ∃ i, i ≤ 10 ∧ m = 10 - i ∧ z = nI i ∧ ∀ j, j < i → kk j = 1, ⟨10, 0, by decide, rfl, rfl, fun j hj => absurd hj (Nat.not_lt_zero j)⟩, ?_⟩
  rintro m kk z ⟨i, hi, rfl, rfl, ha⟩
  unfold bd_X11_doLine_104
  refine pk_le 10 i (fun q => hQ kk (fun j hj => ha j (by omega))) (fun q => ⟨pk_in i 10 q, fun f5 e5 y6 e6 => ⟨10 - (i + 1), by omega, i + 1, by omega, rfl, by rw [e6, nI_1], fun j hj => ?_⟩⟩) rfl rfl
  rw [e5, z_cl (by omega)]
  by_cases e : j = i
  · rw [e, z_upd_eq]
  · rw [z_upd_ne _ _ e]
    exact ha j (by omega)
theorem s_mdo {g : GT} {l : Nat × Nat × Nat × Nat} {j : Nat} {c r hu wc re fz nn : Int32} {hh : Int64} {kk wa rd ar : Nat → Int32} {Q : (Int32 × Int32 × Int64 × Int32 × Int32 × Int32 × Int32 × Int32 × (Nat → Int32) × (Nat → Int32)) → Prop} (hg : VG g) (hj : j < 10) (hl : lOK g.1 g.2.1 l) (hm : mLn rd j l) (hc : MS g c r hh hu wc re fz kk wa) (hro : RO g nn ar) (hQ : ∀ c' r' hh' hu' wc' re' fz' nn' kk' wa', MS (doL g l) c' r' hh' hu' wc' re' fz' kk' wa' → RO (doL g l) nn' ar → Q (c', r', hh', hu', wc', re', fz', nn', kk', wa')) : wp_X11_doLine (nI (4 * j)) c r hh hu wc re fz nn kk wa rd Q := by
  obtain ⟨w, h, H, sq, hun, ren, fzz, wl, ro⟩ := g
  obtain ⟨v, f, s, t⟩ := l
  obtain ⟨k, hH, hr⟩ := hg
  obtain ⟨l1, l2, l3, l4, l5, l6, l7, l8, l9⟩ := hl
  obtain ⟨c1, c2, c3, c4, c5, c6, c7, c8⟩ := hc
  obtain ⟨m1, m2, m3, m4⟩ := hm
  change okS w h at k
  change H < 2 ^ 31 at hH
  change v ≤ 10 at l1
  change v = 0 → okS f s at l2
  change 1 ≤ v → v ≤ 5 → f < w ∧ s < h at l3
  change v = 1 → t ≤ 9 at l4
  change v = 4 ∨ v = 5 → t < 4 at l5
  change v = 7 → f ≤ 90 at l7
  change c = nI w at c1
  change r = nI h at c2
  change hh = lN H at c3
  change hu = nI hun at c4
  change RW wl wc wa at c5
  change re = nI ren at c6
  change fz = fzz at c7
  change SQ w h sq kk at c8
  change RR (2 ^ (w * h)) ro nn ar at hro
  change rd (4 * j) = nI v at m1
  change v ≠ 10 → rd (4 * j + 1) = nI f at m2
  change v ≤ 5 → rd (4 * j + 2) = nI s at m3
  change v = 1 ∨ v = 4 ∨ v = 5 → rd (4 * j + 3) = nI t at m4
  subst c1 c2 c3 c4 c6 c7
  unfold wp_X11_doLine
  have q1 : nI (4 * j) + 1 = nI (4 * j + 1) := nI_1 _
  have q2 : nI (4 * j) + 2 = nI (4 * j + 2) := nI_add _ 2
  have q3 : nI (4 * j) + 3 = nI (4 * j + 3) := nI_add _ 3
  have i0 := pk_in (4 * j) 40 (by omega)
  have i1 := pk_in (4 * j + 1) 40 (by omega)
  have i2 := pk_in (4 * j + 2) 40 (by omega)
  have i3 := pk_in (4 * j + 3) 40 (by omega)
  rw [q1, q2, q3, z_cl (show 4 * j < 2 ^ 31 by omega), z_cl (show 4 * j + 1 < 2 ^ 31 by omega), z_cl (show 4 * j + 2 < 2 ^ 31 by omega), z_cl (show 4 * j + 3 < 2 ^ 31 by omega), m1]
  refine ⟨i2, i1, fun y1 e1 => ⟨i0, ?_⟩⟩
  have hn := n10 k
  rcases (show v = 0 ∨ v = 1 ∨ v = 2 ∨ v = 3 ∨ v = 4 ∨ v = 5 ∨ 6 ≤ v by omega) with e | e | e | e | e | e | e
  · subst e
    refine ⟨fun _ => ?_, fun z => absurd z (by decide), fun z => absurd z (by decide), fun z => absurd z (by decide), fun z => absurd z (by decide), fun z => absurd z (by decide), fun z => absurd rfl (z.1)⟩
    refine ⟨i1, fun y2 e2 => ⟨i2, fun y3 e3 => s_mlay (fun kk' hk => hQ _ _ _ _ _ _ _ _ _ _ ⟨?_, ?_, rfl, rfl, c5, rfl, rfl, fun x hx => ?_⟩ ⟨rfl, Nat.zero_le _, fun j hj => absurd hj (Nat.not_lt_zero j)⟩)⟩⟩
    · rw [e2, m2 (by decide)]; rfl
    · rw [e3, m3 (by decide)]; rfl
    · change x < f * s at hx
      have := (l2 rfl).2.2
      show kk' x = nI 1 ∧ 1 ≤ 11
      rw [hk x (by omega)]
      exact ⟨rfl, by decide⟩
  · subst e
    obtain ⟨hf, hs⟩ := l3 (by decide) (by decide)
    have h9 := l4 rfl
    have hlt := xy_lt hf hs
    rw [m2 (by decide), m3 (by decide), z_mul, nI_add] at e1
    subst e1
    refine ⟨fun z => absurd z (by decide), fun _ => ?_, fun z => absurd z (by decide), fun z => absurd z (by decide), fun z => absurd z (by decide), fun z => absurd z (by decide), fun z => absurd rfl (z.2.1)⟩
    refine ⟨i3, fun y7 e7 => ⟨pk_in (w * s + f) 10 (by omega), fun f8 e8 => hQ _ _ _ _ _ _ _ _ _ _ ⟨rfl, rfl, rfl, rfl, c5, rfl, rfl, ?_⟩ hro⟩⟩
    rw [e8, e7, m4 (Or.inl rfl), z_cl (by omega)]
    exact SQ_upd hf hs (show t ≤ 11 by omega) c8
  · subst e
    obtain ⟨hf, hs⟩ := l3 (by decide) (by decide)
    have hlt := xy_lt hf hs
    rw [m2 (by decide), m3 (by decide), z_mul, nI_add] at e1
    subst e1
    refine ⟨fun z => absurd z (by decide), fun z => absurd z (by decide), fun _ => ?_, fun z => absurd z (by decide), fun z => absurd z (by decide), fun z => absurd z (by decide), fun z => absurd rfl (z.2.2.1)⟩
    refine ⟨pk_in (w * s + f) 10 (by omega), fun f8 e8 => hQ _ _ _ _ _ _ _ _ _ _ ⟨rfl, rfl, rfl, rfl, c5, rfl, rfl, ?_⟩ hro⟩
    rw [e8, z_cl (by omega)]
    exact SQ_upd (v := 10) hf hs (by decide) c8
  · subst e
    obtain ⟨hf, hs⟩ := l3 (by decide) (by decide)
    have hlt := xy_lt hf hs
    rw [m2 (by decide), m3 (by decide), z_mul, nI_add] at e1
    subst e1
    refine ⟨fun z => absurd z (by decide), fun z => absurd z (by decide), fun z => absurd z (by decide), fun _ => ?_, fun z => absurd z (by decide), fun z => absurd z (by decide), fun z => absurd rfl (z.2.2.2.1)⟩
    refine ⟨pk_in (w * s + f) 10 (by omega), fun f8 e8 => hQ _ _ _ _ _ _ _ _ _ _ ⟨rfl, rfl, rfl, rfl, c5, rfl, rfl, ?_⟩ hro⟩
    rw [e8, z_cl (by omega)]
    exact SQ_upd (v := 11) hf hs (by decide) c8
  · subst e
    obtain ⟨hf, hs⟩ := l3 (by decide) (by decide)
    have hlt := xy_lt hf hs
    rw [m2 (by decide), m3 (by decide), z_mul, nI_add] at e1
    subst e1
    refine ⟨fun z => absurd z (by decide), fun z => absurd z (by decide), fun z => absurd z (by decide), fun z => absurd z (by decide), fun _ => ?_, fun z => absurd z (by decide), fun z => absurd rfl (z.2.2.2.2.1)⟩
    rw [m4 (Or.inr (Or.inl rfl))]
    refine ⟨i3, s_medgeAt k hlt (l5 (Or.inl rfl)) (fun y12 e12 => hQ _ _ _ _ _ _ _ _ _ _ ⟨rfl, rfl, ?_, rfl, c5, rfl, rfl, c8⟩ hro)⟩
    rw [e12, z_shlL (edn_lt k hlt (l5 (Or.inl rfl)))]
    exact lN_or _ _
  · subst e
    obtain ⟨hf, hs⟩ := l3 (by decide) (by decide)
    have hlt := xy_lt hf hs
    rw [m2 (by decide), m3 (by decide), z_mul, nI_add] at e1
    subst e1
    refine ⟨fun z => absurd z (by decide), fun z => absurd z (by decide), fun z => absurd z (by decide), fun z => absurd z (by decide), fun z => absurd z (by decide), fun _ => ?_, fun z => absurd rfl (z.2.2.2.2.2)⟩
    rw [m4 (Or.inr (Or.inr rfl))]
    refine ⟨i3, s_medgeAt k hlt (l5 (Or.inr rfl)) (fun y12 e12 => hQ _ _ _ _ _ _ _ _ _ _ ⟨rfl, rfl, ?_, rfl, c5, rfl, rfl, c8⟩ hro)⟩
    rw [e12, z_shlL (edn_lt k hlt (l5 (Or.inr rfl))), z_andnL]
    rfl
  · refine ⟨fun z => absurd (z_inj (b := 0) (by omega) (by decide) z) (by omega), fun z => absurd (z_inj (b := 1) (by omega) (by decide) z) (by omega), fun z => absurd (z_inj (b := 2) (by omega) (by decide) z) (by omega), fun z => absurd (z_inj (b := 3) (by omega) (by decide) z) (by omega), fun z => absurd (z_inj (b := 4) (by omega) (by decide) z) (by omega), fun z => absurd (z_inj (b := 5) (by omega) (by decide) z) (by omega), fun _ => ?_⟩
    unfold wp_X11_doNight bk_X11_doNight_71
    rw [q1, z_cl (show 4 * j < 2 ^ 31 by omega), z_cl (show 4 * j + 1 < 2 ^ 31 by omega), m1]
    refine ⟨i1, fun y1 e1 => ⟨i0, ?_⟩⟩
    rcases (show v = 6 ∨ v = 7 ∨ v = 8 ∨ v = 9 ∨ v = 10 by omega) with e | e | e | e | e
    · subst e
      rw [m2 (by decide)] at e1
      exact ⟨fun z => absurd rfl z, fun _ => hQ _ _ _ _ _ _ _ _ _ _ ⟨rfl, rfl, rfl, e1, c5, rfl, rfl, c8⟩ hro⟩
    · subst e
      rw [m2 (by decide)] at e1
      obtain ⟨d1, d2, d3⟩ := id c5
      subst d1
      refine ⟨fun _ => ⟨i0, fun z => absurd rfl z, fun _ => pk_le 7 wl.length (fun q => ?_) (fun q => ⟨pk_in wl.length 7 q, fun f9 e9 y10 e10 => hQ _ _ _ _ _ _ _ _ _ _ ⟨rfl, rfl, rfl, rfl, ?_, rfl, rfl, c8⟩ hro⟩) rfl rfl⟩, fun z => absurd z (by decide)⟩
      · refine ⟨i0, fun _ => ⟨i0, fun _ => ⟨i0, fun _ => hQ _ _ _ _ _ _ _ _ _ _ ⟨rfl, rfl, rfl, rfl, ?_, rfl, rfl, c8⟩ hro, fun z => absurd z (by decide)⟩, fun z => absurd z (by decide)⟩, fun z => absurd z (by decide)⟩
        show RW (if wl.length < 7 then wl ++ [f] else wl) _ _
        rw [if_neg (by omega)]
        exact c5
      · show RW (if wl.length < 7 then wl ++ [f] else wl) _ _
        rw [if_pos q, e9, e10, e1, nI_1, z_cl (by omega)]
        exact RW_push c5 (l7 rfl) q
    · subst e
      rw [m2 (by decide)] at e1
      exact ⟨fun _ => ⟨i0, fun _ => ⟨i0, fun z => absurd rfl z, fun _ => hQ _ _ _ _ _ _ _ _ _ _ ⟨rfl, rfl, rfl, rfl, c5, e1, rfl, c8⟩ hro⟩, fun z => absurd z (by decide)⟩, fun z => absurd z (by decide)⟩
    · subst e
      rw [m2 (by decide)] at e1
      refine ⟨fun _ => ⟨i0, fun _ => ⟨i0, fun _ => ⟨i0, fun z => absurd rfl z, fun _ y7 e7 => hQ _ _ _ _ _ _ _ _ _ _ ⟨rfl, rfl, rfl, rfl, c5, rfl, ?_, c8⟩ hro⟩, fun z => absurd z (by decide)⟩, fun z => absurd z (by decide)⟩, fun z => absurd z (by decide)⟩
      rw [e7, e1]
      rfl
    · subst e
      exact ⟨fun _ => ⟨i0, fun _ => ⟨i0, fun _ => ⟨i0, fun _ => ⟨i0, fun z => absurd rfl z, fun _ => hQ _ _ _ _ _ _ _ _ _ _ ⟨rfl, rfl, rfl, rfl, ⟨rfl, Nat.zero_le _, fun j hj => absurd hj (Nat.not_lt_zero j)⟩, rfl, rfl, c8⟩ hro⟩, fun z => absurd z (by decide)⟩, fun z => absurd z (by decide)⟩, fun z => absurd z (by decide)⟩, fun z => absurd z (by decide)⟩
end TELL
