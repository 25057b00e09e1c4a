section CGIVE
def PA (P R : Nat) (s : PT) (ua va fa : Nat → Int32) : Prop := (∀ i, i ≤ R → ua i = iI (s.1 i)) ∧ (∀ c, c ≤ P → va c = iI (s.2.1 c)) ∧ (∀ c, 1 ≤ c → c ≤ P → fa c = nI (s.2.2 c))
theorem s_caug {cs : Nat → Nat → Nat} {P R t k : Nat} {s : PT} {D : Int} {rk : Nat → Nat} {σ : HS} {ua va fa wa sa ea : Nat → Int32} {Q : ((Nat → Int32) × (Nat → Int32) × (Nat → Int32) × (Nat → Int32) × (Nat → Int32) × (Nat → Int32)) → Prop} (hP : P ≤ 62) (ht : t < 31) (hp : PI cs P t s) (hs : SI cs P (updN s.2.2 0 (t + 1)) (100 * (t : Int)) k D rk σ) (ha : HA 1048576 P R (updN s.2.2 0 (t + 1)) σ ua va fa wa sa ea) (hend : updN s.2.2 0 (t + 1) σ.2.2.2.2.2 = 0) (hQ : ∀ fa', PA P R (hEnd P (updN s.2.2 0 (t + 1)) σ) ua va fa' → PI cs P (t + 1) (hEnd P (updN s.2.2 0 (t + 1)) σ) → Q (ua, va, fa', wa, sa, ea)) : bk_X0_giveTo_79 Q (nI σ.2.2.2.2.2) (nI P) ua va fa wa sa ea := by
  obtain ⟨hai, hnu, hn1⟩ := AI_0 hp hs hend
  have hkP := SI_k hs
  obtain ⟨h1, h2, h3, h4, h5, h6, h7, h8, h9, h10, h11, h12, h13⟩ := id hs
  obtain ⟨a1, a2, a3, a4, a5⟩ := ha
  have hk : 1 ≤ k := by
    rcases Nat.eq_zero_or_pos k with e | e
    · have := (h9 e).1
      omega
    · exact e
  have hwa : ∀ c, 1 ≤ c → c ≤ P → wa c = nI (σ.2.2.2.2.1 c) := by
    intro c c1 c2
    obtain ⟨x, x1, _⟩ := (h10 hk).2.2 c c1 c2
    exact ((a5 c c1 c2).2 x x1).2
  obtain ⟨FF, hFF⟩ : ∃ FF, aug σ.2.2.2.2.1 (P + 2) (updN s.2.2 0 (t + 1)) σ.2.2.2.2.2 = FF := ⟨_, rfl⟩
  have hne0 : σ.2.2.2.2.1 σ.2.2.2.2.2 ≠ σ.2.2.2.2.2 := by
    intro e
    have := (hai.2.2.2.2.2 (by omega)).1
    rw [e, hnu] at this
    exact absurd this (by decide)
  unfold hEnd at hQ
  rw [hFF] at hQ
  unfold bk_X0_giveTo_79 lp_X0_giveTo_81
  refine ⟨fun M fa x2 x3 => ∃ i f now, AI P t (updN s.2.2 0 (t + 1)) σ.2.2.2.1 σ.2.2.2.2.1 rk f now M ∧ i + M ≤ k ∧ x2 = nI now ∧ x3 = nI i ∧ (∀ c, c ≤ P → fa c = nI (f c)) ∧ aug σ.2.2.2.2.1 (P + 2 - i) f now = FF ∧ (now ≠ 0 → σ.2.2.2.2.1 now ≠ now), ⟨k, 0, _, _, hai, by omega, rfl, rfl, a3, hFF, fun _ => hne0⟩, ?_⟩
  rintro M fa x2 x3 ⟨i, f, now, hA, hiM, rfl, rfl, hfa, hau, hne⟩
  have hnP := hA.2.2.2.2.1
  have hfin : now = 0 → Q (ua, va, fa, wa, sa, ea) := by
    intro e
    subst e
    rw [aug_0] at hau
    subst hau
    exact hQ fa ⟨a1, a2, fun c c1 c2 => hfa c c2⟩ (PI_end hp hs hA)
  unfold bd_X0_giveTo_81
  refine pk_lt P i (fun q => by omega) (fun q => ⟨fun z => hfin (z_inj (b := 0) (by omega) (by decide) z), fun z => ?_⟩) rfl rfl
  have hn0 : now ≠ 0 := fun e => z (by rw [e]; rfl)
  obtain ⟨hA', hm, hwP, hfw⟩ := AI_step (fun c q => (h5 c q).1) (fun c q c0 => h13 c q c0) hA hn0 (hne hn0)
  rw [show P + 2 - i = (P + 2 - (i + 1)) + 1 by omega, aug, if_neg hn0] at hau
  refine ⟨pk_in now 63 (by omega), fun y7 e7 => ?_⟩
  rw [z_cl (by omega), hwa now (by omega) hnP] at e7
  subst e7
  refine ⟨pk_in (σ.2.2.2.2.1 now) 63 (by omega), fun y8 e8 => ⟨pk_in now 63 (by omega), fun f9 e9 y10 e10 => ⟨_, hm, i + 1, _, _, hA', by omega, rfl, by rw [e10, nI_1], fun c c1 => ?_, hau, fun q => ?_⟩⟩⟩
  · rw [z_cl (by omega), hfa _ hwP] at e8
    rw [e9, z_cl (by omega), e8]
    unfold updN
    by_cases e : c = now
    · rw [e, z_upd_eq, if_pos rfl]
    · rw [z_upd_ne _ _ e, if_neg e]
      exact hfa c c1
  · intro e
    have h0 := h13 _ ((hA.2.2.2.2.2 hn0).1) q
    rw [e] at h0
    omega
theorem s_cgive {cs : Nat → Nat → Nat} {P R t : Nat} {s : PT} {ua va fa wa sa ea tx ty fx fy : Nat → Int32} {Q : ((Nat → Int32) × (Nat → Int32) × (Nat → Int32) × (Nat → Int32) × (Nat → Int32) × (Nat → Int32)) → Prop} (hcs : ∀ i c, cs i c ≤ 100) (hR : R ≤ 31) (hP : P ≤ 62) (hRP : R ≤ P) (hway : ∀ r c (Q' : Int32 → Prop), 1 ≤ r → r ≤ R → 1 ≤ c → c ≤ P → Q' (nI (cs r c)) → wp_X0_way (nI r) (nI c) tx ty fx fy Q') (ht : t < R) (hp : PI cs P t s) (ha : PA P R s ua va fa) (hQ : ∀ ua' va' fa' wa' sa' ea', PA P R (hPh cs P (t + 1) s) ua' va' fa' → PI cs P (t + 1) (hPh cs P (t + 1) s) → Q (ua', va', fa', wa', sa', ea')) : wp_X0_giveTo (nI (t + 1)) (nI P) tx ty fx fy ua va fa wa sa ea Q := by
  have hij := PI_IJ hp
  have hfr := PI_free hp (by omega)
  obtain ⟨p1, p2, p3⟩ := ha
  unfold wp_X0_giveTo
  refine s_fill (n := 63) (by decide) (fun a hav => s_fill (n := 63) (by decide) (fun a2 ha2 => ⟨pk_in 0 63 (by decide), fun f3 e3 => ?_⟩))
  have ecl : (0 : Int32).toNatClampNeg = 0 := rfl
  rw [ecl] at e3
  have hf3 : ∀ c, c ≤ P → f3 c = nI (updN s.2.2 0 (t + 1) c) := by
    intro c c1
    unfold updN
    by_cases e : c = 0
    · rw [e3, e, z_upd_eq, if_pos rfl]
    · rw [e3, z_upd_ne _ _ e, if_neg e]
      exact p3 c (by omega) c1
  have hfle : ∀ c, c ≤ P → updN s.2.2 0 (t + 1) c ≤ t + 1 := by
    intro c c1
    unfold updN
    by_cases e : c = 0
    · rw [if_pos e]; omega
    · rw [if_neg e]
      have := hp.2.2.1 c (by omega) c1
      omega
  obtain ⟨F0, hF0⟩ : ∃ F0, updN s.2.2 0 (t + 1) = F0 := ⟨_, rfl⟩
  obtain ⟨SE, hSE⟩ : ∃ S', srch cs P F0 (P + 2) (sg0 s) = S' := ⟨_, rfl⟩
  unfold hPh at hQ
  rw [hF0] at hQ hf3 hfle hij hfr
  rw [hSE] at hQ
  unfold lp_X0_giveTo_28
  refine ⟨fun M ua va wa sa ea x2 x3 => ∃ k D rk σ, SI cs P F0 (100 * (t : Int)) k D rk σ ∧ HA 1048576 P R F0 σ ua va f3 wa sa ea ∧ M = P + 2 - k ∧ x2 = nI σ.2.2.2.2.2 ∧ x3 = nI k ∧ srch cs P F0 (P + 2 - k) σ = SE, ⟨P + 2, 0, 0, _, sg0 s, by rw [← hF0]; exact PI_SI hp, ⟨p1, p2, hf3, fun c c1 => ?_, fun c c1 c2 => ⟨fun _ => ?_, fun x hx => absurd hx (by simp [sg0])⟩⟩, rfl, rfl, rfl, hSE⟩, ?_⟩
  · rw [ha2, if_pos (by omega)]
    rfl
  · rw [hav, if_pos (by omega)]
  · clear p1 p2 hav ha2 hSE
    rintro M ua va wa sa ea x2 x3 ⟨k, D, rk, ⟨u, v, sl, us, wb, now⟩, hs, hA, rfl, rfl, rfl, hsr⟩
    have hkP := SI_k hs
    have hnow : now ≤ P := hs.2.2.2.2.2.2.1
    rw [show P + 2 - k = (P + 2 - (k + 1)) + 1 by omega, srch] at hsr
    dsimp only at hsr ⊢
    unfold bd_X0_giveTo_28
    refine pk_lt P k (fun q => by omega) (fun q => ⟨pk_in now 63 (by omega), ?_⟩) rfl rfl
    rw [z_cl (show now < 2 ^ 31 by omega), hf3 now hnow]
    have hfl := hfle now hnow
    refine ⟨fun z => ?_, fun z => ⟨pk_in now 63 (by omega), fun f12 e12 => ?_⟩⟩
    · have hf0 : F0 now = 0 := z_inj (b := 0) (by omega) (by decide) z
      rw [if_pos hf0] at hsr
      subst hsr
      rw [← hF0] at hs hA hQ hf0
      exact s_caug hP (by omega) hp hs hA hf0 (fun fa' h1 h2 => hQ _ _ _ _ _ _ h1 h2)
    · have hf0 : F0 now ≠ 0 := fun e => z (by rw [e]; rfl)
      rw [if_neg hf0] at hsr
      obtain ⟨hval, hslb⟩ := SI_val hcs hs hf0
      obtain ⟨D', hs', hSL⟩ := SI_step hcs (by omega) hij hfr hs hf0
      obtain ⟨a1, a2, a3, a4, a5⟩ := hA
      have hA1 : HA 1048576 P R F0 (u, v, sl, uB us now, wb, now) ua va f3 wa sa f12 := by
        refine ⟨a1, a2, a3, fun c c1 => ?_, a5⟩
        show f12 c = if uB us now c then 1 else 0
        rw [e12]
        by_cases e : c = now
        · rw [e, z_upd_eq, uB_self]
          rfl
        · rw [z_upd_ne _ _ e, uB_ne _ e]
          exact a4 c c1
      have hBt : 100 * (t : Int) ≤ 4000 := by omega
      refine s_cnear hR hP hBt hway hnow ⟨by omega, by omega⟩ hval hslb hSL hA1 (fun wa' sa' hA2 => ?_)
      obtain ⟨nx, hnx⟩ : ∃ nx, nxR P (slR cs F0 u v sl (uB us now) now) (uB us now) = nx := ⟨_, rfl⟩
      have hnx2 : (stp cs P F0 u v sl us wb now).2.2.2.2.2 = nx := hnx
      have hus2 : (stp cs P F0 u v sl us wb now).2.2.2.1 = uB us now := rfl
      have hnP : nx ≤ P := by rw [← hnx2]; exact hs'.2.2.2.2.2.2.1
      have hnu : uB us now nx = false := by have := hs'.2.2.2.2.2.2.2.1; rw [hnx2, hus2] at this; exact this
      obtain ⟨hn1, hus0, _⟩ := hs'.2.2.2.2.2.2.2.2.2.1 (by omega)
      rw [hnx2] at hn1
      rw [hus2] at hus0
      obtain ⟨y, y1, y2, y3⟩ := hSL nx hn1 hnP hnu
      have hsa := ((hA2.2.2.2.2 nx hn1 hnP).2 y y1).1
      rw [hnx]
      refine ⟨pk_in nx 63 (by omega), ?_⟩
      rw [z_cl (show nx < 2 ^ 31 by omega)]
      dsimp only
      rw [hsa]
      have hg : y = gO (slR cs F0 u v sl (uB us now) now nx) := by rw [y1]; rfl
      refine s_cshift (nx := nx) hR hP (fun c hc => ?_) (fun c c1 c2 c3 => ?_) hus0 hA2 (fun ua' va' sa'' hA3 y16 e16 => ⟨P + 2 - (k + 1), by omega, k + 1, D', _, _, hs', ?_, rfl, ?_, by rw [e16, nI_1], hsr⟩)
      · have := hs'.2.2.2.2.1 c hc
        have h2 := hfle c this.1
        omega
      · obtain ⟨x, x1, _⟩ := hSL c c1 c2 c3
        exact ⟨x, x1⟩
      · rw [hg, ← hnx] at hA3
        exact hA3
      · rw [hnx2]
end CGIVE
