section HUN2
theorem SI_step {cs : Nat → Nat → Nat} {P : Nat} {f : Nat → Nat} {B : Int} {k : Nat} {D : Int} {rk : Nat → Nat} {u v : Nat → Int} {sl : Nat → Option Int} {us : Nat → Bool} {wb : Nat → Nat} {now : Nat} (hcs : ∀ i c, cs i c ≤ 100) (hB : 0 ≤ B) (hIJ : IJ P f) (hfree : ∃ c0, 1 ≤ c0 ∧ c0 ≤ P ∧ f c0 = 0) (hs : SI cs P f B k D rk (u, v, sl, us, wb, now)) (hf : f now ≠ 0) : ∃ D', SI cs P f B (k + 1) D' (updN rk now k) (stp cs P f u v sl us wb now) ∧ (∀ c, 1 ≤ c → c ≤ P → uB us now c = false → ∃ x, slR cs f u v sl (uB us now) now c = some x ∧ 0 ≤ x ∧ x ≤ 200 + B) := by
  obtain ⟨hFE, hBN, hD0, hD1, hus, hcnt, hnow, hnu, hk0, hk1, hfv, hrk, hwb⟩ := hs
  dsimp only at hFE hBN hus hcnt hnow hnu hk0 hk1 hfv hrk hwb
  obtain ⟨us1, hus1⟩ : ∃ us1, uB us now = us1 := ⟨_, rfl⟩
  obtain ⟨SL, hSLd⟩ : ∃ SL, slR cs f u v sl us1 now = SL := ⟨_, rfl⟩
  obtain ⟨WB, hWBd⟩ : ∃ WB, wbR cs f u v sl us1 wb now = WB := ⟨_, rfl⟩
  have hSLc : ∀ c, SL c = if us1 c then sl c else if ltO (vl cs f u v now c) (sl c) then some (vl cs f u v now c) else sl c := fun c => by rw [← hSLd]; rfl
  have hWBc : ∀ c, WB c = if us1 c then wb c else if ltO (vl cs f u v now c) (sl c) then now else wb c := fun c => by rw [← hWBd]; rfl
  have u1s : us1 now = true := by rw [← hus1]; exact uB_self us now
  have u1o : ∀ j, us j = true → us1 j = true := fun j q => by rw [← hus1]; exact uB_old q
  have u1or : ∀ j, us1 j = true → j = now ∨ us j = true := fun j q => by rw [← hus1] at q; exact uB_or q
  have u1no : ∀ j, us1 j = false → j ≠ now ∧ us j = false := fun j q => by rw [← hus1] at q; exact uB_no q
  have hus' : ∀ c, us1 c = true → c ≤ P ∧ f c ≠ 0 := by
    intro c q
    rcases u1or c q with e | e
    · rw [e]; exact ⟨hnow, hf⟩
    · exact hus c e
  have hval : ∀ c, 1 ≤ c → c ≤ P → 0 ≤ vl cs f u v now c ∧ vl cs f u v now c ≤ 200 + B := by
    intro c c1 c2
    have h1 := hFE (f now) c (by omega) c1 c2
    have h2 := hBN.1 (f now)
    have h3 := hBN.2 c c1
    have h4 := hcs (f now) c
    unfold vl
    omega
  have hSL : ∀ c, 1 ≤ c → c ≤ P → us1 c = false → ∃ x, SL c = some x ∧ us1 (WB c) = true ∧ 0 ≤ x ∧ x ≤ 200 + B ∧ (∀ j, us1 j = true → x ≤ (cs (f j) c : Int) - u (f j) - v c) ∧ (f c = 0 → x + D ≤ 100) := by
    intro c c1 c2 c3
    obtain ⟨c4, c5⟩ := u1no c c3
    obtain ⟨v1, v2⟩ := hval c c1 c2
    have e0 : ¬ (false = true) := by decide
    rw [hSLc, hWBc, c3, if_neg e0, if_neg e0]
    rcases Nat.eq_zero_or_pos k with e | e
    · obtain ⟨a1, a2, a3, a4⟩ := hk0 e
      rw [a2 c]
      refine ⟨_, rfl, u1s, v1, v2, fun j q => ?_, fun q => ?_⟩
      · rcases u1or j q with y | y
        · rw [y]
          exact Int.le_refl _
        · rw [a3 j] at y
          exact absurd y (by decide)
      · have h1 := hfv c q c1 c2
        have h2 := hBN.1 (f now)
        have h4 := hcs (f now) c
        unfold vl
        omega
    · obtain ⟨a1, a2, a3⟩ := hk1 e
      obtain ⟨x, x1, x2, x3, x4, x5, x6⟩ := a3 c c1 c2
      rw [x1]
      have e2 : ltO (vl cs f u v now c) (some x) = decide (vl cs f u v now c < x) := rfl
      rw [e2]
      by_cases q : vl cs f u v now c < x
      · rw [decide_eq_true q, if_pos rfl, if_pos rfl]
        refine ⟨_, rfl, u1s, v1, v2, fun j q2 => ?_, fun q2 => ?_⟩
        · rcases u1or j q2 with y | y
          · rw [y]
            exact Int.le_refl _
          · have := x5 c5 j y
            omega
        · have := x6 q2
          omega
      · rw [decide_eq_false q, if_neg e0, if_neg e0]
        refine ⟨x, rfl, u1o _ x2, x3, x4, fun j q2 => ?_, x6⟩
        rcases u1or j q2 with y | y
        · rw [y]
          unfold vl at q
          omega
        · exact x5 c5 j y
  have hSLu : ∀ c, 1 ≤ c → c ≤ P → us1 c = true → ∃ x, SL c = some x ∧ us1 (WB c) = true ∧ 0 ≤ x ∧ x ≤ 200 + B := by
    intro c c1 c2 c3
    rw [hSLc, hWBc, c3, if_pos rfl, if_pos rfl]
    rcases Nat.eq_zero_or_pos k with e | e
    · obtain ⟨a1, a2, a3, a4⟩ := hk0 e
      rcases u1or c c3 with y | y
      · omega
      · rw [a3 c] at y
        exact absurd y (by decide)
    · obtain ⟨a1, a2, a3⟩ := hk1 e
      obtain ⟨x, x1, x2, x3, x4, x5, x6⟩ := a3 c c1 c2
      exact ⟨x, x1, u1o _ x2, x3, x4⟩
  obtain ⟨nx, hnx⟩ : ∃ nx, nxR P SL us1 = nx := ⟨_, rfl⟩
  have hsp := amin_sp us1 (fun c => gO (SL c)) P 1 0 (by omega) (fun _ j j1 j2 => by omega) (fun q => absurd rfl q)
  have hnx2 : amin us1 (fun c => gO (SL c)) P 1 0 = nx := hnx
  rw [hnx2] at hsp
  obtain ⟨c0, f1, f2, f3⟩ := hfree
  have hc0 : us1 c0 = false := by
    cases eu : us1 c0 with
    | false => rfl
    | true => exact absurd f3 (hus' c0 eu).2
  have hnx0 : nx ≠ 0 := by
    intro q
    have := hsp.1 q c0 f1 (by omega)
    rw [hc0] at this
    exact absurd this (by decide)
  obtain ⟨n1, n2, n3, n4⟩ := hsp.2 hnx0
  obtain ⟨y, y1, y2, y3, y4, y5, y6⟩ := hSL nx n1 (by omega) n3
  have hgy : gO (SL nx) = y := by rw [y1]; rfl
  have hle : ∀ c x, 1 ≤ c → c ≤ P → us1 c = false → SL c = some x → y ≤ x := by
    intro c x c1 c2 c3 c4
    have := n4 c c1 (by omega) c3
    rw [hgy, c4] at this
    exact this
  obtain ⟨u', hu'⟩ : ∃ u', shU us1 f y (P + 1) 0 u = u' := ⟨_, rfl⟩
  have hu1 : ∀ j, us1 j = true → u' (f j) = u (f j) + y := by
    intro j q
    rw [← hu']
    have hj := hus' j q
    exact shU_yes (k := j) (P + 1) 0 u (by omega) (by omega) q rfl (fun i i1 i2 i3 i4 => hIJ i j (by omega) (by omega) (hus' i i3).2 i4)
  have hu2 : ∀ i, (∀ j, us1 j = true → f j ≠ i) → u' i = u i := by
    intro i q
    rw [← hu']
    exact shU_no (P + 1) 0 u (fun j _ _ j3 => q j j3)
  have hui : ∀ i, (∃ j, us1 j = true ∧ f j = i ∧ u' i = u i + y) ∨ u' i = u i := by
    intro i
    by_cases q : ∃ j, us1 j = true ∧ f j = i
    · obtain ⟨j, q1, q2⟩ := q
      left
      refine ⟨j, q1, q2, ?_⟩
      rw [← q2]
      exact hu1 j q1
    · right
      exact hu2 i (fun j j1 j2 => q ⟨j, j1, j2⟩)
  have hfr : ∃ x, SL c0 = some x ∧ x + D ≤ 100 := by
    obtain ⟨x, x1, _, _, _, _, x6⟩ := hSL c0 f1 f2 hc0
    exact ⟨x, x1, x6 f3⟩
  obtain ⟨x0, x01, x02⟩ := hfr
  have hyx0 := hle c0 x0 f1 f2 hc0 x01
  have hstp : stp cs P f u v sl us wb now = (u', (fun c => if us1 c then v c - y else v c), (fun c => if us1 c then SL c else (SL c).map (fun x => x - y)), us1, WB, nx) := by
    unfold stp stp1 stp2
    rw [hus1, hSLd, hWBd, hnx, hgy, hu']
  refine ⟨D + y, ?_, ?_⟩
  · rw [hstp]
    refine ⟨?_, ?_, by omega, by omega, hus', ?_, by dsimp only; omega, n3, fun q => by omega, fun _ => ⟨n1, ?_, ?_⟩, ?_, ?_, ?_⟩
    · intro i c i1 c1 c2
      dsimp only
      have h0 := hFE i c i1 c1 c2
      rcases hui i with ⟨j, j1, j2, j3⟩ | j3
      · rw [j3]
        cases ec : us1 c with
        | true =>
          rw [if_pos rfl]
          omega
        | false =>
          rw [if_neg (by decide)]
          obtain ⟨x, z1, _, _, _, z5, _⟩ := hSL c c1 c2 ec
          have h1 := z5 j j1
          have h2 := hle c x c1 c2 ec z1
          rw [j2] at h1
          omega
      · rw [j3]
        cases ec : us1 c with
        | true =>
          rw [if_pos rfl]
          omega
        | false =>
          rw [if_neg (by decide)]
          exact h0
    · refine ⟨fun i => ?_, fun c c1 => ?_⟩
      · have h0 := hBN.1 i
        dsimp only
        rcases hui i with ⟨j, j1, j2, j3⟩ | j3
        · rw [j3]; omega
        · rw [j3]; omega
      · have h0 := hBN.2 c c1
        dsimp only
        cases ec : us1 c with
        | true => rw [if_pos rfl]; omega
        | false => rw [if_neg (by decide)]; omega
    · dsimp only
      rw [← hus1, cnt_uB hnu, if_pos (by omega), hcnt]
    · dsimp only
      rcases Nat.eq_zero_or_pos k with e | e
      · rw [← (hk0 e).1]
        exact u1s
      · exact u1o 0 (hk1 e).2.1
    · intro c c1 c2
      dsimp only
      cases ec : us1 c with
      | true =>
        obtain ⟨x, z1, z2, z3, z4⟩ := hSLu c c1 c2 ec
        rw [if_pos rfl]
        exact ⟨x, z1, z2, z3, z4, fun q => absurd q (by decide), fun q => absurd q (hus' c ec).2⟩
      | false =>
        obtain ⟨x, z1, z2, z3, z4, z5, z6⟩ := hSL c c1 c2 ec
        have h2 := hle c x c1 c2 ec z1
        rw [if_neg (by decide), z1, if_neg (by decide)]
        refine ⟨x - y, rfl, z2, by omega, by omega, fun _ j j1 => ?_, fun q => ?_⟩
        · rw [hu1 j j1]
          have := z5 j j1
          omega
        · have := z6 q
          omega
    · intro c q c1 c2
      dsimp only
      cases ec : us1 c with
      | true => exact absurd q (hus' c ec).2
      | false => rw [if_neg (by decide)]; exact hfv c q c1 c2
    · intro c q
      dsimp only at q
      unfold updN
      rcases u1or c q with e | e
      · rw [if_pos e]; omega
      · have := hrk c e
        have hne : c ≠ now := fun y => by rw [y, hnu] at e; exact absurd e (by decide)
        rw [if_neg hne]
        omega
    · intro c q c1
      dsimp only at q ⊢
      have hW : WB c = wb c := by rw [hWBc, q, if_pos rfl]
      rw [hW]
      unfold updN
      rcases u1or c q with e | e
      · have hk : 1 ≤ k := by
          rcases Nat.eq_zero_or_pos k with e2 | e2
          · exact absurd (e.trans (hk0 e2).1) c1
          · exact e2
        obtain ⟨a1, a2, a3⟩ := hk1 hk
        obtain ⟨x, x1, x2, _⟩ := a3 c (by omega) (hus' c q).1
        have hne : wb c ≠ now := fun y => by rw [y, hnu] at x2; exact absurd x2 (by decide)
        rw [if_neg hne, if_pos e]
        exact ⟨hrk _ x2, u1o _ x2⟩
      · obtain ⟨w1, w2⟩ := hwb c e c1
        have hne : c ≠ now := fun y => by rw [y, hnu] at e; exact absurd e (by decide)
        have hne2 : wb c ≠ now := fun y => by rw [y, hnu] at w2; exact absurd w2 (by decide)
        rw [if_neg hne2, if_neg hne]
        exact ⟨w1, u1o _ w2⟩
  · intro c c1 c2 c3
    rw [hus1] at c3 ⊢
    rw [hSLd]
    obtain ⟨x, z1, _, z3, z4, _⟩ := hSL c c1 c2 c3
    exact ⟨x, z1, z3, z4⟩
end HUN2
