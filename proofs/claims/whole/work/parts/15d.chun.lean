section CHUN
theorem part_step {F : Int32} {P c : Nat} {SL sl : Nat → Option Int} {WB wb : Nat → Nat} {sa wa sa' wa' : Nat → Int32} (h : ∀ j, 1 ≤ j → j ≤ P → CR1 F (if j < c then SL j else sl j) (if j < c then WB j else wb j) (sa j) (wa j)) (hc : CR1 F (SL c) (WB c) (sa' c) (wa' c)) (hs : ∀ j, j ≠ c → sa' j = sa j ∧ wa' j = wa j) : ∀ j, 1 ≤ j → j ≤ P → CR1 F (if j < c + 1 then SL j else sl j) (if j < c + 1 then WB j else wb j) (sa' j) (wa' j) := by
  intro j j1 j2
  by_cases e : j = c
  · subst e
    rw [if_pos (by omega), if_pos (by omega)]
    exact hc
  · obtain ⟨h1, h2⟩ := hs j e
    rw [h1, h2]
    have := h j j1 j2
    by_cases q : j < c
    · rw [if_pos q, if_pos q] at this
      rw [if_pos (by omega), if_pos (by omega)]
      exact this
    · rw [if_neg q, if_neg q] at this
      rw [if_neg (by omega), if_neg (by omega)]
      exact this
theorem s_cnear {cs : Nat → Nat → Nat} {P R : Nat} {f : Nat → Nat} {B : Int} {u v : Nat → Int} {sl : Nat → Option Int} {us : Nat → Bool} {wb : Nat → Nat} {now : Nat} {ua va fa wa sa ea tx ty fx fy : Nat → Int32} {Q : Int32 → ((Nat → Int32) × (Nat → Int32)) → Prop} (hR : R ≤ 31) (hP : P ≤ 62) (hB : B ≤ 4000) (hway : ∀ r c (Q' : Int32 → Prop), 1 ≤ r → r ≤ R → 1 ≤ c → c ≤ P → Q' (nI (cs r c)) → wp_X0_way (nI r) (nI c) tx ty fx fy Q') (hnow : now ≤ P) (hfn : 1 ≤ f now ∧ f now ≤ R) (hval : ∀ c, 1 ≤ c → c ≤ P → 0 ≤ vl cs f u v now c ∧ vl cs f u v now c ≤ 200 + B) (hslb : ∀ c x, 1 ≤ c → c ≤ P → sl c = some x → 0 ≤ x ∧ x ≤ 200 + B) (hSL : ∀ c, 1 ≤ c → c ≤ P → us c = false → ∃ x, slR cs f u v sl us now c = some x ∧ 0 ≤ x ∧ x ≤ 200 + B) (ha : HA 1048576 P R f (u, v, sl, us, wb, now) ua va fa wa sa ea) (hQ : ∀ wa' sa', HA 1048576 P R f (u, v, slR cs f u v sl us now, us, wbR cs f u v sl us wb now, now) ua va fa wa' sa' ea → Q (nI (nxR P (slR cs f u v sl us now) us)) (wa', sa')) : wp_X0_nearestBehind (nI now) (nI P) tx ty fx fy ua va fa wa sa ea Q := by
  obtain ⟨a1, a2, a3, a4, a5⟩ := ha
  dsimp only at a1 a2 a4 a5
  obtain ⟨SL, hSLd⟩ : ∃ SL, slR cs f u v sl us now = SL := ⟨_, rfl⟩
  obtain ⟨WB, hWBd⟩ : ∃ WB, wbR cs f u v sl us wb now = WB := ⟨_, rfl⟩
  have hSLc : ∀ c, SL c = if us c then sl c else if ltO (vl cs f u v now c) (sl c) then some (vl cs f u v now c) else sl c := fun c => by rw [← hSLd]; rfl
  have hWBc : ∀ c, WB c = if us c then wb c else if ltO (vl cs f u v now c) (sl c) then now else wb c := fun c => by rw [← hWBd]; rfl
  rw [hSLd] at hSL hQ
  rw [hWBd] at hQ
  obtain ⟨nx, hnx⟩ : ∃ nx, nxR P SL us = nx := ⟨_, rfl⟩
  rw [hnx] at hQ
  unfold wp_X0_nearestBehind
  refine ⟨pk_in now 63 (by omega), fun y1 e1 => ?_⟩
  rw [z_cl (by omega), a3 now hnow] at e1
  subst e1
  unfold lp_X0_nearestBehind_12
  refine ⟨fun M wa sa x3 x4 => ∃ c x, 1 ≤ c ∧ c ≤ P + 1 ∧ M = P + 1 - c ∧ x4 = nI c ∧ x3 = nI x ∧ (x = 0 ∨ 1 ≤ x ∧ x < c ∧ us x = false) ∧ amin us (fun c => gO (SL c)) (P + 1 - c) c x = nx ∧ ∀ j, 1 ≤ j → j ≤ P → CR1 1048576 (if j < c then SL j else sl j) (if j < c then WB j else wb j) (sa j) (wa j), ⟨P, 1, 0, by omega, by omega, rfl, rfl, rfl, Or.inl rfl, hnx, fun j j1 j2 => ?_⟩, ?_⟩
  · rw [if_neg (by omega), if_neg (by omega)]
    exact a5 j j1 j2
  · clear hnx a5
    rintro M wa sa x3 x4 ⟨c, x, c1, c2, rfl, rfl, rfl, hx, hmin, hrel⟩
    have hxP : x < 63 := by rcases hx with e | e <;> omega
    unfold bd_X0_nearestBehind_12
    refine pk_lt P c (fun q => ?_) (fun q => ⟨pk_in c 63 (by omega), ?_⟩) rfl rfl
    · rw [show P + 1 - c = 0 by omega, amin] at hmin
      subst hmin
      refine hQ wa sa ⟨a1, a2, a3, a4, fun j j1 j2 => ?_⟩
      have := hrel j j1 j2
      rw [if_pos (by omega), if_pos (by omega)] at this
      exact this
    · rw [show P + 1 - c = (P + 1 - (c + 1)) + 1 by omega, amin] at hmin
      rw [z_cl (show c < 2 ^ 31 by omega), a4 c q]
      have hold := hrel c c1 q
      rw [if_neg (by omega), if_neg (by omega)] at hold
      rcases (show us c = true ∨ us c = false by cases us c <;> simp) with ec | ec
      · rw [if_pos ec]
        rw [ec, if_neg (fun y => absurd y.1 (by decide))] at hmin
        refine ⟨fun _ => ?_, fun z => absurd z (by decide)⟩
        unfold bk_X0_nearestBehind_107
        refine fun y4 e4 => ⟨P + 1 - (c + 1), by omega, c + 1, x, by omega, by omega, rfl, by rw [e4, nI_1], rfl, hx.imp id (fun y => ⟨y.1, by omega, y.2.2⟩), hmin, part_step hrel ?_ (fun j _ => ⟨rfl, rfl⟩)⟩
        rw [hSLc, hWBc, ec, if_pos rfl, if_pos rfl]
        exact hold
      · rw [if_neg (show ¬ us c = true by rw [ec]; decide)]
        refine ⟨fun z => absurd rfl z, fun _ => hway (f now) c _ hfn.1 hfn.2 c1 q ⟨pk_in (f now) 32 (by omega), pk_in c 63 (by omega), fun y6 e6 => ⟨pk_in c 63 (by omega), ?_⟩⟩⟩
        rw [z_cl (show f now < 2 ^ 31 by omega), a1 (f now) (by omega), a2 c q, iI_nat, iI_sub, iI_sub] at e6
        replace e6 : y6 = iI (vl cs f u v now c) := e6
        subst e6
        have hv := hval c c1 q
        have hdec := lo_dec (F := 1048576) (Fz := 1048576) (b := wb c) (w := wa c) rfl (by decide) (by decide) hB hv (fun x e => hslb c x c1 q e) hold
        obtain ⟨y, hy1, hy2, hy3⟩ := hSL c c1 q ec
        have h84 : ∀ wa' sa', (∀ j, 1 ≤ j → j ≤ P → CR1 1048576 (if j < c + 1 then SL j else sl j) (if j < c + 1 then WB j else wb j) (sa' j) (wa' j)) → bk_X0_nearestBehind_84 Q (fun wa'' sa'' x3' x4' => ∃ n', n' < P + 1 - c ∧ ∃ c x, 1 ≤ c ∧ c ≤ P + 1 ∧ n' = P + 1 - c ∧ x4' = nI c ∧ x3' = nI x ∧ (x = 0 ∨ 1 ≤ x ∧ x < c ∧ us x = false) ∧ amin us (fun c => gO (SL c)) (P + 1 - c) c x = nx ∧ ∀ j, 1 ≤ j → j ≤ P → CR1 1048576 (if j < c then SL j else sl j) (if j < c then WB j else wb j) (sa'' j) (wa'' j)) (nI x) (nI c) wa' sa' := by
          intro wa' sa' hrel'
          have hsc := hrel' c c1 q
          rw [if_pos (by omega), if_pos (by omega)] at hsc
          have hsc' := (hsc.2 y hy1).1
          have take : (x = 0 ∨ gO (SL c) < gO (SL x)) → ∃ n', n' < P + 1 - c ∧ ∃ c' x', 1 ≤ c' ∧ c' ≤ P + 1 ∧ n' = P + 1 - c' ∧ nI (c + 1) = nI c' ∧ nI c = nI x' ∧ (x' = 0 ∨ 1 ≤ x' ∧ x' < c' ∧ us x' = false) ∧ amin us (fun c => gO (SL c)) (P + 1 - c') c' x' = nx ∧ ∀ j, 1 ≤ j → j ≤ P → CR1 1048576 (if j < c' then SL j else sl j) (if j < c' then WB j else wb j) (sa' j) (wa' j) := by
            intro ht
            rw [if_pos ⟨ec, ht⟩] at hmin
            exact ⟨P + 1 - (c + 1), by omega, c + 1, c, by omega, by omega, rfl, rfl, rfl, Or.inr ⟨c1, by omega, ec⟩, hmin, hrel'⟩
          unfold bk_X0_nearestBehind_84 bk_X0_nearestBehind_104 bk_X0_nearestBehind_107
          refine ⟨fun z y4 e4 => ?_, fun z => ⟨pk_in c 63 (by omega), pk_in x 63 hxP, ?_⟩⟩
          · rw [e4, nI_1]
            exact take (Or.inl (z_inj (b := 0) (by omega) (by decide) z))
          · have hx0 : x ≠ 0 := fun e => z (by rw [e]; rfl)
            rcases hx with e | ⟨x1, x2, x3⟩
            · exact absurd e hx0
            · obtain ⟨y', hz1, hz2, hz3⟩ := hSL x x1 (by omega) x3
              have hsx := hrel' x x1 (by omega)
              rw [if_pos (by omega), if_pos (by omega)] at hsx
              have hsx' := (hsx.2 y' hz1).1
              have g1 : gO (SL c) = y := by rw [hy1]; rfl
              have g2 : gO (SL x) = y' := by rw [hz1]; rfl
              rw [z_cl (show c < 2 ^ 31 by omega), z_cl (show x < 2 ^ 31 by omega), hsc', hsx', iI_le (by omega) (by omega) (by omega) (by omega)]
              refine ⟨fun hle y4 e4 => ?_, fun hle y4 e4 => ?_⟩
              · rw [if_neg (fun yy => by rcases yy.2 with e | e; exact hx0 e; rw [g1, g2] at e; omega)] at hmin
                exact ⟨P + 1 - (c + 1), by omega, c + 1, x, by omega, by omega, rfl, by rw [e4, nI_1], rfl, Or.inr ⟨x1, by omega, x3⟩, hmin, hrel'⟩
              · rw [e4, nI_1]
                exact take (Or.inr (by rw [g1, g2]; omega))
        refine ⟨fun hle => h84 wa sa (part_step hrel ?_ (fun j _ => ⟨rfl, rfl⟩)), fun hle => ⟨pk_in c 63 (by omega), fun f10 e10 => ⟨pk_in c 63 (by omega), fun f11 e11 => ?_⟩⟩⟩
        · have := hdec.mp hle
          rw [hSLc, hWBc, ec, this]
          exact hold
        · have hl : ltO (vl cs f u v now c) (sl c) = true := by
            cases el : ltO (vl cs f u v now c) (sl c) with
            | true => rfl
            | false => exact absurd (hdec.mpr el) hle
          refine h84 f11 f10 (part_step hrel ?_ (fun j hj => ?_))
          · rw [hSLc, hWBc, ec, hl, e10, e11, z_upd_eq, z_upd_eq]
            exact ⟨fun z => absurd z (by simp), fun x hx => by simp at hx; rw [hx]; exact ⟨rfl, rfl⟩⟩
          · rw [e10, e11, z_upd_ne _ _ hj, z_upd_ne _ _ hj]
            exact ⟨rfl, rfl⟩
theorem s_cshift {P R : Nat} {f : Nat → Nat} {u v : Nat → Int} {sl : Nat → Option Int} {us : Nat → Bool} {wb : Nat → Nat} {now nx : Nat} {ua va fa wa sa ea : Nat → Int32} {y : Int} {Q : ((Nat → Int32) × (Nat → Int32) × (Nat → Int32)) → Prop} (hR : R ≤ 31) (hP : P ≤ 62) (hfR : ∀ c, us c = true → f c ≤ R) (hsl : ∀ c, 1 ≤ c → c ≤ P → us c = false → ∃ x, sl c = some x) (hus0 : us 0 = true) (ha : HA 1048576 P R f (u, v, sl, us, wb, now) ua va fa wa sa ea) (hQ : ∀ ua' va' sa', HA 1048576 P R f (shU us f y (P + 1) 0 u, (fun c => if us c then v c - y else v c), (fun c => if us c then sl c else (sl c).map (fun x => x - y)), us, wb, nx) ua' va' fa wa sa' ea → Q (ua', va', sa')) : wp_X0_shiftBy (iI y) (nI P) ua va fa sa ea Q := by
  obtain ⟨a1, a2, a3, a4, a5⟩ := ha
  dsimp only at a1 a2 a4 a5
  obtain ⟨U, hU⟩ : ∃ U, shU us f y (P + 1) 0 u = U := ⟨_, rfl⟩
  rw [hU] at hQ
  unfold wp_X0_shiftBy lp_X0_shiftBy_2
  refine ⟨fun M ua va sa x2 => ∃ c uc, c ≤ P + 1 ∧ M = P + 1 - c ∧ x2 = nI c ∧ (∀ i, i ≤ R → ua i = iI (uc i)) ∧ shU us f y (P + 1 - c) c uc = U ∧ (∀ j, j ≤ P → va j = iI (if j < c then (if us j then v j - y else v j) else v j)) ∧ (∀ j, 1 ≤ j → j ≤ P → CR1 1048576 (if j < c then (if us j then sl j else (sl j).map (fun x => x - y)) else sl j) (wb j) (sa j) (wa j)), ⟨P + 1, 0, u, by omega, rfl, rfl, a1, hU, fun j hj => ?_, fun j j1 j2 => ?_⟩, ?_⟩
  · rw [if_neg (by omega)]
    exact a2 j hj
  · rw [if_neg (by omega)]
    exact a5 j j1 j2
  · clear a1 a2 a5 hU
    rintro M ua va sa x2 ⟨c, uc, c1, rfl, rfl, b1, b2, b3, b4⟩
    unfold bd_X0_shiftBy_2
    refine pk_lt P c (fun q => ?_) (fun q => ⟨pk_in c 63 (by omega), ?_⟩) rfl rfl
    · rw [show P + 1 - c = 0 by omega, shU] at b2
      subst b2
      refine hQ ua va sa ⟨b1, fun j hj => ?_, a3, a4, fun j j1 j2 => ?_⟩
      · have := b3 j hj
        rw [if_pos (by omega)] at this
        exact this
      · have := b4 j j1 j2
        rw [if_pos (by omega)] at this
        exact this
    · rw [show P + 1 - c = (P + 1 - (c + 1)) + 1 by omega, shU] at b2
      rw [z_cl (show c < 2 ^ 31 by omega), a4 c q]
      rcases (show us c = false ∨ us c = true by cases us c <;> simp) with ec | ec
      · rw [if_neg (show ¬ us c = true by rw [ec]; decide)]
        have hc0 : 1 ≤ c := by
          rcases Nat.eq_zero_or_pos c with e | e
          · rw [e, hus0] at ec
            exact absurd ec (by decide)
          · exact e
        rw [ec, if_neg (by decide)] at b2
        obtain ⟨x, hx⟩ := hsl c hc0 q ec
        have hold := b4 c hc0 q
        rw [if_neg (by omega), hx] at hold
        obtain ⟨o1, o2⟩ := hold.2 x rfl
        refine ⟨fun _ => ⟨pk_in c 63 (by omega), fun y3 e3 => ⟨pk_in c 63 (by omega), fun f4 e4 => ?_⟩⟩, fun z => absurd z (by decide)⟩
        rw [o1, iI_sub] at e3
        unfold bk_X0_shiftBy_58
        refine fun y5 e5 => ⟨P + 1 - (c + 1), by omega, c + 1, uc, by omega, rfl, by rw [e5, nI_1], b1, b2, fun j hj => ?_, fun j j1 j2 => ?_⟩
        · rw [b3 j hj]
          by_cases e : j = c
          · rw [e, if_neg (by omega), if_pos (by omega), ec]
            rfl
          · by_cases q2 : j < c
            · rw [if_pos q2, if_pos (show j < c + 1 by omega)]
            · rw [if_neg q2, if_neg (show ¬ j < c + 1 by omega)]
        · have := b4 j j1 j2
          by_cases e : j = c
          · subst e
            rw [if_pos (by omega), ec, if_neg (by decide), hx, e4, z_upd_eq, e3]
            exact ⟨fun z => absurd z (by simp), fun x' hx' => by simp at hx'; rw [← hx']; exact ⟨rfl, o2⟩⟩
          · rw [e4, z_upd_ne _ _ e]
            by_cases q2 : j < c
            · rw [if_pos q2] at this
              rw [if_pos (by omega)]
              exact this
            · rw [if_neg q2] at this
              rw [if_neg (by omega)]
              exact this
      · rw [if_pos ec]
        have hfc := hfR c ec
        rw [ec, if_pos rfl] at b2
        refine ⟨fun z => absurd rfl z, fun _ => ⟨pk_in c 63 (by omega), ?_⟩⟩
        rw [a3 c q, z_cl (show f c < 2 ^ 31 by omega)]
        have hin := pk_in (f c) 32 (by omega)
        refine ⟨hin, fun y6 e6 => ⟨hin, fun f7 e7 => ⟨pk_in c 63 (by omega), fun y8 e8 => ⟨pk_in c 63 (by omega), fun f9 e9 => ?_⟩⟩⟩⟩
        rw [b1 (f c) hfc, iI_add] at e6
        have hvc := b3 c q
        rw [if_neg (by omega)] at hvc
        rw [hvc, iI_sub] at e8
        unfold bk_X0_shiftBy_58
        refine fun y5 e5 => ⟨P + 1 - (c + 1), by omega, c + 1, _, by omega, rfl, by rw [e5, nI_1], fun i hi => ?_, b2, fun j hj => ?_, fun j j1 j2 => ?_⟩
        · unfold updI
          rw [e7]
          by_cases e : i = f c
          · rw [e, z_upd_eq, if_pos rfl, e6]
          · rw [z_upd_ne _ _ e, if_neg e]
            exact b1 i hi
        · rw [e9]
          by_cases e : j = c
          · subst e
            rw [z_upd_eq, if_pos (by omega), ec, if_pos rfl, e8]
          · rw [z_upd_ne _ _ e, b3 j hj]
            by_cases q2 : j < c
            · rw [if_pos q2, if_pos (show j < c + 1 by omega)]
            · rw [if_neg q2, if_neg (show ¬ j < c + 1 by omega)]
        · have := b4 j j1 j2
          by_cases e : j = c
          · subst e
            rw [if_neg (by omega)] at this
            rw [if_pos (by omega), ec, if_pos rfl]
            exact this
          · by_cases q2 : j < c
            · rw [if_pos q2] at this
              rw [if_pos (by omega)]
              exact this
            · rw [if_neg q2] at this
              rw [if_neg (by omega)]
              exact this
end CHUN
