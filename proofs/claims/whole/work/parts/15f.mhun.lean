section MHUN
theorem z_pidx {r c : Nat} (hr : 1 ≤ r) (hc : 1 ≤ c) : 64 * (nI r - 1) + nI c - 1 = nI (64 * (r - 1) + (c - 1)) := by
  have e1 : nI r - 1 = nI (r - 1) := z_minus1 hr
  have e2 : (64 : Int32) * nI (r - 1) = nI (64 * (r - 1)) := z_mul 64 _
  rw [e1, e2, nI_add]
  have e3 : nI (64 * (r - 1) + c) - 1 = nI (64 * (r - 1) + c - 1) := z_minus1 (by omega)
  rw [e3]
  congr 1
  omega
theorem s_mrel {cs : Nat → Nat → Nat} {P R : Nat} {f : Nat → Nat} {B : Int} {u v : Nat → Int} {sl : Nat → Option Int} {us : Nat → Bool} {wb : Nat → Nat} {now : Nat} {ua va fa wa sa ea pr : Nat → Int32} {Q : ((Nat → Int32) × (Nat → Int32) × (Nat → Int32) × (Nat → Int32) × (Nat → Int32) × (Nat → Int32)) → Prop} {B38 : (Nat → Int32) → (Nat → Int32) → (Nat → Int32) → (Nat → Int32) → (Nat → Int32) → Int32 → Prop} (hR : R ≤ 31) (hP : P ≤ 62) (hB : B ≤ 4000) (hpr : ∀ r c, 1 ≤ r → r ≤ R → 1 ≤ c → c ≤ P → pr (64 * (r - 1) + (c - 1)) = nI (cs r c)) (hfn : 1 ≤ f now ∧ f now ≤ R) (hval : ∀ c, 1 ≤ c → c ≤ P → 0 ≤ vl cs f u v now c ∧ vl cs f u v now c ≤ 200 + B) (hslb : ∀ c x, 1 ≤ c → c ≤ P → sl c = some x → 0 ≤ x ∧ x ≤ 200 + B) (hSL : ∀ c, 1 ≤ c → c ≤ P → us c = false → ∃ x, slR cs f u v sl us now c = some x ∧ 0 ≤ x ∧ x ≤ 200 + B) (hfree : ∃ c0, 1 ≤ c0 ∧ c0 ≤ P ∧ us c0 = false) (ha : HA 100000 P R f (u, v, sl, us, wb, now) ua va fa wa sa ea) (hQ : ∀ wa' sa', HA 100000 P R f (u, v, slR cs f u v sl us now, us, wbR cs f u v sl us wb now, now) ua va fa wa' sa' ea → lp_X11_place_187 Q B38 (nI P) (iI (gO (slR cs f u v sl us now (nxR P (slR cs f u v sl us now) us)))) (nI (nxR P (slR cs f u v sl us now) us)) fa wa' ea ua va sa' 0) : lp_X11_place_73 Q B38 (nI P) (nI now) (nI (f now)) pr ua va fa ea wa sa 100000 0 1 := by
  obtain ⟨a1, a2, a3, a4, a5⟩ := ha
  dsimp only at a1 a2 a4 a5
  obtain ⟨SL, hSLd⟩ : ∃ SL, slR cs f u v sl us now = SL := ⟨_, rfl⟩
  obtain ⟨WB, hWBd⟩ : ∃ WB, wbR cs f u v sl us wb now = WB := ⟨_, rfl⟩
  have hSLc : ∀ c, SL c = if us c then sl c else if ltO (vl cs f u v now c) (sl c) then some (vl cs f u v now c) else sl c := fun c => by rw [← hSLd]; rfl
  have hWBc : ∀ c, WB c = if us c then wb c else if ltO (vl cs f u v now c) (sl c) then now else wb c := fun c => by rw [← hWBd]; rfl
  rw [hSLd] at hSL hQ
  rw [hWBd] at hQ
  obtain ⟨nx, hnx⟩ : ∃ nx, nxR P SL us = nx := ⟨_, rfl⟩
  rw [hnx] at hQ
  have hnz : nx ≠ 0 := by
    intro e
    have hsp := amin_sp us (fun c => gO (SL c)) P 1 0 (by omega) (fun _ j j1 j2 => by omega) (fun q => absurd rfl q)
    have hnx2 : amin us (fun c => gO (SL c)) P 1 0 = nx := hnx
    rw [hnx2] at hsp
    obtain ⟨c0, c1, c2, c3⟩ := hfree
    have := hsp.1 e c0 c1 (by omega)
    rw [c3] at this
    exact absurd this (by decide)
  unfold lp_X11_place_73
  refine ⟨fun M wa sa x5 x6 x7 => ∃ c x, 1 ≤ c ∧ c ≤ P + 1 ∧ M = P + 1 - c ∧ x7 = nI c ∧ x6 = nI x ∧ (x = 0 → x5 = 100000) ∧ (x ≠ 0 → x5 = iI (gO (SL x))) ∧ (x = 0 ∨ 1 ≤ x ∧ x < c ∧ us x = false) ∧ amin us (fun c => gO (SL c)) (P + 1 - c) c x = nx ∧ ∀ j, 1 ≤ j → j ≤ P → CR1 100000 (if j < c then SL j else sl j) (if j < c then WB j else wb j) (sa j) (wa j), ⟨P, 1, 0, by omega, by omega, rfl, rfl, rfl, fun _ => rfl, fun q => absurd rfl q, Or.inl rfl, hnx, fun j j1 j2 => ?_⟩, ?_⟩
  · rw [if_neg (by omega), if_neg (by omega)]
    exact a5 j j1 j2
  · clear hnx a5
    rintro M wa sa x5 x6 x7 ⟨c, x, c1, c2, rfl, rfl, rfl, hx5a, hx5b, hx, hmin, hrel⟩
    have hxP : x < 63 := by rcases hx with e | e <;> omega
    unfold bd_X11_place_73
    refine pk_lt P c (fun q => ?_) (fun q => ⟨pk_in c 64 (by omega), ?_⟩) rfl rfl
    · rw [show P + 1 - c = 0 by omega, amin] at hmin
      subst hmin
      rw [hx5b hnz]
      refine hQ wa sa ⟨a1, a2, a3, a4, fun j j1 j2 => ?_⟩
      have := hrel j j1 j2
      rw [if_pos (by omega), if_pos (by omega)] at this
      exact this
    · rw [show P + 1 - c = (P + 1 - (c + 1)) + 1 by omega, amin] at hmin
      rw [z_cl (show c < 2 ^ 31 by omega), a4 c q]
      have hold := hrel c c1 q
      rw [if_neg (by omega), if_neg (by omega)] at hold
      rcases (show us c = true ∨ us c = false by cases us c <;> simp) with ec | ec
      · rw [if_pos ec]
        rw [ec, if_neg (fun y => absurd y.1 (by decide))] at hmin
        refine ⟨fun _ => ?_, fun z => absurd z (by decide)⟩
        unfold bk_X11_place_178
        refine fun y4 e4 => ⟨P + 1 - (c + 1), by omega, c + 1, x, by omega, by omega, rfl, by rw [e4, nI_1], rfl, hx5a, hx5b, hx.imp id (fun y => ⟨y.1, by omega, y.2.2⟩), hmin, part_step hrel ?_ (fun j _ => ⟨rfl, rfl⟩)⟩
        rw [hSLc, hWBc, ec, if_pos rfl, if_pos rfl]
        exact hold
      · rw [if_neg (show ¬ us c = true by rw [ec]; decide)]
        have hidx : 64 * (f now - 1) + (c - 1) < 2048 := by omega
        rw [z_pidx hfn.1 c1, z_cl (show 64 * (f now - 1) + (c - 1) < 2 ^ 31 by omega), hpr (f now) c hfn.1 hfn.2 c1 q]
        refine ⟨fun z => absurd rfl z, fun _ => ⟨pk_in _ 2048 hidx, pk_in (f now) 33 (by omega), pk_in c 64 (by omega), fun y6 e6 => ⟨pk_in c 64 (by omega), ?_⟩⟩⟩
        rw [z_cl (show f now < 2 ^ 31 by omega), a1 (f now) (by omega), a2 c q, iI_nat, iI_sub, iI_sub] at e6
        replace e6 : y6 = iI (vl cs f u v now c) := e6
        subst e6
        have hv := hval c c1 q
        have hdec := lo_dec (F := 100000) (Fz := 100000) (b := wb c) (w := wa c) rfl (by decide) (by decide) hB hv (fun x e => hslb c x c1 q e) hold
        obtain ⟨y, hy1, hy2, hy3⟩ := hSL c c1 q ec
        have h84 : ∀ wa' sa', (∀ j, 1 ≤ j → j ≤ P → CR1 100000 (if j < c + 1 then SL j else sl j) (if j < c + 1 then WB j else wb j) (sa' j) (wa' j)) → bk_X11_place_153 Q B38 (fun wa'' sa'' x5' x6' x7' => ∃ n', n' < P + 1 - c ∧ ∃ c x, 1 ≤ c ∧ c ≤ P + 1 ∧ n' = P + 1 - c ∧ x7' = nI c ∧ x6' = nI x ∧ (x = 0 → x5' = 100000) ∧ (x ≠ 0 → x5' = iI (gO (SL x))) ∧ (x = 0 ∨ 1 ≤ x ∧ x < c ∧ us x = false) ∧ amin us (fun c => gO (SL c)) (P + 1 - c) c x = nx ∧ ∀ j, 1 ≤ j → j ≤ P → CR1 100000 (if j < c then SL j else sl j) (if j < c then WB j else wb j) (sa'' j) (wa'' j)) x5 (nI x) (nI c) wa' sa' := by
          intro wa' sa' hrel'
          have hsc := hrel' c c1 q
          rw [if_pos (by omega), if_pos (by omega)] at hsc
          have hsc' := (hsc.2 y hy1).1
          have g1 : gO (SL c) = y := by rw [hy1]; rfl
          unfold bk_X11_place_153 bk_X11_place_178
          rw [z_cl (show c < 2 ^ 31 by omega), hsc']
          have hcase : (x5 ≤ iI y) ↔ ¬ (x = 0 ∨ gO (SL c) < gO (SL x)) := by
            by_cases hx0 : x = 0
            · have e1 : x5 = iI 100000 := hx5a hx0
              rw [e1, iI_le (by omega) (by omega) (by omega) (by omega)]
              exact ⟨fun q => by omega, fun q => absurd (Or.inl hx0) q⟩
            · rcases hx with e | ⟨x1, x2, x3⟩
              · exact absurd e hx0
              · obtain ⟨y', hz1, hz2, hz3⟩ := hSL x x1 (by omega) x3
                have g2 : gO (SL x) = y' := by rw [hz1]; rfl
                rw [hx5b hx0, g1, g2, iI_le (by omega) (by omega) (by omega) (by omega)]
                refine ⟨fun q1 q2 => ?_, fun q1 => ?_⟩
                · rcases q2 with e | e
                  · exact hx0 e
                  · omega
                · apply Classical.byContradiction
                  intro q2
                  exact q1 (Or.inr (by omega))
          refine ⟨pk_in c 64 (by omega), fun hle y4 e4 => ?_, fun hle => ⟨pk_in c 64 (by omega), fun y25 e25 y4 e4 => ?_⟩⟩
          · have hn := hcase.mp hle
            rw [if_neg (fun yy => hn yy.2)] at hmin
            exact ⟨P + 1 - (c + 1), by omega, c + 1, x, by omega, by omega, rfl, by rw [e4, nI_1], rfl, hx5a, hx5b, hx.imp id (fun y => ⟨y.1, by omega, y.2.2⟩), hmin, hrel'⟩
          · have hn : x = 0 ∨ gO (SL c) < gO (SL x) := by
              apply Classical.byContradiction
              intro q2
              exact hle (hcase.mpr q2)
            rw [if_pos ⟨ec, hn⟩] at hmin
            refine ⟨P + 1 - (c + 1), by omega, c + 1, c, by omega, by omega, rfl, by rw [e4, nI_1], rfl, fun e => by omega, fun _ => ?_, Or.inr ⟨c1, by omega, ec⟩, hmin, hrel'⟩
            rw [e25, g1]
        refine ⟨fun hle => h84 wa sa (part_step hrel ?_ (fun j _ => ⟨rfl, rfl⟩)), fun hle => ⟨pk_in c 64 (by omega), fun f10 e10 => ⟨pk_in c 64 (by omega), fun f11 e11 => ?_⟩⟩⟩
        · have := hdec.mp hle
          rw [hSLc, hWBc, ec, this]
          exact hold
        · have hl : ltO (vl cs f u v now c) (sl c) = true := by
            cases el : ltO (vl cs f u v now c) (sl c) with
            | true => rfl
            | false => exact absurd (hdec.mpr el) hle
          refine h84 f11 f10 (part_step hrel ?_ (fun j hj => ?_))
          · rw [hSLc, hWBc, ec, hl, e10, e11, z_upd_eq, z_upd_eq]
            exact ⟨fun z => absurd z (by simp), fun x hx => by simp at hx; rw [hx]; exact ⟨rfl, rfl⟩⟩
          · rw [e10, e11, z_upd_ne _ _ hj, z_upd_ne _ _ hj]
            exact ⟨rfl, rfl⟩
theorem s_mshift {P R : Nat} {f : Nat → Nat} {u v : Nat → Int} {sl : Nat → Option Int} {us : Nat → Bool} {wb : Nat → Nat} {now nx : Nat} {ua va fa wa sa ea : Nat → Int32} {y : Int} {Q : ((Nat → Int32) × (Nat → Int32) × (Nat → Int32) × (Nat → Int32) × (Nat → Int32) × (Nat → Int32)) → Prop} {B38 : (Nat → Int32) → (Nat → Int32) → (Nat → Int32) → (Nat → Int32) → (Nat → Int32) → Int32 → Prop} (hR : R ≤ 31) (hP : P ≤ 62) (hfR : ∀ c, us c = true → f c ≤ R) (hsl : ∀ c, 1 ≤ c → c ≤ P → us c = false → ∃ x, sl c = some x) (hus0 : us 0 = true) (ha : HA 100000 P R f (u, v, sl, us, wb, now) ua va fa wa sa ea) (hQ : ∀ ua' va' sa', HA 100000 P R f (shU us f y (P + 1) 0 u, (fun c => if us c then v c - y else v c), (fun c => if us c then sl c else (sl c).map (fun x => x - y)), us, wb, nx) ua' va' fa wa sa' ea → B38 ua' va' wa sa' ea (nI nx)) : lp_X11_place_187 Q B38 (nI P) (iI y) (nI nx) fa wa ea ua va sa 0 := by
  obtain ⟨a1, a2, a3, a4, a5⟩ := ha
  dsimp only at a1 a2 a4 a5
  obtain ⟨U, hU⟩ : ∃ U, shU us f y (P + 1) 0 u = U := ⟨_, rfl⟩
  rw [hU] at hQ
  unfold lp_X11_place_187
  refine ⟨fun M ua va sa x2 => ∃ c uc, c ≤ P + 1 ∧ M = P + 1 - c ∧ x2 = nI c ∧ (∀ i, i ≤ R → ua i = iI (uc i)) ∧ shU us f y (P + 1 - c) c uc = U ∧ (∀ j, j ≤ P → va j = iI (if j < c then (if us j then v j - y else v j) else v j)) ∧ (∀ j, 1 ≤ j → j ≤ P → CR1 100000 (if j < c then (if us j then sl j else (sl j).map (fun x => x - y)) else sl j) (wb j) (sa j) (wa j)), ⟨P + 1, 0, u, by omega, rfl, rfl, a1, hU, fun j hj => ?_, fun j j1 j2 => ?_⟩, ?_⟩
  · rw [if_neg (by omega)]
    exact a2 j hj
  · rw [if_neg (by omega)]
    exact a5 j j1 j2
  · clear a1 a2 a5 hU
    rintro M ua va sa x2 ⟨c, uc, c1, rfl, rfl, b1, b2, b3, b4⟩
    unfold bd_X11_place_187
    refine pk_lt P c (fun q => ?_) (fun q => ⟨pk_in c 64 (by omega), ?_⟩) rfl rfl
    · rw [show P + 1 - c = 0 by omega, shU] at b2
      subst b2
      refine hQ ua va sa ⟨b1, fun j hj => ?_, a3, a4, fun j j1 j2 => ?_⟩
      · have := b3 j hj
        rw [if_pos (by omega)] at this
        exact this
      · have := b4 j j1 j2
        rw [if_pos (by omega)] at this
        exact this
    · rw [show P + 1 - c = (P + 1 - (c + 1)) + 1 by omega, shU] at b2
      rw [z_cl (show c < 2 ^ 31 by omega), a4 c q]
      rcases (show us c = false ∨ us c = true by cases us c <;> simp) with ec | ec
      · rw [if_neg (show ¬ us c = true by rw [ec]; decide)]
        have hc0 : 1 ≤ c := by
          rcases Nat.eq_zero_or_pos c with e | e
          · rw [e, hus0] at ec
            exact absurd ec (by decide)
          · exact e
        rw [ec, if_neg (by decide)] at b2
        obtain ⟨x, hx⟩ := hsl c hc0 q ec
        have hold := b4 c hc0 q
        rw [if_neg (by omega), hx] at hold
        obtain ⟨o1, o2⟩ := hold.2 x rfl
        refine ⟨fun _ => ⟨pk_in c 64 (by omega), fun y3 e3 => ⟨pk_in c 64 (by omega), fun f4 e4 => ?_⟩⟩, fun z => absurd rfl z⟩
        rw [o1, iI_sub] at e3
        unfold bk_X11_place_247
        refine fun y5 e5 => ⟨P + 1 - (c + 1), by omega, c + 1, uc, by omega, rfl, by rw [e5, nI_1], b1, b2, fun j hj => ?_, fun j j1 j2 => ?_⟩
        · rw [b3 j hj]
          by_cases e : j = c
          · rw [e, if_neg (by omega), if_pos (by omega), ec]
            rfl
          · by_cases q2 : j < c
            · rw [if_pos q2, if_pos (show j < c + 1 by omega)]
            · rw [if_neg q2, if_neg (show ¬ j < c + 1 by omega)]
        · have := b4 j j1 j2
          by_cases e : j = c
          · subst e
            rw [if_pos (by omega), ec, if_neg (by decide), hx, e4, z_upd_eq, e3]
            exact ⟨fun z => absurd z (by simp), fun x' hx' => by simp at hx'; rw [← hx']; exact ⟨rfl, o2⟩⟩
          · rw [e4, z_upd_ne _ _ e]
            by_cases q2 : j < c
            · rw [if_pos q2] at this
              rw [if_pos (by omega)]
              exact this
            · rw [if_neg q2] at this
              rw [if_neg (by omega)]
              exact this
      · rw [if_pos ec]
        have hfc := hfR c ec
        rw [ec, if_pos rfl] at b2
        refine ⟨fun z => absurd z (by decide), fun _ => ⟨pk_in c 64 (by omega), ?_⟩⟩
        rw [a3 c q, z_cl (show f c < 2 ^ 31 by omega)]
        have hin := pk_in (f c) 33 (by omega)
        refine ⟨hin, fun y6 e6 => ⟨hin, fun f7 e7 => ⟨pk_in c 64 (by omega), fun y8 e8 => ⟨pk_in c 64 (by omega), fun f9 e9 => ?_⟩⟩⟩⟩
        rw [b1 (f c) hfc, iI_add] at e6
        have hvc := b3 c q
        rw [if_neg (by omega)] at hvc
        rw [hvc, iI_sub] at e8
        unfold bk_X11_place_247
        refine fun y5 e5 => ⟨P + 1 - (c + 1), by omega, c + 1, _, by omega, rfl, by rw [e5, nI_1], fun i hi => ?_, b2, fun j hj => ?_, fun j j1 j2 => ?_⟩
        · unfold updI
          rw [e7]
          by_cases e : i = f c
          · rw [e, z_upd_eq, if_pos rfl, e6]
          · rw [z_upd_ne _ _ e, if_neg e]
            exact b1 i hi
        · rw [e9]
          by_cases e : j = c
          · subst e
            rw [z_upd_eq, if_pos (by omega), ec, if_pos rfl, e8]
          · rw [z_upd_ne _ _ e, b3 j hj]
            by_cases q2 : j < c
            · rw [if_pos q2, if_pos (show j < c + 1 by omega)]
            · rw [if_neg q2, if_neg (show ¬ j < c + 1 by omega)]
        · have := b4 j j1 j2
          by_cases e : j = c
          · subst e
            rw [if_neg (by omega)] at this
            rw [if_pos (by omega), ec, if_pos rfl]
            exact this
          · by_cases q2 : j < c
            · rw [if_pos q2] at this
              rw [if_pos (by omega)]
              exact this
            · rw [if_neg q2] at this
              rw [if_neg (by omega)]
              exact this
theorem s_maug {cs : Nat → Nat → Nat} {P R t k : Nat} {s : PT} {D : Int} {rk : Nat → Nat} {σ : HS} {ua va fa wa sa ea : Nat → Int32} {Q : ((Nat → Int32) × (Nat → Int32) × (Nat → Int32) × (Nat → Int32) × (Nat → Int32) × (Nat → Int32)) → Prop} (hP : P ≤ 62) (ht : t < 31) (hp : PI cs P t s) (hs : SI cs P (updN s.2.2 0 (t + 1)) (100 * (t : Int)) k D rk σ) (ha : HA 100000 P R (updN s.2.2 0 (t + 1)) σ ua va fa wa sa ea) (hend : updN s.2.2 0 (t + 1) σ.2.2.2.2.2 = 0) (hQ : ∀ fa', PA P R (hEnd P (updN s.2.2 0 (t + 1)) σ) ua va fa' → PI cs P (t + 1) (hEnd P (updN s.2.2 0 (t + 1)) σ) → Q (ua, va, fa', wa, sa, ea)) : lp_X11_place_259 Q ua va wa sa ea fa (nI σ.2.2.2.2.2) := by
  obtain ⟨hai, hnu, hn1⟩ := AI_0 hp hs hend
  have hkP := SI_k hs
  obtain ⟨h1, h2, h3, h4, h5, h6, h7, h8, h9, h10, h11, h12, h13⟩ := id hs
  obtain ⟨a1, a2, a3, a4, a5⟩ := ha
  have hk : 1 ≤ k := by
    rcases Nat.eq_zero_or_pos k with e | e
    · have := (h9 e).1
      omega
    · exact e
  have hwa : ∀ c, 1 ≤ c → c ≤ P → wa c = nI (σ.2.2.2.2.1 c) := by
    intro c c1 c2
    obtain ⟨x, x1, _⟩ := (h10 hk).2.2 c c1 c2
    exact ((a5 c c1 c2).2 x x1).2
  obtain ⟨FF, hFF⟩ : ∃ FF, aug σ.2.2.2.2.1 (P + 2) (updN s.2.2 0 (t + 1)) σ.2.2.2.2.2 = FF := ⟨_, rfl⟩
  have hne0 : σ.2.2.2.2.1 σ.2.2.2.2.2 ≠ σ.2.2.2.2.2 := by
    intro e
    have := (hai.2.2.2.2.2 (by omega)).1
    rw [e, hnu] at this
    exact absurd this (by decide)
  unfold hEnd at hQ
  rw [hFF] at hQ
  unfold lp_X11_place_259
  refine ⟨fun M fa x2 => ∃ i f now, AI P t (updN s.2.2 0 (t + 1)) σ.2.2.2.1 σ.2.2.2.2.1 rk f now M ∧ i + M ≤ k ∧ x2 = nI now ∧ (∀ c, c ≤ P → fa c = nI (f c)) ∧ aug σ.2.2.2.2.1 (P + 2 - i) f now = FF ∧ (now ≠ 0 → σ.2.2.2.2.1 now ≠ now), ⟨k, 0, _, _, hai, by omega, rfl, a3, hFF, fun _ => hne0⟩, ?_⟩
  rintro M fa x2 ⟨i, f, now, hA, hiM, rfl, hfa, hau, hne⟩
  have hnP := hA.2.2.2.2.1
  have hfin : now = 0 → Q (ua, va, fa, wa, sa, ea) := by
    intro e
    subst e
    rw [aug_0] at hau
    subst hau
    exact hQ fa ⟨a1, a2, fun c c1 c2 => hfa c c2⟩ (PI_end hp hs hA)
  unfold bd_X11_place_259
  refine ⟨fun z => hfin (z_inj (b := 0) (by omega) (by decide) z), fun z => ?_⟩
  have hn0 : now ≠ 0 := fun e => z (by rw [e]; rfl)
  obtain ⟨hA', hm, hwP, hfw⟩ := AI_step (fun c q => (h5 c q).1) (fun c q c0 => h13 c q c0) hA hn0 (hne hn0)
  rw [show P + 2 - i = (P + 2 - (i + 1)) + 1 by omega, aug, if_neg hn0] at hau
  refine ⟨pk_in now 64 (by omega), fun y7 e7 => ?_⟩
  rw [z_cl (by omega), hwa now (by omega) hnP] at e7
  subst e7
  refine ⟨pk_in (σ.2.2.2.2.1 now) 64 (by omega), fun y8 e8 => ⟨pk_in now 64 (by omega), fun f9 e9 => ⟨_, hm, i + 1, _, _, hA', by omega, rfl, fun c c1 => ?_, hau, fun q => ?_⟩⟩⟩
  · rw [z_cl (by omega), hfa _ hwP] at e8
    rw [e9, z_cl (by omega), e8]
    unfold updN
    by_cases e : c = now
    · rw [e, z_upd_eq, if_pos rfl]
    · rw [z_upd_ne _ _ e, if_neg e]
      exact hfa c c1
  · intro e
    have h0 := h13 _ ((hA.2.2.2.2.2 hn0).1) q
    rw [e] at h0
    omega
theorem s_mplc {cs : Nat → Nat → Nat} {P R t : Nat} {s : PT} {ua va fa wa sa ea pr : Nat → Int32} {Q : ((Nat → Int32) × (Nat → Int32) × (Nat → Int32) × (Nat → Int32) × (Nat → Int32) × (Nat → Int32)) → Prop} (hcs : ∀ i c, cs i c ≤ 100) (hR : R ≤ 31) (hP : P ≤ 62) (hRP : R ≤ P) (hpr : ∀ r c, 1 ≤ r → r ≤ R → 1 ≤ c → c ≤ P → pr (64 * (r - 1) + (c - 1)) = nI (cs r c)) (ht : t < R) (hp : PI cs P t s) (ha : PA P R s ua va fa) (hQ : ∀ ua' va' fa' wa' sa' ea', PA P R (hPh cs P (t + 1) s) ua' va' fa' → PI cs P (t + 1) (hPh cs P (t + 1) s) → Q (ua', va', fa', wa', sa', ea')) : wp_X11_place (nI (t + 1)) (nI P) pr ua va fa wa sa ea Q := by
  have hij := PI_IJ hp
  have hfr := PI_free hp (by omega)
  obtain ⟨p1, p2, p3⟩ := ha
  unfold wp_X11_place lp_X11_place_2
  refine ⟨fun M sa ea x3 => ∃ c, c ≤ P + 1 ∧ M = P + 1 - c ∧ x3 = nI c ∧ (∀ j, j < c → sa j = 100000 ∧ ea j = 0), ⟨P + 1, 0, by omega, rfl, rfl, fun j hj => absurd hj (Nat.not_lt_zero j)⟩, ?_⟩
  rintro M sa ea x3 ⟨c, c1, rfl, rfl, hini⟩
  unfold bd_X11_place_2
  refine pk_lt P c (fun q => ⟨pk_in 0 64 (by decide), fun f3 e3 => ?_⟩) (fun q => ⟨pk_in c 64 (by omega), fun f28 e28 => ⟨pk_in c 64 (by omega), fun f29 e29 y30 e30 => ⟨P + 1 - (c + 1), by omega, c + 1, by omega, rfl, by rw [e30, nI_1], fun j hj => ?_⟩⟩⟩) rfl rfl
  · have ecl : (0 : Int32).toNatClampNeg = 0 := rfl
    rw [ecl] at e3
    have hf3 : ∀ c, c ≤ P → f3 c = nI (updN s.2.2 0 (t + 1) c) := by
      intro c c1
      unfold updN
      by_cases e : c = 0
      · rw [e3, e, z_upd_eq, if_pos rfl]
      · rw [e3, z_upd_ne _ _ e, if_neg e]
        exact p3 c (by omega) c1
    have hfle : ∀ c, c ≤ P → updN s.2.2 0 (t + 1) c ≤ t + 1 := by
      intro c c1
      unfold updN
      by_cases e : c = 0
      · rw [if_pos e]; omega
      · rw [if_neg e]
        have := hp.2.2.1 c (by omega) c1
        omega
    obtain ⟨F0, hF0⟩ : ∃ F0, updN s.2.2 0 (t + 1) = F0 := ⟨_, rfl⟩
    obtain ⟨SE, hSE⟩ : ∃ S', srch cs P F0 (P + 2) (sg0 s) = S' := ⟨_, rfl⟩
    unfold hPh at hQ
    rw [hF0] at hQ hf3 hfle hij hfr
    rw [hSE] at hQ
    unfold lp_X11_place_38
    refine ⟨fun M ua va wa sa ea x2 => ∃ k D rk σ, SI cs P F0 (100 * (t : Int)) k D rk σ ∧ HA 100000 P R F0 σ ua va f3 wa sa ea ∧ M = P + 2 - k ∧ x2 = nI σ.2.2.2.2.2 ∧ srch cs P F0 (P + 2 - k) σ = SE, ⟨P + 2, 0, 0, _, sg0 s, by rw [← hF0]; exact PI_SI hp, ⟨p1, p2, hf3, fun c c1 => (hini c (by omega)).2, fun c c1 c2 => ⟨fun _ => (hini c (by omega)).1, fun x hx => absurd hx (by simp [sg0])⟩⟩, rfl, rfl, hSE⟩, ?_⟩
    clear p1 p2 hini hSE
    rintro M ua va wa sa ea x2 ⟨k, D, rk, ⟨u, v, sl, us, wb, now⟩, hs, hA, rfl, rfl, hsr⟩
    have hkP := SI_k hs
    have hnow : now ≤ P := hs.2.2.2.2.2.2.1
    rw [show P + 2 - k = (P + 2 - (k + 1)) + 1 by omega, srch] at hsr
    dsimp only at hsr ⊢
    unfold bd_X11_place_38
    refine ⟨pk_in now 64 (by omega), ?_⟩
    rw [z_cl (show now < 2 ^ 31 by omega), hf3 now hnow]
    have hfl := hfle now hnow
    refine ⟨fun z => ?_, fun z => ⟨pk_in now 64 (by omega), fun f12 e12 => ⟨pk_in now 64 (by omega), fun y9 e9 => ?_⟩⟩⟩
    · have hf0 : F0 now = 0 := z_inj (b := 0) (by omega) (by decide) z
      rw [if_pos hf0] at hsr
      subst hsr
      rw [← hF0] at hs hA hQ hf0
      exact s_maug hP (by omega) hp hs hA hf0 (fun fa' h1 h2 => hQ _ _ _ _ _ _ h1 h2)
    · have hf0 : F0 now ≠ 0 := fun e => z (by rw [e]; rfl)
      rw [if_neg hf0] at hsr
      subst e9
      obtain ⟨hval, hslb⟩ := SI_val hcs hs hf0
      obtain ⟨D', hs', hSL⟩ := SI_step hcs (by omega) hij hfr hs hf0
      obtain ⟨a1, a2, a3, a4, a5⟩ := hA
      have hA1 : HA 100000 P R F0 (u, v, sl, uB us now, wb, now) ua va f3 wa sa f12 := by
        refine ⟨a1, a2, a3, fun c c1 => ?_, a5⟩
        show f12 c = if uB us now c then 1 else 0
        rw [e12]
        by_cases e : c = now
        · rw [e, z_upd_eq, uB_self]
          rfl
        · rw [z_upd_ne _ _ e, uB_ne _ e]
          exact a4 c c1
      have hBt : 100 * (t : Int) ≤ 4000 := by omega
      have hus2 : (stp cs P F0 u v sl us wb now).2.2.2.1 = uB us now := rfl
      have hfree : ∃ c0, 1 ≤ c0 ∧ c0 ≤ P ∧ uB us now c0 = false := by
        obtain ⟨c0, d1, d2, d3⟩ := hfr
        refine ⟨c0, d1, d2, ?_⟩
        cases eu : uB us now c0 with
        | false => rfl
        | true => exact absurd d3 (hs'.2.2.2.2.1 c0 eu).2
      refine s_mrel hR hP hBt hpr ⟨by omega, by omega⟩ hval hslb hSL hfree hA1 (fun wa' sa' hA2 => ?_)
      obtain ⟨nx, hnx⟩ : ∃ nx, nxR P (slR cs F0 u v sl (uB us now) now) (uB us now) = nx := ⟨_, rfl⟩
      have hnx2 : (stp cs P F0 u v sl us wb now).2.2.2.2.2 = nx := hnx
      obtain ⟨_, hus0, _⟩ := hs'.2.2.2.2.2.2.2.2.2.1 (by omega)
      rw [hus2] at hus0
      refine s_mshift hR hP (fun c hc => ?_) (fun c c1 c2 c3 => ?_) hus0 hA2 (fun ua' va' sa'' hA3 => ⟨P + 2 - (k + 1), by omega, k + 1, D', _, _, hs', hA3, rfl, rfl, hsr⟩)
      · have := hs'.2.2.2.2.1 c hc
        have h2 := hfle c this.1
        omega
      · obtain ⟨x, x1, _⟩ := hSL c c1 c2 c3
        exact ⟨x, x1⟩
  · rw [e28, e29, z_cl (by omega)]
    by_cases e : j = c
    · rw [e, z_upd_eq, z_upd_eq]
      exact ⟨rfl, rfl⟩
    · rw [z_upd_ne _ _ e, z_upd_ne _ _ e]
      exact hini j (by omega)
end MHUN
