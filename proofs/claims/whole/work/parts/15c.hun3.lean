section HUN3
def srch (cs : Nat → Nat → Nat) (P : Nat) (f : Nat → Nat) : Nat → HS → HS
  | 0, σ => σ
  | n + 1, σ => if f σ.2.2.2.2.2 = 0 then σ else srch cs P f n (stp cs P f σ.1 σ.2.1 σ.2.2.1 σ.2.2.2.1 σ.2.2.2.2.1 σ.2.2.2.2.2)
def aug (wb : Nat → Nat) : Nat → (Nat → Nat) → Nat → (Nat → Nat)
  | 0, f, _ => f
  | n + 1, f, now => if now = 0 then f else aug wb n (updN f now (f (wb now))) (wb now)
theorem aug_0 (wb : Nat → Nat) (n : Nat) (f : Nat → Nat) : aug wb n f 0 = f := by
  cases n with
  | zero => rfl
  | succ n => rw [aug, if_pos rfl]
abbrev PT := (Nat → Int) × (Nat → Int) × (Nat → Nat)
def sg0 (s : PT) : HS := (s.1, s.2.1, (fun _ => none), (fun _ => false), (fun _ => 0), 0)
def hEnd (P : Nat) (f : Nat → Nat) (σ : HS) : PT := (σ.1, σ.2.1, aug σ.2.2.2.2.1 (P + 2) f σ.2.2.2.2.2)
def hPh (cs : Nat → Nat → Nat) (P r : Nat) (s : PT) : PT := hEnd P (updN s.2.2 0 r) (srch cs P (updN s.2.2 0 r) (P + 2) (sg0 s))
def PI (cs : Nat → Nat → Nat) (P t : Nat) (s : PT) : Prop := FE cs P s.1 s.2.1 ∧ BN (100 * (t : Int)) s.1 s.2.1 ∧ (∀ c, 1 ≤ c → c ≤ P → s.2.2 c ≤ t) ∧ (∀ i j, 1 ≤ i → i ≤ P → 1 ≤ j → j ≤ P → s.2.2 i ≠ 0 → s.2.2 i = s.2.2 j → i = j) ∧ (∀ c, s.2.2 c = 0 → 1 ≤ c → c ≤ P → s.2.1 c = 0)
theorem updN_eq (f : Nat → Nat) (k v : Nat) : updN f k v k = v := if_pos rfl
theorem updN_ne (f : Nat → Nat) {k j : Nat} (v : Nat) (h : j ≠ k) : updN f k v j = f j := if_neg h
theorem PI_IJ {cs : Nat → Nat → Nat} {P t : Nat} {s : PT} (h : PI cs P t s) : IJ P (updN s.2.2 0 (t + 1)) := by
  obtain ⟨_, _, h3, h4, _⟩ := h
  intro i j hi hj h0 he
  by_cases ei : i = 0
  · by_cases ej : j = 0
    · omega
    · rw [ei, updN_eq, updN_ne _ _ ej] at he
      have := h3 j (by omega) hj
      omega
  · rw [updN_ne _ _ ei] at h0 he
    by_cases ej : j = 0
    · rw [ej, updN_eq] at he
      have := h3 i (by omega) hi
      omega
    · rw [updN_ne _ _ ej] at he
      exact h4 i j (by omega) hi (by omega) hj h0 he
theorem PI_free {cs : Nat → Nat → Nat} {P t : Nat} {s : PT} (h : PI cs P t s) (ht : t < P) : ∃ c0, 1 ≤ c0 ∧ c0 ≤ P ∧ updN s.2.2 0 (t + 1) c0 = 0 := by
  obtain ⟨_, _, h3, h4, _⟩ := h
  apply Classical.byContradiction
  intro q
  have hn : ∀ c, 1 ≤ c → c ≤ P → s.2.2 c ≠ 0 := by
    intro c c1 c2 c3
    exact q ⟨c, c1, c2, by rw [updN_ne _ _ (by omega)]; exact c3⟩
  have := fb_holes t P (fun i => s.2.2 (i + 1) - 1) (fun i hi => by have h1 := h3 (i + 1) (by omega) (by omega); have h2 := hn (i + 1) (by omega) (by omega); omega) (fun i j hij hj e => by
    have h1 := hn (i + 1) (by omega) (by omega)
    have h2 := hn (j + 1) (by omega) (by omega)
    have := h4 (i + 1) (j + 1) (by omega) (by omega) (by omega) (by omega) h1 (by omega)
    omega)
  omega
theorem cnt_none : ∀ n, fa_cnt (fun _ => false) n = 0
  | 0 => rfl
  | n + 1 => by rw [fa_cnt, cnt_none n]; rfl
theorem PI_SI {cs : Nat → Nat → Nat} {P t : Nat} {s : PT} (h : PI cs P t s) : SI cs P (updN s.2.2 0 (t + 1)) (100 * (t : Int)) 0 0 (fun _ => 0) (sg0 s) := by
  obtain ⟨h1, h2, h3, h4, h5⟩ := h
  refine ⟨h1, ?_, by decide, by decide, fun c q => absurd q Bool.false_ne_true, cnt_none _, Nat.zero_le _, rfl, fun _ => ⟨rfl, fun _ => rfl, fun _ => rfl, rfl⟩, fun q => absurd q (by decide), fun c q c1 c2 => ?_, fun c q => absurd q Bool.false_ne_true, fun c q => absurd q Bool.false_ne_true⟩
  · rw [Int.add_zero]
    exact h2
  · rw [updN_ne _ _ (by omega)] at q
    exact h5 c q c1 c2
theorem SI_k {cs : Nat → Nat → Nat} {P : Nat} {f : Nat → Nat} {B : Int} {k : Nat} {D : Int} {rk : Nat → Nat} {σ : HS} (h : SI cs P f B k D rk σ) : k ≤ P := by
  obtain ⟨_, _, _, _, _, h6, h7, h8, _⟩ := h
  have := cnt_lt h8 (P + 1) (by omega)
  omega
/-- the way back along the changes -/
def AI (P t : Nat) (f0 : Nat → Nat) (us : Nat → Bool) (wb rk : Nat → Nat) (f : Nat → Nat) (now m : Nat) : Prop :=
  (∀ c, us c = true → f c ≠ 0) ∧ (∀ i j, i ≤ P → j ≤ P → i ≠ now → j ≠ now → f i ≠ 0 → f i = f j → i = j) ∧ (∀ c, c ≤ P → f c ≤ t + 1) ∧ (∀ c, f c = 0 → f0 c = 0) ∧ now ≤ P ∧ (now ≠ 0 → us (wb now) = true ∧ rk (wb now) < m)
theorem AI_step {P t : Nat} {f0 : Nat → Nat} {us : Nat → Bool} {wb rk : Nat → Nat} {f : Nat → Nat} {now m : Nat} (hu : ∀ c, us c = true → c ≤ P) (hw : ∀ c, us c = true → c ≠ 0 → rk (wb c) < rk c ∧ us (wb c) = true) (h : AI P t f0 us wb rk f now m) (h0 : now ≠ 0) (hne : wb now ≠ now) : AI P t f0 us wb rk (updN f now (f (wb now))) (wb now) (rk (wb now)) ∧ rk (wb now) < m ∧ wb now ≤ P ∧ f (wb now) ≤ t + 1 := by
  obtain ⟨a1, a2, a3, a4, a5, a6⟩ := h
  obtain ⟨b1, b2⟩ := a6 h0
  have hb := hu _ b1
  have hb0 := a1 _ b1
  refine ⟨⟨fun c q => ?_, fun i j i1 j1 i2 j2 i3 e => ?_, fun c c1 => ?_, fun c q => ?_, hb, fun q => ?_⟩, b2, hb, a3 _ hb⟩
  · unfold updN
    by_cases e : c = now
    · rw [if_pos e]; exact hb0
    · rw [if_neg e]; exact a1 c q
  · unfold updN at i3 e
    by_cases ei : i = now
    · by_cases ej : j = now
      · omega
      · rw [if_pos ei, if_neg ej] at e
        exact absurd (a2 (wb now) j hb j1 hne ej hb0 e).symm j2
    · rw [if_neg ei] at i3 e
      by_cases ej : j = now
      · rw [if_pos ej] at e
        exact absurd (a2 i (wb now) i1 hb ei hne i3 e) i2
      · rw [if_neg ej] at e
        exact a2 i j i1 j1 ei ej i3 e
  · unfold updN
    by_cases e : c = now
    · rw [if_pos e]; exact a3 _ hb
    · rw [if_neg e]; exact a3 c c1
  · unfold updN at q
    by_cases e : c = now
    · rw [if_pos e] at q; exact absurd q hb0
    · rw [if_neg e] at q; exact a4 c q
  · have := hw _ b1 q
    exact ⟨this.2, this.1⟩
theorem AI_0 {cs : Nat → Nat → Nat} {P t : Nat} {s : PT} {B : Int} {k : Nat} {D : Int} {rk : Nat → Nat} {σ : HS} (hp : PI cs P t s) (h : SI cs P (updN s.2.2 0 (t + 1)) B k D rk σ) (hend : updN s.2.2 0 (t + 1) σ.2.2.2.2.2 = 0) : AI P t (updN s.2.2 0 (t + 1)) σ.2.2.2.1 σ.2.2.2.2.1 rk (updN s.2.2 0 (t + 1)) σ.2.2.2.2.2 k ∧ σ.2.2.2.1 σ.2.2.2.2.2 = false ∧ 1 ≤ σ.2.2.2.2.2 := by
  have hij := PI_IJ hp
  obtain ⟨h1, h2, h3, h4, h5, h6, h7, h8, h9, h10, h11, h12, h13⟩ := h
  have hk : 1 ≤ k := by
    rcases Nat.eq_zero_or_pos k with e | e
    · rw [(h9 e).1, updN_eq] at hend
      omega
    · exact e
  obtain ⟨b1, b2, b3⟩ := h10 hk
  obtain ⟨x, x1, x2, _⟩ := b3 σ.2.2.2.2.2 b1 h7
  refine ⟨⟨fun c q => (h5 c q).2, fun i j i1 j1 _ _ => hij i j i1 j1, fun c c1 => ?_, fun c q => q, h7, fun _ => ⟨x2, h12 _ x2⟩⟩, h8, b1⟩
  by_cases e : c = 0
  · rw [e, updN_eq]
    omega
  · rw [updN_ne _ _ e]
    have := hp.2.2.1 c (by omega) c1
    omega
theorem PI_end {cs : Nat → Nat → Nat} {P t : Nat} {s : PT} {k : Nat} {D : Int} {rk : Nat → Nat} {σ : HS} {f : Nat → Nat} {m : Nat} (hp : PI cs P t s) (h : SI cs P (updN s.2.2 0 (t + 1)) (100 * (t : Int)) k D rk σ) (ha : AI P t (updN s.2.2 0 (t + 1)) σ.2.2.2.1 σ.2.2.2.2.1 rk f 0 m) : PI cs P (t + 1) (σ.1, σ.2.1, f) := by
  obtain ⟨h1, h2, h3, h4, h5, h6, h7, h8, h9, h10, h11, h12, h13⟩ := h
  obtain ⟨a1, a2, a3, a4, a5, a6⟩ := ha
  refine ⟨h1, ⟨fun i => ?_, fun c c1 => ?_⟩, fun c c1 c2 => a3 c c2, fun i j i1 i2 j1 j2 => a2 i j i2 j2 (by omega) (by omega), fun c q c1 c2 => h11 c (a4 c q) c1 c2⟩
  · have := h2.1 i
    dsimp only
    omega
  · have := h2.2 c c1
    dsimp only
    omega
def hun (cs : Nat → Nat → Nat) (P : Nat) : Nat → PT
  | 0 => ((fun _ => 0), (fun _ => 0), (fun _ => 0))
  | t + 1 => hPh cs P (t + 1) (hun cs P t)
theorem PI_0 (cs : Nat → Nat → Nat) (P : Nat) : PI cs P 0 (hun cs P 0) := by
  refine ⟨fun i c _ _ _ => ?_, ⟨fun i => ?_, fun c _ => ?_⟩, fun c _ _ => Nat.le_refl 0, fun i j _ _ _ _ q => absurd rfl q, fun c _ _ _ => rfl⟩
  · show (0 : Int) + 0 ≤ _
    omega
  · show (0 : Int) ≤ 0 ∧ (0 : Int) ≤ _
    omega
  · show (0 : Int) ≤ 0 ∧ _ ≤ (0 : Int)
    omega
/-- the arrays of one side hold a search -/
def CR1 (F : Int32) (o : Option Int) (b : Nat) (s w : Int32) : Prop := (o = none → s = F) ∧ (∀ x, o = some x → s = iI x ∧ w = nI b)
def HA (F : Int32) (P R : Nat) (f : Nat → Nat) (σ : HS) (ua va fa wa sa ea : Nat → Int32) : Prop := (∀ i, i ≤ R → ua i = iI (σ.1 i)) ∧ (∀ c, c ≤ P → va c = iI (σ.2.1 c)) ∧ (∀ c, c ≤ P → fa c = nI (f c)) ∧ (∀ c, c ≤ P → ea c = if σ.2.2.2.1 c then 1 else 0) ∧ (∀ c, 1 ≤ c → c ≤ P → CR1 F (σ.2.2.1 c) (σ.2.2.2.2.1 c) (sa c) (wa c))
theorem SI_val {cs : Nat → Nat → Nat} {P : Nat} {f : Nat → Nat} {B : Int} {k : Nat} {D : Int} {rk : Nat → Nat} {u v : Nat → Int} {sl : Nat → Option Int} {us : Nat → Bool} {wb : Nat → Nat} {now : Nat} (hcs : ∀ i c, cs i c ≤ 100) (hs : SI cs P f B k D rk (u, v, sl, us, wb, now)) (hf : f now ≠ 0) : (∀ c, 1 ≤ c → c ≤ P → 0 ≤ vl cs f u v now c ∧ vl cs f u v now c ≤ 200 + B) ∧ (∀ c x, 1 ≤ c → c ≤ P → sl c = some x → 0 ≤ x ∧ x ≤ 200 + B) := by
  obtain ⟨hFE, hBN, hD0, hD1, hus, hcnt, hnow, hnu, hk0, hk1, hfv, hrk, hwb⟩ := hs
  dsimp only at hFE hBN hus hcnt hnow hnu hk0 hk1 hfv hrk hwb
  refine ⟨fun c c1 c2 => ?_, fun c x c1 c2 e => ?_⟩
  · have h1 := hFE (f now) c (by omega) c1 c2
    have h2 := hBN.1 (f now)
    have h3 := hBN.2 c c1
    have h4 := hcs (f now) c
    unfold vl
    omega
  · rcases Nat.eq_zero_or_pos k with e2 | e2
    · rw [(hk0 e2).2.1 c] at e
      cases e
    · obtain ⟨y, y1, _, y3, y4, _⟩ := (hk1 e2).2.2 c c1 c2
      rw [y1] at e
      cases e
      exact ⟨y3, y4⟩
/-- one column looked at -/
theorem lo_dec {F : Int32} {Fz : Int} {cs : Nat → Nat → Nat} {f : Nat → Nat} {u v : Nat → Int} {B : Int} {now c b : Nat} {o : Option Int} {s w : Int32} (hF : F = iI Fz) (hF1 : 5000 ≤ Fz) (hF2 : Fz ≤ 2000000) (hB : B ≤ 4000) (hv : 0 ≤ vl cs f u v now c ∧ vl cs f u v now c ≤ 200 + B) (ho : ∀ x, o = some x → 0 ≤ x ∧ x ≤ 200 + B) (hc : CR1 F o b s w) : s ≤ iI (vl cs f u v now c) ↔ ltO (vl cs f u v now c) o = false := by
  cases o with
  | none =>
    rw [hc.1 rfl, hF, iI_le (by omega) (by omega) (by omega) (by omega)]
    exact ⟨fun q => by omega, fun q => absurd q (show ¬ true = false by decide)⟩
  | some x =>
    have := ho x rfl
    rw [(hc.2 x rfl).1, iI_le (by omega) (by omega) (by omega) (by omega)]
    show _ ↔ decide (vl cs f u v now c < x) = false
    rw [decide_eq_false_iff_not]
    omega
end HUN3
