section TOKEN
def isA (c : Nat) : Bool := decide (97 ≤ c) && decide (c ≤ 122)
def isD (c : Nat) : Bool := decide (48 ≤ c) && decide (c ≤ 57)
def isB (c : Nat) : Bool := decide (c = 32)
def kd (c : Nat) : Nat := if isA c then 1 else if isD c then 2 else 3
def runE (b : Nat → Nat) (q : Nat → Bool) : Nat → Nat → Nat
  | 0, p => p
  | d + 1, p => if q (b p) then runE b q d (p + 1) else p
def tS (b : Nat → Nat) (n p : Nat) : Nat := runE b isB (n - p) p
def tE (b : Nat → Nat) (n s : Nat) : Nat := if n ≤ s then s else if isA (b s) then runE b isA (n - s) s else if isD (b s) then runE b isD (n - s) s else s + 1
def tK (b : Nat → Nat) (n s : Nat) : Nat := if n ≤ s then 0 else kd (b s)
def v27 (b : Nat → Nat) (s : Nat) : Nat → Nat
  | 0 => 0
  | l + 1 => 27 * v27 b s l + (b (s + l) - 96)
def v10 (b : Nat → Nat) (s : Nat) : Nat → Nat
  | 0 => 0
  | l + 1 => 10 * v10 b s l + (b (s + l) - 48)
def tV (b : Nat → Nat) (n s : Nat) : Int64 := if n ≤ s then -2 else if isA (b s) then (if tE b n s - s ≤ 9 then lN (v27 b s (tE b n s - s)) else -4) else if isD (b s) then (if tE b n s - s ≤ 2 then -1 else -4) else if b s = 59 then -3 else -4
theorem isA_iff {c : Nat} : isA c = true ↔ 97 ≤ c ∧ c ≤ 122 := by simp [isA]
theorem isD_iff {c : Nat} : isD c = true ↔ 48 ≤ c ∧ c ≤ 57 := by simp [isD]
theorem isB_iff {c : Nat} : isB c = true ↔ c = 32 := by simp [isB]
theorem runE_ge (b : Nat → Nat) (q : Nat → Bool) : ∀ d p, p ≤ runE b q d p ∧ runE b q d p ≤ p + d
  | 0, p => ⟨Nat.le_refl p, Nat.le_refl p⟩
  | d + 1, p => by
    rw [runE]
    split
    · have := runE_ge b q d (p + 1)
      omega
    · omega
theorem runE_all (b : Nat → Nat) (q : Nat → Bool) : ∀ d p j, p ≤ j → j < runE b q d p → q (b j) = true
  | 0, p, j, h1, h2 => by
    rw [runE] at h2
    omega
  | d + 1, p, j, h1, h2 => by
    rw [runE] at h2
    by_cases e : q (b p) = true
    · rw [if_pos e] at h2
      by_cases ej : j = p
      · rw [ej]; exact e
      · exact runE_all b q d (p + 1) j (by omega) h2
    · rw [if_neg e] at h2
      omega
theorem tS_le {b : Nat → Nat} {n p : Nat} (hp : p ≤ n) : p ≤ tS b n p ∧ tS b n p ≤ n := by
  have := runE_ge b isB (n - p) p
  unfold tS
  omega
theorem tE_le {b : Nat → Nat} {n s : Nat} (hs : s ≤ n) : s ≤ tE b n s ∧ tE b n s ≤ n := by
  unfold tE
  split
  · omega
  · split
    · have := runE_ge b isA (n - s) s
      omega
    · split
      · have := runE_ge b isD (n - s) s
        omega
      · omega
theorem v27_lt {b : Nat → Nat} {s : Nat} : ∀ l, (∀ j, j < l → b (s + j) ≤ 122) → v27 b s l < 27 ^ l
  | 0, _ => by
    rw [v27]
    decide
  | l + 1, h => by
    have h1 := v27_lt l (fun j hj => h j (by omega))
    have h2 := h l (by omega)
    rw [v27, Nat.pow_succ]
    omega
theorem v27_inj {b b' : Nat → Nat} {s s' : Nat} : ∀ l l', (∀ j, j < l → 97 ≤ b (s + j) ∧ b (s + j) ≤ 122) → (∀ j, j < l' → 97 ≤ b' (s' + j) ∧ b' (s' + j) ≤ 122) → v27 b s l = v27 b' s' l' → l = l' ∧ ∀ j, j < l → b (s + j) = b' (s' + j)
  | 0, 0, _, _, _ => ⟨rfl, fun j hj => absurd hj (Nat.not_lt_zero j)⟩
  | 0, l' + 1, _, h', e => by
    have := h' l' (by omega)
    rw [v27, v27] at e
    omega
  | l + 1, 0, h, _, e => by
    have := h l (by omega)
    rw [v27, v27] at e
    omega
  | l + 1, l' + 1, h, h', e => by
    have h1 := h l (by omega)
    have h2 := h' l' (by omega)
    rw [v27, v27] at e
    obtain ⟨e1, e2⟩ := v27_inj l l' (fun j hj => h j (by omega)) (fun j hj => h' j (by omega)) (by omega)
    subst e1
    refine ⟨rfl, fun j hj => ?_⟩
    by_cases ej : j = l
    · subst ej
      omega
    · exact e2 j (by omega)
theorem v27_cong {b b' : Nat → Nat} {s s' : Nat} : ∀ l, (∀ j, j < l → b (s + j) = b' (s' + j)) → v27 b s l = v27 b' s' l
  | 0, _ => rfl
  | l + 1, h => by rw [v27, v27, v27_cong l (fun j hj => h j (by omega)), h l (by omega)]
theorem v10_lt {b : Nat → Nat} {s l : Nat} (h : ∀ j, j < l → b (s + j) ≤ 57) (hl : l ≤ 2) : v10 b s l < 100 := by
  rcases (show l = 0 ∨ l = 1 ∨ l = 2 by omega) with e | e | e
  · subst e
    rw [v10]
    decide
  · subst e
    have := h 0 (by omega)
    simp only [v10] at *
    omega
  · subst e
    have h0 := h 0 (by omega)
    have h1 := h 1 (by omega)
    simp only [v10] at *
    omega
def bT (T : List Nat) (j : Nat) : Nat := T.getD j 0
theorem bT_at {T : List Nat} {len : Int32} {arr : Nat → Int32} (hR : RT T len arr) {j : Nat} (hj : j < T.length) : arr j = nI (bT T j) ∧ bT T j < 256 := hR.2.2 j hj
theorem s_kindOf {c : Nat} {Q : Int32 → Prop} (hc : c < 256) (hQ : Q (nI (kd c))) : wp_X6_kindOf (nI c) Q := by
  unfold kd isA isD at hQ
  have h14 : (c < 97 ∨ 122 < c) → bk_X6_kindOf_14 Q (nI c) := by
    intro hq
    rw [if_neg (by simp; omega)] at hQ
    unfold bk_X6_kindOf_14
    refine pk_lt c 48 (fun q => ?_) (fun q => pk_lt 57 c (fun q2 => ?_) (fun q2 => ?_) rfl rfl) rfl rfl
    · rw [if_neg (by simp; omega)] at hQ
      exact hQ
    · rw [if_neg (by simp; omega)] at hQ
      exact hQ
    · rw [if_pos (by simp; omega)] at hQ
      exact hQ
  unfold wp_X6_kindOf
  refine pk_lt c 97 (fun q => h14 (Or.inl q)) (fun q => pk_lt 122 c (fun q2 => h14 (Or.inr q2)) (fun q2 => ?_) rfl rfl) rfl rfl
  rw [if_pos (by simp; omega)] at hQ
  exact hQ
theorem kd_A {c : Nat} : kd c = 1 ↔ isA c = true := by
  unfold kd
  split
  · simp_all
  · split <;> simp_all
theorem kd_D {c : Nat} : kd c = 2 ↔ isD c = true := by
  unfold kd
  split
  · rename_i h
    rw [isA_iff] at h
    refine ⟨fun q => absurd q (by decide), fun q => ?_⟩
    rw [isD_iff] at q
    omega
  · split <;> simp_all
theorem kd_le (c : Nat) : 1 ≤ kd c ∧ kd c ≤ 3 := by
  unfold kd
  split
  · decide
  · split <;> decide
theorem s_run101 {T : List Nat} {len S K : Int32} {arr : Nat → Int32} {kk p E : Nat} {q : Nat → Bool} {Q : Int32 × Int32 × Int32 → Prop} (hR : RT T len arr) (hp : p ≤ T.length) (hk : kk = 1 ∨ kk = 2) (hK : K = nI kk) (hq : ∀ c, q c = true ↔ kd c = kk) (hE : runE (bT T) q (T.length - p) p = E) (hQ : Q (S, nI E, K)) : lp_X6_nextToken_101 Q S K len arr (nI p) := by
  obtain ⟨rfl, h200, hA⟩ := id hR
  subst hK
  unfold lp_X6_nextToken_101
  refine ⟨fun m z => ∃ p, p ≤ T.length ∧ m = T.length - p ∧ z = nI p ∧ runE (bT T) q (T.length - p) p = E, ⟨T.length - p, p, hp, rfl, rfl, hE⟩, ?_⟩
  clear hE hp
  rintro m z ⟨p, hp, rfl, rfl, hE⟩
  unfold bd_X6_nextToken_101
  refine ⟨fun z => absurd (z_inj (a := kk) (b := 3) (by omega) (by decide) z) (by omega), fun _ => pk_le T.length p (fun q => ?_) (fun hlt => ?_) rfl rfl⟩
  · rw [show T.length - p = 0 by omega, runE] at hE
    rw [hE]
    exact hQ
  · rw [show T.length - p = (T.length - (p + 1)) + 1 by omega, runE] at hE
    refine ⟨pk_in p 200 (by omega), ?_⟩
    rw [z_cl (by omega), (bT_at hR hlt).1]
    refine s_kindOf (bT_at hR hlt).2 ?_
    have := kd_le (bT T p)
    refine ⟨fun z => ?_, fun z y9 e9 => ?_⟩
    · rw [if_neg (fun y => z (by rw [(hq _).mp y]))] at hE
      rw [hE]
      exact hQ
    · rw [if_pos ((hq _).mpr (z_inj (by omega) (by omega) z))] at hE
      exact ⟨T.length - (p + 1), by omega, p + 1, by omega, rfl, by rw [e9, nI_1], hE⟩
theorem s_ctok {T : List Nat} {len : Int32} {arr : Nat → Int32} {p S : Nat} {Q : Int32 × Int32 × Int32 → Prop} (hR : RT T len arr) (hp : p ≤ T.length) (hS : tS (bT T) T.length p = S) (hQ : Q (nI S, nI (tE (bT T) T.length S), nI (tK (bT T) T.length S))) : wp_X6_nextToken (nI p) len arr Q := by
  obtain ⟨rfl, h200, hA⟩ := id hR
  have h44 : bk_X6_nextToken_44 Q (nI S) (nI T.length) arr := by
    have hSl := tS_le (b := bT T) hp
    rw [hS] at hSl
    unfold bk_X6_nextToken_44
    refine pk_lt S T.length (fun q => ?_) (fun q => ?_) rfl rfl
    · refine ⟨pk_in S 200 (by omega), ?_⟩
      rw [z_cl (by omega), (bT_at hR q).1]
      refine s_kindOf (bT_at hR q).2 (fun y4 e4 => ?_)
      rw [nI_1] at e4
      subst e4
      have q' : ¬ T.length ≤ S := by omega
      unfold tE tK at hQ
      rw [if_neg q', if_neg q'] at hQ
      by_cases e1 : isA (bT T S) = true
      · rw [if_pos e1] at hQ
        have e2 := kd_A.mpr e1
        rw [show T.length - S = (T.length - (S + 1)) + 1 by omega, runE, if_pos e1] at hQ
        exact s_run101 hR (by omega) (Or.inl e2) rfl (fun c => by rw [e2]; exact kd_A.symm) rfl hQ
      · rw [if_neg e1] at hQ
        by_cases e3 : isD (bT T S) = true
        · rw [if_pos e3] at hQ
          have e2 := kd_D.mpr e3
          rw [show T.length - S = (T.length - (S + 1)) + 1 by omega, runE, if_pos e3] at hQ
          exact s_run101 hR (by omega) (Or.inr e2) rfl (fun c => by rw [e2]; exact kd_D.symm) rfl hQ
        · rw [if_neg e3] at hQ
          have e2 : kd (bT T S) = 3 := by unfold kd; rw [if_neg e1, if_neg e3]
          rw [e2] at hQ ⊢
          unfold lp_X6_nextToken_101
          refine ⟨fun _ z => z = nI (S + 1), ⟨0, rfl⟩, ?_⟩
          rintro m z rfl
          unfold bd_X6_nextToken_101
          exact ⟨fun _ => hQ, fun z => absurd rfl z⟩
    · unfold tE tK at hQ
      rw [if_pos q, if_pos q] at hQ
      exact hQ
  unfold wp_X6_nextToken lp_X6_nextToken_0
  refine ⟨fun m z => ∃ p, p ≤ T.length ∧ m = T.length - p ∧ z = nI p ∧ runE (bT T) isB (T.length - p) p = S, ⟨T.length - p, p, hp, rfl, rfl, hS⟩, ?_⟩
  clear hS hp
  rintro m z ⟨p, hp, rfl, rfl, hE⟩
  unfold bd_X6_nextToken_0
  refine pk_le T.length p (fun q => ?_) (fun hlt => ?_) rfl rfl
  · rw [show T.length - p = 0 by omega, runE] at hE
    rw [hE]
    exact h44
  · rw [show T.length - p = (T.length - (p + 1)) + 1 by omega, runE] at hE
    refine ⟨pk_in p 200 (by omega), ?_⟩
    rw [z_cl (by omega), (bT_at hR hlt).1]
    have h256 := (bT_at hR hlt).2
    refine ⟨fun z => ?_, fun z y9 e9 => ?_⟩
    · rw [if_neg (fun y => z (by rw [isB_iff.mp y]; rfl))] at hE
      rw [hE]
      exact h44
    · rw [if_pos (isB_iff.mpr (z_inj (a := bT T p) (b := 32) (by omega) (by decide) z))] at hE
      exact ⟨T.length - (p + 1), by omega, p + 1, by omega, rfl, by rw [e9, nI_1], hE⟩
theorem inI_A {c : Nat} (hc : c < 256) : inI (nI c) 97 122 = if isA c then 1 else 0 := by
  have h1 : inI (nI c) (nI 97) (nI 122) = _ := inI_nat (a := c) (lo := 97) (hi := 122) (by omega) (by decide) (by decide)
  have h2 : inI (nI c) 97 122 = inI (nI c) (nI 97) (nI 122) := rfl
  rw [h2, h1]
  by_cases e : isA c = true
  · rw [if_pos (isA_iff.mp e), if_pos e]
  · rw [if_neg (fun y => e (isA_iff.mpr y)), if_neg e]
theorem inI_D {c : Nat} (hc : c < 256) : inI (nI c) 48 57 = if isD c then 1 else 0 := by
  have h1 : inI (nI c) (nI 48) (nI 57) = _ := inI_nat (a := c) (lo := 48) (hi := 57) (by omega) (by decide) (by decide)
  have h2 : inI (nI c) 48 57 = inI (nI c) (nI 48) (nI 57) := rfl
  rw [h2, h1]
  by_cases e : isD c = true
  · rw [if_pos (isD_iff.mp e), if_pos e]
  · rw [if_neg (fun y => e (isD_iff.mpr y)), if_neg e]
theorem s_mword {T : List Nat} {len : Int32} {arr : Nat → Int32} {S E : Nat} {Q : Int32 × Int32 × Int64 × Int32 × Int32 → Prop} (hR : RT T len arr) (hp : S ≤ T.length) (hE : runE (bT T) isA (T.length - S) S = E) (hQ : Q (nI E, nI S, (if E - S ≤ 9 then lN (v27 (bT T) S (E - S)) else -4), 0, 0)) : lp_X11_nextToken_101 Q len (nI S) 0 0 arr (nI S) 0 := by
  obtain ⟨rfl, h200, hA⟩ := id hR
  unfold lp_X11_nextToken_101
  refine ⟨fun m z t => ∃ p, S ≤ p ∧ p ≤ T.length ∧ m = T.length - p ∧ z = nI p ∧ (p - S ≤ 9 → t = lN (v27 (bT T) S (p - S))) ∧ runE (bT T) isA (T.length - p) p = E, ⟨T.length - S, S, Nat.le_refl S, hp, rfl, rfl, fun _ => by rw [Nat.sub_self]; rfl, hE⟩, ?_⟩
  clear hE
  rintro m z t ⟨p, hSp, hp, rfl, rfl, ht, hE⟩
  have h191 : p = E → bk_X11_nextToken_191 Q (nI p) (nI S) t 0 0 := by
    rintro rfl
    unfold bk_X11_nextToken_191 bk_X11_nextToken_216
    rw [z_sub hSp]
    refine pk_le (p - S) 9 (fun q => ?_) (fun q => ?_) rfl rfl
    · rw [if_pos q] at hQ
      rw [ht q]
      exact hQ
    · rw [if_neg (by omega)] at hQ
      exact hQ
  unfold bd_X11_nextToken_101
  refine pk_le T.length p (fun q => ?_) (fun hlt => ?_) rfl rfl
  · rw [show T.length - p = 0 by omega, runE] at hE
    exact h191 hE
  · rw [show T.length - p = (T.length - (p + 1)) + 1 by omega, runE] at hE
    have hc := bT_at hR hlt
    refine ⟨pk_in p 200 (by omega), ?_⟩
    rw [z_cl (by omega), hc.1]
    refine s_in ?_
    rw [inI_A hc.2]
    by_cases e : isA (bT T p) = true
    · rw [if_pos e] at hE
      rw [if_pos e]
      refine ⟨fun z => absurd z (by decide), fun _ => ?_⟩
      rw [z_sub hSp]
      refine pk_le 9 (p - S) (fun q => ?_) (fun q => ⟨pk_in p 200 (by omega), ?_⟩) rfl rfl
      · unfold bk_X11_nextToken_175
        exact fun y21 e21 => ⟨T.length - (p + 1), by omega, p + 1, by omega, by omega, rfl, by rw [e21, nI_1], fun q2 => by omega, hE⟩
      · unfold bk_X11_nextToken_175
        refine fun y21 e21 => ⟨T.length - (p + 1), by omega, p + 1, by omega, by omega, rfl, by rw [e21, nI_1], fun q2 => ?_, hE⟩
        have ha := isA_iff.mp e
        rw [ht (by omega), nI_l (by omega), show p + 1 - S = (p - S) + 1 by omega, v27, show S + (p - S) = p by omega]
        have e1 : (27 : Int64) * lN (v27 (bT T) S (p - S)) = lN (27 * v27 (bT T) S (p - S)) := lN_mul 27 _
        rw [e1, lN_add]
        have e2 : lN (27 * v27 (bT T) S (p - S) + bT T p) - 96 = lN (27 * v27 (bT T) S (p - S) + bT T p - 96) := lN_sub (b := 96) (by omega)
        rw [e2]
        congr 1
        omega
    · rw [if_neg e] at hE
      rw [if_neg e]
      exact ⟨fun _ => h191 hE, fun z => absurd rfl z⟩
theorem s_mdig {T : List Nat} {len : Int32} {arr : Nat → Int32} {S E : Nat} {Q : Int32 × Int32 × Int64 × Int32 × Int32 → Prop} (hR : RT T len arr) (hp : S ≤ T.length) (hE : runE (bT T) isD (T.length - S) S = E) (hQ : ∀ dg nu, (E - S ≤ 2 → nu = nI (v10 (bT T) S (E - S))) → Q (nI E, nI S, (if E - S ≤ 2 then -1 else -4), dg, nu)) : lp_X11_nextToken_241 Q len (nI S) arr (nI S) 0 0 := by
  obtain ⟨rfl, h200, hA⟩ := id hR
  unfold lp_X11_nextToken_241
  refine ⟨fun m z dg nu => ∃ p, S ≤ p ∧ p ≤ T.length ∧ m = T.length - p ∧ z = nI p ∧ dg = nI (p - S) ∧ (p - S ≤ 2 → nu = nI (v10 (bT T) S (p - S))) ∧ runE (bT T) isD (T.length - p) p = E, ⟨T.length - S, S, Nat.le_refl S, hp, rfl, rfl, by rw [Nat.sub_self]; rfl, fun _ => by rw [Nat.sub_self]; rfl, hE⟩, ?_⟩
  clear hE
  rintro m z dg nu ⟨p, hSp, hp, rfl, rfl, rfl, ht, hE⟩
  have h333 : p = E → bk_X11_nextToken_333 Q (nI p) (nI S) (nI (p - S)) nu := by
    rintro rfl
    unfold bk_X11_nextToken_333 bk_X11_nextToken_351
    refine pk_le (p - S) 2 (fun q => ?_) (fun q => ?_) rfl rfl
    · have := hQ (nI (p - S)) nu ht
      rw [if_pos q] at this
      exact this
    · have := hQ (nI (p - S)) nu ht
      rw [if_neg (by omega)] at this
      exact this
  unfold bd_X11_nextToken_241
  refine pk_le T.length p (fun q => ?_) (fun hlt => ?_) rfl rfl
  · rw [show T.length - p = 0 by omega, runE] at hE
    exact h333 hE
  · rw [show T.length - p = (T.length - (p + 1)) + 1 by omega, runE] at hE
    have hc := bT_at hR hlt
    refine ⟨pk_in p 200 (by omega), ?_⟩
    rw [z_cl (by omega), hc.1]
    refine s_in ?_
    rw [inI_D hc.2]
    by_cases e : isD (bT T p) = true
    · rw [if_pos e] at hE
      rw [if_pos e]
      refine ⟨fun z => absurd z (by decide), fun _ => ?_⟩
      refine pk_le 2 (p - S) (fun q => ?_) (fun q => ⟨pk_in p 200 (by omega), ?_⟩) rfl rfl
      · unfold bk_X11_nextToken_307
        exact fun y14 e14 y15 e15 => ⟨T.length - (p + 1), by omega, p + 1, by omega, by omega, rfl, by rw [e15, nI_1], by rw [e14, nI_1]; congr 1; omega, fun q2 => by omega, hE⟩
      · unfold bk_X11_nextToken_307
        refine fun y14 e14 y15 e15 => ⟨T.length - (p + 1), by omega, p + 1, by omega, by omega, rfl, by rw [e15, nI_1], by rw [e14, nI_1]; congr 1; omega, fun q2 => ?_, hE⟩
        have ha := isD_iff.mp e
        rw [ht (by omega), show p + 1 - S = (p - S) + 1 by omega, v10, show S + (p - S) = p by omega]
        have e1 : (10 : Int32) * nI (v10 (bT T) S (p - S)) = nI (10 * v10 (bT T) S (p - S)) := z_mul 10 _
        rw [e1, nI_add]
        have e2 : nI (10 * v10 (bT T) S (p - S) + bT T p) - 48 = nI (10 * v10 (bT T) S (p - S) + bT T p - 48) := z_sub (b := 48) (by omega)
        rw [e2]
        congr 1
        omega
    · rw [if_neg e] at hE
      rw [if_neg e]
      exact ⟨fun _ => h333 hE, fun z => absurd rfl z⟩
theorem s_mtok {T : List Nat} {len : Int32} {arr : Nat → Int32} {p S : Nat} {Q : Int32 × Int32 × Int64 × Int32 × Int32 → Prop} (hR : RT T len arr) (hp : p ≤ T.length) (hS : tS (bT T) T.length p = S) (hQ : ∀ dg nu, (tK (bT T) T.length S = 2 → tE (bT T) T.length S - S ≤ 2 → nu = nI (v10 (bT T) S (tE (bT T) T.length S - S))) → Q (nI (tE (bT T) T.length S), nI S, tV (bT T) T.length S, dg, nu)) : wp_X11_nextToken len (nI p) arr Q := by
  obtain ⟨rfl, h200, hA⟩ := id hR
  have h38 : bk_X11_nextToken_38 Q (nI T.length) (nI S) arr := by
    have hSl := tS_le (b := bT T) hp
    rw [hS] at hSl
    unfold bk_X11_nextToken_38
    refine ⟨fun z => ?_, fun z => ?_⟩
    · have q : S < T.length := by
        apply Classical.byContradiction
        intro q
        exact z (by rw [show S = T.length by omega])
      have hin := pk_in S 200 (show S < 200 by omega)
      have hc := bT_at hR q
      rw [z_cl (by omega), hc.1]
      have q' : ¬ T.length ≤ S := by omega
      have eK : tK (bT T) T.length S = kd (bT T S) := by unfold tK; rw [if_neg q']
      rw [eK] at hQ
      refine ⟨hin, s_in ?_⟩
      rw [inI_A hc.2]
      by_cases e1 : isA (bT T S) = true
      · have eE : tE (bT T) T.length S = runE (bT T) isA (T.length - S) S := by unfold tE; rw [if_neg q', if_pos e1]
        have eV : tV (bT T) T.length S = if tE (bT T) T.length S - S ≤ 9 then lN (v27 (bT T) S (tE (bT T) T.length S - S)) else -4 := by unfold tV; rw [if_neg q', if_pos e1]
        rw [eV, eE] at hQ
        rw [if_pos e1]
        refine ⟨fun z => absurd z (by decide), fun _ => s_mword hR (by omega) rfl ?_⟩
        refine hQ _ _ (fun y => ?_)
        rw [kd_A.mpr e1] at y
        exact absurd y (by decide)
      · rw [if_neg e1]
        refine ⟨fun _ => ⟨hin, s_in ?_⟩, fun z => absurd rfl z⟩
        rw [inI_D hc.2]
        by_cases e3 : isD (bT T S) = true
        · have eE : tE (bT T) T.length S = runE (bT T) isD (T.length - S) S := by unfold tE; rw [if_neg q', if_neg e1, if_pos e3]
          have eV : tV (bT T) T.length S = if tE (bT T) T.length S - S ≤ 2 then -1 else -4 := by unfold tV; rw [if_neg q', if_neg e1, if_pos e3]
          rw [eV, eE] at hQ
          rw [if_pos e3]
          exact ⟨fun z => absurd z (by decide), fun _ => s_mdig hR (by omega) rfl (fun dg nu hd => hQ dg nu (fun _ => hd))⟩
        · have eE : tE (bT T) T.length S = S + 1 := by unfold tE; rw [if_neg q', if_neg e1, if_neg e3]
          have eV : tV (bT T) T.length S = if bT T S = 59 then -3 else -4 := by unfold tV; rw [if_neg q', if_neg e1, if_neg e3]
          rw [eV, eE] at hQ
          rw [if_neg e3]
          have e2 : ¬ kd (bT T S) = 2 := fun y => e3 (kd_D.mp y)
          refine ⟨fun _ => ⟨hin, fun z => ?_, fun z => ?_⟩, fun z => absurd rfl z⟩
          · unfold bk_X11_nextToken_381
            intro y8 e8
            rw [nI_1] at e8
            have := hQ 0 0 (fun y => absurd y e2)
            rw [if_neg (fun y => z (by rw [y]; rfl))] at this
            rw [e8]
            exact this
          · unfold bk_X11_nextToken_381
            intro y8 e8
            rw [nI_1] at e8
            have := hQ 0 0 (fun y => absurd y e2)
            rw [if_pos (z_inj (a := bT T S) (b := 59) (by omega) (by decide) z)] at this
            rw [e8]
            exact this
    · have q : S = T.length := z_inj (by omega) (by omega) z
      have q' : T.length ≤ S := by omega
      have eK : tK (bT T) T.length S = 0 := by unfold tK; rw [if_pos q']
      have eE : tE (bT T) T.length S = S := by unfold tE; rw [if_pos q']
      have eV : tV (bT T) T.length S = -2 := by unfold tV; rw [if_pos q']
      rw [eV, eE, eK] at hQ
      exact hQ 0 0 (fun y => absurd y (by decide))
  unfold wp_X11_nextToken lp_X11_nextToken_0
  refine ⟨fun m z => ∃ p, p ≤ T.length ∧ m = T.length - p ∧ z = nI p ∧ runE (bT T) isB (T.length - p) p = S, ⟨T.length - p, p, hp, rfl, rfl, hS⟩, ?_⟩
  clear hS hp
  rintro m z ⟨p, hp, rfl, rfl, hE⟩
  unfold bd_X11_nextToken_0
  refine pk_le T.length p (fun q => ?_) (fun hlt => ?_) rfl rfl
  · rw [show T.length - p = 0 by omega, runE] at hE
    rw [hE]
    exact h38
  · rw [show T.length - p = (T.length - (p + 1)) + 1 by omega, runE] at hE
    refine ⟨pk_in p 200 (by omega), ?_⟩
    rw [z_cl (by omega), (bT_at hR hlt).1]
    have h256 := (bT_at hR hlt).2
    refine ⟨fun z => ?_, fun z y9 e9 => ?_⟩
    · rw [if_neg (fun y => z (by rw [isB_iff.mp y]; rfl))] at hE
      rw [hE]
      exact h38
    · rw [if_pos (isB_iff.mpr (z_inj (a := bT T p) (b := 32) (by omega) (by decide) z))] at hE
      exact ⟨T.length - (p + 1), by omega, p + 1, by omega, rfl, by rw [e9, nI_1], hE⟩
end TOKEN
