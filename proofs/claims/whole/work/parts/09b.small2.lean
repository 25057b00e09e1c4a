/-- an array holds a list, whose entries are below B -/
def LA (B : Nat) (l : List Nat) (arr : Nat → Int32) : Prop := ∀ j, j < l.length → arr j = nI (l.getD j 0) ∧ l.getD j 0 < B
theorem getD_push (l : List Nat) (b j : Nat) : (l ++ [b]).getD j 0 = if j < l.length then l.getD j 0 else if j = l.length then b else 0 := by
  rw [List.getD_eq_getElem?_getD, List.getD_eq_getElem?_getD]
  by_cases h : j < l.length
  · rw [List.getElem?_append_left h, if_pos h]
  · rw [List.getElem?_append_right (by omega), if_neg h]
    by_cases h2 : j = l.length
    · subst h2; simp
    · rw [if_neg h2, List.getElem?_eq_none (by simp; omega)]; rfl
theorem LA_push {B : Nat} {l : List Nat} {arr : Nat → Int32} (hl : LA B l arr) {b : Nat} (hb : b < B) : LA B (l ++ [b]) (upd arr l.length (nI b)) := by
  intro j hj
  rw [List.length_append, List.length_singleton] at hj
  rw [getD_push, z_upd]
  by_cases h : j < l.length
  · rw [if_pos h, if_neg (by omega)]
    exact hl j h
  · have : j = l.length := by omega
    rw [if_neg h, if_pos this, if_pos this]
    exact ⟨rfl, hb⟩
def RT (T : List Nat) (len : Int32) (arr : Nat → Int32) : Prop := len = nI T.length ∧ T.length ≤ 200 ∧ LA 256 T arr
def byI (p : Int64) (i : Nat) : Nat := ((p >>> ((8 * nI i).toInt64 &&& 63)).toInt32).toBitVec.toNat % 2 ^ 8
theorem byI_c (p : Int64) (i : Nat) : (p >>> ((8 * nI i).toInt64 &&& 63)).toInt32 &&& 255 = nI (byI p i) := pk_and _ 8 rfl
theorem byI_m (p : Int64) (i : Nat) : ((p >>> ((8 * nI i).toInt64 &&& 63)) &&& 255).toInt32 = nI (byI p i) := by
  rw [← byI_c, Int64.toInt32_and]
  rfl
theorem byI_lt (p : Int64) (i : Nat) : byI p i < 256 := Nat.mod_lt _ (by decide)
def wrT (p : Int64) (T : List Nat) : Nat → List Nat
  | 0 => T
  | i + 1 => wrT p T i ++ [byI p i]
theorem wrT_len (p : Int64) (T : List Nat) : ∀ i, (wrT p T i).length = T.length + i
  | 0 => rfl
  | i + 1 => by rw [wrT, List.length_append, wrT_len p T i]; rfl
theorem op_write {T : List Nat} {p : Int64} {n tl ml : Int32} {tb mb : Nat → Int32} {K : Int32 × (Nat → Int32) → Int32 × (Nat → Int32) → Prop} (hc : RT T tl tb) (hm : RT T ml mb) (hK : ∀ (T' : List Nat) (tl' ml' : Int32) (tb' mb' : Nat → Int32), RT T' tl' tb' → RT T' ml' mb' → K (tl', tb') (ml', mb')) : wp_X10_write p n tl tb (fun r u => wp_X11_write p n ml mb (fun r' u' => EqK r r' (K u u'))) := by
  have stay := hK T tl ml tb mb hc hm
  obtain ⟨c1, c2, c3⟩ := hc
  obtain ⟨m1, m2, m3⟩ := hm
  have bad : ∀ v : Int32, inI n 1 8 = 0 → v = -3 → wp_X11_write p n ml mb (fun r' u' => EqK v r' (K (tl, tb) u')) := by
    intro v h0 hv
    unfold wp_X11_write
    refine s_in ?_
    rw [h0, hv]
    exact ⟨fun z => absurd rfl z, fun _ => eqk _ stay⟩
  unfold wp_X10_write
  refine ⟨fun q => bad _ (by unfold inI; rw [if_pos q]) rfl, fun q => ⟨fun q2 => ?_, fun q2 => bad _ (by unfold inI; rw [if_neg q, if_pos (by rw [Int32.lt_iff_toInt_lt]; rw [Int32.le_iff_toInt_le] at q2; omega)]) rfl⟩⟩
  have h1 : inI n 1 8 = 1 := by
    unfold inI
    rw [if_neg q, if_neg (by rw [Int32.lt_iff_toInt_lt]; rw [Int32.le_iff_toInt_le] at q2; omega)]
  obtain ⟨N, hN0, hN8, rfl⟩ : ∃ N : Nat, 0 < N ∧ N ≤ 8 ∧ n = nI N := by
    have e1 : (1 : Int32).toInt = 1 := by decide
    have e8 : (8 : Int32).toInt = 8 := by decide
    rw [Int32.lt_iff_toInt_lt, e1] at q
    rw [Int32.le_iff_toInt_le, e8] at q2
    obtain ⟨N, hN, hn⟩ := nI_of (x := n) (by rw [Int32.lt_iff_toInt_lt, Int32.toInt_zero]; omega)
    have e2 : n.toInt = N := by rw [hn]; exact nI_toInt hN
    exact ⟨N, by omega, by omega, hn⟩
  rw [c1, nI_add]
  refine pk_le (T.length + N) 200 (fun q3 => ?_) (fun q3 => ?_) rfl rfl
  · unfold lp_X10_write_35
    refine ⟨fun m l a z => ∃ i, i ≤ N ∧ m = N - i ∧ z = nI i ∧ l = nI (T.length + i) ∧ LA 256 (wrT p T i) a, ⟨N, 0, by omega, rfl, rfl, rfl, c3⟩, ?_⟩
    rintro m l a z ⟨i, hi, rfl, rfl, rfl, ha⟩
    unfold bd_X10_write_35
    refine pk_le N i (fun q4 => ?_) (fun q4 => ?_) rfl rfl
    · have : i = N := by omega
      subst this
      have lenN := wrT_len p T i
      unfold wp_X11_write
      refine s_in ?_
      rw [h1]
      refine ⟨fun _ => ?_, fun z => absurd z (by decide)⟩
      rw [m1, nI_add]
      refine pk_le (T.length + i) 200 (fun _ => ?_) (fun z => by omega) rfl rfl
      unfold lp_X11_write_31
      refine ⟨fun m a z => ∃ j, j ≤ i ∧ m = i - j ∧ z = nI j ∧ LA 256 (wrT p T j) a, ⟨i, 0, by omega, rfl, rfl, m3⟩, ?_⟩
      rintro m a' z ⟨j, hj, rfl, rfl, ha'⟩
      unfold bd_X11_write_31
      refine pk_le i j (fun q5 => ?_) (fun q5 => ?_) rfl rfl
      · have : j = i := by omega
        subst this
        intro y5 e5
        rw [nI_add] at e5
        rw [e5]
        exact eqk _ (hK (wrT p T j) _ _ _ _ ⟨by rw [lenN], by omega, ha⟩ ⟨by rw [lenN], by omega, ha'⟩)
      · intro y6 e6
        have e6' : y6 = nI (byI p j) := by rw [e6]; exact byI_m p j
        rw [nI_add]
        refine ⟨pk_in (T.length + j) 200 (by omega), fun f7 e7 y8 e8 => ?_⟩
        refine ⟨i - (j + 1), by omega, j + 1, by omega, rfl, by rw [e8]; exact nI_1 j, ?_⟩
        rw [e7, z_cl (by omega), e6', ← wrT_len p T j]
        exact LA_push ha' (byI_lt p j)
    · have lenI := wrT_len p T i
      unfold wp_X8_put
      refine pk_le 200 (T.length + i) (fun z => by omega) (fun _ => ⟨pk_in (T.length + i) 200 (by omega), fun f2 e2 y3 e3 y6 e6 => ?_⟩) rfl rfl
      refine ⟨N - (i + 1), by omega, i + 1, by omega, rfl, by rw [e6]; exact nI_1 i, by rw [e3, nI_1]; rfl, ?_⟩
      rw [e2, z_cl (by omega), byI_c, ← lenI]
      exact LA_push ha (byI_lt p i)
  · unfold wp_X11_write
    refine s_in ?_
    rw [h1]
    refine ⟨fun _ => ?_, fun z => absurd z (by decide)⟩
    rw [m1, nI_add]
    refine pk_le (T.length + N) 200 (fun z => by omega) (fun _ => ?_) rfl rfl
    rw [c1, m1] at stay
    exact eqk _ stay
