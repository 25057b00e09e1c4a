theorem sumF_le {f : Nat → Nat} {c : Nat} (hf : ∀ s, f s ≤ c) (g : Nat) : ∀ n, sumF f n g ≤ n * c
  | 0 => Nat.zero_le _
  | n + 1 => by
    have h1 := sumF_le hf g n
    have h2 := hf n
    rw [sumF, Nat.succ_mul]
    split <;> omega
theorem yd_le (sq : Nat → Nat) (s : Nat) : yd sq s ≤ 9 := by
  unfold yd
  split <;> omega
theorem yards_le {w h : Nat} (k : okS w h) (sq : Nat → Nat) (g : Nat) : sumF (yd sq) (w * h) g ≤ 90 := by
  have h1 := sumF_le (yd_le sq) g (w * h)
  have h2 : w * h * 9 ≤ 10 * 9 := Nat.mul_le_mul_right 9 k.2.2
  omega
theorem take_push {L : List Nat} {i : Nat} (hi : i < L.length) : L.take (i + 1) = L.take i ++ [L.getD i 0] := by
  rw [List.take_succ, List.getD_eq_getElem?_getD, List.getElem?_eq_getElem hi]
  rfl
def fewA (N : Nat → Nat) (q : Int32) (o : Option Nat) : Int32 := match o with
  | none => -1
  | some g => if q = 0 then nI g else nI (N g)
/-- the reference's search -/
theorem s_mfew {w h unn n : Nat} {Y : Nat → Nat} {L : List Nat} {p2 c : Int32} {aS aN aY : Nat → Int32} {aE : Nat → Int64} {Q : Int32 → (Int32 × (Nat → Int32) × (Nat → Int64) × (Nat → Int32) × (Nat → Int32)) → Prop} (hn : n ≤ 90) (hL : L.length ≤ 280) (hF : FLok w h unn Y L c aS aE aN aY) (hY : ∀ g, Y g ≤ 90) (hN : ∀ g ∈ L, pc (nds w h unn g) ≤ 31)
    (hQ : Q (fewA (fun g => pc (nds w h unn g)) p2 (fwL (fun g => pc (nds w h unn g)) Y n L)) (c, aS, aE, aN, aY)) : lp_X11_few_31 Q (nI n) p2 c aS aE aN aY (-1) 0 := by
  obtain ⟨F1, F2⟩ := hF
  obtain ⟨N, hNd⟩ : ∃ N : Nat → Nat, N = fun g => pc (nds w h unn g) := ⟨_, rfl⟩
  have hNL : ∀ i, i < L.length → N (L.getD i 0) ≤ 31 := fun i hi => by
    rw [hNd]
    apply hN
    rw [List.getD_eq_getElem?_getD, List.getElem?_eq_getElem hi]
    exact List.getElem_mem hi
  have F3 : ∀ i, i < L.length → aN i = nI (N (L.getD i 0)) := fun i hi => by rw [hNd]; exact (F2 i hi).2.2.1
  unfold lp_X11_few_31
  refine ⟨fun m x z => ∃ i, i ≤ L.length ∧ m = L.length - i ∧ z = nI i ∧ ((x = -1 ∧ fwL N Y n (L.take i) = none) ∨ ∃ t, t < i ∧ x = nI t ∧ fwL N Y n (L.take i) = some (L.getD t 0)), ⟨_, 0, Nat.zero_le _, rfl, rfl, Or.inl ⟨rfl, rfl⟩⟩, ?_⟩
  rintro m x z ⟨i, hi, rfl, rfl, hx⟩
  obtain ⟨B, hB⟩ : ∃ B : Int32 → Int32 → Prop, B = fun x z => ∃ n', n' < L.length - i ∧ ∃ i, i ≤ L.length ∧ n' = L.length - i ∧ z = nI i ∧ ((x = -1 ∧ fwL N Y n (L.take i) = none) ∨ ∃ t, t < i ∧ x = nI t ∧ fwL N Y n (L.take i) = some (L.getD t 0)) := ⟨_, rfl⟩
  rw [← hB]
  unfold bd_X11_few_31
  refine pk_le L.length i (fun q => ?_) (fun q => ?_) F1 rfl (by omega) (by omega)
  · have hie : i = L.length := by omega
    rw [hie, List.take_length] at hx
    have hQ : Q (fewA (fun g => pc (nds w h unn g)) p2 (fwL N Y n L)) (c, aS, aE, aN, aY) := by rw [hNd]; exact hQ
    rcases hx with ⟨rfl, h1⟩ | ⟨t, ht, rfl, h1⟩
    · rw [h1] at hQ
      exact ⟨fun z => absurd rfl z, fun _ => hQ⟩
    · rw [h1] at hQ
      have ht' : t < L.length := by omega
      have ct : (nI t).toNatClampNeg = t := z_cl (by omega)
      refine ⟨fun _ => ⟨fun z => ⟨pk_in t 280 (by omega), ?_⟩, fun z => ⟨pk_in t 280 (by omega), ?_⟩⟩, fun z => absurd z (z_m1 (by omega))⟩
      · have hQ : Q (if p2 = 0 then nI (L.getD t 0) else nI (pc (nds w h unn (L.getD t 0)))) (c, aS, aE, aN, aY) := hQ
        rw [if_neg z] at hQ
        rw [ct, (F2 t ht').2.2.1]
        exact hQ
      · have hQ : Q (if p2 = 0 then nI (L.getD t 0) else nI (pc (nds w h unn (L.getD t 0)))) (c, aS, aE, aN, aY) := hQ
        rw [if_pos z] at hQ
        rw [ct, (F2 t ht').1]
        exact hQ
  · have ci : (nI i).toNatClampNeg = i := z_cl (by omega)
    have ii : vp_in (nI i) 280 := pk_in i 280 (by omega)
    have next : ∀ x' : Int32, ((x' = -1 ∧ fwL N Y n (L.take (i + 1)) = none) ∨ ∃ t, t < i + 1 ∧ x' = nI t ∧ fwL N Y n (L.take (i + 1)) = some (L.getD t 0)) → bk_X11_few_78 Q B (nI i) x' := by
      intro x' hx'
      unfold bk_X11_few_78
      intro y10 e10
      rw [hB]
      exact ⟨L.length - (i + 1), by omega, i + 1, q, rfl, by rw [e10]; exact nI_1 i, hx'⟩
    have hpush : fwL N Y n (L.take (i + 1)) = fwS N Y n (fwL N Y n (L.take i)) (L.getD i 0) := by rw [take_push q, fwL_push]
    unfold bk_X11_few_77 bk_X11_few_72
    have hYi := hY (L.getD i 0)
    rw [ci, (F2 i q).2.2.2]
    have same : fwL N Y n (L.take (i + 1)) = fwL N Y n (L.take i) → bk_X11_few_78 Q B (nI i) x := by
      intro hs
      refine next x ?_
      rw [hs]
      rcases hx with h1 | ⟨t, h1, h2, h3⟩
      · exact Or.inl h1
      · exact Or.inr ⟨t, by omega, h2, h3⟩
    refine ⟨ii, ?_⟩
    refine pk_lt (Y (L.getD i 0)) n (fun q2 => ?_) (fun q2 => ?_) rfl rfl
    · exact same (by rw [hpush]; unfold fwS; rw [if_pos q2])
    · have hp2 : ∀ o, fwS N Y n o (L.getD i 0) = match o with | none => some (L.getD i 0) | some b => if N (L.getD i 0) < N b then some (L.getD i 0) else some b := by
        intro o
        unfold fwS
        rw [if_neg (by omega)]
        cases o <;> rfl
      rcases hx with ⟨rfl, h1⟩ | ⟨t, ht, rfl, h1⟩
      · refine ⟨fun _ => next _ (Or.inr ⟨i, by omega, rfl, ?_⟩), fun z => absurd rfl z⟩
        rw [hpush, h1, hp2]
      · have ht' : t < L.length := by omega
        have ct : (nI t).toNatClampNeg = t := z_cl (by omega)
        refine ⟨fun z => absurd z (z_m1 (by omega)), fun _ => ⟨ii, pk_in t 280 (by omega), ?_⟩⟩
        rw [ct, F3 t ht', F3 i q]
        have b1 := hNL t ht'
        have b2 := hNL i q
        refine pk_le (N (L.getD t 0)) (N (L.getD i 0)) (fun z => same ?_) (fun z => next _ (Or.inr ⟨i, by omega, rfl, ?_⟩)) rfl rfl
        · rw [hpush, h1, hp2]
          show (if N (L.getD i 0) < N (L.getD t 0) then some (L.getD i 0) else some (L.getD t 0)) = some (L.getD t 0)
          rw [if_neg (by omega)]
        · rw [hpush, h1, hp2]
          show (if N (L.getD i 0) < N (L.getD t 0) then some (L.getD i 0) else some (L.getD t 0)) = some (L.getD i 0)
          rw [if_pos z]
