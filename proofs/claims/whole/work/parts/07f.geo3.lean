section GEO
variable {w h : Nat}
theorem n10 (k : okS w h) : w * h ≤ 10 := k.2.2
theorem pow10 (k : okS w h) : 2 ^ (w * h) ≤ 1024 := Nat.pow_le_pow_right (by decide) k.2.2
theorem nb1_lt (k : okS w h) {s : Nat} (hs : s < w * h) : nb1 w h s < 2 ^ (w * h) := of_decide_eq_true (allB_iff.mp (allS_at geo_nb k) s hs)
theorem e4_lt (k : okS w h) {s : Nat} (hs : s < w * h) : e4 w h s < 2 ^ 31 := of_decide_eq_true (allB_iff.mp (allS_at geo_e4 k) s hs)
theorem edn_lt (k : okS w h) {s d : Nat} (hs : s < w * h) (hd : d < 4) : edn w h s d < 31 := of_decide_eq_true (allB_iff.mp (allB_iff.mp (allS_at geo_edn k) s hs) d hd)
theorem nbr_lt (k : okS w h) {s d q : Nat} (hs : s < w * h) (hd : d < 4) (hq : nbr w h s d = some q) : q < w * h := by
  have h1 := allB_iff.mp (allB_iff.mp (allS_at geo_nbr k) s hs) d hd
  rw [hq] at h1
  exact of_decide_eq_true h1
theorem bes_lt (k : okS w h) (set : Nat) : bes w h set < 2 ^ (w * h) := orF_lt (fun _ hs => nb1_lt k hs)
theorem lowb_le (set : Nat) : lowb set ≤ set := andn_le _ _
theorem gr_lt {set : Nat} (hs : set < 2 ^ (w * h)) : ∀ j, gr w h set j < 2 ^ (w * h)
  | 0 => Nat.lt_of_le_of_lt (lowb_le set) hs
  | j + 1 => by
    rw [gr]
    exact Nat.or_lt_two_pow (gr_lt hs j) (Nat.lt_of_le_of_lt Nat.and_le_right hs)
theorem besX_eq (k : okS w h) {set : Nat} (hs : set < 2 ^ (w * h)) : besX w (colL w (w * h) (w * h)) (colR w (w * h) (w * h)) (2 ^ (w * h) - 1) set = bes w h set := by
  have h1 := allS_at geo_bes k
  unfold withM at h1
  rw [force_eq, force_eq, force_eq] at h1
  exact (eq_of_beq (allB_iff.mp h1 set hs)).symm
theorem grX_eq (k : okS w h) {set : Nat} (hs : set < 2 ^ (w * h)) : ∀ i j, grX w (colL w (w * h) (w * h)) (colR w (w * h) (w * h)) (2 ^ (w * h) - 1) set i (gr w h set j) = gr w h set (j + i)
  | 0, j => rfl
  | i + 1, j => by
    rw [grX, force_eq, besX_eq k (gr_lt hs j)]
    have := grX_eq k hs i (j + 1)
    rw [gr] at this
    rw [this]
    congr 1
    omega
theorem conn_bm (k : okS w h) {set : Nat} (hs : set < 2 ^ (w * h)) : conn w h set = (bmT w h).testBit set := by
  have h1 := allS_at geo_bm k
  unfold withM at h1
  rw [force_eq, force_eq, force_eq, force_eq] at h1
  have h2 := eq_of_beq (allB_iff.mp h1 set hs)
  have h3 := grX_eq k hs 10 0
  rw [gr] at h3
  rw [h3] at h2
  exact h2
theorem conn_9 (k : okS w h) {set : Nat} (hs : set < 2 ^ (w * h)) : (gr w h set 9 == set) = conn w h set := by
  have h1 := allS_at geo_bm9 k
  unfold withM at h1
  rw [force_eq, force_eq, force_eq, force_eq] at h1
  have h2 := eq_of_beq (allB_iff.mp h1 set hs)
  have h3 := grX_eq k hs 9 0
  rw [gr] at h3
  rw [h3] at h2
  rw [conn_bm k hs]
  exact h2
theorem cl_eq (k : okS w h) : clT w h = (List.range (2 ^ (w * h))).filter (fun s => 0 < s && conn w h s) := by
  have h1 := allS_at geo_cl k
  rw [force_eq] at h1
  rw [eq_of_beq h1]
  apply List.filter_congr
  intro s hs
  rw [conn_bm k (List.mem_range.mp hs)]
theorem cl_mem (k : okS w h) {s : Nat} : s ∈ clT w h ↔ s < 2 ^ (w * h) ∧ 0 < s ∧ conn w h s = true := by
  rw [cl_eq k, List.mem_filter, List.mem_range]
  simp
theorem cl_280 (k : okS w h) : (clT w h).length ≤ 280 := of_decide_eq_true (allS_at geo_280 k)
theorem conn_un (k : okS w h) {a b : Nat} (ha : a < 2 ^ (w * h)) (ha0 : 0 < a) (hca : conn w h a = true) (hb : b < 2 ^ (w * h)) (hb0 : 0 < b) (hcb : conn w h b = true) (h0 : a &&& b = 0) (h1 : bes w h a &&& b ≠ 0) : conn w h (a ||| b) = true := by
  have h2 := allS_at geo_un k
  unfold withM at h2
  rw [force_eq, force_eq, force_eq, force_eq] at h2
  have h3 := List.all_eq_true.mp h2 a ((cl_mem k).mpr ⟨ha, ha0, hca⟩)
  rw [force_eq, besX_eq k ha] at h3
  have h4 := List.all_eq_true.mp h3 b ((cl_mem k).mpr ⟨hb, hb0, hcb⟩)
  rw [conn_bm k (Nat.or_lt_two_pow ha hb)]
  simp [h0, h1] at h4
  exact h4
theorem xor_bnd (k : okS w h) {set : Nat} (hs : set < 2 ^ (w * h)) : xorF (e4 w h) (w * h) set = bnd w h set := eq_of_beq (allB_iff.mp (allS_at geo_xor k) set hs)
theorem own_bit (k : okS w h) {s d p : Nat} (hs : s < w * h) (hd : d < 4) (hp : p < w * h) : (e4 w h p).testBit (edn w h s d) = (p == s || nbr w h s d == some p) := eq_of_beq (allB_iff.mp (allB_iff.mp (allB_iff.mp (allS_at geo_own k) s hs) d hd) p hp)
end GEO
