theorem dX0_putSpot_0 : decode cX0_putSpot 0 = .ok (.iload_n 1, 1) := by decide +kernel
theorem dX0_putSpot_1 : decode cX0_putSpot 1 = .ok (.ifCond .lt 23, 3) := by decide +kernel
theorem dX0_putSpot_4 : decode cX0_putSpot 4 = .ok (.iload_n 1, 1) := by decide +kernel
theorem dX0_putSpot_5 : decode cX0_putSpot 5 = .ok (.bipush 31, 2) := by decide +kernel
theorem dX0_putSpot_7 : decode cX0_putSpot 7 = .ok (.if_icmp .ge 17, 3) := by decide +kernel
theorem dX0_putSpot_10 : decode cX0_putSpot 10 = .ok (.aload_n 0, 1) := by decide +kernel
theorem dX0_putSpot_11 : decode cX0_putSpot 11 = .ok (.getfield 9, 3) := by decide +kernel
theorem dX0_putSpot_14 : decode cX0_putSpot 14 = .ok (.iload_n 1, 1) := by decide +kernel
theorem dX0_putSpot_15 : decode cX0_putSpot 15 = .ok (.iload_n 2, 1) := by decide +kernel
theorem dX0_putSpot_16 : decode cX0_putSpot 16 = .ok (.iastore, 1) := by decide +kernel
theorem dX0_putSpot_17 : decode cX0_putSpot 17 = .ok (.aload_n 0, 1) := by decide +kernel
theorem dX0_putSpot_18 : decode cX0_putSpot 18 = .ok (.getfield 15, 3) := by decide +kernel
theorem dX0_putSpot_21 : decode cX0_putSpot 21 = .ok (.iload_n 1, 1) := by decide +kernel
theorem dX0_putSpot_22 : decode cX0_putSpot 22 = .ok (.iload_n 3, 1) := by decide +kernel
theorem dX0_putSpot_23 : decode cX0_putSpot 23 = .ok (.iastore, 1) := by decide +kernel
theorem dX0_putSpot_24 : decode cX0_putSpot 24 = .ok (.return_, 1) := by decide +kernel
abbrev rm_X0_putSpot : Room := { frames := 0, cells := 0, slots := 0, locals := 0 }
theorem hd_X0_putSpot : yX0_putSpot.cls ≠ "java/lang/invoke/MethodHandle" ∧ yX0_putSpot.cls ≠ "java/lang/invoke/VarHandle" ∧ (parseMethodDescriptor yX0_putSpot.desc).map (fun d => d.parameters.length) = some 3 := by decide +kernel
def wp_X0_putSpot (p1 : Int32) (p2 : Int32) (p3 : Int32) (c_spotX : Nat → Int32) (c_spotY : Nat → Int32) (Q : ((Nat → Int32) × (Nat → Int32)) → Prop) : Prop :=
((p1 < 0 → Q (c_spotX, c_spotY)) ∧
(¬ p1 < 0 → ((31 ≤ p1 → Q (c_spotX, c_spotY)) ∧
(¬ 31 ≤ p1 → vp_in p1 31 ∧ (∀ f3 : Nat → Int32, f3 = (upd c_spotX p1.toNatClampNeg p2) →
vp_in p1 31 ∧ (∀ f4 : Nat → Int32, f4 = (upd c_spotY p1.toNatClampNeg p3) →
Q (f3, f4)))))))
set_option maxHeartbeats 4000000 in
set_option maxRecDepth 100000 in
theorem c_X0_putSpot {D : DG} {cyI cyJ cyZ : ClassId} {a_c a_c_spotX a_c_spotY a_c_toX a_c_toY a_c_fromX a_c_fromY a_c_edgeWorth a_c_placeWorth a_c_givenTo a_c_cameFrom a_c_slack a_c_seen : Nat} {c_edges : Int32} {c_places : Int32} {c_spotX : Nat → Int32} {c_spotY : Nat → Int32} {c_toX : Nat → Int32} {c_toY : Nat → Int32} {c_fromX : Nat → Int32} {c_fromY : Nat → Int32} {c_edgeWorth : Nat → Int32} {c_placeWorth : Nat → Int32} {c_givenTo : Nat → Int32} {c_cameFrom : Nat → Int32} {c_slack : Nat → Int32} {c_seen : Nat → Int32} {p1 : Int32} {p2 : Int32} {p3 : Int32} {Q : ((Nat → Int32) × (Nat → Int32)) → Prop} (h : wp_X0_putSpot p1 p2 p3 c_spotX c_spotY Q) :
    MetV yX0_putSpot cX0_putSpot 4 (none) rm_X0_putSpot D [(cyI, .int), (cyJ, .long), (cyZ, .boolean)] [.ref a_c, .int p1, .int p2, .int p3] (W_Car cyI cyJ cyZ a_c a_c_spotX a_c_spotY a_c_toX a_c_toY a_c_fromX a_c_fromY a_c_edgeWorth a_c_placeWorth a_c_givenTo a_c_cameFrom a_c_slack a_c_seen c_edges c_places c_spotX c_spotY c_toX c_toY c_fromX c_fromY c_edgeWorth c_placeWorth c_givenTo c_cameFrom c_slack c_seen) (fun u : (Nat → Int32) × (Nat → Int32) => (W_Car cyI cyJ cyZ a_c a_c_spotX a_c_spotY a_c_toX a_c_toY a_c_fromX a_c_fromY a_c_edgeWorth a_c_placeWorth a_c_givenTo a_c_cameFrom a_c_slack a_c_seen c_edges c_places u.1 u.2 c_toX c_toY c_fromX c_fromY c_edgeWorth c_placeWorth c_givenTo c_cameFrom c_slack c_seen)) (fun u => Q u) := by
  unfold wp_X0_putSpot at h
  refine metV_of (by decide) (Nat.le_of_ble_eq_true rfl) (fun x cx0 hR0 => ?_)
  have cx : Cx x cX0_putSpot 4 RX0 rm_X0_putSpot D [(cyI, .int), (cyJ, .long), (cyZ, .boolean)] := cx0
  have hR : ∀ (u : (Nat → Int32) × (Nat → Int32)) (pc : Nat) (lv : List (Nat × Value)), decode cX0_putSpot pc = .ok (.return_, 1) → Q u → J x 0 0 4 (W_Car cyI cyJ cyZ a_c a_c_spotX a_c_spotY a_c_toX a_c_toY a_c_fromX a_c_fromY a_c_edgeWorth a_c_placeWorth a_c_givenTo a_c_cameFrom a_c_slack a_c_seen c_edges c_places u.1 u.2 c_toX c_toY c_fromX c_fromY c_edgeWorth c_placeWorth c_givenTo c_cameFrom c_slack c_seen) lv pc [] := (fun u pc lv d hq => hR0 u pc lv d hq)
  show J x 0 0 4 (W_Car cyI cyJ cyZ a_c a_c_spotX a_c_spotY a_c_toX a_c_toY a_c_fromX a_c_fromY a_c_edgeWorth a_c_placeWorth a_c_givenTo a_c_cameFrom a_c_slack a_c_seen c_edges c_places c_spotX c_spotY c_toX c_toY c_fromX c_fromY c_edgeWorth c_placeWorth c_givenTo c_cameFrom c_slack c_seen) [(0, .ref a_c), (1, .int p1), (2, .int p2), (3, .int p3)] 0 []
  refine j_iload_n cx 1 rfl rfl dX0_putSpot_0 (pn := 1) rfl ?_
  refine j_if_lt cx 24 dX0_putSpot_1 (pn := 4) rfl rfl (fun c1 => ?_) (fun c1 => ?_)
  · have h := h.1 c1
    exact hR (c_spotX, c_spotY) 24 _ dX0_putSpot_24 h
  · have h := h.2 c1
    refine j_iload_n cx 1 rfl rfl dX0_putSpot_4 (pn := 5) rfl ?_
    refine j_bipush cx (v := 31) (by decide) dX0_putSpot_5 (pn := 7) rfl ?_
    refine j_icmp_ge cx 24 dX0_putSpot_7 (pn := 10) rfl rfl (fun c2 => ?_) (fun c2 => ?_)
    · have h := h.1 c2
      exact hR (c_spotX, c_spotY) 24 _ dX0_putSpot_24 h
    · have h := h.2 c2
      refine j_aload_n cx 0 rfl rfl dX0_putSpot_10 (pn := 11) rfl ?_
      refine j_get cx inGX0 0 rfl rfl 0 (by decide) q_fl_X0_9 rfl rfl dX0_putSpot_11 (pn := 14) rfl ?_
      refine j_iload_n cx 1 rfl rfl dX0_putSpot_14 (pn := 15) rfl ?_
      refine j_iload_n cx 2 rfl rfl dX0_putSpot_15 (pn := 16) rfl ?_
      have hin := h.1
      obtain ⟨f3, ef3⟩ : ∃ z, z = upd c_spotX p1.toNatClampNeg p2 := ⟨_, rfl⟩
      have h := h.2 f3 ef3
      refine j_iast cx 1 0 rfl rfl hin (W_Car cyI cyJ cyZ a_c a_c_spotX a_c_spotY a_c_toX a_c_toY a_c_fromX a_c_fromY a_c_edgeWorth a_c_placeWorth a_c_givenTo a_c_cameFrom a_c_slack a_c_seen c_edges c_places f3 c_spotY c_toX c_toY c_fromX c_fromY c_edgeWorth c_placeWorth c_givenTo c_cameFrom c_slack c_seen) (by subst ef3; rfl) dX0_putSpot_16 (pn := 17) rfl ?_
      refine j_aload_n cx 0 rfl rfl dX0_putSpot_17 (pn := 18) rfl ?_
      refine j_get cx inGX0 0 rfl rfl 1 (by decide) q_fl_X0_15 rfl rfl dX0_putSpot_18 (pn := 21) rfl ?_
      refine j_iload_n cx 1 rfl rfl dX0_putSpot_21 (pn := 22) rfl ?_
      refine j_iload_n cx 3 rfl rfl dX0_putSpot_22 (pn := 23) rfl ?_
      have hin := h.1
      obtain ⟨f4, ef4⟩ : ∃ z, z = upd c_spotY p1.toNatClampNeg p3 := ⟨_, rfl⟩
      have h := h.2 f4 ef4
      refine j_iast cx 2 0 rfl rfl hin (W_Car cyI cyJ cyZ a_c a_c_spotX a_c_spotY a_c_toX a_c_toY a_c_fromX a_c_fromY a_c_edgeWorth a_c_placeWorth a_c_givenTo a_c_cameFrom a_c_slack a_c_seen c_edges c_places f3 f4 c_toX c_toY c_fromX c_fromY c_edgeWorth c_placeWorth c_givenTo c_cameFrom c_slack c_seen) (by subst ef4; rfl) dX0_putSpot_23 (pn := 24) rfl ?_
      exact hR (f3, f4) 24 _ dX0_putSpot_24 h
theorem dX0_laySpots_0 : decode cX0_laySpots 0 = .ok (.iconst 0, 1) := by decide +kernel
theorem dX0_laySpots_1 : decode cX0_laySpots 1 = .ok (.istore_n 2, 1) := by decide +kernel
theorem dX0_laySpots_2 : decode cX0_laySpots 2 = .ok (.iload_n 2, 1) := by decide +kernel
theorem dX0_laySpots_3 : decode cX0_laySpots 3 = .ok (.aload_n 1, 1) := by decide +kernel
theorem dX0_laySpots_4 : decode cX0_laySpots 4 = .ok (.getfield 71, 3) := by decide +kernel
theorem dX0_laySpots_7 : decode cX0_laySpots 7 = .ok (.if_icmp .gt 79, 3) := by decide +kernel
theorem dX0_laySpots_10 : decode cX0_laySpots 10 = .ok (.iconst 0, 1) := by decide +kernel
theorem dX0_laySpots_11 : decode cX0_laySpots 11 = .ok (.istore_n 3, 1) := by decide +kernel
theorem dX0_laySpots_12 : decode cX0_laySpots 12 = .ok (.iload_n 3, 1) := by decide +kernel
theorem dX0_laySpots_13 : decode cX0_laySpots 13 = .ok (.aload_n 1, 1) := by decide +kernel
theorem dX0_laySpots_14 : decode cX0_laySpots 14 = .ok (.getfield 76, 3) := by decide +kernel
theorem dX0_laySpots_17 : decode cX0_laySpots 17 = .ok (.if_icmp .gt 63, 3) := by decide +kernel
theorem dX0_laySpots_20 : decode cX0_laySpots 20 = .ok (.iload_n 2, 1) := by decide +kernel
theorem dX0_laySpots_21 : decode cX0_laySpots 21 = .ok (.aload_n 1, 1) := by decide +kernel
theorem dX0_laySpots_22 : decode cX0_laySpots 22 = .ok (.getfield 71, 3) := by decide +kernel
theorem dX0_laySpots_25 : decode cX0_laySpots 25 = .ok (.if_icmp .ge 22, 3) := by decide +kernel
theorem dX0_laySpots_28 : decode cX0_laySpots 28 = .ok (.aload_n 0, 1) := by decide +kernel
theorem dX0_laySpots_29 : decode cX0_laySpots 29 = .ok (.aload_n 1, 1) := by decide +kernel
theorem dX0_laySpots_30 : decode cX0_laySpots 30 = .ok (.iload_n 3, 1) := by decide +kernel
theorem dX0_laySpots_31 : decode cX0_laySpots 31 = .ok (.iload_n 2, 1) := by decide +kernel
theorem dX0_laySpots_32 : decode cX0_laySpots 32 = .ok (.iconst 0, 1) := by decide +kernel
theorem dX0_laySpots_33 : decode cX0_laySpots 33 = .ok (.invokevirtual 79, 3) := by decide +kernel
theorem dX0_laySpots_36 : decode cX0_laySpots 36 = .ok (.iconst 2, 1) := by decide +kernel
theorem dX0_laySpots_37 : decode cX0_laySpots 37 = .ok (.iload_n 3, 1) := by decide +kernel
theorem dX0_laySpots_38 : decode cX0_laySpots 38 = .ok (.imul, 1) := by decide +kernel
theorem dX0_laySpots_39 : decode cX0_laySpots 39 = .ok (.iconst 2, 1) := by decide +kernel
theorem dX0_laySpots_40 : decode cX0_laySpots 40 = .ok (.iload_n 2, 1) := by decide +kernel
theorem dX0_laySpots_41 : decode cX0_laySpots 41 = .ok (.imul, 1) := by decide +kernel
theorem dX0_laySpots_42 : decode cX0_laySpots 42 = .ok (.iconst 1, 1) := by decide +kernel
theorem dX0_laySpots_43 : decode cX0_laySpots 43 = .ok (.iadd, 1) := by decide +kernel
theorem dX0_laySpots_44 : decode cX0_laySpots 44 = .ok (.invokevirtual 83, 3) := by decide +kernel
theorem dX0_laySpots_47 : decode cX0_laySpots 47 = .ok (.iload_n 3, 1) := by decide +kernel
theorem dX0_laySpots_48 : decode cX0_laySpots 48 = .ok (.aload_n 1, 1) := by decide +kernel
theorem dX0_laySpots_49 : decode cX0_laySpots 49 = .ok (.getfield 76, 3) := by decide +kernel
theorem dX0_laySpots_52 : decode cX0_laySpots 52 = .ok (.if_icmp .ge 22, 3) := by decide +kernel
theorem dX0_laySpots_55 : decode cX0_laySpots 55 = .ok (.aload_n 0, 1) := by decide +kernel
theorem dX0_laySpots_56 : decode cX0_laySpots 56 = .ok (.aload_n 1, 1) := by decide +kernel
theorem dX0_laySpots_57 : decode cX0_laySpots 57 = .ok (.iload_n 3, 1) := by decide +kernel
theorem dX0_laySpots_58 : decode cX0_laySpots 58 = .ok (.iload_n 2, 1) := by decide +kernel
theorem dX0_laySpots_59 : decode cX0_laySpots 59 = .ok (.iconst 2, 1) := by decide +kernel
theorem dX0_laySpots_60 : decode cX0_laySpots 60 = .ok (.invokevirtual 79, 3) := by decide +kernel
theorem dX0_laySpots_63 : decode cX0_laySpots 63 = .ok (.iconst 2, 1) := by decide +kernel
theorem dX0_laySpots_64 : decode cX0_laySpots 64 = .ok (.iload_n 3, 1) := by decide +kernel
theorem dX0_laySpots_65 : decode cX0_laySpots 65 = .ok (.imul, 1) := by decide +kernel
theorem dX0_laySpots_66 : decode cX0_laySpots 66 = .ok (.iconst 1, 1) := by decide +kernel
theorem dX0_laySpots_67 : decode cX0_laySpots 67 = .ok (.iadd, 1) := by decide +kernel
theorem dX0_laySpots_68 : decode cX0_laySpots 68 = .ok (.iconst 2, 1) := by decide +kernel
theorem dX0_laySpots_69 : decode cX0_laySpots 69 = .ok (.iload_n 2, 1) := by decide +kernel
theorem dX0_laySpots_70 : decode cX0_laySpots 70 = .ok (.imul, 1) := by decide +kernel
theorem dX0_laySpots_71 : decode cX0_laySpots 71 = .ok (.invokevirtual 83, 3) := by decide +kernel
theorem dX0_laySpots_74 : decode cX0_laySpots 74 = .ok (.iinc 3 1, 3) := by decide +kernel
theorem dX0_laySpots_77 : decode cX0_laySpots 77 = .ok (.goto (-65), 3) := by decide +kernel
theorem dX0_laySpots_80 : decode cX0_laySpots 80 = .ok (.iinc 2 1, 3) := by decide +kernel
theorem dX0_laySpots_83 : decode cX0_laySpots 83 = .ok (.goto (-81), 3) := by decide +kernel
theorem dX0_laySpots_86 : decode cX0_laySpots 86 = .ok (.return_, 1) := by decide +kernel
abbrev rm_X0_laySpots : Room := { frames := 1, cells := 0, slots := 0, locals := 23 }
theorem hd_X0_laySpots : yX0_laySpots.cls ≠ "java/lang/invoke/MethodHandle" ∧ yX0_laySpots.cls ≠ "java/lang/invoke/VarHandle" ∧ (parseMethodDescriptor yX0_laySpots.desc).map (fun d => d.parameters.length) = some 1 := by decide +kernel
def bk_X0_laySpots_74 (Q : ((Nat → Int32) × (Nat → Int32)) → Prop) (B2 : (Nat → Int32) → (Nat → Int32) → Int32 → Prop) (B12 : (Nat → Int32) → (Nat → Int32) → Int32 → Prop) (x3 : Int32) (c_spotX : Nat → Int32) (c_spotY : Nat → Int32) : Prop :=
∀ y6 : Int32, y6 = (x3 + 1) →
B12 c_spotX c_spotY y6
def bk_X0_laySpots_47 (Q : ((Nat → Int32) × (Nat → Int32)) → Prop) (B2 : (Nat → Int32) → (Nat → Int32) → Int32 → Prop) (B12 : (Nat → Int32) → (Nat → Int32) → Int32 → Prop) (x2 : Int32) (x3 : Int32) (c_spotX : Nat → Int32) (c_spotY : Nat → Int32) (g_columns : Int32) (g_rows : Int32) : Prop :=
((g_columns ≤ x3 → bk_X0_laySpots_74 Q B2 B12 x3 c_spotX c_spotY) ∧
(¬ g_columns ≤ x3 → wp_X4_edgeAt x3 x2 2 g_columns g_rows (fun (r7 : Int32) => wp_X0_putSpot r7 ((2 * x3) + 1) (2 * x2) c_spotX c_spotY (fun (u8 : (Nat → Int32) × (Nat → Int32)) => bk_X0_laySpots_74 Q B2 B12 x3 u8.1 u8.2))))
def bd_X0_laySpots_12 (Q : ((Nat → Int32) × (Nat → Int32)) → Prop) (B2 : (Nat → Int32) → (Nat → Int32) → Int32 → Prop) (B12 : (Nat → Int32) → (Nat → Int32) → Int32 → Prop) (x2 : Int32) (g_columns : Int32) (g_rows : Int32) (c_spotX : Nat → Int32) (c_spotY : Nat → Int32) (x3 : Int32) : Prop :=
((g_columns < x3 → ∀ y3 : Int32, y3 = (x2 + 1) →
B2 c_spotX c_spotY y3) ∧
(¬ g_columns < x3 → ((g_rows ≤ x2 → bk_X0_laySpots_47 Q B2 B12 x2 x3 c_spotX c_spotY g_columns g_rows) ∧
(¬ g_rows ≤ x2 → wp_X4_edgeAt x3 x2 0 g_columns g_rows (fun (r9 : Int32) => wp_X0_putSpot r9 (2 * x3) ((2 * x2) + 1) c_spotX c_spotY (fun (u10 : (Nat → Int32) × (Nat → Int32)) => bk_X0_laySpots_47 Q B2 B12 x2 x3 u10.1 u10.2 g_columns g_rows))))))
def lp_X0_laySpots_12 (Q : ((Nat → Int32) × (Nat → Int32)) → Prop) (B2 : (Nat → Int32) → (Nat → Int32) → Int32 → Prop) (x2 : Int32) (g_columns : Int32) (g_rows : Int32) (c_spotX : Nat → Int32) (c_spotY : Nat → Int32) (x3 : Int32) : Prop :=
∃ I : Nat → (Nat → Int32) → (Nat → Int32) → Int32 → Prop, (∃ n, I n c_spotX c_spotY x3) ∧ ∀ n c_spotX c_spotY x3, I n c_spotX c_spotY x3 → bd_X0_laySpots_12 Q B2 (fun c_spotX' c_spotY' x3' => ∃ n', n' < n ∧ I n' c_spotX' c_spotY' x3') x2 g_columns g_rows c_spotX c_spotY x3
def bd_X0_laySpots_2 (Q : ((Nat → Int32) × (Nat → Int32)) → Prop) (B2 : (Nat → Int32) → (Nat → Int32) → Int32 → Prop) (g_columns : Int32) (g_rows : Int32) (c_spotX : Nat → Int32) (c_spotY : Nat → Int32) (x2 : Int32) : Prop :=
((g_rows < x2 → Q (c_spotX, c_spotY)) ∧
(¬ g_rows < x2 → lp_X0_laySpots_12 Q B2 x2 g_columns g_rows c_spotX c_spotY 0))
def lp_X0_laySpots_2 (Q : ((Nat → Int32) × (Nat → Int32)) → Prop) (g_columns : Int32) (g_rows : Int32) (c_spotX : Nat → Int32) (c_spotY : Nat → Int32) (x2 : Int32) : Prop :=
∃ I : Nat → (Nat → Int32) → (Nat → Int32) → Int32 → Prop, (∃ n, I n c_spotX c_spotY x2) ∧ ∀ n c_spotX c_spotY x2, I n c_spotX c_spotY x2 → bd_X0_laySpots_2 Q  (fun c_spotX' c_spotY' x2' => ∃ n', n' < n ∧ I n' c_spotX' c_spotY' x2') g_columns g_rows c_spotX c_spotY x2
def wp_X0_laySpots (c_spotX : Nat → Int32) (c_spotY : Nat → Int32) (g_columns : Int32) (g_rows : Int32) (Q : ((Nat → Int32) × (Nat → Int32)) → Prop) : Prop :=
lp_X0_laySpots_2 Q g_columns g_rows c_spotX c_spotY 0
set_option maxHeartbeats 4000000 in
set_option maxRecDepth 100000 in
theorem J_X0_laySpots_74 {x : CX} {D : DG} {cyI cyJ cyZ : ClassId} {a_c a_c_spotX a_c_spotY a_c_toX a_c_toY a_c_fromX a_c_fromY a_c_edgeWorth a_c_placeWorth a_c_givenTo a_c_cameFrom a_c_slack a_c_seen a_g a_g_kinds a_g_wants : Nat} {c_edges : Int32} {c_places : Int32} {c_spotX : Nat → Int32} {c_spotY : Nat → Int32} {c_toX : Nat → Int32} {c_toY : Nat → Int32} {c_fromX : Nat → Int32} {c_fromY : Nat → Int32} {c_edgeWorth : Nat → Int32} {c_placeWorth : Nat → Int32} {c_givenTo : Nat → Int32} {c_cameFrom : Nat → Int32} {c_slack : Nat → Int32} {c_seen : Nat → Int32} {g_columns : Int32} {g_rows : Int32} {g_hedges : Int32} {g_hurdles : Int32} {g_wantCount : Int32} {g_rest : Int32} {g_frozen : Int32} {g_kinds : Nat → Int32} {g_wants : Nat → Int32} {x2 : Int32} {x3 : Int32} {Q : ((Nat → Int32) × (Nat → Int32)) → Prop} {B2 : (Nat → Int32) → (Nat → Int32) → Int32 → Prop} {B12 : (Nat → Int32) → (Nat → Int32) → Int32 → Prop} (cx : Cx x cX0_laySpots 4 RX0 rm_X0_laySpots D [(cyI, .int), (cyJ, .long), (cyZ, .boolean)]) (hR : ∀ (u : (Nat → Int32) × (Nat → Int32)) (pc : Nat) (lv : List (Nat × Value)), decode cX0_laySpots pc = .ok (.return_, 1) → Q u → J x 0 0 4 (W_CarG cyI cyJ cyZ a_c a_c_spotX a_c_spotY a_c_toX a_c_toY a_c_fromX a_c_fromY a_c_edgeWorth a_c_placeWorth a_c_givenTo a_c_cameFrom a_c_slack a_c_seen a_g a_g_kinds a_g_wants c_edges c_places u.1 u.2 c_toX c_toY c_fromX c_fromY c_edgeWorth c_placeWorth c_givenTo c_cameFrom c_slack c_seen g_columns g_rows g_hedges g_hurdles g_wantCount g_rest g_frozen g_kinds g_wants) lv pc []) (hB2 : ∀ (c_spotX : Nat → Int32) (c_spotY : Nat → Int32) (x2 : Int32), B2 c_spotX c_spotY x2 → J x 0 0 4 (W_CarG cyI cyJ cyZ a_c a_c_spotX a_c_spotY a_c_toX a_c_toY a_c_fromX a_c_fromY a_c_edgeWorth a_c_placeWorth a_c_givenTo a_c_cameFrom a_c_slack a_c_seen a_g a_g_kinds a_g_wants c_edges c_places c_spotX c_spotY c_toX c_toY c_fromX c_fromY c_edgeWorth c_placeWorth c_givenTo c_cameFrom c_slack c_seen g_columns g_rows g_hedges g_hurdles g_wantCount g_rest g_frozen g_kinds g_wants) [(0, .ref a_c), (1, .ref a_g), (2, .int x2)] 2 []) (hB12 : ∀ (c_spotX : Nat → Int32) (c_spotY : Nat → Int32) (x3 : Int32), B12 c_spotX c_spotY x3 → J x 0 0 4 (W_CarG cyI cyJ cyZ a_c a_c_spotX a_c_spotY a_c_toX a_c_toY a_c_fromX a_c_fromY a_c_edgeWorth a_c_placeWorth a_c_givenTo a_c_cameFrom a_c_slack a_c_seen a_g a_g_kinds a_g_wants c_edges c_places c_spotX c_spotY c_toX c_toY c_fromX c_fromY c_edgeWorth c_placeWorth c_givenTo c_cameFrom c_slack c_seen g_columns g_rows g_hedges g_hurdles g_wantCount g_rest g_frozen g_kinds g_wants) [(0, .ref a_c), (1, .ref a_g), (2, .int x2), (3, .int x3)] 12 []) (h : bk_X0_laySpots_74 Q B2 B12 x3 c_spotX c_spotY) :
    J x 0 0 4 (W_CarG cyI cyJ cyZ a_c a_c_spotX a_c_spotY a_c_toX a_c_toY a_c_fromX a_c_fromY a_c_edgeWorth a_c_placeWorth a_c_givenTo a_c_cameFrom a_c_slack a_c_seen a_g a_g_kinds a_g_wants c_edges c_places c_spotX c_spotY c_toX c_toY c_fromX c_fromY c_edgeWorth c_placeWorth c_givenTo c_cameFrom c_slack c_seen g_columns g_rows g_hedges g_hurdles g_wantCount g_rest g_frozen g_kinds g_wants) [(0, .ref a_c), (1, .ref a_g), (2, .int x2), (3, .int x3)] 74 [] := by
  unfold bk_X0_laySpots_74 at h
  obtain ⟨y6, ey6⟩ : ∃ z : Int32, z = x3 + 1 := ⟨_, rfl⟩
  have h := h y6 ey6
  refine j_iinc cx 3 rfl (cst := 1) (by decide) ey6 [(3, .int y6), (0, .ref a_c), (1, .ref a_g), (2, .int x2)] (by decide) rfl dX0_laySpots_74 (pn := 77) rfl ?_
  refine j_goto cx 12 dX0_laySpots_77 rfl ?_
  refine j_sub [1, 2, 3, 0] [(0, .ref a_c), (1, .ref a_g), (2, .int x2), (3, .int y6)] rfl ?_
  exact hB12 _ _ _ h
set_option maxHeartbeats 4000000 in
set_option maxRecDepth 100000 in
theorem J_X0_laySpots_47 {x : CX} {D : DG} {cyI cyJ cyZ : ClassId} {a_c a_c_spotX a_c_spotY a_c_toX a_c_toY a_c_fromX a_c_fromY a_c_edgeWorth a_c_placeWorth a_c_givenTo a_c_cameFrom a_c_slack a_c_seen a_g a_g_kinds a_g_wants : Nat} {c_edges : Int32} {c_places : Int32} {c_spotX : Nat → Int32} {c_spotY : Nat → Int32} {c_toX : Nat → Int32} {c_toY : Nat → Int32} {c_fromX : Nat → Int32} {c_fromY : Nat → Int32} {c_edgeWorth : Nat → Int32} {c_placeWorth : Nat → Int32} {c_givenTo : Nat → Int32} {c_cameFrom : Nat → Int32} {c_slack : Nat → Int32} {c_seen : Nat → Int32} {g_columns : Int32} {g_rows : Int32} {g_hedges : Int32} {g_hurdles : Int32} {g_wantCount : Int32} {g_rest : Int32} {g_frozen : Int32} {g_kinds : Nat → Int32} {g_wants : Nat → Int32} {x2 : Int32} {x3 : Int32} {Q : ((Nat → Int32) × (Nat → Int32)) → Prop} {B2 : (Nat → Int32) → (Nat → Int32) → Int32 → Prop} {B12 : (Nat → Int32) → (Nat → Int32) → Int32 → Prop} (cx : Cx x cX0_laySpots 4 RX0 rm_X0_laySpots D [(cyI, .int), (cyJ, .long), (cyZ, .boolean)]) (hR : ∀ (u : (Nat → Int32) × (Nat → Int32)) (pc : Nat) (lv : List (Nat × Value)), decode cX0_laySpots pc = .ok (.return_, 1) → Q u → J x 0 0 4 (W_CarG cyI cyJ cyZ a_c a_c_spotX a_c_spotY a_c_toX a_c_toY a_c_fromX a_c_fromY a_c_edgeWorth a_c_placeWorth a_c_givenTo a_c_cameFrom a_c_slack a_c_seen a_g a_g_kinds a_g_wants c_edges c_places u.1 u.2 c_toX c_toY c_fromX c_fromY c_edgeWorth c_placeWorth c_givenTo c_cameFrom c_slack c_seen g_columns g_rows g_hedges g_hurdles g_wantCount g_rest g_frozen g_kinds g_wants) lv pc []) (hB2 : ∀ (c_spotX : Nat → Int32) (c_spotY : Nat → Int32) (x2 : Int32), B2 c_spotX c_spotY x2 → J x 0 0 4 (W_CarG cyI cyJ cyZ a_c a_c_spotX a_c_spotY a_c_toX a_c_toY a_c_fromX a_c_fromY a_c_edgeWorth a_c_placeWorth a_c_givenTo a_c_cameFrom a_c_slack a_c_seen a_g a_g_kinds a_g_wants c_edges c_places c_spotX c_spotY c_toX c_toY c_fromX c_fromY c_edgeWorth c_placeWorth c_givenTo c_cameFrom c_slack c_seen g_columns g_rows g_hedges g_hurdles g_wantCount g_rest g_frozen g_kinds g_wants) [(0, .ref a_c), (1, .ref a_g), (2, .int x2)] 2 []) (hB12 : ∀ (c_spotX : Nat → Int32) (c_spotY : Nat → Int32) (x3 : Int32), B12 c_spotX c_spotY x3 → J x 0 0 4 (W_CarG cyI cyJ cyZ a_c a_c_spotX a_c_spotY a_c_toX a_c_toY a_c_fromX a_c_fromY a_c_edgeWorth a_c_placeWorth a_c_givenTo a_c_cameFrom a_c_slack a_c_seen a_g a_g_kinds a_g_wants c_edges c_places c_spotX c_spotY c_toX c_toY c_fromX c_fromY c_edgeWorth c_placeWorth c_givenTo c_cameFrom c_slack c_seen g_columns g_rows g_hedges g_hurdles g_wantCount g_rest g_frozen g_kinds g_wants) [(0, .ref a_c), (1, .ref a_g), (2, .int x2), (3, .int x3)] 12 []) (h : bk_X0_laySpots_47 Q B2 B12 x2 x3 c_spotX c_spotY g_columns g_rows) :
    J x 0 0 4 (W_CarG cyI cyJ cyZ a_c a_c_spotX a_c_spotY a_c_toX a_c_toY a_c_fromX a_c_fromY a_c_edgeWorth a_c_placeWorth a_c_givenTo a_c_cameFrom a_c_slack a_c_seen a_g a_g_kinds a_g_wants c_edges c_places c_spotX c_spotY c_toX c_toY c_fromX c_fromY c_edgeWorth c_placeWorth c_givenTo c_cameFrom c_slack c_seen g_columns g_rows g_hedges g_hurdles g_wantCount g_rest g_frozen g_kinds g_wants) [(0, .ref a_c), (1, .ref a_g), (2, .int x2), (3, .int x3)] 47 [] := by
  unfold bk_X0_laySpots_47 at h
  refine j_iload_n cx 3 rfl rfl dX0_laySpots_47 (pn := 48) rfl ?_
  refine j_aload_n cx 1 rfl rfl dX0_laySpots_48 (pn := 49) rfl ?_
  refine j_getN cx inGX4 13 rfl rfl 2 (by decide) q_fl_X0_76 rfl rfl dX0_laySpots_49 (pn := 52) rfl ?_
  refine j_icmp_ge cx 74 dX0_laySpots_52 (pn := 55) rfl rfl (fun c5 => ?_) (fun c5 => ?_)
  · have h := h.1 c5
    exact J_X0_laySpots_74 cx hR hB2 hB12 h
  · have h := h.2 c5
    refine j_aload_n cx 0 rfl rfl dX0_laySpots_55 (pn := 56) rfl ?_
    refine j_aload_n cx 1 rfl rfl dX0_laySpots_56 (pn := 57) rfl ?_
    refine j_iload_n cx 3 rfl rfl dX0_laySpots_57 (pn := 58) rfl ?_
    refine j_iload_n cx 2 rfl rfl dX0_laySpots_58 (pn := 59) rfl ?_
    refine j_iconst cx (v := 2) (by decide) dX0_laySpots_59 (pn := 60) rfl ?_
    refine j_callvI cx q_inst_X4_edgeAt q_sel_X4_edgeAt (b := a_g) (As := [.int x3, .int x2, .int 2]) (rest := [.ref a_c]) (W_Ground cyI cyJ cyZ a_g a_g_kinds a_g_wants g_columns g_rows g_hedges g_hurdles g_wantCount g_rest g_frozen g_kinds g_wants) [(a_c, .inr (0, [.ref a_c_spotX, .ref a_c_spotY, .ref a_c_toX, .ref a_c_toY, .ref a_c_fromX, .ref a_c_fromY, .ref a_c_edgeWorth, .ref a_c_placeWorth, .ref a_c_givenTo, .ref a_c_cameFrom, .ref a_c_slack, .ref a_c_seen, .int c_edges, .int c_places])), (a_c_spotX, .inl (cyI, 31, .inl c_spotX)), (a_c_spotY, .inl (cyI, 31, .inl c_spotY)), (a_c_toX, .inl (cyI, 32, .inl c_toX)), (a_c_toY, .inl (cyI, 32, .inl c_toY)), (a_c_fromX, .inl (cyI, 63, .inl c_fromX)), (a_c_fromY, .inl (cyI, 63, .inl c_fromY)), (a_c_edgeWorth, .inl (cyI, 32, .inl c_edgeWorth)), (a_c_placeWorth, .inl (cyI, 63, .inl c_placeWorth)), (a_c_givenTo, .inl (cyI, 63, .inl c_givenTo)), (a_c_cameFrom, .inl (cyI, 63, .inl c_cameFrom)), (a_c_slack, .inl (cyI, 63, .inl c_slack)), (a_c_seen, .inl (cyI, 63, .inl c_seen))] (c_X4_edgeAt h) ⟨q_code_X4_edgeAt, q_ml_X0_79, q_init_X4, hd_X4_edgeAt, ⟨Nat.le_of_ble_eq_true rfl, Nat.le_of_ble_eq_true rfl⟩, Nat.le_of_ble_eq_true rfl, Nat.le_of_ble_eq_true rfl⟩ (q0 := 0) rfl rfl rfl [13, 14, 15] [0, 1, 2, 3, 4, 5, 6, 7, 8, 9, 10, 11, 12] [0, 1, 2, 3, 4, 5, 6, 7, 8, 9, 10, 11, 12, 13, 14, 15] rfl rfl rfl rfl rfl (by decide) (fun _ : Unit => (W_CarG cyI cyJ cyZ a_c a_c_spotX a_c_spotY a_c_toX a_c_toY a_c_fromX a_c_fromY a_c_edgeWorth a_c_placeWorth a_c_givenTo a_c_cameFrom a_c_slack a_c_seen a_g a_g_kinds a_g_wants c_edges c_places c_spotX c_spotY c_toX c_toY c_fromX c_fromY c_edgeWorth c_placeWorth c_givenTo c_cameFrom c_slack c_seen g_columns g_rows g_hedges g_hurdles g_wantCount g_rest g_frozen g_kinds g_wants)) (fun _ => rfl) (fun _ => rfl) rfl rfl (Nat.le_of_ble_eq_true rfl) dX0_laySpots_60 (pn := 63) rfl (fun r7 _ h => ?_)
    show J x 0 0 4 (W_CarG cyI cyJ cyZ a_c a_c_spotX a_c_spotY a_c_toX a_c_toY a_c_fromX a_c_fromY a_c_edgeWorth a_c_placeWorth a_c_givenTo a_c_cameFrom a_c_slack a_c_seen a_g a_g_kinds a_g_wants c_edges c_places c_spotX c_spotY c_toX c_toY c_fromX c_fromY c_edgeWorth c_placeWorth c_givenTo c_cameFrom c_slack c_seen g_columns g_rows g_hedges g_hurdles g_wantCount g_rest g_frozen g_kinds g_wants) [(0, .ref a_c), (1, .ref a_g), (2, .int x2), (3, .int x3)] 63 [.int r7, .ref a_c]
    refine j_iconst cx (v := 2) (by decide) dX0_laySpots_63 (pn := 64) rfl ?_
    refine j_iload_n cx 3 rfl rfl dX0_laySpots_64 (pn := 65) rfl ?_
    refine j_imul cx dX0_laySpots_65 (pn := 66) rfl ?_
    refine j_iconst cx (v := 1) (by decide) dX0_laySpots_66 (pn := 67) rfl ?_
    refine j_iadd cx dX0_laySpots_67 (pn := 68) rfl ?_
    refine j_iconst cx (v := 2) (by decide) dX0_laySpots_68 (pn := 69) rfl ?_
    refine j_iload_n cx 2 rfl rfl dX0_laySpots_69 (pn := 70) rfl ?_
    refine j_imul cx dX0_laySpots_70 (pn := 71) rfl ?_
    refine j_callvV cx q_inst_X0_putSpot q_sel_X0_putSpot (b := a_c) (As := [.int r7, .int ((2 * x3) + 1), .int (2 * x2)]) (rest := []) (W_Car cyI cyJ cyZ a_c a_c_spotX a_c_spotY a_c_toX a_c_toY a_c_fromX a_c_fromY a_c_edgeWorth a_c_placeWorth a_c_givenTo a_c_cameFrom a_c_slack a_c_seen c_edges c_places c_spotX c_spotY c_toX c_toY c_fromX c_fromY c_edgeWorth c_placeWorth c_givenTo c_cameFrom c_slack c_seen) [(a_g, .inr (4, [.ref a_g_kinds, .ref a_g_wants, .int g_columns, .int g_rows, .int g_hedges, .int g_hurdles, .int g_wantCount, .int g_rest, .int g_frozen])), (a_g_kinds, .inl (cyI, 10, .inl g_kinds)), (a_g_wants, .inl (cyI, 7, .inl g_wants))] (c_X0_putSpot h) ⟨q_code_X0_putSpot, q_ml_X0_83, q_init_X0, hd_X0_putSpot, ⟨Nat.le_of_ble_eq_true rfl, Nat.le_of_ble_eq_true rfl⟩, Nat.le_of_ble_eq_true rfl, Nat.le_of_ble_eq_true rfl⟩ (q0 := 0) rfl rfl rfl [0, 1, 2, 3, 4, 5, 6, 7, 8, 9, 10, 11, 12] [13, 14, 15] [3, 4, 5, 6, 7, 8, 9, 10, 11, 12, 13, 14, 15, 0, 1, 2] rfl rfl rfl rfl rfl (by decide) (fun u : (Nat → Int32) × (Nat → Int32) => (W_CarG cyI cyJ cyZ a_c a_c_spotX a_c_spotY a_c_toX a_c_toY a_c_fromX a_c_fromY a_c_edgeWorth a_c_placeWorth a_c_givenTo a_c_cameFrom a_c_slack a_c_seen a_g a_g_kinds a_g_wants c_edges c_places u.1 u.2 c_toX c_toY c_fromX c_fromY c_edgeWorth c_placeWorth c_givenTo c_cameFrom c_slack c_seen g_columns g_rows g_hedges g_hurdles g_wantCount g_rest g_frozen g_kinds g_wants)) (fun _ => rfl) (fun _ => rfl) rfl rfl (Nat.le_of_ble_eq_true rfl) dX0_laySpots_71 (pn := 74) rfl (fun u8 h => ?_)
    show J x 0 0 4 (W_CarG cyI cyJ cyZ a_c a_c_spotX a_c_spotY a_c_toX a_c_toY a_c_fromX a_c_fromY a_c_edgeWorth a_c_placeWorth a_c_givenTo a_c_cameFrom a_c_slack a_c_seen a_g a_g_kinds a_g_wants c_edges c_places u8.1 u8.2 c_toX c_toY c_fromX c_fromY c_edgeWorth c_placeWorth c_givenTo c_cameFrom c_slack c_seen g_columns g_rows g_hedges g_hurdles g_wantCount g_rest g_frozen g_kinds g_wants) [(0, .ref a_c), (1, .ref a_g), (2, .int x2), (3, .int x3)] 74 []
    exact J_X0_laySpots_74 cx hR hB2 hB12 h
set_option maxHeartbeats 4000000 in
set_option maxRecDepth 100000 in
theorem B_X0_laySpots_12 {x : CX} {D : DG} {cyI cyJ cyZ : ClassId} {a_c a_c_spotX a_c_spotY a_c_toX a_c_toY a_c_fromX a_c_fromY a_c_edgeWorth a_c_placeWorth a_c_givenTo a_c_cameFrom a_c_slack a_c_seen a_g a_g_kinds a_g_wants : Nat} {c_edges : Int32} {c_places : Int32} {c_spotX : Nat → Int32} {c_spotY : Nat → Int32} {c_toX : Nat → Int32} {c_toY : Nat → Int32} {c_fromX : Nat → Int32} {c_fromY : Nat → Int32} {c_edgeWorth : Nat → Int32} {c_placeWorth : Nat → Int32} {c_givenTo : Nat → Int32} {c_cameFrom : Nat → Int32} {c_slack : Nat → Int32} {c_seen : Nat → Int32} {g_columns : Int32} {g_rows : Int32} {g_hedges : Int32} {g_hurdles : Int32} {g_wantCount : Int32} {g_rest : Int32} {g_frozen : Int32} {g_kinds : Nat → Int32} {g_wants : Nat → Int32} {x2 : Int32} {x3 : Int32} {Q : ((Nat → Int32) × (Nat → Int32)) → Prop} {B2 : (Nat → Int32) → (Nat → Int32) → Int32 → Prop} {B12 : (Nat → Int32) → (Nat → Int32) → Int32 → Prop} (cx : Cx x cX0_laySpots 4 RX0 rm_X0_laySpots D [(cyI, .int), (cyJ, .long), (cyZ, .boolean)]) (hR : ∀ (u : (Nat → Int32) × (Nat → Int32)) (pc : Nat) (lv : List (Nat × Value)), decode cX0_laySpots pc = .ok (.return_, 1) → Q u → J x 0 0 4 (W_CarG cyI cyJ cyZ a_c a_c_spotX a_c_spotY a_c_toX a_c_toY a_c_fromX a_c_fromY a_c_edgeWorth a_c_placeWorth a_c_givenTo a_c_cameFrom a_c_slack a_c_seen a_g a_g_kinds a_g_wants c_edges c_places u.1 u.2 c_toX c_toY c_fromX c_fromY c_edgeWorth c_placeWorth c_givenTo c_cameFrom c_slack c_seen g_columns g_rows g_hedges g_hurdles g_wantCount g_rest g_frozen g_kinds g_wants) lv pc []) (hB2 : ∀ (c_spotX : Nat → Int32) (c_spotY : Nat → Int32) (x2 : Int32), B2 c_spotX c_spotY x2 → J x 0 0 4 (W_CarG cyI cyJ cyZ a_c a_c_spotX a_c_spotY a_c_toX a_c_toY a_c_fromX a_c_fromY a_c_edgeWorth a_c_placeWorth a_c_givenTo a_c_cameFrom a_c_slack a_c_seen a_g a_g_kinds a_g_wants c_edges c_places c_spotX c_spotY c_toX c_toY c_fromX c_fromY c_edgeWorth c_placeWorth c_givenTo c_cameFrom c_slack c_seen g_columns g_rows g_hedges g_hurdles g_wantCount g_rest g_frozen g_kinds g_wants) [(0, .ref a_c), (1, .ref a_g), (2, .int x2)] 2 []) (hB12 : ∀ (c_spotX : Nat → Int32) (c_spotY : Nat → Int32) (x3 : Int32), B12 c_spotX c_spotY x3 → J x 0 0 4 (W_CarG cyI cyJ cyZ a_c a_c_spotX a_c_spotY a_c_toX a_c_toY a_c_fromX a_c_fromY a_c_edgeWorth a_c_placeWorth a_c_givenTo a_c_cameFrom a_c_slack a_c_seen a_g a_g_kinds a_g_wants c_edges c_places c_spotX c_spotY c_toX c_toY c_fromX c_fromY c_edgeWorth c_placeWorth c_givenTo c_cameFrom c_slack c_seen g_columns g_rows g_hedges g_hurdles g_wantCount g_rest g_frozen g_kinds g_wants) [(0, .ref a_c), (1, .ref a_g), (2, .int x2), (3, .int x3)] 12 []) (h : bd_X0_laySpots_12 Q B2 B12 x2 g_columns g_rows c_spotX c_spotY x3) :
    J x 0 0 4 (W_CarG cyI cyJ cyZ a_c a_c_spotX a_c_spotY a_c_toX a_c_toY a_c_fromX a_c_fromY a_c_edgeWorth a_c_placeWorth a_c_givenTo a_c_cameFrom a_c_slack a_c_seen a_g a_g_kinds a_g_wants c_edges c_places c_spotX c_spotY c_toX c_toY c_fromX c_fromY c_edgeWorth c_placeWorth c_givenTo c_cameFrom c_slack c_seen g_columns g_rows g_hedges g_hurdles g_wantCount g_rest g_frozen g_kinds g_wants) [(0, .ref a_c), (1, .ref a_g), (2, .int x2), (3, .int x3)] 12 [] := by
  unfold bd_X0_laySpots_12 at h
  refine j_iload_n cx 3 rfl rfl dX0_laySpots_12 (pn := 13) rfl ?_
  refine j_aload_n cx 1 rfl rfl dX0_laySpots_13 (pn := 14) rfl ?_
  refine j_getN cx inGX4 13 rfl rfl 2 (by decide) q_fl_X0_76 rfl rfl dX0_laySpots_14 (pn := 17) rfl ?_
  refine j_icmp_gt cx 80 dX0_laySpots_17 (pn := 20) rfl rfl (fun c2 => ?_) (fun c2 => ?_)
  · have h := h.1 c2
    obtain ⟨y3, ey3⟩ : ∃ z : Int32, z = x2 + 1 := ⟨_, rfl⟩
    have h := h y3 ey3
    refine j_iinc cx 2 rfl (cst := 1) (by decide) ey3 [(2, .int y3), (0, .ref a_c), (1, .ref a_g), (3, .int x3)] (by decide) rfl dX0_laySpots_80 (pn := 83) rfl ?_
    refine j_goto cx 2 dX0_laySpots_83 rfl ?_
    refine j_sub [1, 2, 0] [(0, .ref a_c), (1, .ref a_g), (2, .int y3)] rfl ?_
    exact hB2 _ _ _ h
  · have h := h.2 c2
    refine j_iload_n cx 2 rfl rfl dX0_laySpots_20 (pn := 21) rfl ?_
    refine j_aload_n cx 1 rfl rfl dX0_laySpots_21 (pn := 22) rfl ?_
    refine j_getN cx inGX4 13 rfl rfl 3 (by decide) q_fl_X0_71 rfl rfl dX0_laySpots_22 (pn := 25) rfl ?_
    refine j_icmp_ge cx 47 dX0_laySpots_25 (pn := 28) rfl rfl (fun c4 => ?_) (fun c4 => ?_)
    · have h := h.1 c4
      exact J_X0_laySpots_47 cx hR hB2 hB12 h
    · have h := h.2 c4
      refine j_aload_n cx 0 rfl rfl dX0_laySpots_28 (pn := 29) rfl ?_
      refine j_aload_n cx 1 rfl rfl dX0_laySpots_29 (pn := 30) rfl ?_
      refine j_iload_n cx 3 rfl rfl dX0_laySpots_30 (pn := 31) rfl ?_
      refine j_iload_n cx 2 rfl rfl dX0_laySpots_31 (pn := 32) rfl ?_
      refine j_iconst cx (v := 0) (by decide) dX0_laySpots_32 (pn := 33) rfl ?_
      refine j_callvI cx q_inst_X4_edgeAt q_sel_X4_edgeAt (b := a_g) (As := [.int x3, .int x2, .int 0]) (rest := [.ref a_c]) (W_Ground cyI cyJ cyZ a_g a_g_kinds a_g_wants g_columns g_rows g_hedges g_hurdles g_wantCount g_rest g_frozen g_kinds g_wants) [(a_c, .inr (0, [.ref a_c_spotX, .ref a_c_spotY, .ref a_c_toX, .ref a_c_toY, .ref a_c_fromX, .ref a_c_fromY, .ref a_c_edgeWorth, .ref a_c_placeWorth, .ref a_c_givenTo, .ref a_c_cameFrom, .ref a_c_slack, .ref a_c_seen, .int c_edges, .int c_places])), (a_c_spotX, .inl (cyI, 31, .inl c_spotX)), (a_c_spotY, .inl (cyI, 31, .inl c_spotY)), (a_c_toX, .inl (cyI, 32, .inl c_toX)), (a_c_toY, .inl (cyI, 32, .inl c_toY)), (a_c_fromX, .inl (cyI, 63, .inl c_fromX)), (a_c_fromY, .inl (cyI, 63, .inl c_fromY)), (a_c_edgeWorth, .inl (cyI, 32, .inl c_edgeWorth)), (a_c_placeWorth, .inl (cyI, 63, .inl c_placeWorth)), (a_c_givenTo, .inl (cyI, 63, .inl c_givenTo)), (a_c_cameFrom, .inl (cyI, 63, .inl c_cameFrom)), (a_c_slack, .inl (cyI, 63, .inl c_slack)), (a_c_seen, .inl (cyI, 63, .inl c_seen))] (c_X4_edgeAt h) ⟨q_code_X4_edgeAt, q_ml_X0_79, q_init_X4, hd_X4_edgeAt, ⟨Nat.le_of_ble_eq_true rfl, Nat.le_of_ble_eq_true rfl⟩, Nat.le_of_ble_eq_true rfl, Nat.le_of_ble_eq_true rfl⟩ (q0 := 0) rfl rfl rfl [13, 14, 15] [0, 1, 2, 3, 4, 5, 6, 7, 8, 9, 10, 11, 12] [0, 1, 2, 3, 4, 5, 6, 7, 8, 9, 10, 11, 12, 13, 14, 15] rfl rfl rfl rfl rfl (by decide) (fun _ : Unit => (W_CarG cyI cyJ cyZ a_c a_c_spotX a_c_spotY a_c_toX a_c_toY a_c_fromX a_c_fromY a_c_edgeWorth a_c_placeWorth a_c_givenTo a_c_cameFrom a_c_slack a_c_seen a_g a_g_kinds a_g_wants c_edges c_places c_spotX c_spotY c_toX c_toY c_fromX c_fromY c_edgeWorth c_placeWorth c_givenTo c_cameFrom c_slack c_seen g_columns g_rows g_hedges g_hurdles g_wantCount g_rest g_frozen g_kinds g_wants)) (fun _ => rfl) (fun _ => rfl) rfl rfl (Nat.le_of_ble_eq_true rfl) dX0_laySpots_33 (pn := 36) rfl (fun r9 _ h => ?_)
      show J x 0 0 4 (W_CarG cyI cyJ cyZ a_c a_c_spotX a_c_spotY a_c_toX a_c_toY a_c_fromX a_c_fromY a_c_edgeWorth a_c_placeWorth a_c_givenTo a_c_cameFrom a_c_slack a_c_seen a_g a_g_kinds a_g_wants c_edges c_places c_spotX c_spotY c_toX c_toY c_fromX c_fromY c_edgeWorth c_placeWorth c_givenTo c_cameFrom c_slack c_seen g_columns g_rows g_hedges g_hurdles g_wantCount g_rest g_frozen g_kinds g_wants) [(0, .ref a_c), (1, .ref a_g), (2, .int x2), (3, .int x3)] 36 [.int r9, .ref a_c]
      refine j_iconst cx (v := 2) (by decide) dX0_laySpots_36 (pn := 37) rfl ?_
      refine j_iload_n cx 3 rfl rfl dX0_laySpots_37 (pn := 38) rfl ?_
      refine j_imul cx dX0_laySpots_38 (pn := 39) rfl ?_
      refine j_iconst cx (v := 2) (by decide) dX0_laySpots_39 (pn := 40) rfl ?_
      refine j_iload_n cx 2 rfl rfl dX0_laySpots_40 (pn := 41) rfl ?_
      refine j_imul cx dX0_laySpots_41 (pn := 42) rfl ?_
      refine j_iconst cx (v := 1) (by decide) dX0_laySpots_42 (pn := 43) rfl ?_
      refine j_iadd cx dX0_laySpots_43 (pn := 44) rfl ?_
      refine j_callvV cx q_inst_X0_putSpot q_sel_X0_putSpot (b := a_c) (As := [.int r9, .int (2 * x3), .int ((2 * x2) + 1)]) (rest := []) (W_Car cyI cyJ cyZ a_c a_c_spotX a_c_spotY a_c_toX a_c_toY a_c_fromX a_c_fromY a_c_edgeWorth a_c_placeWorth a_c_givenTo a_c_cameFrom a_c_slack a_c_seen c_edges c_places c_spotX c_spotY c_toX c_toY c_fromX c_fromY c_edgeWorth c_placeWorth c_givenTo c_cameFrom c_slack c_seen) [(a_g, .inr (4, [.ref a_g_kinds, .ref a_g_wants, .int g_columns, .int g_rows, .int g_hedges, .int g_hurdles, .int g_wantCount, .int g_rest, .int g_frozen])), (a_g_kinds, .inl (cyI, 10, .inl g_kinds)), (a_g_wants, .inl (cyI, 7, .inl g_wants))] (c_X0_putSpot h) ⟨q_code_X0_putSpot, q_ml_X0_83, q_init_X0, hd_X0_putSpot, ⟨Nat.le_of_ble_eq_true rfl, Nat.le_of_ble_eq_true rfl⟩, Nat.le_of_ble_eq_true rfl, Nat.le_of_ble_eq_true rfl⟩ (q0 := 0) rfl rfl rfl [0, 1, 2, 3, 4, 5, 6, 7, 8, 9, 10, 11, 12] [13, 14, 15] [3, 4, 5, 6, 7, 8, 9, 10, 11, 12, 13, 14, 15, 0, 1, 2] rfl rfl rfl rfl rfl (by decide) (fun u : (Nat → Int32) × (Nat → Int32) => (W_CarG cyI cyJ cyZ a_c a_c_spotX a_c_spotY a_c_toX a_c_toY a_c_fromX a_c_fromY a_c_edgeWorth a_c_placeWorth a_c_givenTo a_c_cameFrom a_c_slack a_c_seen a_g a_g_kinds a_g_wants c_edges c_places u.1 u.2 c_toX c_toY c_fromX c_fromY c_edgeWorth c_placeWorth c_givenTo c_cameFrom c_slack c_seen g_columns g_rows g_hedges g_hurdles g_wantCount g_rest g_frozen g_kinds g_wants)) (fun _ => rfl) (fun _ => rfl) rfl rfl (Nat.le_of_ble_eq_true rfl) dX0_laySpots_44 (pn := 47) rfl (fun u10 h => ?_)
      show J x 0 0 4 (W_CarG cyI cyJ cyZ a_c a_c_spotX a_c_spotY a_c_toX a_c_toY a_c_fromX a_c_fromY a_c_edgeWorth a_c_placeWorth a_c_givenTo a_c_cameFrom a_c_slack a_c_seen a_g a_g_kinds a_g_wants c_edges c_places u10.1 u10.2 c_toX c_toY c_fromX c_fromY c_edgeWorth c_placeWorth c_givenTo c_cameFrom c_slack c_seen g_columns g_rows g_hedges g_hurdles g_wantCount g_rest g_frozen g_kinds g_wants) [(0, .ref a_c), (1, .ref a_g), (2, .int x2), (3, .int x3)] 47 []
      exact J_X0_laySpots_47 cx hR hB2 hB12 h
set_option maxHeartbeats 4000000 in
set_option maxRecDepth 100000 in
theorem J_X0_laySpots_12 {x : CX} {D : DG} {cyI cyJ cyZ : ClassId} {a_c a_c_spotX a_c_spotY a_c_toX a_c_toY a_c_fromX a_c_fromY a_c_edgeWorth a_c_placeWorth a_c_givenTo a_c_cameFrom a_c_slack a_c_seen a_g a_g_kinds a_g_wants : Nat} {c_edges : Int32} {c_places : Int32} {c_spotX : Nat → Int32} {c_spotY : Nat → Int32} {c_toX : Nat → Int32} {c_toY : Nat → Int32} {c_fromX : Nat → Int32} {c_fromY : Nat → Int32} {c_edgeWorth : Nat → Int32} {c_placeWorth : Nat → Int32} {c_givenTo : Nat → Int32} {c_cameFrom : Nat → Int32} {c_slack : Nat → Int32} {c_seen : Nat → Int32} {g_columns : Int32} {g_rows : Int32} {g_hedges : Int32} {g_hurdles : Int32} {g_wantCount : Int32} {g_rest : Int32} {g_frozen : Int32} {g_kinds : Nat → Int32} {g_wants : Nat → Int32} {x2 : Int32} {x3 : Int32} {Q : ((Nat → Int32) × (Nat → Int32)) → Prop} {B2 : (Nat → Int32) → (Nat → Int32) → Int32 → Prop} (cx : Cx x cX0_laySpots 4 RX0 rm_X0_laySpots D [(cyI, .int), (cyJ, .long), (cyZ, .boolean)]) (hR : ∀ (u : (Nat → Int32) × (Nat → Int32)) (pc : Nat) (lv : List (Nat × Value)), decode cX0_laySpots pc = .ok (.return_, 1) → Q u → J x 0 0 4 (W_CarG cyI cyJ cyZ a_c a_c_spotX a_c_spotY a_c_toX a_c_toY a_c_fromX a_c_fromY a_c_edgeWorth a_c_placeWorth a_c_givenTo a_c_cameFrom a_c_slack a_c_seen a_g a_g_kinds a_g_wants c_edges c_places u.1 u.2 c_toX c_toY c_fromX c_fromY c_edgeWorth c_placeWorth c_givenTo c_cameFrom c_slack c_seen g_columns g_rows g_hedges g_hurdles g_wantCount g_rest g_frozen g_kinds g_wants) lv pc []) (hB2 : ∀ (c_spotX : Nat → Int32) (c_spotY : Nat → Int32) (x2 : Int32), B2 c_spotX c_spotY x2 → J x 0 0 4 (W_CarG cyI cyJ cyZ a_c a_c_spotX a_c_spotY a_c_toX a_c_toY a_c_fromX a_c_fromY a_c_edgeWorth a_c_placeWorth a_c_givenTo a_c_cameFrom a_c_slack a_c_seen a_g a_g_kinds a_g_wants c_edges c_places c_spotX c_spotY c_toX c_toY c_fromX c_fromY c_edgeWorth c_placeWorth c_givenTo c_cameFrom c_slack c_seen g_columns g_rows g_hedges g_hurdles g_wantCount g_rest g_frozen g_kinds g_wants) [(0, .ref a_c), (1, .ref a_g), (2, .int x2)] 2 []) (h : lp_X0_laySpots_12 Q B2 x2 g_columns g_rows c_spotX c_spotY x3) :
    J x 0 0 4 (W_CarG cyI cyJ cyZ a_c a_c_spotX a_c_spotY a_c_toX a_c_toY a_c_fromX a_c_fromY a_c_edgeWorth a_c_placeWorth a_c_givenTo a_c_cameFrom a_c_slack a_c_seen a_g a_g_kinds a_g_wants c_edges c_places c_spotX c_spotY c_toX c_toY c_fromX c_fromY c_edgeWorth c_placeWorth c_givenTo c_cameFrom c_slack c_seen g_columns g_rows g_hedges g_hurdles g_wantCount g_rest g_frozen g_kinds g_wants) [(0, .ref a_c), (1, .ref a_g), (2, .int x2), (3, .int x3)] 12 [] := by
  obtain ⟨I, ⟨n, h0⟩, hb⟩ := h
  revert c_spotX c_spotY x3
  induction n using Nat.strongRecOn with
  | _ n ih =>
    intro c_spotX c_spotY x3 h0
    exact B_X0_laySpots_12 cx hR hB2 (fun _ _ _ hz => by obtain ⟨n2, hlt, hI⟩ := hz; exact ih n2 hlt hI) (hb n c_spotX c_spotY x3 h0)
set_option maxHeartbeats 4000000 in
set_option maxRecDepth 100000 in
theorem B_X0_laySpots_2 {x : CX} {D : DG} {cyI cyJ cyZ : ClassId} {a_c a_c_spotX a_c_spotY a_c_toX a_c_toY a_c_fromX a_c_fromY a_c_edgeWorth a_c_placeWorth a_c_givenTo a_c_cameFrom a_c_slack a_c_seen a_g a_g_kinds a_g_wants : Nat} {c_edges : Int32} {c_places : Int32} {c_spotX : Nat → Int32} {c_spotY : Nat → Int32} {c_toX : Nat → Int32} {c_toY : Nat → Int32} {c_fromX : Nat → Int32} {c_fromY : Nat → Int32} {c_edgeWorth : Nat → Int32} {c_placeWorth : Nat → Int32} {c_givenTo : Nat → Int32} {c_cameFrom : Nat → Int32} {c_slack : Nat → Int32} {c_seen : Nat → Int32} {g_columns : Int32} {g_rows : Int32} {g_hedges : Int32} {g_hurdles : Int32} {g_wantCount : Int32} {g_rest : Int32} {g_frozen : Int32} {g_kinds : Nat → Int32} {g_wants : Nat → Int32} {x2 : Int32} {Q : ((Nat → Int32) × (Nat → Int32)) → Prop} {B2 : (Nat → Int32) → (Nat → Int32) → Int32 → Prop} (cx : Cx x cX0_laySpots 4 RX0 rm_X0_laySpots D [(cyI, .int), (cyJ, .long), (cyZ, .boolean)]) (hR : ∀ (u : (Nat → Int32) × (Nat → Int32)) (pc : Nat) (lv : List (Nat × Value)), decode cX0_laySpots pc = .ok (.return_, 1) → Q u → J x 0 0 4 (W_CarG cyI cyJ cyZ a_c a_c_spotX a_c_spotY a_c_toX a_c_toY a_c_fromX a_c_fromY a_c_edgeWorth a_c_placeWorth a_c_givenTo a_c_cameFrom a_c_slack a_c_seen a_g a_g_kinds a_g_wants c_edges c_places u.1 u.2 c_toX c_toY c_fromX c_fromY c_edgeWorth c_placeWorth c_givenTo c_cameFrom c_slack c_seen g_columns g_rows g_hedges g_hurdles g_wantCount g_rest g_frozen g_kinds g_wants) lv pc []) (hB2 : ∀ (c_spotX : Nat → Int32) (c_spotY : Nat → Int32) (x2 : Int32), B2 c_spotX c_spotY x2 → J x 0 0 4 (W_CarG cyI cyJ cyZ a_c a_c_spotX a_c_spotY a_c_toX a_c_toY a_c_fromX a_c_fromY a_c_edgeWorth a_c_placeWorth a_c_givenTo a_c_cameFrom a_c_slack a_c_seen a_g a_g_kinds a_g_wants c_edges c_places c_spotX c_spotY c_toX c_toY c_fromX c_fromY c_edgeWorth c_placeWorth c_givenTo c_cameFrom c_slack c_seen g_columns g_rows g_hedges g_hurdles g_wantCount g_rest g_frozen g_kinds g_wants) [(0, .ref a_c), (1, .ref a_g), (2, .int x2)] 2 []) (h : bd_X0_laySpots_2 Q B2 g_columns g_rows c_spotX c_spotY x2) :
    J x 0 0 4 (W_CarG cyI cyJ cyZ a_c a_c_spotX a_c_spotY a_c_toX a_c_toY a_c_fromX a_c_fromY a_c_edgeWorth a_c_placeWorth a_c_givenTo a_c_cameFrom a_c_slack a_c_seen a_g a_g_kinds a_g_wants c_edges c_places c_spotX c_spotY c_toX c_toY c_fromX c_fromY c_edgeWorth c_placeWorth c_givenTo c_cameFrom c_slack c_seen g_columns g_rows g_hedges g_hurdles g_wantCount g_rest g_frozen g_kinds g_wants) [(0, .ref a_c), (1, .ref a_g), (2, .int x2)] 2 [] := by
  unfold bd_X0_laySpots_2 at h
  refine j_iload_n cx 2 rfl rfl dX0_laySpots_2 (pn := 3) rfl ?_
  refine j_aload_n cx 1 rfl rfl dX0_laySpots_3 (pn := 4) rfl ?_
  refine j_getN cx inGX4 13 rfl rfl 3 (by decide) q_fl_X0_71 rfl rfl dX0_laySpots_4 (pn := 7) rfl ?_
  refine j_icmp_gt cx 86 dX0_laySpots_7 (pn := 10) rfl rfl (fun c1 => ?_) (fun c1 => ?_)
  · have h := h.1 c1
    exact hR (c_spotX, c_spotY) 86 _ dX0_laySpots_86 h
  · have h := h.2 c1
    refine j_iconst cx (v := 0) (by decide) dX0_laySpots_10 (pn := 11) rfl ?_
    refine j_istore_n cx rfl [(3, .int 0), (0, .ref a_c), (1, .ref a_g), (2, .int x2)] (by decide) rfl dX0_laySpots_11 (pn := 12) rfl ?_
    refine j_sub [1, 2, 3, 0] [(0, .ref a_c), (1, .ref a_g), (2, .int x2), (3, .int 0)] rfl ?_
    exact J_X0_laySpots_12 cx hR hB2 h
set_option maxHeartbeats 4000000 in
set_option maxRecDepth 100000 in
theorem J_X0_laySpots_2 {x : CX} {D : DG} {cyI cyJ cyZ : ClassId} {a_c a_c_spotX a_c_spotY a_c_toX a_c_toY a_c_fromX a_c_fromY a_c_edgeWorth a_c_placeWorth a_c_givenTo a_c_cameFrom a_c_slack a_c_seen a_g a_g_kinds a_g_wants : Nat} {c_edges : Int32} {c_places : Int32} {c_spotX : Nat → Int32} {c_spotY : Nat → Int32} {c_toX : Nat → Int32} {c_toY : Nat → Int32} {c_fromX : Nat → Int32} {c_fromY : Nat → Int32} {c_edgeWorth : Nat → Int32} {c_placeWorth : Nat → Int32} {c_givenTo : Nat → Int32} {c_cameFrom : Nat → Int32} {c_slack : Nat → Int32} {c_seen : Nat → Int32} {g_columns : Int32} {g_rows : Int32} {g_hedges : Int32} {g_hurdles : Int32} {g_wantCount : Int32} {g_rest : Int32} {g_frozen : Int32} {g_kinds : Nat → Int32} {g_wants : Nat → Int32} {x2 : Int32} {Q : ((Nat → Int32) × (Nat → Int32)) → Prop} (cx : Cx x cX0_laySpots 4 RX0 rm_X0_laySpots D [(cyI, .int), (cyJ, .long), (cyZ, .boolean)]) (hR : ∀ (u : (Nat → Int32) × (Nat → Int32)) (pc : Nat) (lv : List (Nat × Value)), decode cX0_laySpots pc = .ok (.return_, 1) → Q u → J x 0 0 4 (W_CarG cyI cyJ cyZ a_c a_c_spotX a_c_spotY a_c_toX a_c_toY a_c_fromX a_c_fromY a_c_edgeWorth a_c_placeWorth a_c_givenTo a_c_cameFrom a_c_slack a_c_seen a_g a_g_kinds a_g_wants c_edges c_places u.1 u.2 c_toX c_toY c_fromX c_fromY c_edgeWorth c_placeWorth c_givenTo c_cameFrom c_slack c_seen g_columns g_rows g_hedges g_hurdles g_wantCount g_rest g_frozen g_kinds g_wants) lv pc []) (h : lp_X0_laySpots_2 Q  g_columns g_rows c_spotX c_spotY x2) :
    J x 0 0 4 (W_CarG cyI cyJ cyZ a_c a_c_spotX a_c_spotY a_c_toX a_c_toY a_c_fromX a_c_fromY a_c_edgeWorth a_c_placeWorth a_c_givenTo a_c_cameFrom a_c_slack a_c_seen a_g a_g_kinds a_g_wants c_edges c_places c_spotX c_spotY c_toX c_toY c_fromX c_fromY c_edgeWorth c_placeWorth c_givenTo c_cameFrom c_slack c_seen g_columns g_rows g_hedges g_hurdles g_wantCount g_rest g_frozen g_kinds g_wants) [(0, .ref a_c), (1, .ref a_g), (2, .int x2)] 2 [] := by
  obtain ⟨I, ⟨n, h0⟩, hb⟩ := h
  revert c_spotX c_spotY x2
  induction n using Nat.strongRecOn with
  | _ n ih =>
    intro c_spotX c_spotY x2 h0
    exact B_X0_laySpots_2 cx hR (fun _ _ _ hz => by obtain ⟨n2, hlt, hI⟩ := hz; exact ih n2 hlt hI) (hb n c_spotX c_spotY x2 h0)
set_option maxHeartbeats 4000000 in
set_option maxRecDepth 100000 in
theorem c_X0_laySpots {D : DG} {cyI cyJ cyZ : ClassId} {a_c a_c_spotX a_c_spotY a_c_toX a_c_toY a_c_fromX a_c_fromY a_c_edgeWorth a_c_placeWorth a_c_givenTo a_c_cameFrom a_c_slack a_c_seen a_g a_g_kinds a_g_wants : Nat} {c_edges : Int32} {c_places : Int32} {c_spotX : Nat → Int32} {c_spotY : Nat → Int32} {c_toX : Nat → Int32} {c_toY : Nat → Int32} {c_fromX : Nat → Int32} {c_fromY : Nat → Int32} {c_edgeWorth : Nat → Int32} {c_placeWorth : Nat → Int32} {c_givenTo : Nat → Int32} {c_cameFrom : Nat → Int32} {c_slack : Nat → Int32} {c_seen : Nat → Int32} {g_columns : Int32} {g_rows : Int32} {g_hedges : Int32} {g_hurdles : Int32} {g_wantCount : Int32} {g_rest : Int32} {g_frozen : Int32} {g_kinds : Nat → Int32} {g_wants : Nat → Int32} {Q : ((Nat → Int32) × (Nat → Int32)) → Prop} (h : wp_X0_laySpots c_spotX c_spotY g_columns g_rows Q) :
    MetV yX0_laySpots cX0_laySpots 4 (none) rm_X0_laySpots D [(cyI, .int), (cyJ, .long), (cyZ, .boolean)] [.ref a_c, .ref a_g] (W_CarG cyI cyJ cyZ a_c a_c_spotX a_c_spotY a_c_toX a_c_toY a_c_fromX a_c_fromY a_c_edgeWorth a_c_placeWorth a_c_givenTo a_c_cameFrom a_c_slack a_c_seen a_g a_g_kinds a_g_wants c_edges c_places c_spotX c_spotY c_toX c_toY c_fromX c_fromY c_edgeWorth c_placeWorth c_givenTo c_cameFrom c_slack c_seen g_columns g_rows g_hedges g_hurdles g_wantCount g_rest g_frozen g_kinds g_wants) (fun u : (Nat → Int32) × (Nat → Int32) => (W_CarG cyI cyJ cyZ a_c a_c_spotX a_c_spotY a_c_toX a_c_toY a_c_fromX a_c_fromY a_c_edgeWorth a_c_placeWorth a_c_givenTo a_c_cameFrom a_c_slack a_c_seen a_g a_g_kinds a_g_wants c_edges c_places u.1 u.2 c_toX c_toY c_fromX c_fromY c_edgeWorth c_placeWorth c_givenTo c_cameFrom c_slack c_seen g_columns g_rows g_hedges g_hurdles g_wantCount g_rest g_frozen g_kinds g_wants)) (fun u => Q u) := by
  unfold wp_X0_laySpots at h
  refine metV_of (by decide) (Nat.le_of_ble_eq_true rfl) (fun x cx0 hR0 => ?_)
  have cx : Cx x cX0_laySpots 4 RX0 rm_X0_laySpots D [(cyI, .int), (cyJ, .long), (cyZ, .boolean)] := cx0
  have hR : ∀ (u : (Nat → Int32) × (Nat → Int32)) (pc : Nat) (lv : List (Nat × Value)), decode cX0_laySpots pc = .ok (.return_, 1) → Q u → J x 0 0 4 (W_CarG cyI cyJ cyZ a_c a_c_spotX a_c_spotY a_c_toX a_c_toY a_c_fromX a_c_fromY a_c_edgeWorth a_c_placeWorth a_c_givenTo a_c_cameFrom a_c_slack a_c_seen a_g a_g_kinds a_g_wants c_edges c_places u.1 u.2 c_toX c_toY c_fromX c_fromY c_edgeWorth c_placeWorth c_givenTo c_cameFrom c_slack c_seen g_columns g_rows g_hedges g_hurdles g_wantCount g_rest g_frozen g_kinds g_wants) lv pc [] := (fun u pc lv d hq => hR0 u pc lv d hq)
  show J x 0 0 4 (W_CarG cyI cyJ cyZ a_c a_c_spotX a_c_spotY a_c_toX a_c_toY a_c_fromX a_c_fromY a_c_edgeWorth a_c_placeWorth a_c_givenTo a_c_cameFrom a_c_slack a_c_seen a_g a_g_kinds a_g_wants c_edges c_places c_spotX c_spotY c_toX c_toY c_fromX c_fromY c_edgeWorth c_placeWorth c_givenTo c_cameFrom c_slack c_seen g_columns g_rows g_hedges g_hurdles g_wantCount g_rest g_frozen g_kinds g_wants) [(0, .ref a_c), (1, .ref a_g)] 0 []
  refine j_iconst cx (v := 0) (by decide) dX0_laySpots_0 (pn := 1) rfl ?_
  refine j_istore_n cx rfl [(2, .int 0), (0, .ref a_c), (1, .ref a_g)] (by decide) rfl dX0_laySpots_1 (pn := 2) rfl ?_
  refine j_sub [1, 2, 0] [(0, .ref a_c), (1, .ref a_g), (2, .int 0)] rfl ?_
  exact J_X0_laySpots_2 cx hR h
theorem dX0_putPlace_0 : decode cX0_putPlace 0 = .ok (.aload_n 0, 1) := by decide +kernel
theorem dX0_putPlace_1 : decode cX0_putPlace 1 = .ok (.getfield 64, 3) := by decide +kernel
theorem dX0_putPlace_4 : decode cX0_putPlace 4 = .ok (.bipush 62, 2) := by decide +kernel
theorem dX0_putPlace_6 : decode cX0_putPlace 6 = .ok (.if_icmp .ge 33, 3) := by decide +kernel
theorem dX0_putPlace_9 : decode cX0_putPlace 9 = .ok (.aload_n 0, 1) := by decide +kernel
theorem dX0_putPlace_10 : decode cX0_putPlace 10 = .ok (.dup, 1) := by decide +kernel
theorem dX0_putPlace_11 : decode cX0_putPlace 11 = .ok (.getfield 64, 3) := by decide +kernel
theorem dX0_putPlace_14 : decode cX0_putPlace 14 = .ok (.iconst 1, 1) := by decide +kernel
theorem dX0_putPlace_15 : decode cX0_putPlace 15 = .ok (.iadd, 1) := by decide +kernel
theorem dX0_putPlace_16 : decode cX0_putPlace 16 = .ok (.putfield 64, 3) := by decide +kernel
theorem dX0_putPlace_19 : decode cX0_putPlace 19 = .ok (.aload_n 0, 1) := by decide +kernel
theorem dX0_putPlace_20 : decode cX0_putPlace 20 = .ok (.getfield 24, 3) := by decide +kernel
theorem dX0_putPlace_23 : decode cX0_putPlace 23 = .ok (.aload_n 0, 1) := by decide +kernel
theorem dX0_putPlace_24 : decode cX0_putPlace 24 = .ok (.getfield 64, 3) := by decide +kernel
theorem dX0_putPlace_27 : decode cX0_putPlace 27 = .ok (.iload_n 1, 1) := by decide +kernel
theorem dX0_putPlace_28 : decode cX0_putPlace 28 = .ok (.iastore, 1) := by decide +kernel
theorem dX0_putPlace_29 : decode cX0_putPlace 29 = .ok (.aload_n 0, 1) := by decide +kernel
theorem dX0_putPlace_30 : decode cX0_putPlace 30 = .ok (.getfield 27, 3) := by decide +kernel
theorem dX0_putPlace_33 : decode cX0_putPlace 33 = .ok (.aload_n 0, 1) := by decide +kernel
theorem dX0_putPlace_34 : decode cX0_putPlace 34 = .ok (.getfield 64, 3) := by decide +kernel
theorem dX0_putPlace_37 : decode cX0_putPlace 37 = .ok (.iload_n 2, 1) := by decide +kernel
theorem dX0_putPlace_38 : decode cX0_putPlace 38 = .ok (.iastore, 1) := by decide +kernel
theorem dX0_putPlace_39 : decode cX0_putPlace 39 = .ok (.return_, 1) := by decide +kernel
abbrev rm_X0_putPlace : Room := { frames := 0, cells := 0, slots := 0, locals := 0 }
theorem hd_X0_putPlace : yX0_putPlace.cls ≠ "java/lang/invoke/MethodHandle" ∧ yX0_putPlace.cls ≠ "java/lang/invoke/VarHandle" ∧ (parseMethodDescriptor yX0_putPlace.desc).map (fun d => d.parameters.length) = some 2 := by decide +kernel
def wp_X0_putPlace (p1 : Int32) (p2 : Int32) (c_places : Int32) (c_fromX : Nat → Int32) (c_fromY : Nat → Int32) (Q : (Int32 × (Nat → Int32) × (Nat → Int32)) → Prop) : Prop :=
((62 ≤ c_places → Q (c_places, c_fromX, c_fromY)) ∧
(¬ 62 ≤ c_places → ∀ y2 : Int32, y2 = (c_places + 1) →
vp_in y2 63 ∧ (∀ f3 : Nat → Int32, f3 = (upd c_fromX y2.toNatClampNeg p1) →
vp_in y2 63 ∧ (∀ f4 : Nat → Int32, f4 = (upd c_fromY y2.toNatClampNeg p2) →
Q (y2, f3, f4)))))
set_option maxHeartbeats 4000000 in
set_option maxRecDepth 100000 in
theorem c_X0_putPlace {D : DG} {cyI cyJ cyZ : ClassId} {a_c a_c_spotX a_c_spotY a_c_toX a_c_toY a_c_fromX a_c_fromY a_c_edgeWorth a_c_placeWorth a_c_givenTo a_c_cameFrom a_c_slack a_c_seen : Nat} {c_edges : Int32} {c_places : Int32} {c_spotX : Nat → Int32} {c_spotY : Nat → Int32} {c_toX : Nat → Int32} {c_toY : Nat → Int32} {c_fromX : Nat → Int32} {c_fromY : Nat → Int32} {c_edgeWorth : Nat → Int32} {c_placeWorth : Nat → Int32} {c_givenTo : Nat → Int32} {c_cameFrom : Nat → Int32} {c_slack : Nat → Int32} {c_seen : Nat → Int32} {p1 : Int32} {p2 : Int32} {Q : (Int32 × (Nat → Int32) × (Nat → Int32)) → Prop} (h : wp_X0_putPlace p1 p2 c_places c_fromX c_fromY Q) :
    MetV yX0_putPlace cX0_putPlace 3 (none) rm_X0_putPlace D [(cyI, .int), (cyJ, .long), (cyZ, .boolean)] [.ref a_c, .int p1, .int p2] (W_Car cyI cyJ cyZ a_c a_c_spotX a_c_spotY a_c_toX a_c_toY a_c_fromX a_c_fromY a_c_edgeWorth a_c_placeWorth a_c_givenTo a_c_cameFrom a_c_slack a_c_seen c_edges c_places c_spotX c_spotY c_toX c_toY c_fromX c_fromY c_edgeWorth c_placeWorth c_givenTo c_cameFrom c_slack c_seen) (fun u : Int32 × (Nat → Int32) × (Nat → Int32) => (W_Car cyI cyJ cyZ a_c a_c_spotX a_c_spotY a_c_toX a_c_toY a_c_fromX a_c_fromY a_c_edgeWorth a_c_placeWorth a_c_givenTo a_c_cameFrom a_c_slack a_c_seen c_edges u.1 c_spotX c_spotY c_toX c_toY u.2.1 u.2.2 c_edgeWorth c_placeWorth c_givenTo c_cameFrom c_slack c_seen)) (fun u => Q u) := by
  unfold wp_X0_putPlace at h
  refine metV_of (by decide) (Nat.le_of_ble_eq_true rfl) (fun x cx0 hR0 => ?_)
  have cx : Cx x cX0_putPlace 3 RX0 rm_X0_putPlace D [(cyI, .int), (cyJ, .long), (cyZ, .boolean)] := cx0
  have hR : ∀ (u : Int32 × (Nat → Int32) × (Nat → Int32)) (pc : Nat) (lv : List (Nat × Value)), decode cX0_putPlace pc = .ok (.return_, 1) → Q u → J x 0 0 3 (W_Car cyI cyJ cyZ a_c a_c_spotX a_c_spotY a_c_toX a_c_toY a_c_fromX a_c_fromY a_c_edgeWorth a_c_placeWorth a_c_givenTo a_c_cameFrom a_c_slack a_c_seen c_edges u.1 c_spotX c_spotY c_toX c_toY u.2.1 u.2.2 c_edgeWorth c_placeWorth c_givenTo c_cameFrom c_slack c_seen) lv pc [] := (fun u pc lv d hq => hR0 u pc lv d hq)
  show J x 0 0 3 (W_Car cyI cyJ cyZ a_c a_c_spotX a_c_spotY a_c_toX a_c_toY a_c_fromX a_c_fromY a_c_edgeWorth a_c_placeWorth a_c_givenTo a_c_cameFrom a_c_slack a_c_seen c_edges c_places c_spotX c_spotY c_toX c_toY c_fromX c_fromY c_edgeWorth c_placeWorth c_givenTo c_cameFrom c_slack c_seen) [(0, .ref a_c), (1, .int p1), (2, .int p2)] 0 []
  refine j_aload_n cx 0 rfl rfl dX0_putPlace_0 (pn := 1) rfl ?_
  refine j_get cx inGX0 0 rfl rfl 13 (by decide) q_fl_X0_64 rfl rfl dX0_putPlace_1 (pn := 4) rfl ?_
  refine j_bipush cx (v := 62) (by decide) dX0_putPlace_4 (pn := 6) rfl ?_
  refine j_icmp_ge cx 39 dX0_putPlace_6 (pn := 9) rfl rfl (fun c1 => ?_) (fun c1 => ?_)
  · have h := h.1 c1
    exact hR (c_places, c_fromX, c_fromY) 39 _ dX0_putPlace_39 h
  · have h := h.2 c1
    refine j_aload_n cx 0 rfl rfl dX0_putPlace_9 (pn := 10) rfl ?_
    refine j_dup cx rfl dX0_putPlace_10 (pn := 11) rfl ?_
    refine j_get cx inGX0 0 rfl rfl 13 (by decide) q_fl_X0_64 rfl rfl dX0_putPlace_11 (pn := 14) rfl ?_
    refine j_iconst cx (v := 1) (by decide) dX0_putPlace_14 (pn := 15) rfl ?_
    refine j_iadd cx dX0_putPlace_15 (pn := 16) rfl ?_
    refine j_topi (fun y2 ey2 => ?_)
    have h := h y2 ey2
    refine j_put cx tyX0 tyX0_ok nmX0 inGX0 0 rfl rfl 13 (by decide) q_fl_X0_64 rfl rfl rfl rfl rfl (Nat.le_of_ble_eq_true rfl) (W_Car cyI cyJ cyZ a_c a_c_spotX a_c_spotY a_c_toX a_c_toY a_c_fromX a_c_fromY a_c_edgeWorth a_c_placeWorth a_c_givenTo a_c_cameFrom a_c_slack a_c_seen c_edges y2 c_spotX c_spotY c_toX c_toY c_fromX c_fromY c_edgeWorth c_placeWorth c_givenTo c_cameFrom c_slack c_seen) rfl dX0_putPlace_16 (pn := 19) rfl ?_
    refine j_aload_n cx 0 rfl rfl dX0_putPlace_19 (pn := 20) rfl ?_
    refine j_get cx inGX0 0 rfl rfl 4 (by decide) q_fl_X0_24 rfl rfl dX0_putPlace_20 (pn := 23) rfl ?_
    refine j_aload_n cx 0 rfl rfl dX0_putPlace_23 (pn := 24) rfl ?_
    refine j_get cx inGX0 0 rfl rfl 13 (by decide) q_fl_X0_64 rfl rfl dX0_putPlace_24 (pn := 27) rfl ?_
    refine j_iload_n cx 1 rfl rfl dX0_putPlace_27 (pn := 28) rfl ?_
    have hin := h.1
    obtain ⟨f3, ef3⟩ : ∃ z, z = upd c_fromX y2.toNatClampNeg p1 := ⟨_, rfl⟩
    have h := h.2 f3 ef3
    refine j_iast cx 5 0 rfl rfl hin (W_Car cyI cyJ cyZ a_c a_c_spotX a_c_spotY a_c_toX a_c_toY a_c_fromX a_c_fromY a_c_edgeWorth a_c_placeWorth a_c_givenTo a_c_cameFrom a_c_slack a_c_seen c_edges y2 c_spotX c_spotY c_toX c_toY f3 c_fromY c_edgeWorth c_placeWorth c_givenTo c_cameFrom c_slack c_seen) (by subst ef3; rfl) dX0_putPlace_28 (pn := 29) rfl ?_
    refine j_aload_n cx 0 rfl rfl dX0_putPlace_29 (pn := 30) rfl ?_
    refine j_get cx inGX0 0 rfl rfl 5 (by decide) q_fl_X0_27 rfl rfl dX0_putPlace_30 (pn := 33) rfl ?_
    refine j_aload_n cx 0 rfl rfl dX0_putPlace_33 (pn := 34) rfl ?_
    refine j_get cx inGX0 0 rfl rfl 13 (by decide) q_fl_X0_64 rfl rfl dX0_putPlace_34 (pn := 37) rfl ?_
    refine j_iload_n cx 2 rfl rfl dX0_putPlace_37 (pn := 38) rfl ?_
    have hin := h.1
    obtain ⟨f4, ef4⟩ : ∃ z, z = upd c_fromY y2.toNatClampNeg p2 := ⟨_, rfl⟩
    have h := h.2 f4 ef4
    refine j_iast cx 6 0 rfl rfl hin (W_Car cyI cyJ cyZ a_c a_c_spotX a_c_spotY a_c_toX a_c_toY a_c_fromX a_c_fromY a_c_edgeWorth a_c_placeWorth a_c_givenTo a_c_cameFrom a_c_slack a_c_seen c_edges y2 c_spotX c_spotY c_toX c_toY f3 f4 c_edgeWorth c_placeWorth c_givenTo c_cameFrom c_slack c_seen) (by subst ef4; rfl) dX0_putPlace_38 (pn := 39) rfl ?_
    exact hR (y2, f3, f4) 39 _ dX0_putPlace_39 h
theorem dX0_lay_0 : decode cX0_lay 0 = .ok (.aload_n 0, 1) := by decide +kernel
theorem dX0_lay_1 : decode cX0_lay 1 = .ok (.iconst 0, 1) := by decide +kernel
theorem dX0_lay_2 : decode cX0_lay 2 = .ok (.putfield 56, 3) := by decide +kernel
theorem dX0_lay_5 : decode cX0_lay 5 = .ok (.aload_n 0, 1) := by decide +kernel
theorem dX0_lay_6 : decode cX0_lay 6 = .ok (.iconst 0, 1) := by decide +kernel
theorem dX0_lay_7 : decode cX0_lay 7 = .ok (.putfield 64, 3) := by decide +kernel
theorem dX0_lay_10 : decode cX0_lay 10 = .ok (.iconst 0, 1) := by decide +kernel
theorem dX0_lay_11 : decode cX0_lay 11 = .ok (.istore_n 3, 1) := by decide +kernel
theorem dX0_lay_12 : decode cX0_lay 12 = .ok (.iload_n 3, 1) := by decide +kernel
theorem dX0_lay_13 : decode cX0_lay 13 = .ok (.bipush 31, 2) := by decide +kernel
theorem dX0_lay_15 : decode cX0_lay 15 = .ok (.if_icmp .ge 86, 3) := by decide +kernel
theorem dX0_lay_18 : decode cX0_lay 18 = .ok (.iload_n 1, 1) := by decide +kernel
theorem dX0_lay_19 : decode cX0_lay 19 = .ok (.iload_n 3, 1) := by decide +kernel
theorem dX0_lay_20 : decode cX0_lay 20 = .ok (.ishr, 1) := by decide +kernel
theorem dX0_lay_21 : decode cX0_lay 21 = .ok (.iconst 1, 1) := by decide +kernel
theorem dX0_lay_22 : decode cX0_lay 22 = .ok (.iand, 1) := by decide +kernel
theorem dX0_lay_23 : decode cX0_lay 23 = .ok (.iconst 1, 1) := by decide +kernel
theorem dX0_lay_24 : decode cX0_lay 24 = .ok (.if_icmp .ne 46, 3) := by decide +kernel
theorem dX0_lay_27 : decode cX0_lay 27 = .ok (.aload_n 0, 1) := by decide +kernel
theorem dX0_lay_28 : decode cX0_lay 28 = .ok (.dup, 1) := by decide +kernel
theorem dX0_lay_29 : decode cX0_lay 29 = .ok (.getfield 56, 3) := by decide +kernel
theorem dX0_lay_32 : decode cX0_lay 32 = .ok (.iconst 1, 1) := by decide +kernel
theorem dX0_lay_33 : decode cX0_lay 33 = .ok (.iadd, 1) := by decide +kernel
theorem dX0_lay_34 : decode cX0_lay 34 = .ok (.putfield 56, 3) := by decide +kernel
theorem dX0_lay_37 : decode cX0_lay 37 = .ok (.aload_n 0, 1) := by decide +kernel
theorem dX0_lay_38 : decode cX0_lay 38 = .ok (.getfield 18, 3) := by decide +kernel
theorem dX0_lay_41 : decode cX0_lay 41 = .ok (.aload_n 0, 1) := by decide +kernel
theorem dX0_lay_42 : decode cX0_lay 42 = .ok (.getfield 56, 3) := by decide +kernel
theorem dX0_lay_45 : decode cX0_lay 45 = .ok (.aload_n 0, 1) := by decide +kernel
theorem dX0_lay_46 : decode cX0_lay 46 = .ok (.getfield 9, 3) := by decide +kernel
theorem dX0_lay_49 : decode cX0_lay 49 = .ok (.iload_n 3, 1) := by decide +kernel
theorem dX0_lay_50 : decode cX0_lay 50 = .ok (.iaload, 1) := by decide +kernel
theorem dX0_lay_51 : decode cX0_lay 51 = .ok (.iastore, 1) := by decide +kernel
theorem dX0_lay_52 : decode cX0_lay 52 = .ok (.aload_n 0, 1) := by decide +kernel
theorem dX0_lay_53 : decode cX0_lay 53 = .ok (.getfield 21, 3) := by decide +kernel
theorem dX0_lay_56 : decode cX0_lay 56 = .ok (.aload_n 0, 1) := by decide +kernel
theorem dX0_lay_57 : decode cX0_lay 57 = .ok (.getfield 56, 3) := by decide +kernel
theorem dX0_lay_60 : decode cX0_lay 60 = .ok (.aload_n 0, 1) := by decide +kernel
theorem dX0_lay_61 : decode cX0_lay 61 = .ok (.getfield 15, 3) := by decide +kernel
theorem dX0_lay_64 : decode cX0_lay 64 = .ok (.iload_n 3, 1) := by decide +kernel
theorem dX0_lay_65 : decode cX0_lay 65 = .ok (.iaload, 1) := by decide +kernel
theorem dX0_lay_66 : decode cX0_lay 66 = .ok (.iastore, 1) := by decide +kernel
theorem dX0_lay_67 : decode cX0_lay 67 = .ok (.goto 28, 3) := by decide +kernel
theorem dX0_lay_70 : decode cX0_lay 70 = .ok (.iload_n 2, 1) := by decide +kernel
theorem dX0_lay_71 : decode cX0_lay 71 = .ok (.iload_n 3, 1) := by decide +kernel
theorem dX0_lay_72 : decode cX0_lay 72 = .ok (.ishr, 1) := by decide +kernel
theorem dX0_lay_73 : decode cX0_lay 73 = .ok (.iconst 1, 1) := by decide +kernel
theorem dX0_lay_74 : decode cX0_lay 74 = .ok (.iand, 1) := by decide +kernel
theorem dX0_lay_75 : decode cX0_lay 75 = .ok (.iconst 1, 1) := by decide +kernel
theorem dX0_lay_76 : decode cX0_lay 76 = .ok (.if_icmp .ne 19, 3) := by decide +kernel
theorem dX0_lay_79 : decode cX0_lay 79 = .ok (.aload_n 0, 1) := by decide +kernel
theorem dX0_lay_80 : decode cX0_lay 80 = .ok (.aload_n 0, 1) := by decide +kernel
theorem dX0_lay_81 : decode cX0_lay 81 = .ok (.getfield 9, 3) := by decide +kernel
theorem dX0_lay_84 : decode cX0_lay 84 = .ok (.iload_n 3, 1) := by decide +kernel
theorem dX0_lay_85 : decode cX0_lay 85 = .ok (.iaload, 1) := by decide +kernel
theorem dX0_lay_86 : decode cX0_lay 86 = .ok (.aload_n 0, 1) := by decide +kernel
theorem dX0_lay_87 : decode cX0_lay 87 = .ok (.getfield 15, 3) := by decide +kernel
theorem dX0_lay_90 : decode cX0_lay 90 = .ok (.iload_n 3, 1) := by decide +kernel
theorem dX0_lay_91 : decode cX0_lay 91 = .ok (.iaload, 1) := by decide +kernel
theorem dX0_lay_92 : decode cX0_lay 92 = .ok (.invokevirtual 87, 3) := by decide +kernel
theorem dX0_lay_95 : decode cX0_lay 95 = .ok (.iinc 3 1, 3) := by decide +kernel
theorem dX0_lay_98 : decode cX0_lay 98 = .ok (.goto (-86), 3) := by decide +kernel
theorem dX0_lay_101 : decode cX0_lay 101 = .ok (.iconst 0, 1) := by decide +kernel
theorem dX0_lay_102 : decode cX0_lay 102 = .ok (.istore_n 3, 1) := by decide +kernel
theorem dX0_lay_103 : decode cX0_lay 103 = .ok (.iload_n 3, 1) := by decide +kernel
theorem dX0_lay_104 : decode cX0_lay 104 = .ok (.aload_n 0, 1) := by decide +kernel
theorem dX0_lay_105 : decode cX0_lay 105 = .ok (.getfield 56, 3) := by decide +kernel
theorem dX0_lay_108 : decode cX0_lay 108 = .ok (.if_icmp .ge 15, 3) := by decide +kernel
theorem dX0_lay_111 : decode cX0_lay 111 = .ok (.aload_n 0, 1) := by decide +kernel
theorem dX0_lay_112 : decode cX0_lay 112 = .ok (.iconst 0, 1) := by decide +kernel
theorem dX0_lay_113 : decode cX0_lay 113 = .ok (.iconst 0, 1) := by decide +kernel
theorem dX0_lay_114 : decode cX0_lay 114 = .ok (.invokevirtual 87, 3) := by decide +kernel
theorem dX0_lay_117 : decode cX0_lay 117 = .ok (.iinc 3 1, 3) := by decide +kernel
theorem dX0_lay_120 : decode cX0_lay 120 = .ok (.goto (-17), 3) := by decide +kernel
theorem dX0_lay_123 : decode cX0_lay 123 = .ok (.aload_n 0, 1) := by decide +kernel
theorem dX0_lay_124 : decode cX0_lay 124 = .ok (.getfield 30, 3) := by decide +kernel
theorem dX0_lay_127 : decode cX0_lay 127 = .ok (.iconst 0, 1) := by decide +kernel
theorem dX0_lay_128 : decode cX0_lay 128 = .ok (.invokestatic 90, 3) := by decide +kernel
theorem dX0_lay_131 : decode cX0_lay 131 = .ok (.aload_n 0, 1) := by decide +kernel
theorem dX0_lay_132 : decode cX0_lay 132 = .ok (.getfield 33, 3) := by decide +kernel
theorem dX0_lay_135 : decode cX0_lay 135 = .ok (.iconst 0, 1) := by decide +kernel
theorem dX0_lay_136 : decode cX0_lay 136 = .ok (.invokestatic 90, 3) := by decide +kernel
theorem dX0_lay_139 : decode cX0_lay 139 = .ok (.aload_n 0, 1) := by decide +kernel
theorem dX0_lay_140 : decode cX0_lay 140 = .ok (.getfield 36, 3) := by decide +kernel
theorem dX0_lay_143 : decode cX0_lay 143 = .ok (.iconst 0, 1) := by decide +kernel
theorem dX0_lay_144 : decode cX0_lay 144 = .ok (.invokestatic 90, 3) := by decide +kernel
theorem dX0_lay_147 : decode cX0_lay 147 = .ok (.return_, 1) := by decide +kernel
abbrev rm_X0_lay : Room := { frames := 1, cells := 0, slots := 0, locals := 23 }
theorem hd_X0_lay : yX0_lay.cls ≠ "java/lang/invoke/MethodHandle" ∧ yX0_lay.cls ≠ "java/lang/invoke/VarHandle" ∧ (parseMethodDescriptor yX0_lay.desc).map (fun d => d.parameters.length) = some 2 := by decide +kernel
def bd_X0_lay_103 (Q : (Int32 × Int32 × (Nat → Int32) × (Nat → Int32) × (Nat → Int32) × (Nat → Int32) × (Nat → Int32) × (Nat → Int32) × (Nat → Int32)) → Prop) (B103 : Int32 → (Nat → Int32) → (Nat → Int32) → Int32 → Prop) (c_edges : Int32) (c_toX : Nat → Int32) (c_toY : Nat → Int32) (c_edgeWorth : Nat → Int32) (c_placeWorth : Nat → Int32) (c_givenTo : Nat → Int32) (c_places : Int32) (c_fromX : Nat → Int32) (c_fromY : Nat → Int32) (x3 : Int32) : Prop :=
((c_edges ≤ x3 → wp_J7_fill_53178 32 0 c_edgeWorth (fun (u3 : (Nat → Int32)) => wp_J7_fill_53178 63 0 c_placeWorth (fun (u4 : (Nat → Int32)) => wp_J7_fill_53178 63 0 c_givenTo (fun (u5 : (Nat → Int32)) => Q (c_edges, c_places, c_toX, c_toY, c_fromX, c_fromY, u3, u4, u5))))) ∧
(¬ c_edges ≤ x3 → wp_X0_putPlace 0 0 c_places c_fromX c_fromY (fun (u6 : Int32 × (Nat → Int32) × (Nat → Int32)) => ∀ y7 : Int32, y7 = (x3 + 1) →
B103 u6.1 u6.2.1 u6.2.2 y7)))
def lp_X0_lay_103 (Q : (Int32 × Int32 × (Nat → Int32) × (Nat → Int32) × (Nat → Int32) × (Nat → Int32) × (Nat → Int32) × (Nat → Int32) × (Nat → Int32)) → Prop) (c_edges : Int32) (c_toX : Nat → Int32) (c_toY : Nat → Int32) (c_edgeWorth : Nat → Int32) (c_placeWorth : Nat → Int32) (c_givenTo : Nat → Int32) (c_places : Int32) (c_fromX : Nat → Int32) (c_fromY : Nat → Int32) (x3 : Int32) : Prop :=
∃ I : Nat → Int32 → (Nat → Int32) → (Nat → Int32) → Int32 → Prop, (∃ n, I n c_places c_fromX c_fromY x3) ∧ ∀ n c_places c_fromX c_fromY x3, I n c_places c_fromX c_fromY x3 → bd_X0_lay_103 Q  (fun c_places' c_fromX' c_fromY' x3' => ∃ n', n' < n ∧ I n' c_places' c_fromX' c_fromY' x3') c_edges c_toX c_toY c_edgeWorth c_placeWorth c_givenTo c_places c_fromX c_fromY x3
def bk_X0_lay_95 (Q : (Int32 × Int32 × (Nat → Int32) × (Nat → Int32) × (Nat → Int32) × (Nat → Int32) × (Nat → Int32) × (Nat → Int32) × (Nat → Int32)) → Prop) (B12 : Int32 → Int32 → (Nat → Int32) → (Nat → Int32) → (Nat → Int32) → (Nat → Int32) → Int32 → Prop) (x3 : Int32) (c_edges : Int32) (c_places : Int32) (c_toX : Nat → Int32) (c_toY : Nat → Int32) (c_fromX : Nat → Int32) (c_fromY : Nat → Int32) : Prop :=
∀ y10 : Int32, y10 = (x3 + 1) →
B12 c_edges c_places c_toX c_toY c_fromX c_fromY y10
def bd_X0_lay_12 (Q : (Int32 × Int32 × (Nat → Int32) × (Nat → Int32) × (Nat → Int32) × (Nat → Int32) × (Nat → Int32) × (Nat → Int32) × (Nat → Int32)) → Prop) (B12 : Int32 → Int32 → (Nat → Int32) → (Nat → Int32) → (Nat → Int32) → (Nat → Int32) → Int32 → Prop) (p1 : Int32) (p2 : Int32) (c_spotX : Nat → Int32) (c_spotY : Nat → Int32) (c_edgeWorth : Nat → Int32) (c_placeWorth : Nat → Int32) (c_givenTo : Nat → Int32) (c_edges : Int32) (c_places : Int32) (c_toX : Nat → Int32) (c_toY : Nat → Int32) (c_fromX : Nat → Int32) (c_fromY : Nat → Int32) (x3 : Int32) : Prop :=
((31 ≤ x3 → lp_X0_lay_103 Q c_edges c_toX c_toY c_edgeWorth c_placeWorth c_givenTo c_places c_fromX c_fromY 0) ∧
(¬ 31 ≤ x3 → ((¬ ((p1 >>> (x3 &&& 31)) &&& 1) = 1 → ((¬ ((p2 >>> (x3 &&& 31)) &&& 1) = 1 → bk_X0_lay_95 Q B12 x3 c_edges c_places c_toX c_toY c_fromX c_fromY) ∧
(((p2 >>> (x3 &&& 31)) &&& 1) = 1 → vp_in x3 31 ∧ vp_in x3 31 ∧ wp_X0_putPlace (c_spotX x3.toNatClampNeg) (c_spotY x3.toNatClampNeg) c_places c_fromX c_fromY (fun (u11 : Int32 × (Nat → Int32) × (Nat → Int32)) => bk_X0_lay_95 Q B12 x3 c_edges u11.1 c_toX c_toY u11.2.1 u11.2.2)))) ∧
(((p1 >>> (x3 &&& 31)) &&& 1) = 1 → ∀ y12 : Int32, y12 = (c_edges + 1) →
vp_in x3 31 ∧ (∀ y13 : Int32, y13 = (c_spotX x3.toNatClampNeg) →
vp_in y12 32 ∧ (∀ f14 : Nat → Int32, f14 = (upd c_toX y12.toNatClampNeg y13) →
vp_in x3 31 ∧ (∀ y15 : Int32, y15 = (c_spotY x3.toNatClampNeg) →
vp_in y12 32 ∧ (∀ f16 : Nat → Int32, f16 = (upd c_toY y12.toNatClampNeg y15) →
bk_X0_lay_95 Q B12 x3 y12 c_places f14 f16 c_fromX c_fromY))))))))
def lp_X0_lay_12 (Q : (Int32 × Int32 × (Nat → Int32) × (Nat → Int32) × (Nat → Int32) × (Nat → Int32) × (Nat → Int32) × (Nat → Int32) × (Nat → Int32)) → Prop) (p1 : Int32) (p2 : Int32) (c_spotX : Nat → Int32) (c_spotY : Nat → Int32) (c_edgeWorth : Nat → Int32) (c_placeWorth : Nat → Int32) (c_givenTo : Nat → Int32) (c_edges : Int32) (c_places : Int32) (c_toX : Nat → Int32) (c_toY : Nat → Int32) (c_fromX : Nat → Int32) (c_fromY : Nat → Int32) (x3 : Int32) : Prop :=
∃ I : Nat → Int32 → Int32 → (Nat → Int32) → (Nat → Int32) → (Nat → Int32) → (Nat → Int32) → Int32 → Prop, (∃ n, I n c_edges c_places c_toX c_toY c_fromX c_fromY x3) ∧ ∀ n c_edges c_places c_toX c_toY c_fromX c_fromY x3, I n c_edges c_places c_toX c_toY c_fromX c_fromY x3 → bd_X0_lay_12 Q  (fun c_edges' c_places' c_toX' c_toY' c_fromX' c_fromY' x3' => ∃ n', n' < n ∧ I n' c_edges' c_places' c_toX' c_toY' c_fromX' c_fromY' x3') p1 p2 c_spotX c_spotY c_edgeWorth c_placeWorth c_givenTo c_edges c_places c_toX c_toY c_fromX c_fromY x3
def wp_X0_lay (p1 : Int32) (p2 : Int32) (c_spotX : Nat → Int32) (c_spotY : Nat → Int32) (c_toX : Nat → Int32) (c_toY : Nat → Int32) (c_fromX : Nat → Int32) (c_fromY : Nat → Int32) (c_edgeWorth : Nat → Int32) (c_placeWorth : Nat → Int32) (c_givenTo : Nat → Int32) (Q : (Int32 × Int32 × (Nat → Int32) × (Nat → Int32) × (Nat → Int32) × (Nat → Int32) × (Nat → Int32) × (Nat → Int32) × (Nat → Int32)) → Prop) : Prop :=
lp_X0_lay_12 Q p1 p2 c_spotX c_spotY c_edgeWorth c_placeWorth c_givenTo 0 0 c_toX c_toY c_fromX c_fromY 0
set_option maxHeartbeats 4000000 in
set_option maxRecDepth 100000 in
theorem B_X0_lay_103 {x : CX} {D : DG} {cyI cyJ cyZ : ClassId} {a_c a_c_spotX a_c_spotY a_c_toX a_c_toY a_c_fromX a_c_fromY a_c_edgeWorth a_c_placeWorth a_c_givenTo a_c_cameFrom a_c_slack a_c_seen : Nat} {c_edges : Int32} {c_places : Int32} {c_spotX : Nat → Int32} {c_spotY : Nat → Int32} {c_toX : Nat → Int32} {c_toY : Nat → Int32} {c_fromX : Nat → Int32} {c_fromY : Nat → Int32} {c_edgeWorth : Nat → Int32} {c_placeWorth : Nat → Int32} {c_givenTo : Nat → Int32} {c_cameFrom : Nat → Int32} {c_slack : Nat → Int32} {c_seen : Nat → Int32} {x3 : Int32} {Q : (Int32 × Int32 × (Nat → Int32) × (Nat → Int32) × (Nat → Int32) × (Nat → Int32) × (Nat → Int32) × (Nat → Int32) × (Nat → Int32)) → Prop} {B103 : Int32 → (Nat → Int32) → (Nat → Int32) → Int32 → Prop} (cx : Cx x cX0_lay 4 RX0 rm_X0_lay D [(cyI, .int), (cyJ, .long), (cyZ, .boolean)]) (hR : ∀ (u : Int32 × Int32 × (Nat → Int32) × (Nat → Int32) × (Nat → Int32) × (Nat → Int32) × (Nat → Int32) × (Nat → Int32) × (Nat → Int32)) (pc : Nat) (lv : List (Nat × Value)), decode cX0_lay pc = .ok (.return_, 1) → Q u → J x 0 0 4 (W_Car cyI cyJ cyZ a_c a_c_spotX a_c_spotY a_c_toX a_c_toY a_c_fromX a_c_fromY a_c_edgeWorth a_c_placeWorth a_c_givenTo a_c_cameFrom a_c_slack a_c_seen u.1 u.2.1 c_spotX c_spotY u.2.2.1 u.2.2.2.1 u.2.2.2.2.1 u.2.2.2.2.2.1 u.2.2.2.2.2.2.1 u.2.2.2.2.2.2.2.1 u.2.2.2.2.2.2.2.2 c_cameFrom c_slack c_seen) lv pc []) (hB103 : ∀ (c_places : Int32) (c_fromX : Nat → Int32) (c_fromY : Nat → Int32) (x3 : Int32), B103 c_places c_fromX c_fromY x3 → J x 0 0 4 (W_Car cyI cyJ cyZ a_c a_c_spotX a_c_spotY a_c_toX a_c_toY a_c_fromX a_c_fromY a_c_edgeWorth a_c_placeWorth a_c_givenTo a_c_cameFrom a_c_slack a_c_seen c_edges c_places c_spotX c_spotY c_toX c_toY c_fromX c_fromY c_edgeWorth c_placeWorth c_givenTo c_cameFrom c_slack c_seen) [(0, .ref a_c), (3, .int x3)] 103 []) (h : bd_X0_lay_103 Q B103 c_edges c_toX c_toY c_edgeWorth c_placeWorth c_givenTo c_places c_fromX c_fromY x3) :
    J x 0 0 4 (W_Car cyI cyJ cyZ a_c a_c_spotX a_c_spotY a_c_toX a_c_toY a_c_fromX a_c_fromY a_c_edgeWorth a_c_placeWorth a_c_givenTo a_c_cameFrom a_c_slack a_c_seen c_edges c_places c_spotX c_spotY c_toX c_toY c_fromX c_fromY c_edgeWorth c_placeWorth c_givenTo c_cameFrom c_slack c_seen) [(0, .ref a_c), (3, .int x3)] 103 [] := by
  unfold bd_X0_lay_103 at h
  refine j_iload_n cx 1 rfl rfl dX0_lay_103 (pn := 104) rfl ?_
  refine j_aload_n cx 0 rfl rfl dX0_lay_104 (pn := 105) rfl ?_
  refine j_get cx inGX0 0 rfl rfl 12 (by decide) q_fl_X0_56 rfl rfl dX0_lay_105 (pn := 108) rfl ?_
  refine j_icmp_ge cx 123 dX0_lay_108 (pn := 111) rfl rfl (fun c2 => ?_) (fun c2 => ?_)
  · have h := h.1 c2
    refine j_aload_n cx 0 rfl rfl dX0_lay_123 (pn := 124) rfl ?_
    refine j_get cx inGX0 0 rfl rfl 6 (by decide) q_fl_X0_30 rfl rfl dX0_lay_124 (pn := 127) rfl ?_
    refine j_iconst cx (v := 0) (by decide) dX0_lay_127 (pn := 128) rfl ?_
    refine j_callsV cx q_stat_J7_fill_53178 (As := [.ref a_c_edgeWorth, .int 0]) (rest := []) (W_Arr cyI cyJ cyZ 32 a_c_edgeWorth c_edgeWorth) [(a_c, .inr (0, [.ref a_c_spotX, .ref a_c_spotY, .ref a_c_toX, .ref a_c_toY, .ref a_c_fromX, .ref a_c_fromY, .ref a_c_edgeWorth, .ref a_c_placeWorth, .ref a_c_givenTo, .ref a_c_cameFrom, .ref a_c_slack, .ref a_c_seen, .int c_edges, .int c_places])), (a_c_spotX, .inl (cyI, 31, .inl c_spotX)), (a_c_spotY, .inl (cyI, 31, .inl c_spotY)), (a_c_toX, .inl (cyI, 32, .inl c_toX)), (a_c_toY, .inl (cyI, 32, .inl c_toY)), (a_c_fromX, .inl (cyI, 63, .inl c_fromX)), (a_c_fromY, .inl (cyI, 63, .inl c_fromY)), (a_c_placeWorth, .inl (cyI, 63, .inl c_placeWorth)), (a_c_givenTo, .inl (cyI, 63, .inl c_givenTo)), (a_c_cameFrom, .inl (cyI, 63, .inl c_cameFrom)), (a_c_slack, .inl (cyI, 63, .inl c_slack)), (a_c_seen, .inl (cyI, 63, .inl c_seen))] (c_J7_fill_53178 h) ⟨q_code_J7_fill_53178, q_ml_X0_90, q_init_J7, hd_J7_fill_53178, ⟨Nat.le_of_ble_eq_true rfl, Nat.le_of_ble_eq_true rfl⟩, Nat.le_of_ble_eq_true rfl, Nat.le_of_ble_eq_true rfl⟩ rfl [7] [0, 1, 2, 3, 4, 5, 6, 8, 9, 10, 11, 12] [0, 1, 2, 3, 4, 5, 6, 12, 7, 8, 9, 10, 11] rfl rfl rfl rfl rfl (by decide) (fun u : (Nat → Int32) => (W_Car cyI cyJ cyZ a_c a_c_spotX a_c_spotY a_c_toX a_c_toY a_c_fromX a_c_fromY a_c_edgeWorth a_c_placeWorth a_c_givenTo a_c_cameFrom a_c_slack a_c_seen c_edges c_places c_spotX c_spotY c_toX c_toY c_fromX c_fromY u c_placeWorth c_givenTo c_cameFrom c_slack c_seen)) (fun _ => rfl) (fun _ => rfl) rfl rfl (Nat.le_of_ble_eq_true rfl) dX0_lay_128 (pn := 131) rfl (fun u3 h => ?_)
    show J x 0 0 4 (W_Car cyI cyJ cyZ a_c a_c_spotX a_c_spotY a_c_toX a_c_toY a_c_fromX a_c_fromY a_c_edgeWorth a_c_placeWorth a_c_givenTo a_c_cameFrom a_c_slack a_c_seen c_edges c_places c_spotX c_spotY c_toX c_toY c_fromX c_fromY u3 c_placeWorth c_givenTo c_cameFrom c_slack c_seen) [(0, .ref a_c), (3, .int x3)] 131 []
    refine j_aload_n cx 0 rfl rfl dX0_lay_131 (pn := 132) rfl ?_
    refine j_get cx inGX0 0 rfl rfl 7 (by decide) q_fl_X0_33 rfl rfl dX0_lay_132 (pn := 135) rfl ?_
    refine j_iconst cx (v := 0) (by decide) dX0_lay_135 (pn := 136) rfl ?_
    refine j_callsV cx q_stat_J7_fill_53178 (As := [.ref a_c_placeWorth, .int 0]) (rest := []) (W_Arr cyI cyJ cyZ 63 a_c_placeWorth c_placeWorth) [(a_c, .inr (0, [.ref a_c_spotX, .ref a_c_spotY, .ref a_c_toX, .ref a_c_toY, .ref a_c_fromX, .ref a_c_fromY, .ref a_c_edgeWorth, .ref a_c_placeWorth, .ref a_c_givenTo, .ref a_c_cameFrom, .ref a_c_slack, .ref a_c_seen, .int c_edges, .int c_places])), (a_c_spotX, .inl (cyI, 31, .inl c_spotX)), (a_c_spotY, .inl (cyI, 31, .inl c_spotY)), (a_c_toX, .inl (cyI, 32, .inl c_toX)), (a_c_toY, .inl (cyI, 32, .inl c_toY)), (a_c_fromX, .inl (cyI, 63, .inl c_fromX)), (a_c_fromY, .inl (cyI, 63, .inl c_fromY)), (a_c_edgeWorth, .inl (cyI, 32, .inl u3)), (a_c_givenTo, .inl (cyI, 63, .inl c_givenTo)), (a_c_cameFrom, .inl (cyI, 63, .inl c_cameFrom)), (a_c_slack, .inl (cyI, 63, .inl c_slack)), (a_c_seen, .inl (cyI, 63, .inl c_seen))] (c_J7_fill_53178 h) ⟨q_code_J7_fill_53178, q_ml_X0_90, q_init_J7, hd_J7_fill_53178, ⟨Nat.le_of_ble_eq_true rfl, Nat.le_of_ble_eq_true rfl⟩, Nat.le_of_ble_eq_true rfl, Nat.le_of_ble_eq_true rfl⟩ rfl [8] [0, 1, 2, 3, 4, 5, 6, 7, 9, 10, 11, 12] [0, 1, 2, 3, 4, 5, 6, 7, 12, 8, 9, 10, 11] rfl rfl rfl rfl rfl (by decide) (fun u : (Nat → Int32) => (W_Car cyI cyJ cyZ a_c a_c_spotX a_c_spotY a_c_toX a_c_toY a_c_fromX a_c_fromY a_c_edgeWorth a_c_placeWorth a_c_givenTo a_c_cameFrom a_c_slack a_c_seen c_edges c_places c_spotX c_spotY c_toX c_toY c_fromX c_fromY u3 u c_givenTo c_cameFrom c_slack c_seen)) (fun _ => rfl) (fun _ => rfl) rfl rfl (Nat.le_of_ble_eq_true rfl) dX0_lay_136 (pn := 139) rfl (fun u4 h => ?_)
    show J x 0 0 4 (W_Car cyI cyJ cyZ a_c a_c_spotX a_c_spotY a_c_toX a_c_toY a_c_fromX a_c_fromY a_c_edgeWorth a_c_placeWorth a_c_givenTo a_c_cameFrom a_c_slack a_c_seen c_edges c_places c_spotX c_spotY c_toX c_toY c_fromX c_fromY u3 u4 c_givenTo c_cameFrom c_slack c_seen) [(0, .ref a_c), (3, .int x3)] 139 []
    refine j_aload_n cx 0 rfl rfl dX0_lay_139 (pn := 140) rfl ?_
    refine j_get cx inGX0 0 rfl rfl 8 (by decide) q_fl_X0_36 rfl rfl dX0_lay_140 (pn := 143) rfl ?_
    refine j_iconst cx (v := 0) (by decide) dX0_lay_143 (pn := 144) rfl ?_
    refine j_callsV cx q_stat_J7_fill_53178 (As := [.ref a_c_givenTo, .int 0]) (rest := []) (W_Arr cyI cyJ cyZ 63 a_c_givenTo c_givenTo) [(a_c, .inr (0, [.ref a_c_spotX, .ref a_c_spotY, .ref a_c_toX, .ref a_c_toY, .ref a_c_fromX, .ref a_c_fromY, .ref a_c_edgeWorth, .ref a_c_placeWorth, .ref a_c_givenTo, .ref a_c_cameFrom, .ref a_c_slack, .ref a_c_seen, .int c_edges, .int c_places])), (a_c_spotX, .inl (cyI, 31, .inl c_spotX)), (a_c_spotY, .inl (cyI, 31, .inl c_spotY)), (a_c_toX, .inl (cyI, 32, .inl c_toX)), (a_c_toY, .inl (cyI, 32, .inl c_toY)), (a_c_fromX, .inl (cyI, 63, .inl c_fromX)), (a_c_fromY, .inl (cyI, 63, .inl c_fromY)), (a_c_edgeWorth, .inl (cyI, 32, .inl u3)), (a_c_placeWorth, .inl (cyI, 63, .inl u4)), (a_c_cameFrom, .inl (cyI, 63, .inl c_cameFrom)), (a_c_slack, .inl (cyI, 63, .inl c_slack)), (a_c_seen, .inl (cyI, 63, .inl c_seen))] (c_J7_fill_53178 h) ⟨q_code_J7_fill_53178, q_ml_X0_90, q_init_J7, hd_J7_fill_53178, ⟨Nat.le_of_ble_eq_true rfl, Nat.le_of_ble_eq_true rfl⟩, Nat.le_of_ble_eq_true rfl, Nat.le_of_ble_eq_true rfl⟩ rfl [9] [0, 1, 2, 3, 4, 5, 6, 7, 8, 10, 11, 12] [0, 1, 2, 3, 4, 5, 6, 7, 8, 12, 9, 10, 11] rfl rfl rfl rfl rfl (by decide) (fun u : (Nat → Int32) => (W_Car cyI cyJ cyZ a_c a_c_spotX a_c_spotY a_c_toX a_c_toY a_c_fromX a_c_fromY a_c_edgeWorth a_c_placeWorth a_c_givenTo a_c_cameFrom a_c_slack a_c_seen c_edges c_places c_spotX c_spotY c_toX c_toY c_fromX c_fromY u3 u4 u c_cameFrom c_slack c_seen)) (fun _ => rfl) (fun _ => rfl) rfl rfl (Nat.le_of_ble_eq_true rfl) dX0_lay_144 (pn := 147) rfl (fun u5 h => ?_)
    show J x 0 0 4 (W_Car cyI cyJ cyZ a_c a_c_spotX a_c_spotY a_c_toX a_c_toY a_c_fromX a_c_fromY a_c_edgeWorth a_c_placeWorth a_c_givenTo a_c_cameFrom a_c_slack a_c_seen c_edges c_places c_spotX c_spotY c_toX c_toY c_fromX c_fromY u3 u4 u5 c_cameFrom c_slack c_seen) [(0, .ref a_c), (3, .int x3)] 147 []
    exact hR (c_edges, c_places, c_toX, c_toY, c_fromX, c_fromY, u3, u4, u5) 147 _ dX0_lay_147 h
  · have h := h.2 c2
    refine j_aload_n cx 0 rfl rfl dX0_lay_111 (pn := 112) rfl ?_
    refine j_iconst cx (v := 0) (by decide) dX0_lay_112 (pn := 113) rfl ?_
    refine j_iconst cx (v := 0) (by decide) dX0_lay_113 (pn := 114) rfl ?_
    refine j_callvV0 cx q_inst_X0_putPlace q_sel_X0_putPlace (b := a_c) (As := [.int 0, .int 0]) (rest := []) (c_X0_putPlace h) ⟨q_code_X0_putPlace, q_ml_X0_87, q_init_X0, hd_X0_putPlace, ⟨Nat.le_of_ble_eq_true rfl, Nat.le_of_ble_eq_true rfl⟩, Nat.le_of_ble_eq_true rfl, Nat.le_of_ble_eq_true rfl⟩ (q0 := 0) rfl rfl rfl rfl (Nat.le_of_ble_eq_true rfl) dX0_lay_114 (pn := 117) rfl (fun u6 h => ?_)
    show J x 0 0 4 (W_Car cyI cyJ cyZ a_c a_c_spotX a_c_spotY a_c_toX a_c_toY a_c_fromX a_c_fromY a_c_edgeWorth a_c_placeWorth a_c_givenTo a_c_cameFrom a_c_slack a_c_seen c_edges u6.1 c_spotX c_spotY c_toX c_toY u6.2.1 u6.2.2 c_edgeWorth c_placeWorth c_givenTo c_cameFrom c_slack c_seen) [(0, .ref a_c), (3, .int x3)] 117 []
    obtain ⟨y7, ey7⟩ : ∃ z : Int32, z = x3 + 1 := ⟨_, rfl⟩
    have h := h y7 ey7
    refine j_iinc cx 1 rfl (cst := 1) (by decide) ey7 [(3, .int y7), (0, .ref a_c)] (by decide) rfl dX0_lay_117 (pn := 120) rfl ?_
    refine j_goto cx 103 dX0_lay_120 rfl ?_
    refine j_sub [1, 0] [(0, .ref a_c), (3, .int y7)] rfl ?_
    exact hB103 _ _ _ _ h
set_option maxHeartbeats 4000000 in
set_option maxRecDepth 100000 in
theorem J_X0_lay_103 {x : CX} {D : DG} {cyI cyJ cyZ : ClassId} {a_c a_c_spotX a_c_spotY a_c_toX a_c_toY a_c_fromX a_c_fromY a_c_edgeWorth a_c_placeWorth a_c_givenTo a_c_cameFrom a_c_slack a_c_seen : Nat} {c_edges : Int32} {c_places : Int32} {c_spotX : Nat → Int32} {c_spotY : Nat → Int32} {c_toX : Nat → Int32} {c_toY : Nat → Int32} {c_fromX : Nat → Int32} {c_fromY : Nat → Int32} {c_edgeWorth : Nat → Int32} {c_placeWorth : Nat → Int32} {c_givenTo : Nat → Int32} {c_cameFrom : Nat → Int32} {c_slack : Nat → Int32} {c_seen : Nat → Int32} {x3 : Int32} {Q : (Int32 × Int32 × (Nat → Int32) × (Nat → Int32) × (Nat → Int32) × (Nat → Int32) × (Nat → Int32) × (Nat → Int32) × (Nat → Int32)) → Prop} (cx : Cx x cX0_lay 4 RX0 rm_X0_lay D [(cyI, .int), (cyJ, .long), (cyZ, .boolean)]) (hR : ∀ (u : Int32 × Int32 × (Nat → Int32) × (Nat → Int32) × (Nat → Int32) × (Nat → Int32) × (Nat → Int32) × (Nat → Int32) × (Nat → Int32)) (pc : Nat) (lv : List (Nat × Value)), decode cX0_lay pc = .ok (.return_, 1) → Q u → J x 0 0 4 (W_Car cyI cyJ cyZ a_c a_c_spotX a_c_spotY a_c_toX a_c_toY a_c_fromX a_c_fromY a_c_edgeWorth a_c_placeWorth a_c_givenTo a_c_cameFrom a_c_slack a_c_seen u.1 u.2.1 c_spotX c_spotY u.2.2.1 u.2.2.2.1 u.2.2.2.2.1 u.2.2.2.2.2.1 u.2.2.2.2.2.2.1 u.2.2.2.2.2.2.2.1 u.2.2.2.2.2.2.2.2 c_cameFrom c_slack c_seen) lv pc []) (h : lp_X0_lay_103 Q  c_edges c_toX c_toY c_edgeWorth c_placeWorth c_givenTo c_places c_fromX c_fromY x3) :
    J x 0 0 4 (W_Car cyI cyJ cyZ a_c a_c_spotX a_c_spotY a_c_toX a_c_toY a_c_fromX a_c_fromY a_c_edgeWorth a_c_placeWorth a_c_givenTo a_c_cameFrom a_c_slack a_c_seen c_edges c_places c_spotX c_spotY c_toX c_toY c_fromX c_fromY c_edgeWorth c_placeWorth c_givenTo c_cameFrom c_slack c_seen) [(0, .ref a_c), (3, .int x3)] 103 [] := by
  obtain ⟨I, ⟨n, h0⟩, hb⟩ := h
  revert c_places c_fromX c_fromY x3
  induction n using Nat.strongRecOn with
  | _ n ih =>
    intro c_places c_fromX c_fromY x3 h0
    exact B_X0_lay_103 cx hR (fun _ _ _ _ hz => by obtain ⟨n2, hlt, hI⟩ := hz; exact ih n2 hlt hI) (hb n c_places c_fromX c_fromY x3 h0)
set_option maxHeartbeats 4000000 in
set_option maxRecDepth 100000 in
theorem J_X0_lay_95 {x : CX} {D : DG} {cyI cyJ cyZ : ClassId} {a_c a_c_spotX a_c_spotY a_c_toX a_c_toY a_c_fromX a_c_fromY a_c_edgeWorth a_c_placeWorth a_c_givenTo a_c_cameFrom a_c_slack a_c_seen : Nat} {c_edges : Int32} {c_places : Int32} {c_spotX : Nat → Int32} {c_spotY : Nat → Int32} {c_toX : Nat → Int32} {c_toY : Nat → Int32} {c_fromX : Nat → Int32} {c_fromY : Nat → Int32} {c_edgeWorth : Nat → Int32} {c_placeWorth : Nat → Int32} {c_givenTo : Nat → Int32} {c_cameFrom : Nat → Int32} {c_slack : Nat → Int32} {c_seen : Nat → Int32} {p1 : Int32} {p2 : Int32} {x3 : Int32} {Q : (Int32 × Int32 × (Nat → Int32) × (Nat → Int32) × (Nat → Int32) × (Nat → Int32) × (Nat → Int32) × (Nat → Int32) × (Nat → Int32)) → Prop} {B12 : Int32 → Int32 → (Nat → Int32) → (Nat → Int32) → (Nat → Int32) → (Nat → Int32) → Int32 → Prop} (cx : Cx x cX0_lay 4 RX0 rm_X0_lay D [(cyI, .int), (cyJ, .long), (cyZ, .boolean)]) (hR : ∀ (u : Int32 × Int32 × (Nat → Int32) × (Nat → Int32) × (Nat → Int32) × (Nat → Int32) × (Nat → Int32) × (Nat → Int32) × (Nat → Int32)) (pc : Nat) (lv : List (Nat × Value)), decode cX0_lay pc = .ok (.return_, 1) → Q u → J x 0 0 4 (W_Car cyI cyJ cyZ a_c a_c_spotX a_c_spotY a_c_toX a_c_toY a_c_fromX a_c_fromY a_c_edgeWorth a_c_placeWorth a_c_givenTo a_c_cameFrom a_c_slack a_c_seen u.1 u.2.1 c_spotX c_spotY u.2.2.1 u.2.2.2.1 u.2.2.2.2.1 u.2.2.2.2.2.1 u.2.2.2.2.2.2.1 u.2.2.2.2.2.2.2.1 u.2.2.2.2.2.2.2.2 c_cameFrom c_slack c_seen) lv pc []) (hB12 : ∀ (c_edges : Int32) (c_places : Int32) (c_toX : Nat → Int32) (c_toY : Nat → Int32) (c_fromX : Nat → Int32) (c_fromY : Nat → Int32) (x3 : Int32), B12 c_edges c_places c_toX c_toY c_fromX c_fromY x3 → J x 0 0 4 (W_Car cyI cyJ cyZ a_c a_c_spotX a_c_spotY a_c_toX a_c_toY a_c_fromX a_c_fromY a_c_edgeWorth a_c_placeWorth a_c_givenTo a_c_cameFrom a_c_slack a_c_seen c_edges c_places c_spotX c_spotY c_toX c_toY c_fromX c_fromY c_edgeWorth c_placeWorth c_givenTo c_cameFrom c_slack c_seen) [(0, .ref a_c), (1, .int p1), (2, .int p2), (3, .int x3)] 12 []) (h : bk_X0_lay_95 Q B12 x3 c_edges c_places c_toX c_toY c_fromX c_fromY) :
    J x 0 0 4 (W_Car cyI cyJ cyZ a_c a_c_spotX a_c_spotY a_c_toX a_c_toY a_c_fromX a_c_fromY a_c_edgeWorth a_c_placeWorth a_c_givenTo a_c_cameFrom a_c_slack a_c_seen c_edges c_places c_spotX c_spotY c_toX c_toY c_fromX c_fromY c_edgeWorth c_placeWorth c_givenTo c_cameFrom c_slack c_seen) [(0, .ref a_c), (1, .int p1), (2, .int p2), (3, .int x3)] 95 [] := by
  unfold bk_X0_lay_95 at h
  obtain ⟨y10, ey10⟩ : ∃ z : Int32, z = x3 + 1 := ⟨_, rfl⟩
  have h := h y10 ey10
  refine j_iinc cx 3 rfl (cst := 1) (by decide) ey10 [(3, .int y10), (0, .ref a_c), (1, .int p1), (2, .int p2)] (by decide) rfl dX0_lay_95 (pn := 98) rfl ?_
  refine j_goto cx 12 dX0_lay_98 rfl ?_
  refine j_sub [1, 2, 3, 0] [(0, .ref a_c), (1, .int p1), (2, .int p2), (3, .int y10)] rfl ?_
  exact hB12 _ _ _ _ _ _ _ h
set_option maxHeartbeats 4000000 in
set_option maxRecDepth 100000 in
theorem B_X0_lay_12 {x : CX} {D : DG} {cyI cyJ cyZ : ClassId} {a_c a_c_spotX a_c_spotY a_c_toX a_c_toY a_c_fromX a_c_fromY a_c_edgeWorth a_c_placeWorth a_c_givenTo a_c_cameFrom a_c_slack a_c_seen : Nat} {c_edges : Int32} {c_places : Int32} {c_spotX : Nat → Int32} {c_spotY : Nat → Int32} {c_toX : Nat → Int32} {c_toY : Nat → Int32} {c_fromX : Nat → Int32} {c_fromY : Nat → Int32} {c_edgeWorth : Nat → Int32} {c_placeWorth : Nat → Int32} {c_givenTo : Nat → Int32} {c_cameFrom : Nat → Int32} {c_slack : Nat → Int32} {c_seen : Nat → Int32} {p1 : Int32} {p2 : Int32} {x3 : Int32} {Q : (Int32 × Int32 × (Nat → Int32) × (Nat → Int32) × (Nat → Int32) × (Nat → Int32) × (Nat → Int32) × (Nat → Int32) × (Nat → Int32)) → Prop} {B12 : Int32 → Int32 → (Nat → Int32) → (Nat → Int32) → (Nat → Int32) → (Nat → Int32) → Int32 → Prop} (cx : Cx x cX0_lay 4 RX0 rm_X0_lay D [(cyI, .int), (cyJ, .long), (cyZ, .boolean)]) (hR : ∀ (u : Int32 × Int32 × (Nat → Int32) × (Nat → Int32) × (Nat → Int32) × (Nat → Int32) × (Nat → Int32) × (Nat → Int32) × (Nat → Int32)) (pc : Nat) (lv : List (Nat × Value)), decode cX0_lay pc = .ok (.return_, 1) → Q u → J x 0 0 4 (W_Car cyI cyJ cyZ a_c a_c_spotX a_c_spotY a_c_toX a_c_toY a_c_fromX a_c_fromY a_c_edgeWorth a_c_placeWorth a_c_givenTo a_c_cameFrom a_c_slack a_c_seen u.1 u.2.1 c_spotX c_spotY u.2.2.1 u.2.2.2.1 u.2.2.2.2.1 u.2.2.2.2.2.1 u.2.2.2.2.2.2.1 u.2.2.2.2.2.2.2.1 u.2.2.2.2.2.2.2.2 c_cameFrom c_slack c_seen) lv pc []) (hB12 : ∀ (c_edges : Int32) (c_places : Int32) (c_toX : Nat → Int32) (c_toY : Nat → Int32) (c_fromX : Nat → Int32) (c_fromY : Nat → Int32) (x3 : Int32), B12 c_edges c_places c_toX c_toY c_fromX c_fromY x3 → J x 0 0 4 (W_Car cyI cyJ cyZ a_c a_c_spotX a_c_spotY a_c_toX a_c_toY a_c_fromX a_c_fromY a_c_edgeWorth a_c_placeWorth a_c_givenTo a_c_cameFrom a_c_slack a_c_seen c_edges c_places c_spotX c_spotY c_toX c_toY c_fromX c_fromY c_edgeWorth c_placeWorth c_givenTo c_cameFrom c_slack c_seen) [(0, .ref a_c), (1, .int p1), (2, .int p2), (3, .int x3)] 12 []) (h : bd_X0_lay_12 Q B12 p1 p2 c_spotX c_spotY c_edgeWorth c_placeWorth c_givenTo c_edges c_places c_toX c_toY c_fromX c_fromY x3) :
    J x 0 0 4 (W_Car cyI cyJ cyZ a_c a_c_spotX a_c_spotY a_c_toX a_c_toY a_c_fromX a_c_fromY a_c_edgeWorth a_c_placeWorth a_c_givenTo a_c_cameFrom a_c_slack a_c_seen c_edges c_places c_spotX c_spotY c_toX c_toY c_fromX c_fromY c_edgeWorth c_placeWorth c_givenTo c_cameFrom c_slack c_seen) [(0, .ref a_c), (1, .int p1), (2, .int p2), (3, .int x3)] 12 [] := by
  unfold bd_X0_lay_12 at h
  refine j_iload_n cx 3 rfl rfl dX0_lay_12 (pn := 13) rfl ?_
  refine j_bipush cx (v := 31) (by decide) dX0_lay_13 (pn := 15) rfl ?_
  refine j_icmp_ge cx 101 dX0_lay_15 (pn := 18) rfl rfl (fun c1 => ?_) (fun c1 => ?_)
  · have h := h.1 c1
    refine j_iconst cx (v := 0) (by decide) dX0_lay_101 (pn := 102) rfl ?_
    refine j_istore_n cx rfl [(3, .int 0), (0, .ref a_c), (1, .int p1), (2, .int p2)] (by decide) rfl dX0_lay_102 (pn := 103) rfl ?_
    refine j_sub [1, 0] [(0, .ref a_c), (3, .int 0)] rfl ?_
    exact J_X0_lay_103 cx hR h
  · have h := h.2 c1
    refine j_iload_n cx 1 rfl rfl dX0_lay_18 (pn := 19) rfl ?_
    refine j_iload_n cx 3 rfl rfl dX0_lay_19 (pn := 20) rfl ?_
    refine j_ishr cx dX0_lay_20 (pn := 21) rfl ?_
    refine j_iconst cx (v := 1) (by decide) dX0_lay_21 (pn := 22) rfl ?_
    refine j_iand cx dX0_lay_22 (pn := 23) rfl ?_
    refine j_iconst cx (v := 1) (by decide) dX0_lay_23 (pn := 24) rfl ?_
    refine j_icmp_ne cx 70 dX0_lay_24 (pn := 27) rfl rfl (fun c8 => ?_) (fun c8 => ?_)
    · have h := h.1 c8
      refine j_iload_n cx 2 rfl rfl dX0_lay_70 (pn := 71) rfl ?_
      refine j_iload_n cx 3 rfl rfl dX0_lay_71 (pn := 72) rfl ?_
      refine j_ishr cx dX0_lay_72 (pn := 73) rfl ?_
      refine j_iconst cx (v := 1) (by decide) dX0_lay_73 (pn := 74) rfl ?_
      refine j_iand cx dX0_lay_74 (pn := 75) rfl ?_
      refine j_iconst cx (v := 1) (by decide) dX0_lay_75 (pn := 76) rfl ?_
      refine j_icmp_ne cx 95 dX0_lay_76 (pn := 79) rfl rfl (fun c9 => ?_) (fun c9 => ?_)
      · have h := h.1 c9
        exact J_X0_lay_95 cx hR hB12 h
      · have h := h.2 c9
        refine j_aload_n cx 0 rfl rfl dX0_lay_79 (pn := 80) rfl ?_
        refine j_aload_n cx 0 rfl rfl dX0_lay_80 (pn := 81) rfl ?_
        refine j_get cx inGX0 0 rfl rfl 0 (by decide) q_fl_X0_9 rfl rfl dX0_lay_81 (pn := 84) rfl ?_
        refine j_iload_n cx 3 rfl rfl dX0_lay_84 (pn := 85) rfl ?_
        refine j_iald cx 1 0 rfl rfl h.1 dX0_lay_85 (pn := 86) rfl ?_
        have h := h.2
        refine j_aload_n cx 0 rfl rfl dX0_lay_86 (pn := 87) rfl ?_
        refine j_get cx inGX0 0 rfl rfl 1 (by decide) q_fl_X0_15 rfl rfl dX0_lay_87 (pn := 90) rfl ?_
        refine j_iload_n cx 3 rfl rfl dX0_lay_90 (pn := 91) rfl ?_
        refine j_iald cx 2 0 rfl rfl h.1 dX0_lay_91 (pn := 92) rfl ?_
        have h := h.2
        refine j_callvV0 cx q_inst_X0_putPlace q_sel_X0_putPlace (b := a_c) (As := [.int (c_spotX x3.toNatClampNeg), .int (c_spotY x3.toNatClampNeg)]) (rest := []) (c_X0_putPlace h) ⟨q_code_X0_putPlace, q_ml_X0_87, q_init_X0, hd_X0_putPlace, ⟨Nat.le_of_ble_eq_true rfl, Nat.le_of_ble_eq_true rfl⟩, Nat.le_of_ble_eq_true rfl, Nat.le_of_ble_eq_true rfl⟩ (q0 := 0) rfl rfl rfl rfl (Nat.le_of_ble_eq_true rfl) dX0_lay_92 (pn := 95) rfl (fun u11 h => ?_)
        show J x 0 0 4 (W_Car cyI cyJ cyZ a_c a_c_spotX a_c_spotY a_c_toX a_c_toY a_c_fromX a_c_fromY a_c_edgeWorth a_c_placeWorth a_c_givenTo a_c_cameFrom a_c_slack a_c_seen c_edges u11.1 c_spotX c_spotY c_toX c_toY u11.2.1 u11.2.2 c_edgeWorth c_placeWorth c_givenTo c_cameFrom c_slack c_seen) [(0, .ref a_c), (1, .int p1), (2, .int p2), (3, .int x3)] 95 []
        exact J_X0_lay_95 cx hR hB12 h
    · have h := h.2 c8
      refine j_aload_n cx 0 rfl rfl dX0_lay_27 (pn := 28) rfl ?_
      refine j_dup cx rfl dX0_lay_28 (pn := 29) rfl ?_
      refine j_get cx inGX0 0 rfl rfl 12 (by decide) q_fl_X0_56 rfl rfl dX0_lay_29 (pn := 32) rfl ?_
      refine j_iconst cx (v := 1) (by decide) dX0_lay_32 (pn := 33) rfl ?_
      refine j_iadd cx dX0_lay_33 (pn := 34) rfl ?_
      refine j_topi (fun y12 ey12 => ?_)
      have h := h y12 ey12
      refine j_put cx tyX0 tyX0_ok nmX0 inGX0 0 rfl rfl 12 (by decide) q_fl_X0_56 rfl rfl rfl rfl rfl (Nat.le_of_ble_eq_true rfl) (W_Car cyI cyJ cyZ a_c a_c_spotX a_c_spotY a_c_toX a_c_toY a_c_fromX a_c_fromY a_c_edgeWorth a_c_placeWorth a_c_givenTo a_c_cameFrom a_c_slack a_c_seen y12 c_places c_spotX c_spotY c_toX c_toY c_fromX c_fromY c_edgeWorth c_placeWorth c_givenTo c_cameFrom c_slack c_seen) rfl dX0_lay_34 (pn := 37) rfl ?_
      refine j_aload_n cx 0 rfl rfl dX0_lay_37 (pn := 38) rfl ?_
      refine j_get cx inGX0 0 rfl rfl 2 (by decide) q_fl_X0_18 rfl rfl dX0_lay_38 (pn := 41) rfl ?_
      refine j_aload_n cx 0 rfl rfl dX0_lay_41 (pn := 42) rfl ?_
      refine j_get cx inGX0 0 rfl rfl 12 (by decide) q_fl_X0_56 rfl rfl dX0_lay_42 (pn := 45) rfl ?_
      refine j_aload_n cx 0 rfl rfl dX0_lay_45 (pn := 46) rfl ?_
      refine j_get cx inGX0 0 rfl rfl 0 (by decide) q_fl_X0_9 rfl rfl dX0_lay_46 (pn := 49) rfl ?_
      refine j_iload_n cx 3 rfl rfl dX0_lay_49 (pn := 50) rfl ?_
      refine j_iald cx 1 0 rfl rfl h.1 dX0_lay_50 (pn := 51) rfl ?_
      have h := h.2
      refine j_topi (fun y13 ey13 => ?_)
      have h := h y13 ey13
      have hin := h.1
      obtain ⟨f14, ef14⟩ : ∃ z, z = upd c_toX y12.toNatClampNeg y13 := ⟨_, rfl⟩
      have h := h.2 f14 ef14
      refine j_iast cx 3 0 rfl rfl hin (W_Car cyI cyJ cyZ a_c a_c_spotX a_c_spotY a_c_toX a_c_toY a_c_fromX a_c_fromY a_c_edgeWorth a_c_placeWorth a_c_givenTo a_c_cameFrom a_c_slack a_c_seen y12 c_places c_spotX c_spotY f14 c_toY c_fromX c_fromY c_edgeWorth c_placeWorth c_givenTo c_cameFrom c_slack c_seen) (by subst ef14; rfl) dX0_lay_51 (pn := 52) rfl ?_
      refine j_aload_n cx 0 rfl rfl dX0_lay_52 (pn := 53) rfl ?_
      refine j_get cx inGX0 0 rfl rfl 3 (by decide) q_fl_X0_21 rfl rfl dX0_lay_53 (pn := 56) rfl ?_
      refine j_aload_n cx 0 rfl rfl dX0_lay_56 (pn := 57) rfl ?_
      refine j_get cx inGX0 0 rfl rfl 12 (by decide) q_fl_X0_56 rfl rfl dX0_lay_57 (pn := 60) rfl ?_
      refine j_aload_n cx 0 rfl rfl dX0_lay_60 (pn := 61) rfl ?_
      refine j_get cx inGX0 0 rfl rfl 1 (by decide) q_fl_X0_15 rfl rfl dX0_lay_61 (pn := 64) rfl ?_
      refine j_iload_n cx 3 rfl rfl dX0_lay_64 (pn := 65) rfl ?_
      refine j_iald cx 2 0 rfl rfl h.1 dX0_lay_65 (pn := 66) rfl ?_
      have h := h.2
      refine j_topi (fun y15 ey15 => ?_)
      have h := h y15 ey15
      have hin := h.1
      obtain ⟨f16, ef16⟩ : ∃ z, z = upd c_toY y12.toNatClampNeg y15 := ⟨_, rfl⟩
      have h := h.2 f16 ef16
      refine j_iast cx 4 0 rfl rfl hin (W_Car cyI cyJ cyZ a_c a_c_spotX a_c_spotY a_c_toX a_c_toY a_c_fromX a_c_fromY a_c_edgeWorth a_c_placeWorth a_c_givenTo a_c_cameFrom a_c_slack a_c_seen y12 c_places c_spotX c_spotY f14 f16 c_fromX c_fromY c_edgeWorth c_placeWorth c_givenTo c_cameFrom c_slack c_seen) (by subst ef16; rfl) dX0_lay_66 (pn := 67) rfl ?_
      refine j_goto cx 95 dX0_lay_67 rfl ?_
      exact J_X0_lay_95 cx hR hB12 h
set_option maxHeartbeats 4000000 in
set_option maxRecDepth 100000 in
theorem J_X0_lay_12 {x : CX} {D : DG} {cyI cyJ cyZ : ClassId} {a_c a_c_spotX a_c_spotY a_c_toX a_c_toY a_c_fromX a_c_fromY a_c_edgeWorth a_c_placeWorth a_c_givenTo a_c_cameFrom a_c_slack a_c_seen : Nat} {c_edges : Int32} {c_places : Int32} {c_spotX : Nat → Int32} {c_spotY : Nat → Int32} {c_toX : Nat → Int32} {c_toY : Nat → Int32} {c_fromX : Nat → Int32} {c_fromY : Nat → Int32} {c_edgeWorth : Nat → Int32} {c_placeWorth : Nat → Int32} {c_givenTo : Nat → Int32} {c_cameFrom : Nat → Int32} {c_slack : Nat → Int32} {c_seen : Nat → Int32} {p1 : Int32} {p2 : Int32} {x3 : Int32} {Q : (Int32 × Int32 × (Nat → Int32) × (Nat → Int32) × (Nat → Int32) × (Nat → Int32) × (Nat → Int32) × (Nat → Int32) × (Nat → Int32)) → Prop} (cx : Cx x cX0_lay 4 RX0 rm_X0_lay D [(cyI, .int), (cyJ, .long), (cyZ, .boolean)]) (hR : ∀ (u : Int32 × Int32 × (Nat → Int32) × (Nat → Int32) × (Nat → Int32) × (Nat → Int32) × (Nat → Int32) × (Nat → Int32) × (Nat → Int32)) (pc : Nat) (lv : List (Nat × Value)), decode cX0_lay pc = .ok (.return_, 1) → Q u → J x 0 0 4 (W_Car cyI cyJ cyZ a_c a_c_spotX a_c_spotY a_c_toX a_c_toY a_c_fromX a_c_fromY a_c_edgeWorth a_c_placeWorth a_c_givenTo a_c_cameFrom a_c_slack a_c_seen u.1 u.2.1 c_spotX c_spotY u.2.2.1 u.2.2.2.1 u.2.2.2.2.1 u.2.2.2.2.2.1 u.2.2.2.2.2.2.1 u.2.2.2.2.2.2.2.1 u.2.2.2.2.2.2.2.2 c_cameFrom c_slack c_seen) lv pc []) (h : lp_X0_lay_12 Q  p1 p2 c_spotX c_spotY c_edgeWorth c_placeWorth c_givenTo c_edges c_places c_toX c_toY c_fromX c_fromY x3) :
    J x 0 0 4 (W_Car cyI cyJ cyZ a_c a_c_spotX a_c_spotY a_c_toX a_c_toY a_c_fromX a_c_fromY a_c_edgeWorth a_c_placeWorth a_c_givenTo a_c_cameFrom a_c_slack a_c_seen c_edges c_places c_spotX c_spotY c_toX c_toY c_fromX c_fromY c_edgeWorth c_placeWorth c_givenTo c_cameFrom c_slack c_seen) [(0, .ref a_c), (1, .int p1), (2, .int p2), (3, .int x3)] 12 [] := by
  obtain ⟨I, ⟨n, h0⟩, hb⟩ := h
  revert c_edges c_places c_toX c_toY c_fromX c_fromY x3
  induction n using Nat.strongRecOn with
  | _ n ih =>
    intro c_edges c_places c_toX c_toY c_fromX c_fromY x3 h0
    exact B_X0_lay_12 cx hR (fun _ _ _ _ _ _ _ hz => by obtain ⟨n2, hlt, hI⟩ := hz; exact ih n2 hlt hI) (hb n c_edges c_places c_toX c_toY c_fromX c_fromY x3 h0)
set_option maxHeartbeats 4000000 in
set_option maxRecDepth 100000 in
theorem c_X0_lay {D : DG} {cyI cyJ cyZ : ClassId} {a_c a_c_spotX a_c_spotY a_c_toX a_c_toY a_c_fromX a_c_fromY a_c_edgeWorth a_c_placeWorth a_c_givenTo a_c_cameFrom a_c_slack a_c_seen : Nat} {c_edges : Int32} {c_places : Int32} {c_spotX : Nat → Int32} {c_spotY : Nat → Int32} {c_toX : Nat → Int32} {c_toY : Nat → Int32} {c_fromX : Nat → Int32} {c_fromY : Nat → Int32} {c_edgeWorth : Nat → Int32} {c_placeWorth : Nat → Int32} {c_givenTo : Nat → Int32} {c_cameFrom : Nat → Int32} {c_slack : Nat → Int32} {c_seen : Nat → Int32} {p1 : Int32} {p2 : Int32} {Q : (Int32 × Int32 × (Nat → Int32) × (Nat → Int32) × (Nat → Int32) × (Nat → Int32) × (Nat → Int32) × (Nat → Int32) × (Nat → Int32)) → Prop} (h : wp_X0_lay p1 p2 c_spotX c_spotY c_toX c_toY c_fromX c_fromY c_edgeWorth c_placeWorth c_givenTo Q) :
    MetV yX0_lay cX0_lay 4 (none) rm_X0_lay D [(cyI, .int), (cyJ, .long), (cyZ, .boolean)] [.ref a_c, .int p1, .int p2] (W_Car cyI cyJ cyZ a_c a_c_spotX a_c_spotY a_c_toX a_c_toY a_c_fromX a_c_fromY a_c_edgeWorth a_c_placeWorth a_c_givenTo a_c_cameFrom a_c_slack a_c_seen c_edges c_places c_spotX c_spotY c_toX c_toY c_fromX c_fromY c_edgeWorth c_placeWorth c_givenTo c_cameFrom c_slack c_seen) (fun u : Int32 × Int32 × (Nat → Int32) × (Nat → Int32) × (Nat → Int32) × (Nat → Int32) × (Nat → Int32) × (Nat → Int32) × (Nat → Int32) => (W_Car cyI cyJ cyZ a_c a_c_spotX a_c_spotY a_c_toX a_c_toY a_c_fromX a_c_fromY a_c_edgeWorth a_c_placeWorth a_c_givenTo a_c_cameFrom a_c_slack a_c_seen u.1 u.2.1 c_spotX c_spotY u.2.2.1 u.2.2.2.1 u.2.2.2.2.1 u.2.2.2.2.2.1 u.2.2.2.2.2.2.1 u.2.2.2.2.2.2.2.1 u.2.2.2.2.2.2.2.2 c_cameFrom c_slack c_seen)) (fun u => Q u) := by
  unfold wp_X0_lay at h
  refine metV_of (by decide) (Nat.le_of_ble_eq_true rfl) (fun x cx0 hR0 => ?_)
  have cx : Cx x cX0_lay 4 RX0 rm_X0_lay D [(cyI, .int), (cyJ, .long), (cyZ, .boolean)] := cx0
  have hR : ∀ (u : Int32 × Int32 × (Nat → Int32) × (Nat → Int32) × (Nat → Int32) × (Nat → Int32) × (Nat → Int32) × (Nat → Int32) × (Nat → Int32)) (pc : Nat) (lv : List (Nat × Value)), decode cX0_lay pc = .ok (.return_, 1) → Q u → J x 0 0 4 (W_Car cyI cyJ cyZ a_c a_c_spotX a_c_spotY a_c_toX a_c_toY a_c_fromX a_c_fromY a_c_edgeWorth a_c_placeWorth a_c_givenTo a_c_cameFrom a_c_slack a_c_seen u.1 u.2.1 c_spotX c_spotY u.2.2.1 u.2.2.2.1 u.2.2.2.2.1 u.2.2.2.2.2.1 u.2.2.2.2.2.2.1 u.2.2.2.2.2.2.2.1 u.2.2.2.2.2.2.2.2 c_cameFrom c_slack c_seen) lv pc [] := (fun u pc lv d hq => hR0 u pc lv d hq)
  show J x 0 0 4 (W_Car cyI cyJ cyZ a_c a_c_spotX a_c_spotY a_c_toX a_c_toY a_c_fromX a_c_fromY a_c_edgeWorth a_c_placeWorth a_c_givenTo a_c_cameFrom a_c_slack a_c_seen c_edges c_places c_spotX c_spotY c_toX c_toY c_fromX c_fromY c_edgeWorth c_placeWorth c_givenTo c_cameFrom c_slack c_seen) [(0, .ref a_c), (1, .int p1), (2, .int p2)] 0 []
  refine j_aload_n cx 0 rfl rfl dX0_lay_0 (pn := 1) rfl ?_
  refine j_iconst cx (v := 0) (by decide) dX0_lay_1 (pn := 2) rfl ?_
  refine j_put cx tyX0 tyX0_ok nmX0 inGX0 0 rfl rfl 12 (by decide) q_fl_X0_56 rfl rfl rfl rfl rfl (Nat.le_of_ble_eq_true rfl) (W_Car cyI cyJ cyZ a_c a_c_spotX a_c_spotY a_c_toX a_c_toY a_c_fromX a_c_fromY a_c_edgeWorth a_c_placeWorth a_c_givenTo a_c_cameFrom a_c_slack a_c_seen 0 c_places c_spotX c_spotY c_toX c_toY c_fromX c_fromY c_edgeWorth c_placeWorth c_givenTo c_cameFrom c_slack c_seen) rfl dX0_lay_2 (pn := 5) rfl ?_
  refine j_aload_n cx 0 rfl rfl dX0_lay_5 (pn := 6) rfl ?_
  refine j_iconst cx (v := 0) (by decide) dX0_lay_6 (pn := 7) rfl ?_
  refine j_put cx tyX0 tyX0_ok nmX0 inGX0 0 rfl rfl 13 (by decide) q_fl_X0_64 rfl rfl rfl rfl rfl (Nat.le_of_ble_eq_true rfl) (W_Car cyI cyJ cyZ a_c a_c_spotX a_c_spotY a_c_toX a_c_toY a_c_fromX a_c_fromY a_c_edgeWorth a_c_placeWorth a_c_givenTo a_c_cameFrom a_c_slack a_c_seen 0 0 c_spotX c_spotY c_toX c_toY c_fromX c_fromY c_edgeWorth c_placeWorth c_givenTo c_cameFrom c_slack c_seen) rfl dX0_lay_7 (pn := 10) rfl ?_
  refine j_iconst cx (v := 0) (by decide) dX0_lay_10 (pn := 11) rfl ?_
  refine j_istore_n cx rfl [(3, .int 0), (0, .ref a_c), (1, .int p1), (2, .int p2)] (by decide) rfl dX0_lay_11 (pn := 12) rfl ?_
  refine j_sub [1, 2, 3, 0] [(0, .ref a_c), (1, .int p1), (2, .int p2), (3, .int 0)] rfl ?_
  exact J_X0_lay_12 cx hR h
theorem dX0_way_0 : decode cX0_way 0 = .ok (.aload_n 0, 1) := by decide +kernel
theorem dX0_way_1 : decode cX0_way 1 = .ok (.getfield 18, 3) := by decide +kernel
theorem dX0_way_4 : decode cX0_way 4 = .ok (.iload_n 1, 1) := by decide +kernel
theorem dX0_way_5 : decode cX0_way 5 = .ok (.iaload, 1) := by decide +kernel
theorem dX0_way_6 : decode cX0_way 6 = .ok (.aload_n 0, 1) := by decide +kernel
theorem dX0_way_7 : decode cX0_way 7 = .ok (.getfield 24, 3) := by decide +kernel
theorem dX0_way_10 : decode cX0_way 10 = .ok (.iload_n 2, 1) := by decide +kernel
theorem dX0_way_11 : decode cX0_way 11 = .ok (.iaload, 1) := by decide +kernel
theorem dX0_way_12 : decode cX0_way 12 = .ok (.isub, 1) := by decide +kernel
theorem dX0_way_13 : decode cX0_way 13 = .ok (.invokestatic 96, 3) := by decide +kernel
theorem dX0_way_16 : decode cX0_way 16 = .ok (.aload_n 0, 1) := by decide +kernel
theorem dX0_way_17 : decode cX0_way 17 = .ok (.getfield 21, 3) := by decide +kernel
theorem dX0_way_20 : decode cX0_way 20 = .ok (.iload_n 1, 1) := by decide +kernel
theorem dX0_way_21 : decode cX0_way 21 = .ok (.iaload, 1) := by decide +kernel
theorem dX0_way_22 : decode cX0_way 22 = .ok (.aload_n 0, 1) := by decide +kernel
theorem dX0_way_23 : decode cX0_way 23 = .ok (.getfield 27, 3) := by decide +kernel
theorem dX0_way_26 : decode cX0_way 26 = .ok (.iload_n 2, 1) := by decide +kernel
theorem dX0_way_27 : decode cX0_way 27 = .ok (.iaload, 1) := by decide +kernel
theorem dX0_way_28 : decode cX0_way 28 = .ok (.isub, 1) := by decide +kernel
theorem dX0_way_29 : decode cX0_way 29 = .ok (.invokestatic 96, 3) := by decide +kernel
theorem dX0_way_32 : decode cX0_way 32 = .ok (.iadd, 1) := by decide +kernel
theorem dX0_way_33 : decode cX0_way 33 = .ok (.ireturn, 1) := by decide +kernel
abbrev rm_X0_way : Room := { frames := 1, cells := 0, slots := 0, locals := 21 }
theorem hd_X0_way : yX0_way.cls ≠ "java/lang/invoke/MethodHandle" ∧ yX0_way.cls ≠ "java/lang/invoke/VarHandle" ∧ (parseMethodDescriptor yX0_way.desc).map (fun d => d.parameters.length) = some 2 := by decide +kernel
def wp_X0_way (p1 : Int32) (p2 : Int32) (c_toX : Nat → Int32) (c_toY : Nat → Int32) (c_fromX : Nat → Int32) (c_fromY : Nat → Int32) (Q : Int32 → Prop) : Prop :=
vp_in p1 32 ∧ vp_in p2 63 ∧ vp_in p1 32 ∧ vp_in p2 63 ∧ Q ((if 0 ≤ ((c_toX p1.toNatClampNeg) - (c_fromX p2.toNatClampNeg)) then ((c_toX p1.toNatClampNeg) - (c_fromX p2.toNatClampNeg)) else 0 - ((c_toX p1.toNatClampNeg) - (c_fromX p2.toNatClampNeg))) + (if 0 ≤ ((c_toY p1.toNatClampNeg) - (c_fromY p2.toNatClampNeg)) then ((c_toY p1.toNatClampNeg) - (c_fromY p2.toNatClampNeg)) else 0 - ((c_toY p1.toNatClampNeg) - (c_fromY p2.toNatClampNeg))))
set_option maxHeartbeats 4000000 in
set_option maxRecDepth 100000 in
theorem c_X0_way {D : DG} {cyI cyJ cyZ : ClassId} {a_c a_c_spotX a_c_spotY a_c_toX a_c_toY a_c_fromX a_c_fromY a_c_edgeWorth a_c_placeWorth a_c_givenTo a_c_cameFrom a_c_slack a_c_seen : Nat} {c_edges : Int32} {c_places : Int32} {c_spotX : Nat → Int32} {c_spotY : Nat → Int32} {c_toX : Nat → Int32} {c_toY : Nat → Int32} {c_fromX : Nat → Int32} {c_fromY : Nat → Int32} {c_edgeWorth : Nat → Int32} {c_placeWorth : Nat → Int32} {c_givenTo : Nat → Int32} {c_cameFrom : Nat → Int32} {c_slack : Nat → Int32} {c_seen : Nat → Int32} {p1 : Int32} {p2 : Int32} {Q : Int32 → Prop} (h : wp_X0_way p1 p2 c_toX c_toY c_fromX c_fromY Q) :
    MetI yX0_way cX0_way 3 (some .int) rm_X0_way D [(cyI, .int), (cyJ, .long), (cyZ, .boolean)] [.ref a_c, .int p1, .int p2] (W_Car cyI cyJ cyZ a_c a_c_spotX a_c_spotY a_c_toX a_c_toY a_c_fromX a_c_fromY a_c_edgeWorth a_c_placeWorth a_c_givenTo a_c_cameFrom a_c_slack a_c_seen c_edges c_places c_spotX c_spotY c_toX c_toY c_fromX c_fromY c_edgeWorth c_placeWorth c_givenTo c_cameFrom c_slack c_seen) (fun _ : Unit => (W_Car cyI cyJ cyZ a_c a_c_spotX a_c_spotY a_c_toX a_c_toY a_c_fromX a_c_fromY a_c_edgeWorth a_c_placeWorth a_c_givenTo a_c_cameFrom a_c_slack a_c_seen c_edges c_places c_spotX c_spotY c_toX c_toY c_fromX c_fromY c_edgeWorth c_placeWorth c_givenTo c_cameFrom c_slack c_seen)) (fun v _ => Q v ) := by
  unfold wp_X0_way at h
  refine metI_of (by decide) (Nat.le_of_ble_eq_true rfl) (fun x cx0 hR0 => ?_)
  have cx : Cx x cX0_way 3 RX0 rm_X0_way D [(cyI, .int), (cyJ, .long), (cyZ, .boolean)] := cx0
  have hR : ∀ (v : Int32) (pc : Nat) (lv : List (Nat × Value)), decode cX0_way pc = .ok (.ireturn, 1) → Q v → J x 0 0 3 (W_Car cyI cyJ cyZ a_c a_c_spotX a_c_spotY a_c_toX a_c_toY a_c_fromX a_c_fromY a_c_edgeWorth a_c_placeWorth a_c_givenTo a_c_cameFrom a_c_slack a_c_seen c_edges c_places c_spotX c_spotY c_toX c_toY c_fromX c_fromY c_edgeWorth c_placeWorth c_givenTo c_cameFrom c_slack c_seen) lv pc [.int v] := (fun v pc lv d hq => hR0 v () pc lv d hq)
  show J x 0 0 3 (W_Car cyI cyJ cyZ a_c a_c_spotX a_c_spotY a_c_toX a_c_toY a_c_fromX a_c_fromY a_c_edgeWorth a_c_placeWorth a_c_givenTo a_c_cameFrom a_c_slack a_c_seen c_edges c_places c_spotX c_spotY c_toX c_toY c_fromX c_fromY c_edgeWorth c_placeWorth c_givenTo c_cameFrom c_slack c_seen) [(0, .ref a_c), (1, .int p1), (2, .int p2)] 0 []
  refine j_aload_n cx 0 rfl rfl dX0_way_0 (pn := 1) rfl ?_
  refine j_get cx inGX0 0 rfl rfl 2 (by decide) q_fl_X0_18 rfl rfl dX0_way_1 (pn := 4) rfl ?_
  refine j_iload_n cx 1 rfl rfl dX0_way_4 (pn := 5) rfl ?_
  refine j_iald cx 3 0 rfl rfl h.1 dX0_way_5 (pn := 6) rfl ?_
  have h := h.2
  refine j_aload_n cx 0 rfl rfl dX0_way_6 (pn := 7) rfl ?_
  refine j_get cx inGX0 0 rfl rfl 4 (by decide) q_fl_X0_24 rfl rfl dX0_way_7 (pn := 10) rfl ?_
  refine j_iload_n cx 2 rfl rfl dX0_way_10 (pn := 11) rfl ?_
  refine j_iald cx 5 0 rfl rfl h.1 dX0_way_11 (pn := 12) rfl ?_
  have h := h.2
  refine j_isub cx dX0_way_12 (pn := 13) rfl ?_
  refine j_mabs cx q_ml_X0_96 q_stat_J9_abs_0f7a4 q_init_J9 q_code_J9_abs_0f7a4 (Nat.le_of_ble_eq_true rfl) (Nat.le_of_ble_eq_true rfl) (Nat.zero_le _) (Nat.zero_le _) dX0_way_13 (pn := 16) rfl ?_
  refine j_aload_n cx 0 rfl rfl dX0_way_16 (pn := 17) rfl ?_
  refine j_get cx inGX0 0 rfl rfl 3 (by decide) q_fl_X0_21 rfl rfl dX0_way_17 (pn := 20) rfl ?_
  refine j_iload_n cx 1 rfl rfl dX0_way_20 (pn := 21) rfl ?_
  refine j_iald cx 4 0 rfl rfl h.1 dX0_way_21 (pn := 22) rfl ?_
  have h := h.2
  refine j_aload_n cx 0 rfl rfl dX0_way_22 (pn := 23) rfl ?_
  refine j_get cx inGX0 0 rfl rfl 5 (by decide) q_fl_X0_27 rfl rfl dX0_way_23 (pn := 26) rfl ?_
  refine j_iload_n cx 2 rfl rfl dX0_way_26 (pn := 27) rfl ?_
  refine j_iald cx 6 0 rfl rfl h.1 dX0_way_27 (pn := 28) rfl ?_
  have h := h.2
  refine j_isub cx dX0_way_28 (pn := 29) rfl ?_
  refine j_mabs cx q_ml_X0_96 q_stat_J9_abs_0f7a4 q_init_J9 q_code_J9_abs_0f7a4 (Nat.le_of_ble_eq_true rfl) (Nat.le_of_ble_eq_true rfl) (Nat.zero_le _) (Nat.zero_le _) dX0_way_29 (pn := 32) rfl ?_
  refine j_iadd cx dX0_way_32 (pn := 33) rfl ?_
  exact hR ((if 0 ≤ ((c_toX p1.toNatClampNeg) - (c_fromX p2.toNatClampNeg)) then ((c_toX p1.toNatClampNeg) - (c_fromX p2.toNatClampNeg)) else 0 - ((c_toX p1.toNatClampNeg) - (c_fromX p2.toNatClampNeg))) + (if 0 ≤ ((c_toY p1.toNatClampNeg) - (c_fromY p2.toNatClampNeg)) then ((c_toY p1.toNatClampNeg) - (c_fromY p2.toNatClampNeg)) else 0 - ((c_toY p1.toNatClampNeg) - (c_fromY p2.toNatClampNeg)))) 33 _ dX0_way_33 h
theorem dX0_nearestBehind_0 : decode cX0_nearestBehind 0 = .ok (.aload_n 0, 1) := by decide +kernel
theorem dX0_nearestBehind_1 : decode cX0_nearestBehind 1 = .ok (.getfield 36, 3) := by decide +kernel
theorem dX0_nearestBehind_4 : decode cX0_nearestBehind 4 = .ok (.iload_n 1, 1) := by decide +kernel
theorem dX0_nearestBehind_5 : decode cX0_nearestBehind 5 = .ok (.iaload, 1) := by decide +kernel
theorem dX0_nearestBehind_6 : decode cX0_nearestBehind 6 = .ok (.istore_n 2, 1) := by decide +kernel
theorem dX0_nearestBehind_7 : decode cX0_nearestBehind 7 = .ok (.iconst 0, 1) := by decide +kernel
theorem dX0_nearestBehind_8 : decode cX0_nearestBehind 8 = .ok (.istore_n 3, 1) := by decide +kernel
theorem dX0_nearestBehind_9 : decode cX0_nearestBehind 9 = .ok (.iconst 1, 1) := by decide +kernel
theorem dX0_nearestBehind_10 : decode cX0_nearestBehind 10 = .ok (.istore 4, 2) := by decide +kernel
theorem dX0_nearestBehind_12 : decode cX0_nearestBehind 12 = .ok (.iload 4, 2) := by decide +kernel
theorem dX0_nearestBehind_14 : decode cX0_nearestBehind 14 = .ok (.aload_n 0, 1) := by decide +kernel
theorem dX0_nearestBehind_15 : decode cX0_nearestBehind 15 = .ok (.getfield 64, 3) := by decide +kernel
theorem dX0_nearestBehind_18 : decode cX0_nearestBehind 18 = .ok (.if_icmp .gt 95, 3) := by decide +kernel
theorem dX0_nearestBehind_21 : decode cX0_nearestBehind 21 = .ok (.aload_n 0, 1) := by decide +kernel
theorem dX0_nearestBehind_22 : decode cX0_nearestBehind 22 = .ok (.getfield 45, 3) := by decide +kernel
theorem dX0_nearestBehind_25 : decode cX0_nearestBehind 25 = .ok (.iload 4, 2) := by decide +kernel
theorem dX0_nearestBehind_27 : decode cX0_nearestBehind 27 = .ok (.iaload, 1) := by decide +kernel
theorem dX0_nearestBehind_28 : decode cX0_nearestBehind 28 = .ok (.ifCond .ne 79, 3) := by decide +kernel
theorem dX0_nearestBehind_31 : decode cX0_nearestBehind 31 = .ok (.aload_n 0, 1) := by decide +kernel
theorem dX0_nearestBehind_32 : decode cX0_nearestBehind 32 = .ok (.iload_n 2, 1) := by decide +kernel
theorem dX0_nearestBehind_33 : decode cX0_nearestBehind 33 = .ok (.iload 4, 2) := by decide +kernel
theorem dX0_nearestBehind_35 : decode cX0_nearestBehind 35 = .ok (.invokevirtual 67, 3) := by decide +kernel
theorem dX0_nearestBehind_38 : decode cX0_nearestBehind 38 = .ok (.aload_n 0, 1) := by decide +kernel
theorem dX0_nearestBehind_39 : decode cX0_nearestBehind 39 = .ok (.getfield 30, 3) := by decide +kernel
theorem dX0_nearestBehind_42 : decode cX0_nearestBehind 42 = .ok (.iload_n 2, 1) := by decide +kernel
theorem dX0_nearestBehind_43 : decode cX0_nearestBehind 43 = .ok (.iaload, 1) := by decide +kernel
theorem dX0_nearestBehind_44 : decode cX0_nearestBehind 44 = .ok (.isub, 1) := by decide +kernel
theorem dX0_nearestBehind_45 : decode cX0_nearestBehind 45 = .ok (.aload_n 0, 1) := by decide +kernel
theorem dX0_nearestBehind_46 : decode cX0_nearestBehind 46 = .ok (.getfield 33, 3) := by decide +kernel
theorem dX0_nearestBehind_49 : decode cX0_nearestBehind 49 = .ok (.iload 4, 2) := by decide +kernel
theorem dX0_nearestBehind_51 : decode cX0_nearestBehind 51 = .ok (.iaload, 1) := by decide +kernel
theorem dX0_nearestBehind_52 : decode cX0_nearestBehind 52 = .ok (.isub, 1) := by decide +kernel
theorem dX0_nearestBehind_53 : decode cX0_nearestBehind 53 = .ok (.istore 5, 2) := by decide +kernel
theorem dX0_nearestBehind_55 : decode cX0_nearestBehind 55 = .ok (.iload 5, 2) := by decide +kernel
theorem dX0_nearestBehind_57 : decode cX0_nearestBehind 57 = .ok (.aload_n 0, 1) := by decide +kernel
theorem dX0_nearestBehind_58 : decode cX0_nearestBehind 58 = .ok (.getfield 42, 3) := by decide +kernel
theorem dX0_nearestBehind_61 : decode cX0_nearestBehind 61 = .ok (.iload 4, 2) := by decide +kernel
theorem dX0_nearestBehind_63 : decode cX0_nearestBehind 63 = .ok (.iaload, 1) := by decide +kernel
theorem dX0_nearestBehind_64 : decode cX0_nearestBehind 64 = .ok (.if_icmp .ge 20, 3) := by decide +kernel
theorem dX0_nearestBehind_67 : decode cX0_nearestBehind 67 = .ok (.aload_n 0, 1) := by decide +kernel
theorem dX0_nearestBehind_68 : decode cX0_nearestBehind 68 = .ok (.getfield 42, 3) := by decide +kernel
theorem dX0_nearestBehind_71 : decode cX0_nearestBehind 71 = .ok (.iload 4, 2) := by decide +kernel
theorem dX0_nearestBehind_73 : decode cX0_nearestBehind 73 = .ok (.iload 5, 2) := by decide +kernel
theorem dX0_nearestBehind_75 : decode cX0_nearestBehind 75 = .ok (.iastore, 1) := by decide +kernel
theorem dX0_nearestBehind_76 : decode cX0_nearestBehind 76 = .ok (.aload_n 0, 1) := by decide +kernel
theorem dX0_nearestBehind_77 : decode cX0_nearestBehind 77 = .ok (.getfield 39, 3) := by decide +kernel
theorem dX0_nearestBehind_80 : decode cX0_nearestBehind 80 = .ok (.iload 4, 2) := by decide +kernel
theorem dX0_nearestBehind_82 : decode cX0_nearestBehind 82 = .ok (.iload_n 1, 1) := by decide +kernel
theorem dX0_nearestBehind_83 : decode cX0_nearestBehind 83 = .ok (.iastore, 1) := by decide +kernel
theorem dX0_nearestBehind_84 : decode cX0_nearestBehind 84 = .ok (.iload_n 3, 1) := by decide +kernel
theorem dX0_nearestBehind_85 : decode cX0_nearestBehind 85 = .ok (.ifCond .eq 19, 3) := by decide +kernel
theorem dX0_nearestBehind_88 : decode cX0_nearestBehind 88 = .ok (.aload_n 0, 1) := by decide +kernel
theorem dX0_nearestBehind_89 : decode cX0_nearestBehind 89 = .ok (.getfield 42, 3) := by decide +kernel
theorem dX0_nearestBehind_92 : decode cX0_nearestBehind 92 = .ok (.iload 4, 2) := by decide +kernel
theorem dX0_nearestBehind_94 : decode cX0_nearestBehind 94 = .ok (.iaload, 1) := by decide +kernel
theorem dX0_nearestBehind_95 : decode cX0_nearestBehind 95 = .ok (.aload_n 0, 1) := by decide +kernel
theorem dX0_nearestBehind_96 : decode cX0_nearestBehind 96 = .ok (.getfield 42, 3) := by decide +kernel
theorem dX0_nearestBehind_99 : decode cX0_nearestBehind 99 = .ok (.iload_n 3, 1) := by decide +kernel
theorem dX0_nearestBehind_100 : decode cX0_nearestBehind 100 = .ok (.iaload, 1) := by decide +kernel
theorem dX0_nearestBehind_101 : decode cX0_nearestBehind 101 = .ok (.if_icmp .ge 6, 3) := by decide +kernel
theorem dX0_nearestBehind_104 : decode cX0_nearestBehind 104 = .ok (.iload 4, 2) := by decide +kernel
theorem dX0_nearestBehind_106 : decode cX0_nearestBehind 106 = .ok (.istore_n 3, 1) := by decide +kernel
theorem dX0_nearestBehind_107 : decode cX0_nearestBehind 107 = .ok (.iinc 4 1, 3) := by decide +kernel
theorem dX0_nearestBehind_110 : decode cX0_nearestBehind 110 = .ok (.goto (-98), 3) := by decide +kernel
theorem dX0_nearestBehind_113 : decode cX0_nearestBehind 113 = .ok (.iload_n 3, 1) := by decide +kernel
theorem dX0_nearestBehind_114 : decode cX0_nearestBehind 114 = .ok (.ireturn, 1) := by decide +kernel
abbrev rm_X0_nearestBehind : Room := { frames := 2, cells := 0, slots := 0, locals := 43 }
theorem hd_X0_nearestBehind : yX0_nearestBehind.cls ≠ "java/lang/invoke/MethodHandle" ∧ yX0_nearestBehind.cls ≠ "java/lang/invoke/VarHandle" ∧ (parseMethodDescriptor yX0_nearestBehind.desc).map (fun d => d.parameters.length) = some 1 := by decide +kernel
def bk_X0_nearestBehind_107 (Q : Int32 → ((Nat → Int32) × (Nat → Int32)) → Prop) (B12 : (Nat → Int32) → (Nat → Int32) → Int32 → Int32 → Prop) (x3 : Int32) (x4 : Int32) (c_cameFrom : Nat → Int32) (c_slack : Nat → Int32) : Prop :=
∀ y4 : Int32, y4 = (x4 + 1) →
B12 c_cameFrom c_slack x3 y4
def bk_X0_nearestBehind_104 (Q : Int32 → ((Nat → Int32) × (Nat → Int32)) → Prop) (B12 : (Nat → Int32) → (Nat → Int32) → Int32 → Int32 → Prop) (x4 : Int32) (c_cameFrom : Nat → Int32) (c_slack : Nat → Int32) : Prop :=
bk_X0_nearestBehind_107 Q B12 x4 x4 c_cameFrom c_slack
def bk_X0_nearestBehind_84 (Q : Int32 → ((Nat → Int32) × (Nat → Int32)) → Prop) (B12 : (Nat → Int32) → (Nat → Int32) → Int32 → Int32 → Prop) (x3 : Int32) (x4 : Int32) (c_cameFrom : Nat → Int32) (c_slack : Nat → Int32) : Prop :=
((x3 = 0 → bk_X0_nearestBehind_104 Q B12 x4 c_cameFrom c_slack) ∧
(¬ x3 = 0 → vp_in x4 63 ∧ vp_in x3 63 ∧ (((c_slack x3.toNatClampNeg) ≤ (c_slack x4.toNatClampNeg) → bk_X0_nearestBehind_107 Q B12 x3 x4 c_cameFrom c_slack) ∧
(¬ (c_slack x3.toNatClampNeg) ≤ (c_slack x4.toNatClampNeg) → bk_X0_nearestBehind_104 Q B12 x4 c_cameFrom c_slack))))
def bd_X0_nearestBehind_12 (Q : Int32 → ((Nat → Int32) × (Nat → Int32)) → Prop) (B12 : (Nat → Int32) → (Nat → Int32) → Int32 → Int32 → Prop) (p1 : Int32) (x2 : Int32) (c_places : Int32) (c_toX : Nat → Int32) (c_toY : Nat → Int32) (c_fromX : Nat → Int32) (c_fromY : Nat → Int32) (c_edgeWorth : Nat → Int32) (c_placeWorth : Nat → Int32) (c_seen : Nat → Int32) (c_cameFrom : Nat → Int32) (c_slack : Nat → Int32) (x3 : Int32) (x4 : Int32) : Prop :=
((c_places < x4 → Q x3 (c_cameFrom, c_slack)) ∧
(¬ c_places < x4 → vp_in x4 63 ∧ ((¬ (c_seen x4.toNatClampNeg) = 0 → bk_X0_nearestBehind_107 Q B12 x3 x4 c_cameFrom c_slack) ∧
((c_seen x4.toNatClampNeg) = 0 → wp_X0_way x2 x4 c_toX c_toY c_fromX c_fromY (fun (r5 : Int32) => vp_in x2 32 ∧ vp_in x4 63 ∧ (∀ y6 : Int32, y6 = ((r5 - (c_edgeWorth x2.toNatClampNeg)) - (c_placeWorth x4.toNatClampNeg)) →
vp_in x4 63 ∧ (((c_slack x4.toNatClampNeg) ≤ y6 → bk_X0_nearestBehind_84 Q B12 x3 x4 c_cameFrom c_slack) ∧
(¬ (c_slack x4.toNatClampNeg) ≤ y6 → vp_in x4 63 ∧ (∀ f10 : Nat → Int32, f10 = (upd c_slack x4.toNatClampNeg y6) →
vp_in x4 63 ∧ (∀ f11 : Nat → Int32, f11 = (upd c_cameFrom x4.toNatClampNeg p1) →
bk_X0_nearestBehind_84 Q B12 x3 x4 f11 f10))))))))))
def lp_X0_nearestBehind_12 (Q : Int32 → ((Nat → Int32) × (Nat → Int32)) → Prop) (p1 : Int32) (x2 : Int32) (c_places : Int32) (c_toX : Nat → Int32) (c_toY : Nat → Int32) (c_fromX : Nat → Int32) (c_fromY : Nat → Int32) (c_edgeWorth : Nat → Int32) (c_placeWorth : Nat → Int32) (c_seen : Nat → Int32) (c_cameFrom : Nat → Int32) (c_slack : Nat → Int32) (x3 : Int32) (x4 : Int32) : Prop :=
∃ I : Nat → (Nat → Int32) → (Nat → Int32) → Int32 → Int32 → Prop, (∃ n, I n c_cameFrom c_slack x3 x4) ∧ ∀ n c_cameFrom c_slack x3 x4, I n c_cameFrom c_slack x3 x4 → bd_X0_nearestBehind_12 Q  (fun c_cameFrom' c_slack' x3' x4' => ∃ n', n' < n ∧ I n' c_cameFrom' c_slack' x3' x4') p1 x2 c_places c_toX c_toY c_fromX c_fromY c_edgeWorth c_placeWorth c_seen c_cameFrom c_slack x3 x4
def wp_X0_nearestBehind (p1 : Int32) (c_places : Int32) (c_toX : Nat → Int32) (c_toY : Nat → Int32) (c_fromX : Nat → Int32) (c_fromY : Nat → Int32) (c_edgeWorth : Nat → Int32) (c_placeWorth : Nat → Int32) (c_givenTo : Nat → Int32) (c_cameFrom : Nat → Int32) (c_slack : Nat → Int32) (c_seen : Nat → Int32) (Q : Int32 → ((Nat → Int32) × (Nat → Int32)) → Prop) : Prop :=
vp_in p1 63 ∧ (∀ y1 : Int32, y1 = (c_givenTo p1.toNatClampNeg) →
lp_X0_nearestBehind_12 Q p1 y1 c_places c_toX c_toY c_fromX c_fromY c_edgeWorth c_placeWorth c_seen c_cameFrom c_slack 0 1)
set_option maxHeartbeats 4000000 in
set_option maxRecDepth 100000 in
theorem J_X0_nearestBehind_107 {x : CX} {D : DG} {cyI cyJ cyZ : ClassId} {a_c a_c_spotX a_c_spotY a_c_toX a_c_toY a_c_fromX a_c_fromY a_c_edgeWorth a_c_placeWorth a_c_givenTo a_c_cameFrom a_c_slack a_c_seen : Nat} {c_edges : Int32} {c_places : Int32} {c_spotX : Nat → Int32} {c_spotY : Nat → Int32} {c_toX : Nat → Int32} {c_toY : Nat → Int32} {c_fromX : Nat → Int32} {c_fromY : Nat → Int32} {c_edgeWorth : Nat → Int32} {c_placeWorth : Nat → Int32} {c_givenTo : Nat → Int32} {c_cameFrom : Nat → Int32} {c_slack : Nat → Int32} {c_seen : Nat → Int32} {p1 : Int32} {x2 : Int32} {x3 : Int32} {x4 : Int32} {Q : Int32 → ((Nat → Int32) × (Nat → Int32)) → Prop} {B12 : (Nat → Int32) → (Nat → Int32) → Int32 → Int32 → Prop} (cx : Cx x cX0_nearestBehind 6 RX0 rm_X0_nearestBehind D [(cyI, .int), (cyJ, .long), (cyZ, .boolean)]) (hR : ∀ (v : Int32) (u : (Nat → Int32) × (Nat → Int32)) (pc : Nat) (lv : List (Nat × Value)), decode cX0_nearestBehind pc = .ok (.ireturn, 1) → Q v u → J x 0 0 6 (W_Car cyI cyJ cyZ a_c a_c_spotX a_c_spotY a_c_toX a_c_toY a_c_fromX a_c_fromY a_c_edgeWorth a_c_placeWorth a_c_givenTo a_c_cameFrom a_c_slack a_c_seen c_edges c_places c_spotX c_spotY c_toX c_toY c_fromX c_fromY c_edgeWorth c_placeWorth c_givenTo u.1 u.2 c_seen) lv pc [.int v]) (hB12 : ∀ (c_cameFrom : Nat → Int32) (c_slack : Nat → Int32) (x3 : Int32) (x4 : Int32), B12 c_cameFrom c_slack x3 x4 → J x 0 0 6 (W_Car cyI cyJ cyZ a_c a_c_spotX a_c_spotY a_c_toX a_c_toY a_c_fromX a_c_fromY a_c_edgeWorth a_c_placeWorth a_c_givenTo a_c_cameFrom a_c_slack a_c_seen c_edges c_places c_spotX c_spotY c_toX c_toY c_fromX c_fromY c_edgeWorth c_placeWorth c_givenTo c_cameFrom c_slack c_seen) [(0, .ref a_c), (1, .int p1), (2, .int x2), (3, .int x3), (4, .int x4)] 12 []) (h : bk_X0_nearestBehind_107 Q B12 x3 x4 c_cameFrom c_slack) :
    J x 0 0 6 (W_Car cyI cyJ cyZ a_c a_c_spotX a_c_spotY a_c_toX a_c_toY a_c_fromX a_c_fromY a_c_edgeWorth a_c_placeWorth a_c_givenTo a_c_cameFrom a_c_slack a_c_seen c_edges c_places c_spotX c_spotY c_toX c_toY c_fromX c_fromY c_edgeWorth c_placeWorth c_givenTo c_cameFrom c_slack c_seen) [(0, .ref a_c), (1, .int p1), (2, .int x2), (3, .int x3), (4, .int x4)] 107 [] := by
  unfold bk_X0_nearestBehind_107 at h
  obtain ⟨y4, ey4⟩ : ∃ z : Int32, z = x4 + 1 := ⟨_, rfl⟩
  have h := h y4 ey4
  refine j_iinc cx 4 rfl (cst := 1) (by decide) ey4 [(4, .int y4), (0, .ref a_c), (1, .int p1), (2, .int x2), (3, .int x3)] (by decide) rfl dX0_nearestBehind_107 (pn := 110) rfl ?_
  refine j_goto cx 12 dX0_nearestBehind_110 rfl ?_
  refine j_sub [1, 2, 3, 4, 0] [(0, .ref a_c), (1, .int p1), (2, .int x2), (3, .int x3), (4, .int y4)] rfl ?_
  exact hB12 _ _ _ _ h
set_option maxHeartbeats 4000000 in
set_option maxRecDepth 100000 in
theorem J_X0_nearestBehind_104 {x : CX} {D : DG} {cyI cyJ cyZ : ClassId} {a_c a_c_spotX a_c_spotY a_c_toX a_c_toY a_c_fromX a_c_fromY a_c_edgeWorth a_c_placeWorth a_c_givenTo a_c_cameFrom a_c_slack a_c_seen : Nat} {c_edges : Int32} {c_places : Int32} {c_spotX : Nat → Int32} {c_spotY : Nat → Int32} {c_toX : Nat → Int32} {c_toY : Nat → Int32} {c_fromX : Nat → Int32} {c_fromY : Nat → Int32} {c_edgeWorth : Nat → Int32} {c_placeWorth : Nat → Int32} {c_givenTo : Nat → Int32} {c_cameFrom : Nat → Int32} {c_slack : Nat → Int32} {c_seen : Nat → Int32} {p1 : Int32} {x2 : Int32} {x4 : Int32} {Q : Int32 → ((Nat → Int32) × (Nat → Int32)) → Prop} {B12 : (Nat → Int32) → (Nat → Int32) → Int32 → Int32 → Prop} (cx : Cx x cX0_nearestBehind 6 RX0 rm_X0_nearestBehind D [(cyI, .int), (cyJ, .long), (cyZ, .boolean)]) (hR : ∀ (v : Int32) (u : (Nat → Int32) × (Nat → Int32)) (pc : Nat) (lv : List (Nat × Value)), decode cX0_nearestBehind pc = .ok (.ireturn, 1) → Q v u → J x 0 0 6 (W_Car cyI cyJ cyZ a_c a_c_spotX a_c_spotY a_c_toX a_c_toY a_c_fromX a_c_fromY a_c_edgeWorth a_c_placeWorth a_c_givenTo a_c_cameFrom a_c_slack a_c_seen c_edges c_places c_spotX c_spotY c_toX c_toY c_fromX c_fromY c_edgeWorth c_placeWorth c_givenTo u.1 u.2 c_seen) lv pc [.int v]) (hB12 : ∀ (c_cameFrom : Nat → Int32) (c_slack : Nat → Int32) (x3 : Int32) (x4 : Int32), B12 c_cameFrom c_slack x3 x4 → J x 0 0 6 (W_Car cyI cyJ cyZ a_c a_c_spotX a_c_spotY a_c_toX a_c_toY a_c_fromX a_c_fromY a_c_edgeWorth a_c_placeWorth a_c_givenTo a_c_cameFrom a_c_slack a_c_seen c_edges c_places c_spotX c_spotY c_toX c_toY c_fromX c_fromY c_edgeWorth c_placeWorth c_givenTo c_cameFrom c_slack c_seen) [(0, .ref a_c), (1, .int p1), (2, .int x2), (3, .int x3), (4, .int x4)] 12 []) (h : bk_X0_nearestBehind_104 Q B12 x4 c_cameFrom c_slack) :
    J x 0 0 6 (W_Car cyI cyJ cyZ a_c a_c_spotX a_c_spotY a_c_toX a_c_toY a_c_fromX a_c_fromY a_c_edgeWorth a_c_placeWorth a_c_givenTo a_c_cameFrom a_c_slack a_c_seen c_edges c_places c_spotX c_spotY c_toX c_toY c_fromX c_fromY c_edgeWorth c_placeWorth c_givenTo c_cameFrom c_slack c_seen) [(0, .ref a_c), (1, .int p1), (2, .int x2), (4, .int x4)] 104 [] := by
  unfold bk_X0_nearestBehind_104 at h
  refine j_iload cx 3 rfl dX0_nearestBehind_104 (pn := 106) rfl ?_
  refine j_istore_n cx rfl [(3, .int x4), (0, .ref a_c), (1, .int p1), (2, .int x2), (4, .int x4)] (by decide) rfl dX0_nearestBehind_106 (pn := 107) rfl ?_
  refine j_sub [1, 2, 3, 0, 4] [(0, .ref a_c), (1, .int p1), (2, .int x2), (3, .int x4), (4, .int x4)] rfl ?_
  exact J_X0_nearestBehind_107 cx hR hB12 h
set_option maxHeartbeats 4000000 in
set_option maxRecDepth 100000 in
theorem J_X0_nearestBehind_84 {x : CX} {D : DG} {cyI cyJ cyZ : ClassId} {a_c a_c_spotX a_c_spotY a_c_toX a_c_toY a_c_fromX a_c_fromY a_c_edgeWorth a_c_placeWorth a_c_givenTo a_c_cameFrom a_c_slack a_c_seen : Nat} {c_edges : Int32} {c_places : Int32} {c_spotX : Nat → Int32} {c_spotY : Nat → Int32} {c_toX : Nat → Int32} {c_toY : Nat → Int32} {c_fromX : Nat → Int32} {c_fromY : Nat → Int32} {c_edgeWorth : Nat → Int32} {c_placeWorth : Nat → Int32} {c_givenTo : Nat → Int32} {c_cameFrom : Nat → Int32} {c_slack : Nat → Int32} {c_seen : Nat → Int32} {p1 : Int32} {x2 : Int32} {x3 : Int32} {x4 : Int32} {Q : Int32 → ((Nat → Int32) × (Nat → Int32)) → Prop} {B12 : (Nat → Int32) → (Nat → Int32) → Int32 → Int32 → Prop} (cx : Cx x cX0_nearestBehind 6 RX0 rm_X0_nearestBehind D [(cyI, .int), (cyJ, .long), (cyZ, .boolean)]) (hR : ∀ (v : Int32) (u : (Nat → Int32) × (Nat → Int32)) (pc : Nat) (lv : List (Nat × Value)), decode cX0_nearestBehind pc = .ok (.ireturn, 1) → Q v u → J x 0 0 6 (W_Car cyI cyJ cyZ a_c a_c_spotX a_c_spotY a_c_toX a_c_toY a_c_fromX a_c_fromY a_c_edgeWorth a_c_placeWorth a_c_givenTo a_c_cameFrom a_c_slack a_c_seen c_edges c_places c_spotX c_spotY c_toX c_toY c_fromX c_fromY c_edgeWorth c_placeWorth c_givenTo u.1 u.2 c_seen) lv pc [.int v]) (hB12 : ∀ (c_cameFrom : Nat → Int32) (c_slack : Nat → Int32) (x3 : Int32) (x4 : Int32), B12 c_cameFrom c_slack x3 x4 → J x 0 0 6 (W_Car cyI cyJ cyZ a_c a_c_spotX a_c_spotY a_c_toX a_c_toY a_c_fromX a_c_fromY a_c_edgeWorth a_c_placeWorth a_c_givenTo a_c_cameFrom a_c_slack a_c_seen c_edges c_places c_spotX c_spotY c_toX c_toY c_fromX c_fromY c_edgeWorth c_placeWorth c_givenTo c_cameFrom c_slack c_seen) [(0, .ref a_c), (1, .int p1), (2, .int x2), (3, .int x3), (4, .int x4)] 12 []) (h : bk_X0_nearestBehind_84 Q B12 x3 x4 c_cameFrom c_slack) :
    J x 0 0 6 (W_Car cyI cyJ cyZ a_c a_c_spotX a_c_spotY a_c_toX a_c_toY a_c_fromX a_c_fromY a_c_edgeWorth a_c_placeWorth a_c_givenTo a_c_cameFrom a_c_slack a_c_seen c_edges c_places c_spotX c_spotY c_toX c_toY c_fromX c_fromY c_edgeWorth c_placeWorth c_givenTo c_cameFrom c_slack c_seen) [(0, .ref a_c), (1, .int p1), (2, .int x2), (3, .int x3), (4, .int x4)] 84 [] := by
  unfold bk_X0_nearestBehind_84 at h
  refine j_iload_n cx 3 rfl rfl dX0_nearestBehind_84 (pn := 85) rfl ?_
  refine j_if_eq cx 104 dX0_nearestBehind_85 (pn := 88) rfl rfl (fun c8 => ?_) (fun c8 => ?_)
  · have h := h.1 c8
    refine j_sub [0, 1, 2, 4] [(0, .ref a_c), (1, .int p1), (2, .int x2), (4, .int x4)] rfl ?_
    exact J_X0_nearestBehind_104 cx hR hB12 h
  · have h := h.2 c8
    refine j_aload_n cx 0 rfl rfl dX0_nearestBehind_88 (pn := 89) rfl ?_
    refine j_get cx inGX0 0 rfl rfl 10 (by decide) q_fl_X0_42 rfl rfl dX0_nearestBehind_89 (pn := 92) rfl ?_
    refine j_iload cx 4 rfl dX0_nearestBehind_92 (pn := 94) rfl ?_
    refine j_iald cx 11 0 rfl rfl h.1 dX0_nearestBehind_94 (pn := 95) rfl ?_
    have h := h.2
    refine j_aload_n cx 0 rfl rfl dX0_nearestBehind_95 (pn := 96) rfl ?_
    refine j_get cx inGX0 0 rfl rfl 10 (by decide) q_fl_X0_42 rfl rfl dX0_nearestBehind_96 (pn := 99) rfl ?_
    refine j_iload_n cx 3 rfl rfl dX0_nearestBehind_99 (pn := 100) rfl ?_
    refine j_iald cx 11 0 rfl rfl h.1 dX0_nearestBehind_100 (pn := 101) rfl ?_
    have h := h.2
    refine j_icmp_ge cx 107 dX0_nearestBehind_101 (pn := 104) rfl rfl (fun c9 => ?_) (fun c9 => ?_)
    · have h := h.1 c9
      exact J_X0_nearestBehind_107 cx hR hB12 h
    · have h := h.2 c9
      refine j_sub [0, 1, 2, 4] [(0, .ref a_c), (1, .int p1), (2, .int x2), (4, .int x4)] rfl ?_
      exact J_X0_nearestBehind_104 cx hR hB12 h
set_option maxHeartbeats 4000000 in
set_option maxRecDepth 100000 in
theorem B_X0_nearestBehind_12 {x : CX} {D : DG} {cyI cyJ cyZ : ClassId} {a_c a_c_spotX a_c_spotY a_c_toX a_c_toY a_c_fromX a_c_fromY a_c_edgeWorth a_c_placeWorth a_c_givenTo a_c_cameFrom a_c_slack a_c_seen : Nat} {c_edges : Int32} {c_places : Int32} {c_spotX : Nat → Int32} {c_spotY : Nat → Int32} {c_toX : Nat → Int32} {c_toY : Nat → Int32} {c_fromX : Nat → Int32} {c_fromY : Nat → Int32} {c_edgeWorth : Nat → Int32} {c_placeWorth : Nat → Int32} {c_givenTo : Nat → Int32} {c_cameFrom : Nat → Int32} {c_slack : Nat → Int32} {c_seen : Nat → Int32} {p1 : Int32} {x2 : Int32} {x3 : Int32} {x4 : Int32} {Q : Int32 → ((Nat → Int32) × (Nat → Int32)) → Prop} {B12 : (Nat → Int32) → (Nat → Int32) → Int32 → Int32 → Prop} (cx : Cx x cX0_nearestBehind 6 RX0 rm_X0_nearestBehind D [(cyI, .int), (cyJ, .long), (cyZ, .boolean)]) (hR : ∀ (v : Int32) (u : (Nat → Int32) × (Nat → Int32)) (pc : Nat) (lv : List (Nat × Value)), decode cX0_nearestBehind pc = .ok (.ireturn, 1) → Q v u → J x 0 0 6 (W_Car cyI cyJ cyZ a_c a_c_spotX a_c_spotY a_c_toX a_c_toY a_c_fromX a_c_fromY a_c_edgeWorth a_c_placeWorth a_c_givenTo a_c_cameFrom a_c_slack a_c_seen c_edges c_places c_spotX c_spotY c_toX c_toY c_fromX c_fromY c_edgeWorth c_placeWorth c_givenTo u.1 u.2 c_seen) lv pc [.int v]) (hB12 : ∀ (c_cameFrom : Nat → Int32) (c_slack : Nat → Int32) (x3 : Int32) (x4 : Int32), B12 c_cameFrom c_slack x3 x4 → J x 0 0 6 (W_Car cyI cyJ cyZ a_c a_c_spotX a_c_spotY a_c_toX a_c_toY a_c_fromX a_c_fromY a_c_edgeWorth a_c_placeWorth a_c_givenTo a_c_cameFrom a_c_slack a_c_seen c_edges c_places c_spotX c_spotY c_toX c_toY c_fromX c_fromY c_edgeWorth c_placeWorth c_givenTo c_cameFrom c_slack c_seen) [(0, .ref a_c), (1, .int p1), (2, .int x2), (3, .int x3), (4, .int x4)] 12 []) (h : bd_X0_nearestBehind_12 Q B12 p1 x2 c_places c_toX c_toY c_fromX c_fromY c_edgeWorth c_placeWorth c_seen c_cameFrom c_slack x3 x4) :
    J x 0 0 6 (W_Car cyI cyJ cyZ a_c a_c_spotX a_c_spotY a_c_toX a_c_toY a_c_fromX a_c_fromY a_c_edgeWorth a_c_placeWorth a_c_givenTo a_c_cameFrom a_c_slack a_c_seen c_edges c_places c_spotX c_spotY c_toX c_toY c_fromX c_fromY c_edgeWorth c_placeWorth c_givenTo c_cameFrom c_slack c_seen) [(0, .ref a_c), (1, .int p1), (2, .int x2), (3, .int x3), (4, .int x4)] 12 [] := by
  unfold bd_X0_nearestBehind_12 at h
  refine j_iload cx 4 rfl dX0_nearestBehind_12 (pn := 14) rfl ?_
  refine j_aload_n cx 0 rfl rfl dX0_nearestBehind_14 (pn := 15) rfl ?_
  refine j_get cx inGX0 0 rfl rfl 13 (by decide) q_fl_X0_64 rfl rfl dX0_nearestBehind_15 (pn := 18) rfl ?_
  refine j_icmp_gt cx 113 dX0_nearestBehind_18 (pn := 21) rfl rfl (fun c2 => ?_) (fun c2 => ?_)
  · have h := h.1 c2
    refine j_iload_n cx 3 rfl rfl dX0_nearestBehind_113 (pn := 114) rfl ?_
    exact hR x3 (c_cameFrom, c_slack) 114 _ dX0_nearestBehind_114 h
  · have h := h.2 c2
    refine j_aload_n cx 0 rfl rfl dX0_nearestBehind_21 (pn := 22) rfl ?_
    refine j_get cx inGX0 0 rfl rfl 11 (by decide) q_fl_X0_45 rfl rfl dX0_nearestBehind_22 (pn := 25) rfl ?_
    refine j_iload cx 4 rfl dX0_nearestBehind_25 (pn := 27) rfl ?_
    refine j_iald cx 12 0 rfl rfl h.1 dX0_nearestBehind_27 (pn := 28) rfl ?_
    have h := h.2
    refine j_if_ne cx 107 dX0_nearestBehind_28 (pn := 31) rfl rfl (fun c3 => ?_) (fun c3 => ?_)
    · have h := h.1 c3
      exact J_X0_nearestBehind_107 cx hR hB12 h
    · have h := h.2 c3
      refine j_aload_n cx 0 rfl rfl dX0_nearestBehind_31 (pn := 32) rfl ?_
      refine j_iload_n cx 2 rfl rfl dX0_nearestBehind_32 (pn := 33) rfl ?_
      refine j_iload cx 4 rfl dX0_nearestBehind_33 (pn := 35) rfl ?_
      refine j_callvI0 cx q_inst_X0_way q_sel_X0_way (b := a_c) (As := [.int x2, .int x4]) (rest := []) (c_X0_way h) ⟨q_code_X0_way, q_ml_X0_67, q_init_X0, hd_X0_way, ⟨Nat.le_of_ble_eq_true rfl, Nat.le_of_ble_eq_true rfl⟩, Nat.le_of_ble_eq_true rfl, Nat.le_of_ble_eq_true rfl⟩ (q0 := 0) rfl rfl rfl rfl (Nat.le_of_ble_eq_true rfl) dX0_nearestBehind_35 (pn := 38) rfl (fun r5 _ h => ?_)
      show J x 0 0 6 (W_Car cyI cyJ cyZ a_c a_c_spotX a_c_spotY a_c_toX a_c_toY a_c_fromX a_c_fromY a_c_edgeWorth a_c_placeWorth a_c_givenTo a_c_cameFrom a_c_slack a_c_seen c_edges c_places c_spotX c_spotY c_toX c_toY c_fromX c_fromY c_edgeWorth c_placeWorth c_givenTo c_cameFrom c_slack c_seen) [(0, .ref a_c), (1, .int p1), (2, .int x2), (3, .int x3), (4, .int x4)] 38 [.int r5]
      refine j_aload_n cx 0 rfl rfl dX0_nearestBehind_38 (pn := 39) rfl ?_
      refine j_get cx inGX0 0 rfl rfl 6 (by decide) q_fl_X0_30 rfl rfl dX0_nearestBehind_39 (pn := 42) rfl ?_
      refine j_iload_n cx 2 rfl rfl dX0_nearestBehind_42 (pn := 43) rfl ?_
      refine j_iald cx 7 0 rfl rfl h.1 dX0_nearestBehind_43 (pn := 44) rfl ?_
      have h := h.2
      refine j_isub cx dX0_nearestBehind_44 (pn := 45) rfl ?_
      refine j_aload_n cx 0 rfl rfl dX0_nearestBehind_45 (pn := 46) rfl ?_
      refine j_get cx inGX0 0 rfl rfl 7 (by decide) q_fl_X0_33 rfl rfl dX0_nearestBehind_46 (pn := 49) rfl ?_
      refine j_iload cx 4 rfl dX0_nearestBehind_49 (pn := 51) rfl ?_
      refine j_iald cx 8 0 rfl rfl h.1 dX0_nearestBehind_51 (pn := 52) rfl ?_
      have h := h.2
      refine j_isub cx dX0_nearestBehind_52 (pn := 53) rfl ?_
      refine j_topi (fun y6 ey6 => ?_)
      have h := h y6 ey6
      refine j_istore cx [(5, .int y6), (0, .ref a_c), (1, .int p1), (2, .int x2), (3, .int x3), (4, .int x4)] (by decide) rfl dX0_nearestBehind_53 (pn := 55) rfl ?_
      refine j_iload cx 0 rfl dX0_nearestBehind_55 (pn := 57) rfl ?_
      refine j_aload_n cx 1 rfl rfl dX0_nearestBehind_57 (pn := 58) rfl ?_
      refine j_get cx inGX0 0 rfl rfl 10 (by decide) q_fl_X0_42 rfl rfl dX0_nearestBehind_58 (pn := 61) rfl ?_
      refine j_iload cx 5 rfl dX0_nearestBehind_61 (pn := 63) rfl ?_
      refine j_iald cx 11 0 rfl rfl h.1 dX0_nearestBehind_63 (pn := 64) rfl ?_
      have h := h.2
      refine j_icmp_ge cx 84 dX0_nearestBehind_64 (pn := 67) rfl rfl (fun c7 => ?_) (fun c7 => ?_)
      · have h := h.1 c7
        refine j_sub [1, 2, 3, 4, 5] [(0, .ref a_c), (1, .int p1), (2, .int x2), (3, .int x3), (4, .int x4)] rfl ?_
        exact J_X0_nearestBehind_84 cx hR hB12 h
      · have h := h.2 c7
        refine j_aload_n cx 1 rfl rfl dX0_nearestBehind_67 (pn := 68) rfl ?_
        refine j_get cx inGX0 0 rfl rfl 10 (by decide) q_fl_X0_42 rfl rfl dX0_nearestBehind_68 (pn := 71) rfl ?_
        refine j_iload cx 5 rfl dX0_nearestBehind_71 (pn := 73) rfl ?_
        refine j_iload cx 0 rfl dX0_nearestBehind_73 (pn := 75) rfl ?_
        have hin := h.1
        obtain ⟨f10, ef10⟩ : ∃ z, z = upd c_slack x4.toNatClampNeg y6 := ⟨_, rfl⟩
        have h := h.2 f10 ef10
        refine j_iast cx 11 0 rfl rfl hin (W_Car cyI cyJ cyZ a_c a_c_spotX a_c_spotY a_c_toX a_c_toY a_c_fromX a_c_fromY a_c_edgeWorth a_c_placeWorth a_c_givenTo a_c_cameFrom a_c_slack a_c_seen c_edges c_places c_spotX c_spotY c_toX c_toY c_fromX c_fromY c_edgeWorth c_placeWorth c_givenTo c_cameFrom f10 c_seen) (by subst ef10; rfl) dX0_nearestBehind_75 (pn := 76) rfl ?_
        refine j_aload_n cx 1 rfl rfl dX0_nearestBehind_76 (pn := 77) rfl ?_
        refine j_get cx inGX0 0 rfl rfl 9 (by decide) q_fl_X0_39 rfl rfl dX0_nearestBehind_77 (pn := 80) rfl ?_
        refine j_iload cx 5 rfl dX0_nearestBehind_80 (pn := 82) rfl ?_
        refine j_iload_n cx 2 rfl rfl dX0_nearestBehind_82 (pn := 83) rfl ?_
        have hin := h.1
        obtain ⟨f11, ef11⟩ : ∃ z, z = upd c_cameFrom x4.toNatClampNeg p1 := ⟨_, rfl⟩
        have h := h.2 f11 ef11
        refine j_iast cx 10 0 rfl rfl hin (W_Car cyI cyJ cyZ a_c a_c_spotX a_c_spotY a_c_toX a_c_toY a_c_fromX a_c_fromY a_c_edgeWorth a_c_placeWorth a_c_givenTo a_c_cameFrom a_c_slack a_c_seen c_edges c_places c_spotX c_spotY c_toX c_toY c_fromX c_fromY c_edgeWorth c_placeWorth c_givenTo f11 f10 c_seen) (by subst ef11; rfl) dX0_nearestBehind_83 (pn := 84) rfl ?_
        refine j_sub [1, 2, 3, 4, 5] [(0, .ref a_c), (1, .int p1), (2, .int x2), (3, .int x3), (4, .int x4)] rfl ?_
        exact J_X0_nearestBehind_84 cx hR hB12 h
set_option maxHeartbeats 4000000 in
set_option maxRecDepth 100000 in
theorem J_X0_nearestBehind_12 {x : CX} {D : DG} {cyI cyJ cyZ : ClassId} {a_c a_c_spotX a_c_spotY a_c_toX a_c_toY a_c_fromX a_c_fromY a_c_edgeWorth a_c_placeWorth a_c_givenTo a_c_cameFrom a_c_slack a_c_seen : Nat} {c_edges : Int32} {c_places : Int32} {c_spotX : Nat → Int32} {c_spotY : Nat → Int32} {c_toX : Nat → Int32} {c_toY : Nat → Int32} {c_fromX : Nat → Int32} {c_fromY : Nat → Int32} {c_edgeWorth : Nat → Int32} {c_placeWorth : Nat → Int32} {c_givenTo : Nat → Int32} {c_cameFrom : Nat → Int32} {c_slack : Nat → Int32} {c_seen : Nat → Int32} {p1 : Int32} {x2 : Int32} {x3 : Int32} {x4 : Int32} {Q : Int32 → ((Nat → Int32) × (Nat → Int32)) → Prop} (cx : Cx x cX0_nearestBehind 6 RX0 rm_X0_nearestBehind D [(cyI, .int), (cyJ, .long), (cyZ, .boolean)]) (hR : ∀ (v : Int32) (u : (Nat → Int32) × (Nat → Int32)) (pc : Nat) (lv : List (Nat × Value)), decode cX0_nearestBehind pc = .ok (.ireturn, 1) → Q v u → J x 0 0 6 (W_Car cyI cyJ cyZ a_c a_c_spotX a_c_spotY a_c_toX a_c_toY a_c_fromX a_c_fromY a_c_edgeWorth a_c_placeWorth a_c_givenTo a_c_cameFrom a_c_slack a_c_seen c_edges c_places c_spotX c_spotY c_toX c_toY c_fromX c_fromY c_edgeWorth c_placeWorth c_givenTo u.1 u.2 c_seen) lv pc [.int v]) (h : lp_X0_nearestBehind_12 Q  p1 x2 c_places c_toX c_toY c_fromX c_fromY c_edgeWorth c_placeWorth c_seen c_cameFrom c_slack x3 x4) :
    J x 0 0 6 (W_Car cyI cyJ cyZ a_c a_c_spotX a_c_spotY a_c_toX a_c_toY a_c_fromX a_c_fromY a_c_edgeWorth a_c_placeWorth a_c_givenTo a_c_cameFrom a_c_slack a_c_seen c_edges c_places c_spotX c_spotY c_toX c_toY c_fromX c_fromY c_edgeWorth c_placeWorth c_givenTo c_cameFrom c_slack c_seen) [(0, .ref a_c), (1, .int p1), (2, .int x2), (3, .int x3), (4, .int x4)] 12 [] := by
  obtain ⟨I, ⟨n, h0⟩, hb⟩ := h
  revert c_cameFrom c_slack x3 x4
  induction n using Nat.strongRecOn with
  | _ n ih =>
    intro c_cameFrom c_slack x3 x4 h0
    exact B_X0_nearestBehind_12 cx hR (fun _ _ _ _ hz => by obtain ⟨n2, hlt, hI⟩ := hz; exact ih n2 hlt hI) (hb n c_cameFrom c_slack x3 x4 h0)
set_option maxHeartbeats 4000000 in
set_option maxRecDepth 100000 in
theorem c_X0_nearestBehind {D : DG} {cyI cyJ cyZ : ClassId} {a_c a_c_spotX a_c_spotY a_c_toX a_c_toY a_c_fromX a_c_fromY a_c_edgeWorth a_c_placeWorth a_c_givenTo a_c_cameFrom a_c_slack a_c_seen : Nat} {c_edges : Int32} {c_places : Int32} {c_spotX : Nat → Int32} {c_spotY : Nat → Int32} {c_toX : Nat → Int32} {c_toY : Nat → Int32} {c_fromX : Nat → Int32} {c_fromY : Nat → Int32} {c_edgeWorth : Nat → Int32} {c_placeWorth : Nat → Int32} {c_givenTo : Nat → Int32} {c_cameFrom : Nat → Int32} {c_slack : Nat → Int32} {c_seen : Nat → Int32} {p1 : Int32} {Q : Int32 → ((Nat → Int32) × (Nat → Int32)) → Prop} (h : wp_X0_nearestBehind p1 c_places c_toX c_toY c_fromX c_fromY c_edgeWorth c_placeWorth c_givenTo c_cameFrom c_slack c_seen Q) :
    MetI yX0_nearestBehind cX0_nearestBehind 6 (some .int) rm_X0_nearestBehind D [(cyI, .int), (cyJ, .long), (cyZ, .boolean)] [.ref a_c, .int p1] (W_Car cyI cyJ cyZ a_c a_c_spotX a_c_spotY a_c_toX a_c_toY a_c_fromX a_c_fromY a_c_edgeWorth a_c_placeWorth a_c_givenTo a_c_cameFrom a_c_slack a_c_seen c_edges c_places c_spotX c_spotY c_toX c_toY c_fromX c_fromY c_edgeWorth c_placeWorth c_givenTo c_cameFrom c_slack c_seen) (fun u : (Nat → Int32) × (Nat → Int32) => (W_Car cyI cyJ cyZ a_c a_c_spotX a_c_spotY a_c_toX a_c_toY a_c_fromX a_c_fromY a_c_edgeWorth a_c_placeWorth a_c_givenTo a_c_cameFrom a_c_slack a_c_seen c_edges c_places c_spotX c_spotY c_toX c_toY c_fromX c_fromY c_edgeWorth c_placeWorth c_givenTo u.1 u.2 c_seen)) (fun v u => Q v u) := by
  unfold wp_X0_nearestBehind at h
  refine metI_of (by decide) (Nat.le_of_ble_eq_true rfl) (fun x cx0 hR0 => ?_)
  have cx : Cx x cX0_nearestBehind 6 RX0 rm_X0_nearestBehind D [(cyI, .int), (cyJ, .long), (cyZ, .boolean)] := cx0
  have hR : ∀ (v : Int32) (u : (Nat → Int32) × (Nat → Int32)) (pc : Nat) (lv : List (Nat × Value)), decode cX0_nearestBehind pc = .ok (.ireturn, 1) → Q v u → J x 0 0 6 (W_Car cyI cyJ cyZ a_c a_c_spotX a_c_spotY a_c_toX a_c_toY a_c_fromX a_c_fromY a_c_edgeWorth a_c_placeWorth a_c_givenTo a_c_cameFrom a_c_slack a_c_seen c_edges c_places c_spotX c_spotY c_toX c_toY c_fromX c_fromY c_edgeWorth c_placeWorth c_givenTo u.1 u.2 c_seen) lv pc [.int v] := (fun v u pc lv d hq => hR0 v u pc lv d hq)
  show J x 0 0 6 (W_Car cyI cyJ cyZ a_c a_c_spotX a_c_spotY a_c_toX a_c_toY a_c_fromX a_c_fromY a_c_edgeWorth a_c_placeWorth a_c_givenTo a_c_cameFrom a_c_slack a_c_seen c_edges c_places c_spotX c_spotY c_toX c_toY c_fromX c_fromY c_edgeWorth c_placeWorth c_givenTo c_cameFrom c_slack c_seen) [(0, .ref a_c), (1, .int p1)] 0 []
  refine j_aload_n cx 0 rfl rfl dX0_nearestBehind_0 (pn := 1) rfl ?_
  refine j_get cx inGX0 0 rfl rfl 8 (by decide) q_fl_X0_36 rfl rfl dX0_nearestBehind_1 (pn := 4) rfl ?_
  refine j_iload_n cx 1 rfl rfl dX0_nearestBehind_4 (pn := 5) rfl ?_
  refine j_iald cx 9 0 rfl rfl h.1 dX0_nearestBehind_5 (pn := 6) rfl ?_
  have h := h.2
  refine j_topi (fun y1 ey1 => ?_)
  have h := h y1 ey1
  refine j_istore_n cx rfl [(2, .int y1), (0, .ref a_c), (1, .int p1)] (by decide) rfl dX0_nearestBehind_6 (pn := 7) rfl ?_
  refine j_iconst cx (v := 0) (by decide) dX0_nearestBehind_7 (pn := 8) rfl ?_
  refine j_istore_n cx rfl [(3, .int 0), (2, .int y1), (0, .ref a_c), (1, .int p1)] (by decide) rfl dX0_nearestBehind_8 (pn := 9) rfl ?_
  refine j_iconst cx (v := 1) (by decide) dX0_nearestBehind_9 (pn := 10) rfl ?_
  refine j_istore cx [(4, .int 1), (3, .int 0), (2, .int y1), (0, .ref a_c), (1, .int p1)] (by decide) rfl dX0_nearestBehind_10 (pn := 12) rfl ?_
  refine j_sub [3, 4, 2, 1, 0] [(0, .ref a_c), (1, .int p1), (2, .int y1), (3, .int 0), (4, .int 1)] rfl ?_
  exact J_X0_nearestBehind_12 cx hR h
theorem dX0_shiftBy_0 : decode cX0_shiftBy 0 = .ok (.iconst 0, 1) := by decide +kernel
theorem dX0_shiftBy_1 : decode cX0_shiftBy 1 = .ok (.istore_n 2, 1) := by decide +kernel
theorem dX0_shiftBy_2 : decode cX0_shiftBy 2 = .ok (.iload_n 2, 1) := by decide +kernel
theorem dX0_shiftBy_3 : decode cX0_shiftBy 3 = .ok (.aload_n 0, 1) := by decide +kernel
theorem dX0_shiftBy_4 : decode cX0_shiftBy 4 = .ok (.getfield 64, 3) := by decide +kernel
theorem dX0_shiftBy_7 : decode cX0_shiftBy 7 = .ok (.if_icmp .gt 57, 3) := by decide +kernel
theorem dX0_shiftBy_10 : decode cX0_shiftBy 10 = .ok (.aload_n 0, 1) := by decide +kernel
theorem dX0_shiftBy_11 : decode cX0_shiftBy 11 = .ok (.getfield 45, 3) := by decide +kernel
theorem dX0_shiftBy_14 : decode cX0_shiftBy 14 = .ok (.iload_n 2, 1) := by decide +kernel
theorem dX0_shiftBy_15 : decode cX0_shiftBy 15 = .ok (.iaload, 1) := by decide +kernel
theorem dX0_shiftBy_16 : decode cX0_shiftBy 16 = .ok (.iconst 1, 1) := by decide +kernel
theorem dX0_shiftBy_17 : decode cX0_shiftBy 17 = .ok (.if_icmp .ne 31, 3) := by decide +kernel
theorem dX0_shiftBy_20 : decode cX0_shiftBy 20 = .ok (.aload_n 0, 1) := by decide +kernel
theorem dX0_shiftBy_21 : decode cX0_shiftBy 21 = .ok (.getfield 30, 3) := by decide +kernel
theorem dX0_shiftBy_24 : decode cX0_shiftBy 24 = .ok (.aload_n 0, 1) := by decide +kernel
theorem dX0_shiftBy_25 : decode cX0_shiftBy 25 = .ok (.getfield 36, 3) := by decide +kernel
theorem dX0_shiftBy_28 : decode cX0_shiftBy 28 = .ok (.iload_n 2, 1) := by decide +kernel
theorem dX0_shiftBy_29 : decode cX0_shiftBy 29 = .ok (.iaload, 1) := by decide +kernel
theorem dX0_shiftBy_30 : decode cX0_shiftBy 30 = .ok (.dup2, 1) := by decide +kernel
theorem dX0_shiftBy_31 : decode cX0_shiftBy 31 = .ok (.iaload, 1) := by decide +kernel
theorem dX0_shiftBy_32 : decode cX0_shiftBy 32 = .ok (.iload_n 1, 1) := by decide +kernel
theorem dX0_shiftBy_33 : decode cX0_shiftBy 33 = .ok (.iadd, 1) := by decide +kernel
theorem dX0_shiftBy_34 : decode cX0_shiftBy 34 = .ok (.iastore, 1) := by decide +kernel
theorem dX0_shiftBy_35 : decode cX0_shiftBy 35 = .ok (.aload_n 0, 1) := by decide +kernel
theorem dX0_shiftBy_36 : decode cX0_shiftBy 36 = .ok (.getfield 33, 3) := by decide +kernel
theorem dX0_shiftBy_39 : decode cX0_shiftBy 39 = .ok (.iload_n 2, 1) := by decide +kernel
theorem dX0_shiftBy_40 : decode cX0_shiftBy 40 = .ok (.dup2, 1) := by decide +kernel
theorem dX0_shiftBy_41 : decode cX0_shiftBy 41 = .ok (.iaload, 1) := by decide +kernel
theorem dX0_shiftBy_42 : decode cX0_shiftBy 42 = .ok (.iload_n 1, 1) := by decide +kernel
theorem dX0_shiftBy_43 : decode cX0_shiftBy 43 = .ok (.isub, 1) := by decide +kernel
theorem dX0_shiftBy_44 : decode cX0_shiftBy 44 = .ok (.iastore, 1) := by decide +kernel
theorem dX0_shiftBy_45 : decode cX0_shiftBy 45 = .ok (.goto 13, 3) := by decide +kernel
theorem dX0_shiftBy_48 : decode cX0_shiftBy 48 = .ok (.aload_n 0, 1) := by decide +kernel
theorem dX0_shiftBy_49 : decode cX0_shiftBy 49 = .ok (.getfield 42, 3) := by decide +kernel
theorem dX0_shiftBy_52 : decode cX0_shiftBy 52 = .ok (.iload_n 2, 1) := by decide +kernel
theorem dX0_shiftBy_53 : decode cX0_shiftBy 53 = .ok (.dup2, 1) := by decide +kernel
theorem dX0_shiftBy_54 : decode cX0_shiftBy 54 = .ok (.iaload, 1) := by decide +kernel
theorem dX0_shiftBy_55 : decode cX0_shiftBy 55 = .ok (.iload_n 1, 1) := by decide +kernel
theorem dX0_shiftBy_56 : decode cX0_shiftBy 56 = .ok (.isub, 1) := by decide +kernel
theorem dX0_shiftBy_57 : decode cX0_shiftBy 57 = .ok (.iastore, 1) := by decide +kernel
theorem dX0_shiftBy_58 : decode cX0_shiftBy 58 = .ok (.iinc 2 1, 3) := by decide +kernel
theorem dX0_shiftBy_61 : decode cX0_shiftBy 61 = .ok (.goto (-59), 3) := by decide +kernel
theorem dX0_shiftBy_64 : decode cX0_shiftBy 64 = .ok (.return_, 1) := by decide +kernel
abbrev rm_X0_shiftBy : Room := { frames := 0, cells := 0, slots := 0, locals := 0 }
theorem hd_X0_shiftBy : yX0_shiftBy.cls ≠ "java/lang/invoke/MethodHandle" ∧ yX0_shiftBy.cls ≠ "java/lang/invoke/VarHandle" ∧ (parseMethodDescriptor yX0_shiftBy.desc).map (fun d => d.parameters.length) = some 1 := by decide +kernel
def bk_X0_shiftBy_58 (Q : ((Nat → Int32) × (Nat → Int32) × (Nat → Int32)) → Prop) (B2 : (Nat → Int32) → (Nat → Int32) → (Nat → Int32) → Int32 → Prop) (x2 : Int32) (c_edgeWorth : Nat → Int32) (c_placeWorth : Nat → Int32) (c_slack : Nat → Int32) : Prop :=
∀ y5 : Int32, y5 = (x2 + 1) →
B2 c_edgeWorth c_placeWorth c_slack y5
def bd_X0_shiftBy_2 (Q : ((Nat → Int32) × (Nat → Int32) × (Nat → Int32)) → Prop) (B2 : (Nat → Int32) → (Nat → Int32) → (Nat → Int32) → Int32 → Prop) (p1 : Int32) (c_places : Int32) (c_givenTo : Nat → Int32) (c_seen : Nat → Int32) (c_edgeWorth : Nat → Int32) (c_placeWorth : Nat → Int32) (c_slack : Nat → Int32) (x2 : Int32) : Prop :=
((c_places < x2 → Q (c_edgeWorth, c_placeWorth, c_slack)) ∧
(¬ c_places < x2 → vp_in x2 63 ∧ ((¬ (c_seen x2.toNatClampNeg) = 1 → vp_in x2 63 ∧ (∀ y3 : Int32, y3 = ((c_slack x2.toNatClampNeg) - p1) →
vp_in x2 63 ∧ (∀ f4 : Nat → Int32, f4 = (upd c_slack x2.toNatClampNeg y3) →
bk_X0_shiftBy_58 Q B2 x2 c_edgeWorth c_placeWorth f4))) ∧
((c_seen x2.toNatClampNeg) = 1 → vp_in x2 63 ∧ vp_in (c_givenTo x2.toNatClampNeg) 32 ∧ (∀ y6 : Int32, y6 = ((c_edgeWorth (c_givenTo x2.toNatClampNeg).toNatClampNeg) + p1) →
vp_in (c_givenTo x2.toNatClampNeg) 32 ∧ (∀ f7 : Nat → Int32, f7 = (upd c_edgeWorth (c_givenTo x2.toNatClampNeg).toNatClampNeg y6) →
vp_in x2 63 ∧ (∀ y8 : Int32, y8 = ((c_placeWorth x2.toNatClampNeg) - p1) →
vp_in x2 63 ∧ (∀ f9 : Nat → Int32, f9 = (upd c_placeWorth x2.toNatClampNeg y8) →
bk_X0_shiftBy_58 Q B2 x2 f7 f9 c_slack))))))))
def lp_X0_shiftBy_2 (Q : ((Nat → Int32) × (Nat → Int32) × (Nat → Int32)) → Prop) (p1 : Int32) (c_places : Int32) (c_givenTo : Nat → Int32) (c_seen : Nat → Int32) (c_edgeWorth : Nat → Int32) (c_placeWorth : Nat → Int32) (c_slack : Nat → Int32) (x2 : Int32) : Prop :=
∃ I : Nat → (Nat → Int32) → (Nat → Int32) → (Nat → Int32) → Int32 → Prop, (∃ n, I n c_edgeWorth c_placeWorth c_slack x2) ∧ ∀ n c_edgeWorth c_placeWorth c_slack x2, I n c_edgeWorth c_placeWorth c_slack x2 → bd_X0_shiftBy_2 Q  (fun c_edgeWorth' c_placeWorth' c_slack' x2' => ∃ n', n' < n ∧ I n' c_edgeWorth' c_placeWorth' c_slack' x2') p1 c_places c_givenTo c_seen c_edgeWorth c_placeWorth c_slack x2
def wp_X0_shiftBy (p1 : Int32) (c_places : Int32) (c_edgeWorth : Nat → Int32) (c_placeWorth : Nat → Int32) (c_givenTo : Nat → Int32) (c_slack : Nat → Int32) (c_seen : Nat → Int32) (Q : ((Nat → Int32) × (Nat → Int32) × (Nat → Int32)) → Prop) : Prop :=
lp_X0_shiftBy_2 Q p1 c_places c_givenTo c_seen c_edgeWorth c_placeWorth c_slack 0
set_option maxHeartbeats 4000000 in
set_option maxRecDepth 100000 in
theorem J_X0_shiftBy_58 {x : CX} {D : DG} {cyI cyJ cyZ : ClassId} {a_c a_c_spotX a_c_spotY a_c_toX a_c_toY a_c_fromX a_c_fromY a_c_edgeWorth a_c_placeWorth a_c_givenTo a_c_cameFrom a_c_slack a_c_seen : Nat} {c_edges : Int32} {c_places : Int32} {c_spotX : Nat → Int32} {c_spotY : Nat → Int32} {c_toX : Nat → Int32} {c_toY : Nat → Int32} {c_fromX : Nat → Int32} {c_fromY : Nat → Int32} {c_edgeWorth : Nat → Int32} {c_placeWorth : Nat → Int32} {c_givenTo : Nat → Int32} {c_cameFrom : Nat → Int32} {c_slack : Nat → Int32} {c_seen : Nat → Int32} {p1 : Int32} {x2 : Int32} {Q : ((Nat → Int32) × (Nat → Int32) × (Nat → Int32)) → Prop} {B2 : (Nat → Int32) → (Nat → Int32) → (Nat → Int32) → Int32 → Prop} (cx : Cx x cX0_shiftBy 3 RX0 rm_X0_shiftBy D [(cyI, .int), (cyJ, .long), (cyZ, .boolean)]) (hR : ∀ (u : (Nat → Int32) × (Nat → Int32) × (Nat → Int32)) (pc : Nat) (lv : List (Nat × Value)), decode cX0_shiftBy pc = .ok (.return_, 1) → Q u → J x 0 0 3 (W_Car cyI cyJ cyZ a_c a_c_spotX a_c_spotY a_c_toX a_c_toY a_c_fromX a_c_fromY a_c_edgeWorth a_c_placeWorth a_c_givenTo a_c_cameFrom a_c_slack a_c_seen c_edges c_places c_spotX c_spotY c_toX c_toY c_fromX c_fromY u.1 u.2.1 c_givenTo c_cameFrom u.2.2 c_seen) lv pc []) (hB2 : ∀ (c_edgeWorth : Nat → Int32) (c_placeWorth : Nat → Int32) (c_slack : Nat → Int32) (x2 : Int32), B2 c_edgeWorth c_placeWorth c_slack x2 → J x 0 0 3 (W_Car cyI cyJ cyZ a_c a_c_spotX a_c_spotY a_c_toX a_c_toY a_c_fromX a_c_fromY a_c_edgeWorth a_c_placeWorth a_c_givenTo a_c_cameFrom a_c_slack a_c_seen c_edges c_places c_spotX c_spotY c_toX c_toY c_fromX c_fromY c_edgeWorth c_placeWorth c_givenTo c_cameFrom c_slack c_seen) [(0, .ref a_c), (1, .int p1), (2, .int x2)] 2 []) (h : bk_X0_shiftBy_58 Q B2 x2 c_edgeWorth c_placeWorth c_slack) :
    J x 0 0 3 (W_Car cyI cyJ cyZ a_c a_c_spotX a_c_spotY a_c_toX a_c_toY a_c_fromX a_c_fromY a_c_edgeWorth a_c_placeWorth a_c_givenTo a_c_cameFrom a_c_slack a_c_seen c_edges c_places c_spotX c_spotY c_toX c_toY c_fromX c_fromY c_edgeWorth c_placeWorth c_givenTo c_cameFrom c_slack c_seen) [(0, .ref a_c), (1, .int p1), (2, .int x2)] 58 [] := by
  unfold bk_X0_shiftBy_58 at h
  obtain ⟨y5, ey5⟩ : ∃ z : Int32, z = x2 + 1 := ⟨_, rfl⟩
  have h := h y5 ey5
  refine j_iinc cx 2 rfl (cst := 1) (by decide) ey5 [(2, .int y5), (0, .ref a_c), (1, .int p1)] (by decide) rfl dX0_shiftBy_58 (pn := 61) rfl ?_
  refine j_goto cx 2 dX0_shiftBy_61 rfl ?_
  refine j_sub [1, 2, 0] [(0, .ref a_c), (1, .int p1), (2, .int y5)] rfl ?_
  exact hB2 _ _ _ _ h
set_option maxHeartbeats 4000000 in
set_option maxRecDepth 100000 in
theorem B_X0_shiftBy_2 {x : CX} {D : DG} {cyI cyJ cyZ : ClassId} {a_c a_c_spotX a_c_spotY a_c_toX a_c_toY a_c_fromX a_c_fromY a_c_edgeWorth a_c_placeWorth a_c_givenTo a_c_cameFrom a_c_slack a_c_seen : Nat} {c_edges : Int32} {c_places : Int32} {c_spotX : Nat → Int32} {c_spotY : Nat → Int32} {c_toX : Nat → Int32} {c_toY : Nat → Int32} {c_fromX : Nat → Int32} {c_fromY : Nat → Int32} {c_edgeWorth : Nat → Int32} {c_placeWorth : Nat → Int32} {c_givenTo : Nat → Int32} {c_cameFrom : Nat → Int32} {c_slack : Nat → Int32} {c_seen : Nat → Int32} {p1 : Int32} {x2 : Int32} {Q : ((Nat → Int32) × (Nat → Int32) × (Nat → Int32)) → Prop} {B2 : (Nat → Int32) → (Nat → Int32) → (Nat → Int32) → Int32 → Prop} (cx : Cx x cX0_shiftBy 3 RX0 rm_X0_shiftBy D [(cyI, .int), (cyJ, .long), (cyZ, .boolean)]) (hR : ∀ (u : (Nat → Int32) × (Nat → Int32) × (Nat → Int32)) (pc : Nat) (lv : List (Nat × Value)), decode cX0_shiftBy pc = .ok (.return_, 1) → Q u → J x 0 0 3 (W_Car cyI cyJ cyZ a_c a_c_spotX a_c_spotY a_c_toX a_c_toY a_c_fromX a_c_fromY a_c_edgeWorth a_c_placeWorth a_c_givenTo a_c_cameFrom a_c_slack a_c_seen c_edges c_places c_spotX c_spotY c_toX c_toY c_fromX c_fromY u.1 u.2.1 c_givenTo c_cameFrom u.2.2 c_seen) lv pc []) (hB2 : ∀ (c_edgeWorth : Nat → Int32) (c_placeWorth : Nat → Int32) (c_slack : Nat → Int32) (x2 : Int32), B2 c_edgeWorth c_placeWorth c_slack x2 → J x 0 0 3 (W_Car cyI cyJ cyZ a_c a_c_spotX a_c_spotY a_c_toX a_c_toY a_c_fromX a_c_fromY a_c_edgeWorth a_c_placeWorth a_c_givenTo a_c_cameFrom a_c_slack a_c_seen c_edges c_places c_spotX c_spotY c_toX c_toY c_fromX c_fromY c_edgeWorth c_placeWorth c_givenTo c_cameFrom c_slack c_seen) [(0, .ref a_c), (1, .int p1), (2, .int x2)] 2 []) (h : bd_X0_shiftBy_2 Q B2 p1 c_places c_givenTo c_seen c_edgeWorth c_placeWorth c_slack x2) :
    J x 0 0 3 (W_Car cyI cyJ cyZ a_c a_c_spotX a_c_spotY a_c_toX a_c_toY a_c_fromX a_c_fromY a_c_edgeWorth a_c_placeWorth a_c_givenTo a_c_cameFrom a_c_slack a_c_seen c_edges c_places c_spotX c_spotY c_toX c_toY c_fromX c_fromY c_edgeWorth c_placeWorth c_givenTo c_cameFrom c_slack c_seen) [(0, .ref a_c), (1, .int p1), (2, .int x2)] 2 [] := by
  unfold bd_X0_shiftBy_2 at h
  refine j_iload_n cx 2 rfl rfl dX0_shiftBy_2 (pn := 3) rfl ?_
  refine j_aload_n cx 0 rfl rfl dX0_shiftBy_3 (pn := 4) rfl ?_
  refine j_get cx inGX0 0 rfl rfl 13 (by decide) q_fl_X0_64 rfl rfl dX0_shiftBy_4 (pn := 7) rfl ?_
  refine j_icmp_gt cx 64 dX0_shiftBy_7 (pn := 10) rfl rfl (fun c1 => ?_) (fun c1 => ?_)
  · have h := h.1 c1
    exact hR (c_edgeWorth, c_placeWorth, c_slack) 64 _ dX0_shiftBy_64 h
  · have h := h.2 c1
    refine j_aload_n cx 0 rfl rfl dX0_shiftBy_10 (pn := 11) rfl ?_
    refine j_get cx inGX0 0 rfl rfl 11 (by decide) q_fl_X0_45 rfl rfl dX0_shiftBy_11 (pn := 14) rfl ?_
    refine j_iload_n cx 2 rfl rfl dX0_shiftBy_14 (pn := 15) rfl ?_
    refine j_iald cx 12 0 rfl rfl h.1 dX0_shiftBy_15 (pn := 16) rfl ?_
    have h := h.2
    refine j_iconst cx (v := 1) (by decide) dX0_shiftBy_16 (pn := 17) rfl ?_
    refine j_icmp_ne cx 48 dX0_shiftBy_17 (pn := 20) rfl rfl (fun c2 => ?_) (fun c2 => ?_)
    · have h := h.1 c2
      refine j_aload_n cx 0 rfl rfl dX0_shiftBy_48 (pn := 49) rfl ?_
      refine j_get cx inGX0 0 rfl rfl 10 (by decide) q_fl_X0_42 rfl rfl dX0_shiftBy_49 (pn := 52) rfl ?_
      refine j_iload_n cx 2 rfl rfl dX0_shiftBy_52 (pn := 53) rfl ?_
      refine j_dup2 cx rfl rfl dX0_shiftBy_53 (pn := 54) rfl ?_
      refine j_iald cx 11 0 rfl rfl h.1 dX0_shiftBy_54 (pn := 55) rfl ?_
      have h := h.2
      refine j_iload_n cx 1 rfl rfl dX0_shiftBy_55 (pn := 56) rfl ?_
      refine j_isub cx dX0_shiftBy_56 (pn := 57) rfl ?_
      refine j_topi (fun y3 ey3 => ?_)
      have h := h y3 ey3
      have hin := h.1
      obtain ⟨f4, ef4⟩ : ∃ z, z = upd c_slack x2.toNatClampNeg y3 := ⟨_, rfl⟩
      have h := h.2 f4 ef4
      refine j_iast cx 11 0 rfl rfl hin (W_Car cyI cyJ cyZ a_c a_c_spotX a_c_spotY a_c_toX a_c_toY a_c_fromX a_c_fromY a_c_edgeWorth a_c_placeWorth a_c_givenTo a_c_cameFrom a_c_slack a_c_seen c_edges c_places c_spotX c_spotY c_toX c_toY c_fromX c_fromY c_edgeWorth c_placeWorth c_givenTo c_cameFrom f4 c_seen) (by subst ef4; rfl) dX0_shiftBy_57 (pn := 58) rfl ?_
      exact J_X0_shiftBy_58 cx hR hB2 h
    · have h := h.2 c2
      refine j_aload_n cx 0 rfl rfl dX0_shiftBy_20 (pn := 21) rfl ?_
      refine j_get cx inGX0 0 rfl rfl 6 (by decide) q_fl_X0_30 rfl rfl dX0_shiftBy_21 (pn := 24) rfl ?_
      refine j_aload_n cx 0 rfl rfl dX0_shiftBy_24 (pn := 25) rfl ?_
      refine j_get cx inGX0 0 rfl rfl 8 (by decide) q_fl_X0_36 rfl rfl dX0_shiftBy_25 (pn := 28) rfl ?_
      refine j_iload_n cx 2 rfl rfl dX0_shiftBy_28 (pn := 29) rfl ?_
      refine j_iald cx 9 0 rfl rfl h.1 dX0_shiftBy_29 (pn := 30) rfl ?_
      have h := h.2
      refine j_dup2 cx rfl rfl dX0_shiftBy_30 (pn := 31) rfl ?_
      refine j_iald cx 7 0 rfl rfl h.1 dX0_shiftBy_31 (pn := 32) rfl ?_
      have h := h.2
      refine j_iload_n cx 1 rfl rfl dX0_shiftBy_32 (pn := 33) rfl ?_
      refine j_iadd cx dX0_shiftBy_33 (pn := 34) rfl ?_
      refine j_topi (fun y6 ey6 => ?_)
      have h := h y6 ey6
      have hin := h.1
      obtain ⟨f7, ef7⟩ : ∃ z, z = upd c_edgeWorth (c_givenTo x2.toNatClampNeg).toNatClampNeg y6 := ⟨_, rfl⟩
      have h := h.2 f7 ef7
      refine j_iast cx 7 0 rfl rfl hin (W_Car cyI cyJ cyZ a_c a_c_spotX a_c_spotY a_c_toX a_c_toY a_c_fromX a_c_fromY a_c_edgeWorth a_c_placeWorth a_c_givenTo a_c_cameFrom a_c_slack a_c_seen c_edges c_places c_spotX c_spotY c_toX c_toY c_fromX c_fromY f7 c_placeWorth c_givenTo c_cameFrom c_slack c_seen) (by subst ef7; rfl) dX0_shiftBy_34 (pn := 35) rfl ?_
      refine j_aload_n cx 0 rfl rfl dX0_shiftBy_35 (pn := 36) rfl ?_
      refine j_get cx inGX0 0 rfl rfl 7 (by decide) q_fl_X0_33 rfl rfl dX0_shiftBy_36 (pn := 39) rfl ?_
      refine j_iload_n cx 2 rfl rfl dX0_shiftBy_39 (pn := 40) rfl ?_
      refine j_dup2 cx rfl rfl dX0_shiftBy_40 (pn := 41) rfl ?_
      refine j_iald cx 8 0 rfl rfl h.1 dX0_shiftBy_41 (pn := 42) rfl ?_
      have h := h.2
      refine j_iload_n cx 1 rfl rfl dX0_shiftBy_42 (pn := 43) rfl ?_
      refine j_isub cx dX0_shiftBy_43 (pn := 44) rfl ?_
      refine j_topi (fun y8 ey8 => ?_)
      have h := h y8 ey8
      have hin := h.1
      obtain ⟨f9, ef9⟩ : ∃ z, z = upd c_placeWorth x2.toNatClampNeg y8 := ⟨_, rfl⟩
      have h := h.2 f9 ef9
      refine j_iast cx 8 0 rfl rfl hin (W_Car cyI cyJ cyZ a_c a_c_spotX a_c_spotY a_c_toX a_c_toY a_c_fromX a_c_fromY a_c_edgeWorth a_c_placeWorth a_c_givenTo a_c_cameFrom a_c_slack a_c_seen c_edges c_places c_spotX c_spotY c_toX c_toY c_fromX c_fromY f7 f9 c_givenTo c_cameFrom c_slack c_seen) (by subst ef9; rfl) dX0_shiftBy_44 (pn := 45) rfl ?_
      refine j_goto cx 58 dX0_shiftBy_45 rfl ?_
      exact J_X0_shiftBy_58 cx hR hB2 h
set_option maxHeartbeats 4000000 in
set_option maxRecDepth 100000 in
theorem J_X0_shiftBy_2 {x : CX} {D : DG} {cyI cyJ cyZ : ClassId} {a_c a_c_spotX a_c_spotY a_c_toX a_c_toY a_c_fromX a_c_fromY a_c_edgeWorth a_c_placeWorth a_c_givenTo a_c_cameFrom a_c_slack a_c_seen : Nat} {c_edges : Int32} {c_places : Int32} {c_spotX : Nat → Int32} {c_spotY : Nat → Int32} {c_toX : Nat → Int32} {c_toY : Nat → Int32} {c_fromX : Nat → Int32} {c_fromY : Nat → Int32} {c_edgeWorth : Nat → Int32} {c_placeWorth : Nat → Int32} {c_givenTo : Nat → Int32} {c_cameFrom : Nat → Int32} {c_slack : Nat → Int32} {c_seen : Nat → Int32} {p1 : Int32} {x2 : Int32} {Q : ((Nat → Int32) × (Nat → Int32) × (Nat → Int32)) → Prop} (cx : Cx x cX0_shiftBy 3 RX0 rm_X0_shiftBy D [(cyI, .int), (cyJ, .long), (cyZ, .boolean)]) (hR : ∀ (u : (Nat → Int32) × (Nat → Int32) × (Nat → Int32)) (pc : Nat) (lv : List (Nat × Value)), decode cX0_shiftBy pc = .ok (.return_, 1) → Q u → J x 0 0 3 (W_Car cyI cyJ cyZ a_c a_c_spotX a_c_spotY a_c_toX a_c_toY a_c_fromX a_c_fromY a_c_edgeWorth a_c_placeWorth a_c_givenTo a_c_cameFrom a_c_slack a_c_seen c_edges c_places c_spotX c_spotY c_toX c_toY c_fromX c_fromY u.1 u.2.1 c_givenTo c_cameFrom u.2.2 c_seen) lv pc []) (h : lp_X0_shiftBy_2 Q  p1 c_places c_givenTo c_seen c_edgeWorth c_placeWorth c_slack x2) :
    J x 0 0 3 (W_Car cyI cyJ cyZ a_c a_c_spotX a_c_spotY a_c_toX a_c_toY a_c_fromX a_c_fromY a_c_edgeWorth a_c_placeWorth a_c_givenTo a_c_cameFrom a_c_slack a_c_seen c_edges c_places c_spotX c_spotY c_toX c_toY c_fromX c_fromY c_edgeWorth c_placeWorth c_givenTo c_cameFrom c_slack c_seen) [(0, .ref a_c), (1, .int p1), (2, .int x2)] 2 [] := by
  obtain ⟨I, ⟨n, h0⟩, hb⟩ := h
  revert c_edgeWorth c_placeWorth c_slack x2
  induction n using Nat.strongRecOn with
  | _ n ih =>
    intro c_edgeWorth c_placeWorth c_slack x2 h0
    exact B_X0_shiftBy_2 cx hR (fun _ _ _ _ hz => by obtain ⟨n2, hlt, hI⟩ := hz; exact ih n2 hlt hI) (hb n c_edgeWorth c_placeWorth c_slack x2 h0)
set_option maxHeartbeats 4000000 in
set_option maxRecDepth 100000 in
theorem c_X0_shiftBy {D : DG} {cyI cyJ cyZ : ClassId} {a_c a_c_spotX a_c_spotY a_c_toX a_c_toY a_c_fromX a_c_fromY a_c_edgeWorth a_c_placeWorth a_c_givenTo a_c_cameFrom a_c_slack a_c_seen : Nat} {c_edges : Int32} {c_places : Int32} {c_spotX : Nat → Int32} {c_spotY : Nat → Int32} {c_toX : Nat → Int32} {c_toY : Nat → Int32} {c_fromX : Nat → Int32} {c_fromY : Nat → Int32} {c_edgeWorth : Nat → Int32} {c_placeWorth : Nat → Int32} {c_givenTo : Nat → Int32} {c_cameFrom : Nat → Int32} {c_slack : Nat → Int32} {c_seen : Nat → Int32} {p1 : Int32} {Q : ((Nat → Int32) × (Nat → Int32) × (Nat → Int32)) → Prop} (h : wp_X0_shiftBy p1 c_places c_edgeWorth c_placeWorth c_givenTo c_slack c_seen Q) :
    MetV yX0_shiftBy cX0_shiftBy 3 (none) rm_X0_shiftBy D [(cyI, .int), (cyJ, .long), (cyZ, .boolean)] [.ref a_c, .int p1] (W_Car cyI cyJ cyZ a_c a_c_spotX a_c_spotY a_c_toX a_c_toY a_c_fromX a_c_fromY a_c_edgeWorth a_c_placeWorth a_c_givenTo a_c_cameFrom a_c_slack a_c_seen c_edges c_places c_spotX c_spotY c_toX c_toY c_fromX c_fromY c_edgeWorth c_placeWorth c_givenTo c_cameFrom c_slack c_seen) (fun u : (Nat → Int32) × (Nat → Int32) × (Nat → Int32) => (W_Car cyI cyJ cyZ a_c a_c_spotX a_c_spotY a_c_toX a_c_toY a_c_fromX a_c_fromY a_c_edgeWorth a_c_placeWorth a_c_givenTo a_c_cameFrom a_c_slack a_c_seen c_edges c_places c_spotX c_spotY c_toX c_toY c_fromX c_fromY u.1 u.2.1 c_givenTo c_cameFrom u.2.2 c_seen)) (fun u => Q u) := by
  unfold wp_X0_shiftBy at h
  refine metV_of (by decide) (Nat.le_of_ble_eq_true rfl) (fun x cx0 hR0 => ?_)
  have cx : Cx x cX0_shiftBy 3 RX0 rm_X0_shiftBy D [(cyI, .int), (cyJ, .long), (cyZ, .boolean)] := cx0
  have hR : ∀ (u : (Nat → Int32) × (Nat → Int32) × (Nat → Int32)) (pc : Nat) (lv : List (Nat × Value)), decode cX0_shiftBy pc = .ok (.return_, 1) → Q u → J x 0 0 3 (W_Car cyI cyJ cyZ a_c a_c_spotX a_c_spotY a_c_toX a_c_toY a_c_fromX a_c_fromY a_c_edgeWorth a_c_placeWorth a_c_givenTo a_c_cameFrom a_c_slack a_c_seen c_edges c_places c_spotX c_spotY c_toX c_toY c_fromX c_fromY u.1 u.2.1 c_givenTo c_cameFrom u.2.2 c_seen) lv pc [] := (fun u pc lv d hq => hR0 u pc lv d hq)
  show J x 0 0 3 (W_Car cyI cyJ cyZ a_c a_c_spotX a_c_spotY a_c_toX a_c_toY a_c_fromX a_c_fromY a_c_edgeWorth a_c_placeWorth a_c_givenTo a_c_cameFrom a_c_slack a_c_seen c_edges c_places c_spotX c_spotY c_toX c_toY c_fromX c_fromY c_edgeWorth c_placeWorth c_givenTo c_cameFrom c_slack c_seen) [(0, .ref a_c), (1, .int p1)] 0 []
  refine j_iconst cx (v := 0) (by decide) dX0_shiftBy_0 (pn := 1) rfl ?_
  refine j_istore_n cx rfl [(2, .int 0), (0, .ref a_c), (1, .int p1)] (by decide) rfl dX0_shiftBy_1 (pn := 2) rfl ?_
  refine j_sub [1, 2, 0] [(0, .ref a_c), (1, .int p1), (2, .int 0)] rfl ?_
  exact J_X0_shiftBy_2 cx hR h
theorem dX0_giveTo_0 : decode cX0_giveTo 0 = .ok (.aload_n 0, 1) := by decide +kernel
theorem dX0_giveTo_1 : decode cX0_giveTo 1 = .ok (.getfield 42, 3) := by decide +kernel
theorem dX0_giveTo_4 : decode cX0_giveTo 4 = .ok (.ldc 102, 2) := by decide +kernel
theorem dX0_giveTo_6 : decode cX0_giveTo 6 = .ok (.invokestatic 90, 3) := by decide +kernel
theorem dX0_giveTo_9 : decode cX0_giveTo 9 = .ok (.aload_n 0, 1) := by decide +kernel
theorem dX0_giveTo_10 : decode cX0_giveTo 10 = .ok (.getfield 45, 3) := by decide +kernel
theorem dX0_giveTo_13 : decode cX0_giveTo 13 = .ok (.iconst 0, 1) := by decide +kernel
theorem dX0_giveTo_14 : decode cX0_giveTo 14 = .ok (.invokestatic 90, 3) := by decide +kernel
theorem dX0_giveTo_17 : decode cX0_giveTo 17 = .ok (.aload_n 0, 1) := by decide +kernel
theorem dX0_giveTo_18 : decode cX0_giveTo 18 = .ok (.getfield 36, 3) := by decide +kernel
theorem dX0_giveTo_21 : decode cX0_giveTo 21 = .ok (.iconst 0, 1) := by decide +kernel
theorem dX0_giveTo_22 : decode cX0_giveTo 22 = .ok (.iload_n 1, 1) := by decide +kernel
theorem dX0_giveTo_23 : decode cX0_giveTo 23 = .ok (.iastore, 1) := by decide +kernel
theorem dX0_giveTo_24 : decode cX0_giveTo 24 = .ok (.iconst 0, 1) := by decide +kernel
theorem dX0_giveTo_25 : decode cX0_giveTo 25 = .ok (.istore_n 2, 1) := by decide +kernel
theorem dX0_giveTo_26 : decode cX0_giveTo 26 = .ok (.iconst 0, 1) := by decide +kernel
theorem dX0_giveTo_27 : decode cX0_giveTo 27 = .ok (.istore_n 3, 1) := by decide +kernel
theorem dX0_giveTo_28 : decode cX0_giveTo 28 = .ok (.iload_n 3, 1) := by decide +kernel
theorem dX0_giveTo_29 : decode cX0_giveTo 29 = .ok (.aload_n 0, 1) := by decide +kernel
theorem dX0_giveTo_30 : decode cX0_giveTo 30 = .ok (.getfield 64, 3) := by decide +kernel
theorem dX0_giveTo_33 : decode cX0_giveTo 33 = .ok (.if_icmp .gt 46, 3) := by decide +kernel
theorem dX0_giveTo_36 : decode cX0_giveTo 36 = .ok (.aload_n 0, 1) := by decide +kernel
theorem dX0_giveTo_37 : decode cX0_giveTo 37 = .ok (.getfield 36, 3) := by decide +kernel
theorem dX0_giveTo_40 : decode cX0_giveTo 40 = .ok (.iload_n 2, 1) := by decide +kernel
theorem dX0_giveTo_41 : decode cX0_giveTo 41 = .ok (.iaload, 1) := by decide +kernel
theorem dX0_giveTo_42 : decode cX0_giveTo 42 = .ok (.ifCond .eq 37, 3) := by decide +kernel
theorem dX0_giveTo_45 : decode cX0_giveTo 45 = .ok (.aload_n 0, 1) := by decide +kernel
theorem dX0_giveTo_46 : decode cX0_giveTo 46 = .ok (.getfield 45, 3) := by decide +kernel
theorem dX0_giveTo_49 : decode cX0_giveTo 49 = .ok (.iload_n 2, 1) := by decide +kernel
theorem dX0_giveTo_50 : decode cX0_giveTo 50 = .ok (.iconst 1, 1) := by decide +kernel
theorem dX0_giveTo_51 : decode cX0_giveTo 51 = .ok (.iastore, 1) := by decide +kernel
theorem dX0_giveTo_52 : decode cX0_giveTo 52 = .ok (.aload_n 0, 1) := by decide +kernel
theorem dX0_giveTo_53 : decode cX0_giveTo 53 = .ok (.iload_n 2, 1) := by decide +kernel
theorem dX0_giveTo_54 : decode cX0_giveTo 54 = .ok (.invokevirtual 103, 3) := by decide +kernel
theorem dX0_giveTo_57 : decode cX0_giveTo 57 = .ok (.istore 4, 2) := by decide +kernel
theorem dX0_giveTo_59 : decode cX0_giveTo 59 = .ok (.aload_n 0, 1) := by decide +kernel
theorem dX0_giveTo_60 : decode cX0_giveTo 60 = .ok (.aload_n 0, 1) := by decide +kernel
theorem dX0_giveTo_61 : decode cX0_giveTo 61 = .ok (.getfield 42, 3) := by decide +kernel
theorem dX0_giveTo_64 : decode cX0_giveTo 64 = .ok (.iload 4, 2) := by decide +kernel
theorem dX0_giveTo_66 : decode cX0_giveTo 66 = .ok (.iaload, 1) := by decide +kernel
theorem dX0_giveTo_67 : decode cX0_giveTo 67 = .ok (.invokevirtual 106, 3) := by decide +kernel
theorem dX0_giveTo_70 : decode cX0_giveTo 70 = .ok (.iload 4, 2) := by decide +kernel
theorem dX0_giveTo_72 : decode cX0_giveTo 72 = .ok (.istore_n 2, 1) := by decide +kernel
theorem dX0_giveTo_73 : decode cX0_giveTo 73 = .ok (.iinc 3 1, 3) := by decide +kernel
theorem dX0_giveTo_76 : decode cX0_giveTo 76 = .ok (.goto (-48), 3) := by decide +kernel
theorem dX0_giveTo_79 : decode cX0_giveTo 79 = .ok (.iconst 0, 1) := by decide +kernel
theorem dX0_giveTo_80 : decode cX0_giveTo 80 = .ok (.istore_n 3, 1) := by decide +kernel
theorem dX0_giveTo_81 : decode cX0_giveTo 81 = .ok (.iload_n 3, 1) := by decide +kernel
theorem dX0_giveTo_82 : decode cX0_giveTo 82 = .ok (.aload_n 0, 1) := by decide +kernel
theorem dX0_giveTo_83 : decode cX0_giveTo 83 = .ok (.getfield 64, 3) := by decide +kernel
theorem dX0_giveTo_86 : decode cX0_giveTo 86 = .ok (.if_icmp .gt 37, 3) := by decide +kernel
theorem dX0_giveTo_89 : decode cX0_giveTo 89 = .ok (.iload_n 2, 1) := by decide +kernel
theorem dX0_giveTo_90 : decode cX0_giveTo 90 = .ok (.ifCond .eq 33, 3) := by decide +kernel
theorem dX0_giveTo_93 : decode cX0_giveTo 93 = .ok (.aload_n 0, 1) := by decide +kernel
theorem dX0_giveTo_94 : decode cX0_giveTo 94 = .ok (.getfield 39, 3) := by decide +kernel
theorem dX0_giveTo_97 : decode cX0_giveTo 97 = .ok (.iload_n 2, 1) := by decide +kernel
theorem dX0_giveTo_98 : decode cX0_giveTo 98 = .ok (.iaload, 1) := by decide +kernel
theorem dX0_giveTo_99 : decode cX0_giveTo 99 = .ok (.istore 4, 2) := by decide +kernel
theorem dX0_giveTo_101 : decode cX0_giveTo 101 = .ok (.aload_n 0, 1) := by decide +kernel
theorem dX0_giveTo_102 : decode cX0_giveTo 102 = .ok (.getfield 36, 3) := by decide +kernel
theorem dX0_giveTo_105 : decode cX0_giveTo 105 = .ok (.iload_n 2, 1) := by decide +kernel
theorem dX0_giveTo_106 : decode cX0_giveTo 106 = .ok (.aload_n 0, 1) := by decide +kernel
theorem dX0_giveTo_107 : decode cX0_giveTo 107 = .ok (.getfield 36, 3) := by decide +kernel
theorem dX0_giveTo_110 : decode cX0_giveTo 110 = .ok (.iload 4, 2) := by decide +kernel
theorem dX0_giveTo_112 : decode cX0_giveTo 112 = .ok (.iaload, 1) := by decide +kernel
theorem dX0_giveTo_113 : decode cX0_giveTo 113 = .ok (.iastore, 1) := by decide +kernel
theorem dX0_giveTo_114 : decode cX0_giveTo 114 = .ok (.iload 4, 2) := by decide +kernel
theorem dX0_giveTo_116 : decode cX0_giveTo 116 = .ok (.istore_n 2, 1) := by decide +kernel
theorem dX0_giveTo_117 : decode cX0_giveTo 117 = .ok (.iinc 3 1, 3) := by decide +kernel
theorem dX0_giveTo_120 : decode cX0_giveTo 120 = .ok (.goto (-39), 3) := by decide +kernel
theorem dX0_giveTo_123 : decode cX0_giveTo 123 = .ok (.return_, 1) := by decide +kernel
abbrev rm_X0_giveTo : Room := { frames := 3, cells := 0, slots := 0, locals := 68 }
theorem hd_X0_giveTo : yX0_giveTo.cls ≠ "java/lang/invoke/MethodHandle" ∧ yX0_giveTo.cls ≠ "java/lang/invoke/VarHandle" ∧ (parseMethodDescriptor yX0_giveTo.desc).map (fun d => d.parameters.length) = some 1 := by decide +kernel
def bd_X0_giveTo_81 (Q : ((Nat → Int32) × (Nat → Int32) × (Nat → Int32) × (Nat → Int32) × (Nat → Int32) × (Nat → Int32)) → Prop) (B81 : (Nat → Int32) → Int32 → Int32 → Prop) (c_places : Int32) (c_edgeWorth : Nat → Int32) (c_placeWorth : Nat → Int32) (c_cameFrom : Nat → Int32) (c_slack : Nat → Int32) (c_seen : Nat → Int32) (c_givenTo : Nat → Int32) (x2 : Int32) (x3 : Int32) : Prop :=
((c_places < x3 → Q (c_edgeWorth, c_placeWorth, c_givenTo, c_cameFrom, c_slack, c_seen)) ∧
(¬ c_places < x3 → ((x2 = 0 → Q (c_edgeWorth, c_placeWorth, c_givenTo, c_cameFrom, c_slack, c_seen)) ∧
(¬ x2 = 0 → vp_in x2 63 ∧ (∀ y7 : Int32, y7 = (c_cameFrom x2.toNatClampNeg) →
vp_in y7 63 ∧ (∀ y8 : Int32, y8 = (c_givenTo y7.toNatClampNeg) →
vp_in x2 63 ∧ (∀ f9 : Nat → Int32, f9 = (upd c_givenTo x2.toNatClampNeg y8) →
∀ y10 : Int32, y10 = (x3 + 1) →
B81 f9 y7 y10)))))))
def lp_X0_giveTo_81 (Q : ((Nat → Int32) × (Nat → Int32) × (Nat → Int32) × (Nat → Int32) × (Nat → Int32) × (Nat → Int32)) → Prop) (c_places : Int32) (c_edgeWorth : Nat → Int32) (c_placeWorth : Nat → Int32) (c_cameFrom : Nat → Int32) (c_slack : Nat → Int32) (c_seen : Nat → Int32) (c_givenTo : Nat → Int32) (x2 : Int32) (x3 : Int32) : Prop :=
∃ I : Nat → (Nat → Int32) → Int32 → Int32 → Prop, (∃ n, I n c_givenTo x2 x3) ∧ ∀ n c_givenTo x2 x3, I n c_givenTo x2 x3 → bd_X0_giveTo_81 Q  (fun c_givenTo' x2' x3' => ∃ n', n' < n ∧ I n' c_givenTo' x2' x3') c_places c_edgeWorth c_placeWorth c_cameFrom c_slack c_seen c_givenTo x2 x3
def bk_X0_giveTo_79 (Q : ((Nat → Int32) × (Nat → Int32) × (Nat → Int32) × (Nat → Int32) × (Nat → Int32) × (Nat → Int32)) → Prop) (x2 : Int32) (c_places : Int32) (c_edgeWorth : Nat → Int32) (c_placeWorth : Nat → Int32) (c_givenTo : Nat → Int32) (c_cameFrom : Nat → Int32) (c_slack : Nat → Int32) (c_seen : Nat → Int32) : Prop :=
lp_X0_giveTo_81 Q c_places c_edgeWorth c_placeWorth c_cameFrom c_slack c_seen c_givenTo x2 0
def bd_X0_giveTo_28 (Q : ((Nat → Int32) × (Nat → Int32) × (Nat → Int32) × (Nat → Int32) × (Nat → Int32) × (Nat → Int32)) → Prop) (B28 : (Nat → Int32) → (Nat → Int32) → (Nat → Int32) → (Nat → Int32) → (Nat → Int32) → Int32 → Int32 → Prop) (c_places : Int32) (c_toX : Nat → Int32) (c_toY : Nat → Int32) (c_fromX : Nat → Int32) (c_fromY : Nat → Int32) (c_givenTo : Nat → Int32) (c_edgeWorth : Nat → Int32) (c_placeWorth : Nat → Int32) (c_cameFrom : Nat → Int32) (c_slack : Nat → Int32) (c_seen : Nat → Int32) (x2 : Int32) (x3 : Int32) : Prop :=
((c_places < x3 → bk_X0_giveTo_79 Q x2 c_places c_edgeWorth c_placeWorth c_givenTo c_cameFrom c_slack c_seen) ∧
(¬ c_places < x3 → vp_in x2 63 ∧ (((c_givenTo x2.toNatClampNeg) = 0 → bk_X0_giveTo_79 Q x2 c_places c_edgeWorth c_placeWorth c_givenTo c_cameFrom c_slack c_seen) ∧
(¬ (c_givenTo x2.toNatClampNeg) = 0 → vp_in x2 63 ∧ (∀ f12 : Nat → Int32, f12 = (upd c_seen x2.toNatClampNeg 1) →
wp_X0_nearestBehind x2 c_places c_toX c_toY c_fromX c_fromY c_edgeWorth c_placeWorth c_givenTo c_cameFrom c_slack f12 (fun (r13 : Int32) (u14 : (Nat → Int32) × (Nat → Int32)) => vp_in r13 63 ∧ wp_X0_shiftBy (u14.2 r13.toNatClampNeg) c_places c_edgeWorth c_placeWorth c_givenTo u14.2 f12 (fun (u15 : (Nat → Int32) × (Nat → Int32) × (Nat → Int32)) => ∀ y16 : Int32, y16 = (x3 + 1) →
B28 u15.1 u15.2.1 u14.1 u15.2.2 f12 r13 y16)))))))
def lp_X0_giveTo_28 (Q : ((Nat → Int32) × (Nat → Int32) × (Nat → Int32) × (Nat → Int32) × (Nat → Int32) × (Nat → Int32)) → Prop) (c_places : Int32) (c_toX : Nat → Int32) (c_toY : Nat → Int32) (c_fromX : Nat → Int32) (c_fromY : Nat → Int32) (c_givenTo : Nat → Int32) (c_edgeWorth : Nat → Int32) (c_placeWorth : Nat → Int32) (c_cameFrom : Nat → Int32) (c_slack : Nat → Int32) (c_seen : Nat → Int32) (x2 : Int32) (x3 : Int32) : Prop :=
∃ I : Nat → (Nat → Int32) → (Nat → Int32) → (Nat → Int32) → (Nat → Int32) → (Nat → Int32) → Int32 → Int32 → Prop, (∃ n, I n c_edgeWorth c_placeWorth c_cameFrom c_slack c_seen x2 x3) ∧ ∀ n c_edgeWorth c_placeWorth c_cameFrom c_slack c_seen x2 x3, I n c_edgeWorth c_placeWorth c_cameFrom c_slack c_seen x2 x3 → bd_X0_giveTo_28 Q  (fun c_edgeWorth' c_placeWorth' c_cameFrom' c_slack' c_seen' x2' x3' => ∃ n', n' < n ∧ I n' c_edgeWorth' c_placeWorth' c_cameFrom' c_slack' c_seen' x2' x3') c_places c_toX c_toY c_fromX c_fromY c_givenTo c_edgeWorth c_placeWorth c_cameFrom c_slack c_seen x2 x3
def wp_X0_giveTo (p1 : Int32) (c_places : Int32) (c_toX : Nat → Int32) (c_toY : Nat → Int32) (c_fromX : Nat → Int32) (c_fromY : Nat → Int32) (c_edgeWorth : Nat → Int32) (c_placeWorth : Nat → Int32) (c_givenTo : Nat → Int32) (c_cameFrom : Nat → Int32) (c_slack : Nat → Int32) (c_seen : Nat → Int32) (Q : ((Nat → Int32) × (Nat → Int32) × (Nat → Int32) × (Nat → Int32) × (Nat → Int32) × (Nat → Int32)) → Prop) : Prop :=
wp_J7_fill_53178 63 1048576 c_slack (fun (u1 : (Nat → Int32)) => wp_J7_fill_53178 63 0 c_seen (fun (u2 : (Nat → Int32)) => vp_in (0 : Int32) 63 ∧ (∀ f3 : Nat → Int32, f3 = (upd c_givenTo (0 : Int32).toNatClampNeg p1) →
lp_X0_giveTo_28 Q c_places c_toX c_toY c_fromX c_fromY f3 c_edgeWorth c_placeWorth c_cameFrom u1 u2 0 0)))
set_option maxHeartbeats 4000000 in
set_option maxRecDepth 100000 in
theorem B_X0_giveTo_81 {x : CX} {D : DG} {cyI cyJ cyZ : ClassId} {a_c a_c_spotX a_c_spotY a_c_toX a_c_toY a_c_fromX a_c_fromY a_c_edgeWorth a_c_placeWorth a_c_givenTo a_c_cameFrom a_c_slack a_c_seen : Nat} {c_edges : Int32} {c_places : Int32} {c_spotX : Nat → Int32} {c_spotY : Nat → Int32} {c_toX : Nat → Int32} {c_toY : Nat → Int32} {c_fromX : Nat → Int32} {c_fromY : Nat → Int32} {c_edgeWorth : Nat → Int32} {c_placeWorth : Nat → Int32} {c_givenTo : Nat → Int32} {c_cameFrom : Nat → Int32} {c_slack : Nat → Int32} {c_seen : Nat → Int32} {x2 : Int32} {x3 : Int32} {Q : ((Nat → Int32) × (Nat → Int32) × (Nat → Int32) × (Nat → Int32) × (Nat → Int32) × (Nat → Int32)) → Prop} {B81 : (Nat → Int32) → Int32 → Int32 → Prop} (cx : Cx x cX0_giveTo 5 RX0 rm_X0_giveTo D [(cyI, .int), (cyJ, .long), (cyZ, .boolean)]) (hR : ∀ (u : (Nat → Int32) × (Nat → Int32) × (Nat → Int32) × (Nat → Int32) × (Nat → Int32) × (Nat → Int32)) (pc : Nat) (lv : List (Nat × Value)), decode cX0_giveTo pc = .ok (.return_, 1) → Q u → J x 0 0 5 (W_Car cyI cyJ cyZ a_c a_c_spotX a_c_spotY a_c_toX a_c_toY a_c_fromX a_c_fromY a_c_edgeWorth a_c_placeWorth a_c_givenTo a_c_cameFrom a_c_slack a_c_seen c_edges c_places c_spotX c_spotY c_toX c_toY c_fromX c_fromY u.1 u.2.1 u.2.2.1 u.2.2.2.1 u.2.2.2.2.1 u.2.2.2.2.2) lv pc []) (hB81 : ∀ (c_givenTo : Nat → Int32) (x2 : Int32) (x3 : Int32), B81 c_givenTo x2 x3 → J x 0 0 5 (W_Car cyI cyJ cyZ a_c a_c_spotX a_c_spotY a_c_toX a_c_toY a_c_fromX a_c_fromY a_c_edgeWorth a_c_placeWorth a_c_givenTo a_c_cameFrom a_c_slack a_c_seen c_edges c_places c_spotX c_spotY c_toX c_toY c_fromX c_fromY c_edgeWorth c_placeWorth c_givenTo c_cameFrom c_slack c_seen) [(0, .ref a_c), (2, .int x2), (3, .int x3)] 81 []) (h : bd_X0_giveTo_81 Q B81 c_places c_edgeWorth c_placeWorth c_cameFrom c_slack c_seen c_givenTo x2 x3) :
    J x 0 0 5 (W_Car cyI cyJ cyZ a_c a_c_spotX a_c_spotY a_c_toX a_c_toY a_c_fromX a_c_fromY a_c_edgeWorth a_c_placeWorth a_c_givenTo a_c_cameFrom a_c_slack a_c_seen c_edges c_places c_spotX c_spotY c_toX c_toY c_fromX c_fromY c_edgeWorth c_placeWorth c_givenTo c_cameFrom c_slack c_seen) [(0, .ref a_c), (2, .int x2), (3, .int x3)] 81 [] := by
  unfold bd_X0_giveTo_81 at h
  refine j_iload_n cx 2 rfl rfl dX0_giveTo_81 (pn := 82) rfl ?_
  refine j_aload_n cx 0 rfl rfl dX0_giveTo_82 (pn := 83) rfl ?_
  refine j_get cx inGX0 0 rfl rfl 13 (by decide) q_fl_X0_64 rfl rfl dX0_giveTo_83 (pn := 86) rfl ?_
  refine j_icmp_gt cx 123 dX0_giveTo_86 (pn := 89) rfl rfl (fun c5 => ?_) (fun c5 => ?_)
  · have h := h.1 c5
    exact hR (c_edgeWorth, c_placeWorth, c_givenTo, c_cameFrom, c_slack, c_seen) 123 _ dX0_giveTo_123 h
  · have h := h.2 c5
    refine j_iload_n cx 1 rfl rfl dX0_giveTo_89 (pn := 90) rfl ?_
    refine j_if_eq cx 123 dX0_giveTo_90 (pn := 93) rfl rfl (fun c6 => ?_) (fun c6 => ?_)
    · have h := h.1 c6
      exact hR (c_edgeWorth, c_placeWorth, c_givenTo, c_cameFrom, c_slack, c_seen) 123 _ dX0_giveTo_123 h
    · have h := h.2 c6
      refine j_aload_n cx 0 rfl rfl dX0_giveTo_93 (pn := 94) rfl ?_
      refine j_get cx inGX0 0 rfl rfl 9 (by decide) q_fl_X0_39 rfl rfl dX0_giveTo_94 (pn := 97) rfl ?_
      refine j_iload_n cx 1 rfl rfl dX0_giveTo_97 (pn := 98) rfl ?_
      refine j_iald cx 10 0 rfl rfl h.1 dX0_giveTo_98 (pn := 99) rfl ?_
      have h := h.2
      refine j_topi (fun y7 ey7 => ?_)
      have h := h y7 ey7
      refine j_istore cx [(4, .int y7), (0, .ref a_c), (2, .int x2), (3, .int x3)] (by decide) rfl dX0_giveTo_99 (pn := 101) rfl ?_
      refine j_aload_n cx 1 rfl rfl dX0_giveTo_101 (pn := 102) rfl ?_
      refine j_get cx inGX0 0 rfl rfl 8 (by decide) q_fl_X0_36 rfl rfl dX0_giveTo_102 (pn := 105) rfl ?_
      refine j_iload_n cx 2 rfl rfl dX0_giveTo_105 (pn := 106) rfl ?_
      refine j_aload_n cx 1 rfl rfl dX0_giveTo_106 (pn := 107) rfl ?_
      refine j_get cx inGX0 0 rfl rfl 8 (by decide) q_fl_X0_36 rfl rfl dX0_giveTo_107 (pn := 110) rfl ?_
      refine j_iload cx 0 rfl dX0_giveTo_110 (pn := 112) rfl ?_
      refine j_iald cx 9 0 rfl rfl h.1 dX0_giveTo_112 (pn := 113) rfl ?_
      have h := h.2
      refine j_topi (fun y8 ey8 => ?_)
      have h := h y8 ey8
      have hin := h.1
      obtain ⟨f9, ef9⟩ : ∃ z, z = upd c_givenTo x2.toNatClampNeg y8 := ⟨_, rfl⟩
      have h := h.2 f9 ef9
      refine j_iast cx 9 0 rfl rfl hin (W_Car cyI cyJ cyZ a_c a_c_spotX a_c_spotY a_c_toX a_c_toY a_c_fromX a_c_fromY a_c_edgeWorth a_c_placeWorth a_c_givenTo a_c_cameFrom a_c_slack a_c_seen c_edges c_places c_spotX c_spotY c_toX c_toY c_fromX c_fromY c_edgeWorth c_placeWorth f9 c_cameFrom c_slack c_seen) (by subst ef9; rfl) dX0_giveTo_113 (pn := 114) rfl ?_
      refine j_iload cx 0 rfl dX0_giveTo_114 (pn := 116) rfl ?_
      refine j_istore_n cx rfl [(2, .int y7), (4, .int y7), (0, .ref a_c), (3, .int x3)] (by decide) rfl dX0_giveTo_116 (pn := 117) rfl ?_
      obtain ⟨y10, ey10⟩ : ∃ z : Int32, z = x3 + 1 := ⟨_, rfl⟩
      have h := h y10 ey10
      refine j_iinc cx 3 rfl (cst := 1) (by decide) ey10 [(3, .int y10), (2, .int y7), (4, .int y7), (0, .ref a_c)] (by decide) rfl dX0_giveTo_117 (pn := 120) rfl ?_
      refine j_goto cx 81 dX0_giveTo_120 rfl ?_
      refine j_sub [3, 1, 0] [(0, .ref a_c), (2, .int y7), (3, .int y10)] rfl ?_
      exact hB81 _ _ _ h
set_option maxHeartbeats 4000000 in
set_option maxRecDepth 100000 in
theorem J_X0_giveTo_81 {x : CX} {D : DG} {cyI cyJ cyZ : ClassId} {a_c a_c_spotX a_c_spotY a_c_toX a_c_toY a_c_fromX a_c_fromY a_c_edgeWorth a_c_placeWorth a_c_givenTo a_c_cameFrom a_c_slack a_c_seen : Nat} {c_edges : Int32} {c_places : Int32} {c_spotX : Nat → Int32} {c_spotY : Nat → Int32} {c_toX : Nat → Int32} {c_toY : Nat → Int32} {c_fromX : Nat → Int32} {c_fromY : Nat → Int32} {c_edgeWorth : Nat → Int32} {c_placeWorth : Nat → Int32} {c_givenTo : Nat → Int32} {c_cameFrom : Nat → Int32} {c_slack : Nat → Int32} {c_seen : Nat → Int32} {x2 : Int32} {x3 : Int32} {Q : ((Nat → Int32) × (Nat → Int32) × (Nat → Int32) × (Nat → Int32) × (Nat → Int32) × (Nat → Int32)) → Prop} (cx : Cx x cX0_giveTo 5 RX0 rm_X0_giveTo D [(cyI, .int), (cyJ, .long), (cyZ, .boolean)]) (hR : ∀ (u : (Nat → Int32) × (Nat → Int32) × (Nat → Int32) × (Nat → Int32) × (Nat → Int32) × (Nat → Int32)) (pc : Nat) (lv : List (Nat × Value)), decode cX0_giveTo pc = .ok (.return_, 1) → Q u → J x 0 0 5 (W_Car cyI cyJ cyZ a_c a_c_spotX a_c_spotY a_c_toX a_c_toY a_c_fromX a_c_fromY a_c_edgeWorth a_c_placeWorth a_c_givenTo a_c_cameFrom a_c_slack a_c_seen c_edges c_places c_spotX c_spotY c_toX c_toY c_fromX c_fromY u.1 u.2.1 u.2.2.1 u.2.2.2.1 u.2.2.2.2.1 u.2.2.2.2.2) lv pc []) (h : lp_X0_giveTo_81 Q  c_places c_edgeWorth c_placeWorth c_cameFrom c_slack c_seen c_givenTo x2 x3) :
    J x 0 0 5 (W_Car cyI cyJ cyZ a_c a_c_spotX a_c_spotY a_c_toX a_c_toY a_c_fromX a_c_fromY a_c_edgeWorth a_c_placeWorth a_c_givenTo a_c_cameFrom a_c_slack a_c_seen c_edges c_places c_spotX c_spotY c_toX c_toY c_fromX c_fromY c_edgeWorth c_placeWorth c_givenTo c_cameFrom c_slack c_seen) [(0, .ref a_c), (2, .int x2), (3, .int x3)] 81 [] := by
  obtain ⟨I, ⟨n, h0⟩, hb⟩ := h
  revert c_givenTo x2 x3
  induction n using Nat.strongRecOn with
  | _ n ih =>
    intro c_givenTo x2 x3 h0
    exact B_X0_giveTo_81 cx hR (fun _ _ _ hz => by obtain ⟨n2, hlt, hI⟩ := hz; exact ih n2 hlt hI) (hb n c_givenTo x2 x3 h0)
set_option maxHeartbeats 4000000 in
set_option maxRecDepth 100000 in
theorem J_X0_giveTo_79 {x : CX} {D : DG} {cyI cyJ cyZ : ClassId} {a_c a_c_spotX a_c_spotY a_c_toX a_c_toY a_c_fromX a_c_fromY a_c_edgeWorth a_c_placeWorth a_c_givenTo a_c_cameFrom a_c_slack a_c_seen : Nat} {c_edges : Int32} {c_places : Int32} {c_spotX : Nat → Int32} {c_spotY : Nat → Int32} {c_toX : Nat → Int32} {c_toY : Nat → Int32} {c_fromX : Nat → Int32} {c_fromY : Nat → Int32} {c_edgeWorth : Nat → Int32} {c_placeWorth : Nat → Int32} {c_givenTo : Nat → Int32} {c_cameFrom : Nat → Int32} {c_slack : Nat → Int32} {c_seen : Nat → Int32} {x2 : Int32} {Q : ((Nat → Int32) × (Nat → Int32) × (Nat → Int32) × (Nat → Int32) × (Nat → Int32) × (Nat → Int32)) → Prop} (cx : Cx x cX0_giveTo 5 RX0 rm_X0_giveTo D [(cyI, .int), (cyJ, .long), (cyZ, .boolean)]) (hR : ∀ (u : (Nat → Int32) × (Nat → Int32) × (Nat → Int32) × (Nat → Int32) × (Nat → Int32) × (Nat → Int32)) (pc : Nat) (lv : List (Nat × Value)), decode cX0_giveTo pc = .ok (.return_, 1) → Q u → J x 0 0 5 (W_Car cyI cyJ cyZ a_c a_c_spotX a_c_spotY a_c_toX a_c_toY a_c_fromX a_c_fromY a_c_edgeWorth a_c_placeWorth a_c_givenTo a_c_cameFrom a_c_slack a_c_seen c_edges c_places c_spotX c_spotY c_toX c_toY c_fromX c_fromY u.1 u.2.1 u.2.2.1 u.2.2.2.1 u.2.2.2.2.1 u.2.2.2.2.2) lv pc []) (h : bk_X0_giveTo_79 Q  x2 c_places c_edgeWorth c_placeWorth c_givenTo c_cameFrom c_slack c_seen) :
    J x 0 0 5 (W_Car cyI cyJ cyZ a_c a_c_spotX a_c_spotY a_c_toX a_c_toY a_c_fromX a_c_fromY a_c_edgeWorth a_c_placeWorth a_c_givenTo a_c_cameFrom a_c_slack a_c_seen c_edges c_places c_spotX c_spotY c_toX c_toY c_fromX c_fromY c_edgeWorth c_placeWorth c_givenTo c_cameFrom c_slack c_seen) [(0, .ref a_c), (2, .int x2)] 79 [] := by
  unfold bk_X0_giveTo_79 at h
  refine j_iconst cx (v := 0) (by decide) dX0_giveTo_79 (pn := 80) rfl ?_
  refine j_istore_n cx rfl [(3, .int 0), (0, .ref a_c), (2, .int x2)] (by decide) rfl dX0_giveTo_80 (pn := 81) rfl ?_
  refine j_sub [1, 2, 0] [(0, .ref a_c), (2, .int x2), (3, .int 0)] rfl ?_
  exact J_X0_giveTo_81 cx hR h
set_option maxHeartbeats 4000000 in
set_option maxRecDepth 100000 in
theorem B_X0_giveTo_28 {x : CX} {D : DG} {cyI cyJ cyZ : ClassId} {a_c a_c_spotX a_c_spotY a_c_toX a_c_toY a_c_fromX a_c_fromY a_c_edgeWorth a_c_placeWorth a_c_givenTo a_c_cameFrom a_c_slack a_c_seen : Nat} {c_edges : Int32} {c_places : Int32} {c_spotX : Nat → Int32} {c_spotY : Nat → Int32} {c_toX : Nat → Int32} {c_toY : Nat → Int32} {c_fromX : Nat → Int32} {c_fromY : Nat → Int32} {c_edgeWorth : Nat → Int32} {c_placeWorth : Nat → Int32} {c_givenTo : Nat → Int32} {c_cameFrom : Nat → Int32} {c_slack : Nat → Int32} {c_seen : Nat → Int32} {x2 : Int32} {x3 : Int32} {Q : ((Nat → Int32) × (Nat → Int32) × (Nat → Int32) × (Nat → Int32) × (Nat → Int32) × (Nat → Int32)) → Prop} {B28 : (Nat → Int32) → (Nat → Int32) → (Nat → Int32) → (Nat → Int32) → (Nat → Int32) → Int32 → Int32 → Prop} (cx : Cx x cX0_giveTo 5 RX0 rm_X0_giveTo D [(cyI, .int), (cyJ, .long), (cyZ, .boolean)]) (hR : ∀ (u : (Nat → Int32) × (Nat → Int32) × (Nat → Int32) × (Nat → Int32) × (Nat → Int32) × (Nat → Int32)) (pc : Nat) (lv : List (Nat × Value)), decode cX0_giveTo pc = .ok (.return_, 1) → Q u → J x 0 0 5 (W_Car cyI cyJ cyZ a_c a_c_spotX a_c_spotY a_c_toX a_c_toY a_c_fromX a_c_fromY a_c_edgeWorth a_c_placeWorth a_c_givenTo a_c_cameFrom a_c_slack a_c_seen c_edges c_places c_spotX c_spotY c_toX c_toY c_fromX c_fromY u.1 u.2.1 u.2.2.1 u.2.2.2.1 u.2.2.2.2.1 u.2.2.2.2.2) lv pc []) (hB28 : ∀ (c_edgeWorth : Nat → Int32) (c_placeWorth : Nat → Int32) (c_cameFrom : Nat → Int32) (c_slack : Nat → Int32) (c_seen : Nat → Int32) (x2 : Int32) (x3 : Int32), B28 c_edgeWorth c_placeWorth c_cameFrom c_slack c_seen x2 x3 → J x 0 0 5 (W_Car cyI cyJ cyZ a_c a_c_spotX a_c_spotY a_c_toX a_c_toY a_c_fromX a_c_fromY a_c_edgeWorth a_c_placeWorth a_c_givenTo a_c_cameFrom a_c_slack a_c_seen c_edges c_places c_spotX c_spotY c_toX c_toY c_fromX c_fromY c_edgeWorth c_placeWorth c_givenTo c_cameFrom c_slack c_seen) [(0, .ref a_c), (2, .int x2), (3, .int x3)] 28 []) (h : bd_X0_giveTo_28 Q B28 c_places c_toX c_toY c_fromX c_fromY c_givenTo c_edgeWorth c_placeWorth c_cameFrom c_slack c_seen x2 x3) :
    J x 0 0 5 (W_Car cyI cyJ cyZ a_c a_c_spotX a_c_spotY a_c_toX a_c_toY a_c_fromX a_c_fromY a_c_edgeWorth a_c_placeWorth a_c_givenTo a_c_cameFrom a_c_slack a_c_seen c_edges c_places c_spotX c_spotY c_toX c_toY c_fromX c_fromY c_edgeWorth c_placeWorth c_givenTo c_cameFrom c_slack c_seen) [(0, .ref a_c), (2, .int x2), (3, .int x3)] 28 [] := by
  unfold bd_X0_giveTo_28 at h
  refine j_iload_n cx 2 rfl rfl dX0_giveTo_28 (pn := 29) rfl ?_
  refine j_aload_n cx 0 rfl rfl dX0_giveTo_29 (pn := 30) rfl ?_
  refine j_get cx inGX0 0 rfl rfl 13 (by decide) q_fl_X0_64 rfl rfl dX0_giveTo_30 (pn := 33) rfl ?_
  refine j_icmp_gt cx 79 dX0_giveTo_33 (pn := 36) rfl rfl (fun c4 => ?_) (fun c4 => ?_)
  · have h := h.1 c4
    refine j_sub [0, 1] [(0, .ref a_c), (2, .int x2)] rfl ?_
    exact J_X0_giveTo_79 cx hR h
  · have h := h.2 c4
    refine j_aload_n cx 0 rfl rfl dX0_giveTo_36 (pn := 37) rfl ?_
    refine j_get cx inGX0 0 rfl rfl 8 (by decide) q_fl_X0_36 rfl rfl dX0_giveTo_37 (pn := 40) rfl ?_
    refine j_iload_n cx 1 rfl rfl dX0_giveTo_40 (pn := 41) rfl ?_
    refine j_iald cx 9 0 rfl rfl h.1 dX0_giveTo_41 (pn := 42) rfl ?_
    have h := h.2
    refine j_if_eq cx 79 dX0_giveTo_42 (pn := 45) rfl rfl (fun c11 => ?_) (fun c11 => ?_)
    · have h := h.1 c11
      refine j_sub [0, 1] [(0, .ref a_c), (2, .int x2)] rfl ?_
      exact J_X0_giveTo_79 cx hR h
    · have h := h.2 c11
      refine j_aload_n cx 0 rfl rfl dX0_giveTo_45 (pn := 46) rfl ?_
      refine j_get cx inGX0 0 rfl rfl 11 (by decide) q_fl_X0_45 rfl rfl dX0_giveTo_46 (pn := 49) rfl ?_
      refine j_iload_n cx 1 rfl rfl dX0_giveTo_49 (pn := 50) rfl ?_
      refine j_iconst cx (v := 1) (by decide) dX0_giveTo_50 (pn := 51) rfl ?_
      have hin := h.1
      obtain ⟨f12, ef12⟩ : ∃ z, z = upd c_seen x2.toNatClampNeg 1 := ⟨_, rfl⟩
      have h := h.2 f12 ef12
      refine j_iast cx 12 0 rfl rfl hin (W_Car cyI cyJ cyZ a_c a_c_spotX a_c_spotY a_c_toX a_c_toY a_c_fromX a_c_fromY a_c_edgeWorth a_c_placeWorth a_c_givenTo a_c_cameFrom a_c_slack a_c_seen c_edges c_places c_spotX c_spotY c_toX c_toY c_fromX c_fromY c_edgeWorth c_placeWorth c_givenTo c_cameFrom c_slack f12) (by subst ef12; rfl) dX0_giveTo_51 (pn := 52) rfl ?_
      refine j_aload_n cx 0 rfl rfl dX0_giveTo_52 (pn := 53) rfl ?_
      refine j_iload_n cx 1 rfl rfl dX0_giveTo_53 (pn := 54) rfl ?_
      refine j_callvI0 cx q_inst_X0_nearestBehind q_sel_X0_nearestBehind (b := a_c) (As := [.int x2]) (rest := []) (c_X0_nearestBehind h) ⟨q_code_X0_nearestBehind, q_ml_X0_103, q_init_X0, hd_X0_nearestBehind, ⟨Nat.le_of_ble_eq_true rfl, Nat.le_of_ble_eq_true rfl⟩, Nat.le_of_ble_eq_true rfl, Nat.le_of_ble_eq_true rfl⟩ (q0 := 0) rfl rfl rfl rfl (Nat.le_of_ble_eq_true rfl) dX0_giveTo_54 (pn := 57) rfl (fun r13 u14 h => ?_)
      show J x 0 0 5 (W_Car cyI cyJ cyZ a_c a_c_spotX a_c_spotY a_c_toX a_c_toY a_c_fromX a_c_fromY a_c_edgeWorth a_c_placeWorth a_c_givenTo a_c_cameFrom a_c_slack a_c_seen c_edges c_places c_spotX c_spotY c_toX c_toY c_fromX c_fromY c_edgeWorth c_placeWorth c_givenTo u14.1 u14.2 f12) [(0, .ref a_c), (2, .int x2), (3, .int x3)] 57 [.int r13]
      refine j_istore cx [(4, .int r13), (0, .ref a_c), (2, .int x2), (3, .int x3)] (by decide) rfl dX0_giveTo_57 (pn := 59) rfl ?_
      refine j_aload_n cx 1 rfl rfl dX0_giveTo_59 (pn := 60) rfl ?_
      refine j_aload_n cx 1 rfl rfl dX0_giveTo_60 (pn := 61) rfl ?_
      refine j_get cx inGX0 0 rfl rfl 10 (by decide) q_fl_X0_42 rfl rfl dX0_giveTo_61 (pn := 64) rfl ?_
      refine j_iload cx 0 rfl dX0_giveTo_64 (pn := 66) rfl ?_
      refine j_iald cx 11 0 rfl rfl h.1 dX0_giveTo_66 (pn := 67) rfl ?_
      have h := h.2
      refine j_callvV0 cx q_inst_X0_shiftBy q_sel_X0_shiftBy (b := a_c) (As := [.int (u14.2 r13.toNatClampNeg)]) (rest := []) (c_X0_shiftBy h) ⟨q_code_X0_shiftBy, q_ml_X0_106, q_init_X0, hd_X0_shiftBy, ⟨Nat.le_of_ble_eq_true rfl, Nat.le_of_ble_eq_true rfl⟩, Nat.le_of_ble_eq_true rfl, Nat.le_of_ble_eq_true rfl⟩ (q0 := 0) rfl rfl rfl rfl (Nat.le_of_ble_eq_true rfl) dX0_giveTo_67 (pn := 70) rfl (fun u15 h => ?_)
      show J x 0 0 5 (W_Car cyI cyJ cyZ a_c a_c_spotX a_c_spotY a_c_toX a_c_toY a_c_fromX a_c_fromY a_c_edgeWorth a_c_placeWorth a_c_givenTo a_c_cameFrom a_c_slack a_c_seen c_edges c_places c_spotX c_spotY c_toX c_toY c_fromX c_fromY u15.1 u15.2.1 c_givenTo u14.1 u15.2.2 f12) [(4, .int r13), (0, .ref a_c), (2, .int x2), (3, .int x3)] 70 []
      refine j_iload cx 0 rfl dX0_giveTo_70 (pn := 72) rfl ?_
      refine j_istore_n cx rfl [(2, .int r13), (4, .int r13), (0, .ref a_c), (3, .int x3)] (by decide) rfl dX0_giveTo_72 (pn := 73) rfl ?_
      obtain ⟨y16, ey16⟩ : ∃ z : Int32, z = x3 + 1 := ⟨_, rfl⟩
      have h := h y16 ey16
      refine j_iinc cx 3 rfl (cst := 1) (by decide) ey16 [(3, .int y16), (2, .int r13), (4, .int r13), (0, .ref a_c)] (by decide) rfl dX0_giveTo_73 (pn := 76) rfl ?_
      refine j_goto cx 28 dX0_giveTo_76 rfl ?_
      refine j_sub [3, 1, 0] [(0, .ref a_c), (2, .int r13), (3, .int y16)] rfl ?_
      exact hB28 _ _ _ _ _ _ _ h
set_option maxHeartbeats 4000000 in
set_option maxRecDepth 100000 in
theorem J_X0_giveTo_28 {x : CX} {D : DG} {cyI cyJ cyZ : ClassId} {a_c a_c_spotX a_c_spotY a_c_toX a_c_toY a_c_fromX a_c_fromY a_c_edgeWorth a_c_placeWorth a_c_givenTo a_c_cameFrom a_c_slack a_c_seen : Nat} {c_edges : Int32} {c_places : Int32} {c_spotX : Nat → Int32} {c_spotY : Nat → Int32} {c_toX : Nat → Int32} {c_toY : Nat → Int32} {c_fromX : Nat → Int32} {c_fromY : Nat → Int32} {c_edgeWorth : Nat → Int32} {c_placeWorth : Nat → Int32} {c_givenTo : Nat → Int32} {c_cameFrom : Nat → Int32} {c_slack : Nat → Int32} {c_seen : Nat → Int32} {x2 : Int32} {x3 : Int32} {Q : ((Nat → Int32) × (Nat → Int32) × (Nat → Int32) × (Nat → Int32) × (Nat → Int32) × (Nat → Int32)) → Prop} (cx : Cx x cX0_giveTo 5 RX0 rm_X0_giveTo D [(cyI, .int), (cyJ, .long), (cyZ, .boolean)]) (hR : ∀ (u : (Nat → Int32) × (Nat → Int32) × (Nat → Int32) × (Nat → Int32) × (Nat → Int32) × (Nat → Int32)) (pc : Nat) (lv : List (Nat × Value)), decode cX0_giveTo pc = .ok (.return_, 1) → Q u → J x 0 0 5 (W_Car cyI cyJ cyZ a_c a_c_spotX a_c_spotY a_c_toX a_c_toY a_c_fromX a_c_fromY a_c_edgeWorth a_c_placeWorth a_c_givenTo a_c_cameFrom a_c_slack a_c_seen c_edges c_places c_spotX c_spotY c_toX c_toY c_fromX c_fromY u.1 u.2.1 u.2.2.1 u.2.2.2.1 u.2.2.2.2.1 u.2.2.2.2.2) lv pc []) (h : lp_X0_giveTo_28 Q  c_places c_toX c_toY c_fromX c_fromY c_givenTo c_edgeWorth c_placeWorth c_cameFrom c_slack c_seen x2 x3) :
    J x 0 0 5 (W_Car cyI cyJ cyZ a_c a_c_spotX a_c_spotY a_c_toX a_c_toY a_c_fromX a_c_fromY a_c_edgeWorth a_c_placeWorth a_c_givenTo a_c_cameFrom a_c_slack a_c_seen c_edges c_places c_spotX c_spotY c_toX c_toY c_fromX c_fromY c_edgeWorth c_placeWorth c_givenTo c_cameFrom c_slack c_seen) [(0, .ref a_c), (2, .int x2), (3, .int x3)] 28 [] := by
  obtain ⟨I, ⟨n, h0⟩, hb⟩ := h
  revert c_edgeWorth c_placeWorth c_cameFrom c_slack c_seen x2 x3
  induction n using Nat.strongRecOn with
  | _ n ih =>
    intro c_edgeWorth c_placeWorth c_cameFrom c_slack c_seen x2 x3 h0
    exact B_X0_giveTo_28 cx hR (fun _ _ _ _ _ _ _ hz => by obtain ⟨n2, hlt, hI⟩ := hz; exact ih n2 hlt hI) (hb n c_edgeWorth c_placeWorth c_cameFrom c_slack c_seen x2 x3 h0)
set_option maxHeartbeats 4000000 in
set_option maxRecDepth 100000 in
theorem c_X0_giveTo {D : DG} {cyI cyJ cyZ : ClassId} {a_c a_c_spotX a_c_spotY a_c_toX a_c_toY a_c_fromX a_c_fromY a_c_edgeWorth a_c_placeWorth a_c_givenTo a_c_cameFrom a_c_slack a_c_seen : Nat} {c_edges : Int32} {c_places : Int32} {c_spotX : Nat → Int32} {c_spotY : Nat → Int32} {c_toX : Nat → Int32} {c_toY : Nat → Int32} {c_fromX : Nat → Int32} {c_fromY : Nat → Int32} {c_edgeWorth : Nat → Int32} {c_placeWorth : Nat → Int32} {c_givenTo : Nat → Int32} {c_cameFrom : Nat → Int32} {c_slack : Nat → Int32} {c_seen : Nat → Int32} {p1 : Int32} {Q : ((Nat → Int32) × (Nat → Int32) × (Nat → Int32) × (Nat → Int32) × (Nat → Int32) × (Nat → Int32)) → Prop} (h : wp_X0_giveTo p1 c_places c_toX c_toY c_fromX c_fromY c_edgeWorth c_placeWorth c_givenTo c_cameFrom c_slack c_seen Q) :
    MetV yX0_giveTo cX0_giveTo 5 (none) rm_X0_giveTo D [(cyI, .int), (cyJ, .long), (cyZ, .boolean)] [.ref a_c, .int p1] (W_Car cyI cyJ cyZ a_c a_c_spotX a_c_spotY a_c_toX a_c_toY a_c_fromX a_c_fromY a_c_edgeWorth a_c_placeWorth a_c_givenTo a_c_cameFrom a_c_slack a_c_seen c_edges c_places c_spotX c_spotY c_toX c_toY c_fromX c_fromY c_edgeWorth c_placeWorth c_givenTo c_cameFrom c_slack c_seen) (fun u : (Nat → Int32) × (Nat → Int32) × (Nat → Int32) × (Nat → Int32) × (Nat → Int32) × (Nat → Int32) => (W_Car cyI cyJ cyZ a_c a_c_spotX a_c_spotY a_c_toX a_c_toY a_c_fromX a_c_fromY a_c_edgeWorth a_c_placeWorth a_c_givenTo a_c_cameFrom a_c_slack a_c_seen c_edges c_places c_spotX c_spotY c_toX c_toY c_fromX c_fromY u.1 u.2.1 u.2.2.1 u.2.2.2.1 u.2.2.2.2.1 u.2.2.2.2.2)) (fun u => Q u) := by
  unfold wp_X0_giveTo at h
  refine metV_of (by decide) (Nat.le_of_ble_eq_true rfl) (fun x cx0 hR0 => ?_)
  have cx : Cx x cX0_giveTo 5 RX0 rm_X0_giveTo D [(cyI, .int), (cyJ, .long), (cyZ, .boolean)] := cx0
  have hR : ∀ (u : (Nat → Int32) × (Nat → Int32) × (Nat → Int32) × (Nat → Int32) × (Nat → Int32) × (Nat → Int32)) (pc : Nat) (lv : List (Nat × Value)), decode cX0_giveTo pc = .ok (.return_, 1) → Q u → J x 0 0 5 (W_Car cyI cyJ cyZ a_c a_c_spotX a_c_spotY a_c_toX a_c_toY a_c_fromX a_c_fromY a_c_edgeWorth a_c_placeWorth a_c_givenTo a_c_cameFrom a_c_slack a_c_seen c_edges c_places c_spotX c_spotY c_toX c_toY c_fromX c_fromY u.1 u.2.1 u.2.2.1 u.2.2.2.1 u.2.2.2.2.1 u.2.2.2.2.2) lv pc [] := (fun u pc lv d hq => hR0 u pc lv d hq)
  show J x 0 0 5 (W_Car cyI cyJ cyZ a_c a_c_spotX a_c_spotY a_c_toX a_c_toY a_c_fromX a_c_fromY a_c_edgeWorth a_c_placeWorth a_c_givenTo a_c_cameFrom a_c_slack a_c_seen c_edges c_places c_spotX c_spotY c_toX c_toY c_fromX c_fromY c_edgeWorth c_placeWorth c_givenTo c_cameFrom c_slack c_seen) [(0, .ref a_c), (1, .int p1)] 0 []
  refine j_aload_n cx 0 rfl rfl dX0_giveTo_0 (pn := 1) rfl ?_
  refine j_get cx inGX0 0 rfl rfl 10 (by decide) q_fl_X0_42 rfl rfl dX0_giveTo_1 (pn := 4) rfl ?_
  refine j_ldc cx q_c_X0_102 dX0_giveTo_4 (pn := 6) rfl ?_
  refine j_callsV cx q_stat_J7_fill_53178 (As := [.ref a_c_slack, .int 1048576]) (rest := []) (W_Arr cyI cyJ cyZ 63 a_c_slack c_slack) [(a_c, .inr (0, [.ref a_c_spotX, .ref a_c_spotY, .ref a_c_toX, .ref a_c_toY, .ref a_c_fromX, .ref a_c_fromY, .ref a_c_edgeWorth, .ref a_c_placeWorth, .ref a_c_givenTo, .ref a_c_cameFrom, .ref a_c_slack, .ref a_c_seen, .int c_edges, .int c_places])), (a_c_spotX, .inl (cyI, 31, .inl c_spotX)), (a_c_spotY, .inl (cyI, 31, .inl c_spotY)), (a_c_toX, .inl (cyI, 32, .inl c_toX)), (a_c_toY, .inl (cyI, 32, .inl c_toY)), (a_c_fromX, .inl (cyI, 63, .inl c_fromX)), (a_c_fromY, .inl (cyI, 63, .inl c_fromY)), (a_c_edgeWorth, .inl (cyI, 32, .inl c_edgeWorth)), (a_c_placeWorth, .inl (cyI, 63, .inl c_placeWorth)), (a_c_givenTo, .inl (cyI, 63, .inl c_givenTo)), (a_c_cameFrom, .inl (cyI, 63, .inl c_cameFrom)), (a_c_seen, .inl (cyI, 63, .inl c_seen))] (c_J7_fill_53178 h) ⟨q_code_J7_fill_53178, q_ml_X0_90, q_init_J7, hd_J7_fill_53178, ⟨Nat.le_of_ble_eq_true rfl, Nat.le_of_ble_eq_true rfl⟩, Nat.le_of_ble_eq_true rfl, Nat.le_of_ble_eq_true rfl⟩ rfl [11] [0, 1, 2, 3, 4, 5, 6, 7, 8, 9, 10, 12] [0, 1, 2, 3, 4, 5, 6, 7, 8, 9, 10, 12, 11] rfl rfl rfl rfl rfl (by decide) (fun u : (Nat → Int32) => (W_Car cyI cyJ cyZ a_c a_c_spotX a_c_spotY a_c_toX a_c_toY a_c_fromX a_c_fromY a_c_edgeWorth a_c_placeWorth a_c_givenTo a_c_cameFrom a_c_slack a_c_seen c_edges c_places c_spotX c_spotY c_toX c_toY c_fromX c_fromY c_edgeWorth c_placeWorth c_givenTo c_cameFrom u c_seen)) (fun _ => rfl) (fun _ => rfl) rfl rfl (Nat.le_of_ble_eq_true rfl) dX0_giveTo_6 (pn := 9) rfl (fun u1 h => ?_)
  show J x 0 0 5 (W_Car cyI cyJ cyZ a_c a_c_spotX a_c_spotY a_c_toX a_c_toY a_c_fromX a_c_fromY a_c_edgeWorth a_c_placeWorth a_c_givenTo a_c_cameFrom a_c_slack a_c_seen c_edges c_places c_spotX c_spotY c_toX c_toY c_fromX c_fromY c_edgeWorth c_placeWorth c_givenTo c_cameFrom u1 c_seen) [(0, .ref a_c), (1, .int p1)] 9 []
  refine j_aload_n cx 0 rfl rfl dX0_giveTo_9 (pn := 10) rfl ?_
  refine j_get cx inGX0 0 rfl rfl 11 (by decide) q_fl_X0_45 rfl rfl dX0_giveTo_10 (pn := 13) rfl ?_
  refine j_iconst cx (v := 0) (by decide) dX0_giveTo_13 (pn := 14) rfl ?_
  refine j_callsV cx q_stat_J7_fill_53178 (As := [.ref a_c_seen, .int 0]) (rest := []) (W_Arr cyI cyJ cyZ 63 a_c_seen c_seen) [(a_c, .inr (0, [.ref a_c_spotX, .ref a_c_spotY, .ref a_c_toX, .ref a_c_toY, .ref a_c_fromX, .ref a_c_fromY, .ref a_c_edgeWorth, .ref a_c_placeWorth, .ref a_c_givenTo, .ref a_c_cameFrom, .ref a_c_slack, .ref a_c_seen, .int c_edges, .int c_places])), (a_c_spotX, .inl (cyI, 31, .inl c_spotX)), (a_c_spotY, .inl (cyI, 31, .inl c_spotY)), (a_c_toX, .inl (cyI, 32, .inl c_toX)), (a_c_toY, .inl (cyI, 32, .inl c_toY)), (a_c_fromX, .inl (cyI, 63, .inl c_fromX)), (a_c_fromY, .inl (cyI, 63, .inl c_fromY)), (a_c_edgeWorth, .inl (cyI, 32, .inl c_edgeWorth)), (a_c_placeWorth, .inl (cyI, 63, .inl c_placeWorth)), (a_c_givenTo, .inl (cyI, 63, .inl c_givenTo)), (a_c_cameFrom, .inl (cyI, 63, .inl c_cameFrom)), (a_c_slack, .inl (cyI, 63, .inl u1))] (c_J7_fill_53178 h) ⟨q_code_J7_fill_53178, q_ml_X0_90, q_init_J7, hd_J7_fill_53178, ⟨Nat.le_of_ble_eq_true rfl, Nat.le_of_ble_eq_true rfl⟩, Nat.le_of_ble_eq_true rfl, Nat.le_of_ble_eq_true rfl⟩ rfl [12] [0, 1, 2, 3, 4, 5, 6, 7, 8, 9, 10, 11] [0, 1, 2, 3, 4, 5, 6, 7, 8, 9, 10, 11, 12] rfl rfl rfl rfl rfl (by decide) (fun u : (Nat → Int32) => (W_Car cyI cyJ cyZ a_c a_c_spotX a_c_spotY a_c_toX a_c_toY a_c_fromX a_c_fromY a_c_edgeWorth a_c_placeWorth a_c_givenTo a_c_cameFrom a_c_slack a_c_seen c_edges c_places c_spotX c_spotY c_toX c_toY c_fromX c_fromY c_edgeWorth c_placeWorth c_givenTo c_cameFrom u1 u)) (fun _ => rfl) (fun _ => rfl) rfl rfl (Nat.le_of_ble_eq_true rfl) dX0_giveTo_14 (pn := 17) rfl (fun u2 h => ?_)
  show J x 0 0 5 (W_Car cyI cyJ cyZ a_c a_c_spotX a_c_spotY a_c_toX a_c_toY a_c_fromX a_c_fromY a_c_edgeWorth a_c_placeWorth a_c_givenTo a_c_cameFrom a_c_slack a_c_seen c_edges c_places c_spotX c_spotY c_toX c_toY c_fromX c_fromY c_edgeWorth c_placeWorth c_givenTo c_cameFrom u1 u2) [(0, .ref a_c), (1, .int p1)] 17 []
  refine j_aload_n cx 0 rfl rfl dX0_giveTo_17 (pn := 18) rfl ?_
  refine j_get cx inGX0 0 rfl rfl 8 (by decide) q_fl_X0_36 rfl rfl dX0_giveTo_18 (pn := 21) rfl ?_
  refine j_iconst cx (v := 0) (by decide) dX0_giveTo_21 (pn := 22) rfl ?_
  refine j_iload_n cx 1 rfl rfl dX0_giveTo_22 (pn := 23) rfl ?_
  have hin := h.1
  obtain ⟨f3, ef3⟩ : ∃ z, z = upd c_givenTo (0 : Int32).toNatClampNeg p1 := ⟨_, rfl⟩
  have h := h.2 f3 ef3
  refine j_iast cx 9 0 rfl rfl hin (W_Car cyI cyJ cyZ a_c a_c_spotX a_c_spotY a_c_toX a_c_toY a_c_fromX a_c_fromY a_c_edgeWorth a_c_placeWorth a_c_givenTo a_c_cameFrom a_c_slack a_c_seen c_edges c_places c_spotX c_spotY c_toX c_toY c_fromX c_fromY c_edgeWorth c_placeWorth f3 c_cameFrom u1 u2) (by subst ef3; rfl) dX0_giveTo_23 (pn := 24) rfl ?_
  refine j_iconst cx (v := 0) (by decide) dX0_giveTo_24 (pn := 25) rfl ?_
  refine j_istore_n cx rfl [(2, .int 0), (0, .ref a_c), (1, .int p1)] (by decide) rfl dX0_giveTo_25 (pn := 26) rfl ?_
  refine j_iconst cx (v := 0) (by decide) dX0_giveTo_26 (pn := 27) rfl ?_
  refine j_istore_n cx rfl [(3, .int 0), (2, .int 0), (0, .ref a_c), (1, .int p1)] (by decide) rfl dX0_giveTo_27 (pn := 28) rfl ?_
  refine j_sub [2, 1, 0] [(0, .ref a_c), (2, .int 0), (3, .int 0)] rfl ?_
  exact J_X0_giveTo_28 cx hR h
theorem dX0_least_0 : decode cX0_least 0 = .ok (.aload_n 0, 1) := by decide +kernel
theorem dX0_least_1 : decode cX0_least 1 = .ok (.aload_n 1, 1) := by decide +kernel
theorem dX0_least_2 : decode cX0_least 2 = .ok (.invokevirtual 48, 3) := by decide +kernel
theorem dX0_least_5 : decode cX0_least 5 = .ok (.aload_n 0, 1) := by decide +kernel
theorem dX0_least_6 : decode cX0_least 6 = .ok (.iload_n 2, 1) := by decide +kernel
theorem dX0_least_7 : decode cX0_least 7 = .ok (.iload_n 3, 1) := by decide +kernel
theorem dX0_least_8 : decode cX0_least 8 = .ok (.iconst (-1), 1) := by decide +kernel
theorem dX0_least_9 : decode cX0_least 9 = .ok (.ixor, 1) := by decide +kernel
theorem dX0_least_10 : decode cX0_least 10 = .ok (.iand, 1) := by decide +kernel
theorem dX0_least_11 : decode cX0_least 11 = .ok (.iload_n 3, 1) := by decide +kernel
theorem dX0_least_12 : decode cX0_least 12 = .ok (.iload_n 2, 1) := by decide +kernel
theorem dX0_least_13 : decode cX0_least 13 = .ok (.iconst (-1), 1) := by decide +kernel
theorem dX0_least_14 : decode cX0_least 14 = .ok (.ixor, 1) := by decide +kernel
theorem dX0_least_15 : decode cX0_least 15 = .ok (.iand, 1) := by decide +kernel
theorem dX0_least_16 : decode cX0_least 16 = .ok (.invokevirtual 52, 3) := by decide +kernel
theorem dX0_least_19 : decode cX0_least 19 = .ok (.iconst 1, 1) := by decide +kernel
theorem dX0_least_20 : decode cX0_least 20 = .ok (.istore 4, 2) := by decide +kernel
theorem dX0_least_22 : decode cX0_least 22 = .ok (.iload 4, 2) := by decide +kernel
theorem dX0_least_24 : decode cX0_least 24 = .ok (.aload_n 0, 1) := by decide +kernel
theorem dX0_least_25 : decode cX0_least 25 = .ok (.getfield 56, 3) := by decide +kernel
theorem dX0_least_28 : decode cX0_least 28 = .ok (.if_icmp .gt 15, 3) := by decide +kernel
theorem dX0_least_31 : decode cX0_least 31 = .ok (.aload_n 0, 1) := by decide +kernel
theorem dX0_least_32 : decode cX0_least 32 = .ok (.iload 4, 2) := by decide +kernel
theorem dX0_least_34 : decode cX0_least 34 = .ok (.invokevirtual 60, 3) := by decide +kernel
theorem dX0_least_37 : decode cX0_least 37 = .ok (.iinc 4 1, 3) := by decide +kernel
theorem dX0_least_40 : decode cX0_least 40 = .ok (.goto (-18), 3) := by decide +kernel
theorem dX0_least_43 : decode cX0_least 43 = .ok (.iconst 0, 1) := by decide +kernel
theorem dX0_least_44 : decode cX0_least 44 = .ok (.istore 4, 2) := by decide +kernel
theorem dX0_least_46 : decode cX0_least 46 = .ok (.iconst 1, 1) := by decide +kernel
theorem dX0_least_47 : decode cX0_least 47 = .ok (.istore 5, 2) := by decide +kernel
theorem dX0_least_49 : decode cX0_least 49 = .ok (.iload 5, 2) := by decide +kernel
theorem dX0_least_51 : decode cX0_least 51 = .ok (.aload_n 0, 1) := by decide +kernel
theorem dX0_least_52 : decode cX0_least 52 = .ok (.getfield 64, 3) := by decide +kernel
theorem dX0_least_55 : decode cX0_least 55 = .ok (.if_icmp .gt 37, 3) := by decide +kernel
theorem dX0_least_58 : decode cX0_least 58 = .ok (.aload_n 0, 1) := by decide +kernel
theorem dX0_least_59 : decode cX0_least 59 = .ok (.getfield 36, 3) := by decide +kernel
theorem dX0_least_62 : decode cX0_least 62 = .ok (.iload 5, 2) := by decide +kernel
theorem dX0_least_64 : decode cX0_least 64 = .ok (.iaload, 1) := by decide +kernel
theorem dX0_least_65 : decode cX0_least 65 = .ok (.ifCond .eq 21, 3) := by decide +kernel
theorem dX0_least_68 : decode cX0_least 68 = .ok (.iload 4, 2) := by decide +kernel
theorem dX0_least_70 : decode cX0_least 70 = .ok (.aload_n 0, 1) := by decide +kernel
theorem dX0_least_71 : decode cX0_least 71 = .ok (.aload_n 0, 1) := by decide +kernel
theorem dX0_least_72 : decode cX0_least 72 = .ok (.getfield 36, 3) := by decide +kernel
theorem dX0_least_75 : decode cX0_least 75 = .ok (.iload 5, 2) := by decide +kernel
theorem dX0_least_77 : decode cX0_least 77 = .ok (.iaload, 1) := by decide +kernel
theorem dX0_least_78 : decode cX0_least 78 = .ok (.iload 5, 2) := by decide +kernel
theorem dX0_least_80 : decode cX0_least 80 = .ok (.invokevirtual 67, 3) := by decide +kernel
theorem dX0_least_83 : decode cX0_least 83 = .ok (.iadd, 1) := by decide +kernel
theorem dX0_least_84 : decode cX0_least 84 = .ok (.istore 4, 2) := by decide +kernel
theorem dX0_least_86 : decode cX0_least 86 = .ok (.iinc 5 1, 3) := by decide +kernel
theorem dX0_least_89 : decode cX0_least 89 = .ok (.goto (-40), 3) := by decide +kernel
theorem dX0_least_92 : decode cX0_least 92 = .ok (.iload 4, 2) := by decide +kernel
theorem dX0_least_94 : decode cX0_least 94 = .ok (.ireturn, 1) := by decide +kernel
abbrev rm_X0_least : Room := { frames := 4, cells := 0, slots := 0, locals := 92 }
theorem hd_X0_least : yX0_least.cls ≠ "java/lang/invoke/MethodHandle" ∧ yX0_least.cls ≠ "java/lang/invoke/VarHandle" ∧ (parseMethodDescriptor yX0_least.desc).map (fun d => d.parameters.length) = some 3 := by decide +kernel
def bk_X0_least_86 (Q : Int32 → (Int32 × Int32 × (Nat → Int32) × (Nat → Int32) × (Nat → Int32) × (Nat → Int32) × (Nat → Int32) × (Nat → Int32) × (Nat → Int32) × (Nat → Int32) × (Nat → Int32) × (Nat → Int32) × (Nat → Int32) × (Nat → Int32)) → Prop) (B49 : Int32 → Int32 → Prop) (x4 : Int32) (x5 : Int32) : Prop :=
∀ y6 : Int32, y6 = (x5 + 1) →
B49 x4 y6
def bd_X0_least_49 (Q : Int32 → (Int32 × Int32 × (Nat → Int32) × (Nat → Int32) × (Nat → Int32) × (Nat → Int32) × (Nat → Int32) × (Nat → Int32) × (Nat → Int32) × (Nat → Int32) × (Nat → Int32) × (Nat → Int32) × (Nat → Int32) × (Nat → Int32)) → Prop) (B49 : Int32 → Int32 → Prop) (c_edges : Int32) (c_places : Int32) (c_spotX : Nat → Int32) (c_spotY : Nat → Int32) (c_toX : Nat → Int32) (c_toY : Nat → Int32) (c_fromX : Nat → Int32) (c_fromY : Nat → Int32) (c_edgeWorth : Nat → Int32) (c_placeWorth : Nat → Int32) (c_givenTo : Nat → Int32) (c_cameFrom : Nat → Int32) (c_slack : Nat → Int32) (c_seen : Nat → Int32) (x4 : Int32) (x5 : Int32) : Prop :=
((c_places < x5 → Q x4 (c_edges, c_places, c_spotX, c_spotY, c_toX, c_toY, c_fromX, c_fromY, c_edgeWorth, c_placeWorth, c_givenTo, c_cameFrom, c_slack, c_seen)) ∧
(¬ c_places < x5 → vp_in x5 63 ∧ (((c_givenTo x5.toNatClampNeg) = 0 → bk_X0_least_86 Q B49 x4 x5) ∧
(¬ (c_givenTo x5.toNatClampNeg) = 0 → vp_in x5 63 ∧ wp_X0_way (c_givenTo x5.toNatClampNeg) x5 c_toX c_toY c_fromX c_fromY (fun (r7 : Int32) => ∀ y8 : Int32, y8 = (x4 + r7) →
bk_X0_least_86 Q B49 y8 x5)))))
def lp_X0_least_49 (Q : Int32 → (Int32 × Int32 × (Nat → Int32) × (Nat → Int32) × (Nat → Int32) × (Nat → Int32) × (Nat → Int32) × (Nat → Int32) × (Nat → Int32) × (Nat → Int32) × (Nat → Int32) × (Nat → Int32) × (Nat → Int32) × (Nat → Int32)) → Prop) (c_edges : Int32) (c_places : Int32) (c_spotX : Nat → Int32) (c_spotY : Nat → Int32) (c_toX : Nat → Int32) (c_toY : Nat → Int32) (c_fromX : Nat → Int32) (c_fromY : Nat → Int32) (c_edgeWorth : Nat → Int32) (c_placeWorth : Nat → Int32) (c_givenTo : Nat → Int32) (c_cameFrom : Nat → Int32) (c_slack : Nat → Int32) (c_seen : Nat → Int32) (x4 : Int32) (x5 : Int32) : Prop :=
∃ I : Nat → Int32 → Int32 → Prop, (∃ n, I n x4 x5) ∧ ∀ n x4 x5, I n x4 x5 → bd_X0_least_49 Q  (fun x4' x5' => ∃ n', n' < n ∧ I n' x4' x5') c_edges c_places c_spotX c_spotY c_toX c_toY c_fromX c_fromY c_edgeWorth c_placeWorth c_givenTo c_cameFrom c_slack c_seen x4 x5
def bd_X0_least_22 (Q : Int32 → (Int32 × Int32 × (Nat → Int32) × (Nat → Int32) × (Nat → Int32) × (Nat → Int32) × (Nat → Int32) × (Nat → Int32) × (Nat → Int32) × (Nat → Int32) × (Nat → Int32) × (Nat → Int32) × (Nat → Int32) × (Nat → Int32)) → Prop) (B22 : (Nat → Int32) → (Nat → Int32) → (Nat → Int32) → (Nat → Int32) → (Nat → Int32) → (Nat → Int32) → Int32 → Prop) (c_edges : Int32) (c_places : Int32) (c_spotX : Nat → Int32) (c_spotY : Nat → Int32) (c_toX : Nat → Int32) (c_toY : Nat → Int32) (c_fromX : Nat → Int32) (c_fromY : Nat → Int32) (c_edgeWorth : Nat → Int32) (c_placeWorth : Nat → Int32) (c_givenTo : Nat → Int32) (c_cameFrom : Nat → Int32) (c_slack : Nat → Int32) (c_seen : Nat → Int32) (x4 : Int32) : Prop :=
((c_edges < x4 → lp_X0_least_49 Q c_edges c_places c_spotX c_spotY c_toX c_toY c_fromX c_fromY c_edgeWorth c_placeWorth c_givenTo c_cameFrom c_slack c_seen 0 1) ∧
(¬ c_edges < x4 → wp_X0_giveTo x4 c_places c_toX c_toY c_fromX c_fromY c_edgeWorth c_placeWorth c_givenTo c_cameFrom c_slack c_seen (fun (u9 : (Nat → Int32) × (Nat → Int32) × (Nat → Int32) × (Nat → Int32) × (Nat → Int32) × (Nat → Int32)) => ∀ y10 : Int32, y10 = (x4 + 1) →
B22 u9.1 u9.2.1 u9.2.2.1 u9.2.2.2.1 u9.2.2.2.2.1 u9.2.2.2.2.2 y10)))
def lp_X0_least_22 (Q : Int32 → (Int32 × Int32 × (Nat → Int32) × (Nat → Int32) × (Nat → Int32) × (Nat → Int32) × (Nat → Int32) × (Nat → Int32) × (Nat → Int32) × (Nat → Int32) × (Nat → Int32) × (Nat → Int32) × (Nat → Int32) × (Nat → Int32)) → Prop) (c_edges : Int32) (c_places : Int32) (c_spotX : Nat → Int32) (c_spotY : Nat → Int32) (c_toX : Nat → Int32) (c_toY : Nat → Int32) (c_fromX : Nat → Int32) (c_fromY : Nat → Int32) (c_edgeWorth : Nat → Int32) (c_placeWorth : Nat → Int32) (c_givenTo : Nat → Int32) (c_cameFrom : Nat → Int32) (c_slack : Nat → Int32) (c_seen : Nat → Int32) (x4 : Int32) : Prop :=
∃ I : Nat → (Nat → Int32) → (Nat → Int32) → (Nat → Int32) → (Nat → Int32) → (Nat → Int32) → (Nat → Int32) → Int32 → Prop, (∃ n, I n c_edgeWorth c_placeWorth c_givenTo c_cameFrom c_slack c_seen x4) ∧ ∀ n c_edgeWorth c_placeWorth c_givenTo c_cameFrom c_slack c_seen x4, I n c_edgeWorth c_placeWorth c_givenTo c_cameFrom c_slack c_seen x4 → bd_X0_least_22 Q  (fun c_edgeWorth' c_placeWorth' c_givenTo' c_cameFrom' c_slack' c_seen' x4' => ∃ n', n' < n ∧ I n' c_edgeWorth' c_placeWorth' c_givenTo' c_cameFrom' c_slack' c_seen' x4') c_edges c_places c_spotX c_spotY c_toX c_toY c_fromX c_fromY c_edgeWorth c_placeWorth c_givenTo c_cameFrom c_slack c_seen x4
def wp_X0_least (p2 : Int32) (p3 : Int32) (c_spotX : Nat → Int32) (c_spotY : Nat → Int32) (c_toX : Nat → Int32) (c_toY : Nat → Int32) (c_fromX : Nat → Int32) (c_fromY : Nat → Int32) (c_edgeWorth : Nat → Int32) (c_placeWorth : Nat → Int32) (c_givenTo : Nat → Int32) (c_cameFrom : Nat → Int32) (c_slack : Nat → Int32) (c_seen : Nat → Int32) (g_columns : Int32) (g_rows : Int32) (Q : Int32 → (Int32 × Int32 × (Nat → Int32) × (Nat → Int32) × (Nat → Int32) × (Nat → Int32) × (Nat → Int32) × (Nat → Int32) × (Nat → Int32) × (Nat → Int32) × (Nat → Int32) × (Nat → Int32) × (Nat → Int32) × (Nat → Int32)) → Prop) : Prop :=
wp_X0_laySpots c_spotX c_spotY g_columns g_rows (fun (u1 : (Nat → Int32) × (Nat → Int32)) => wp_X0_lay (p2 &&& (p3 ^^^ (-1))) (p3 &&& (p2 ^^^ (-1))) u1.1 u1.2 c_toX c_toY c_fromX c_fromY c_edgeWorth c_placeWorth c_givenTo (fun (u2 : Int32 × Int32 × (Nat → Int32) × (Nat → Int32) × (Nat → Int32) × (Nat → Int32) × (Nat → Int32) × (Nat → Int32) × (Nat → Int32)) => lp_X0_least_22 Q u2.1 u2.2.1 u1.1 u1.2 u2.2.2.1 u2.2.2.2.1 u2.2.2.2.2.1 u2.2.2.2.2.2.1 u2.2.2.2.2.2.2.1 u2.2.2.2.2.2.2.2.1 u2.2.2.2.2.2.2.2.2 c_cameFrom c_slack c_seen 1))
set_option maxHeartbeats 4000000 in
set_option maxRecDepth 100000 in
theorem J_X0_least_86 {x : CX} {D : DG} {cyI cyJ cyZ : ClassId} {a_c a_c_spotX a_c_spotY a_c_toX a_c_toY a_c_fromX a_c_fromY a_c_edgeWorth a_c_placeWorth a_c_givenTo a_c_cameFrom a_c_slack a_c_seen a_g a_g_kinds a_g_wants : Nat} {c_edges : Int32} {c_places : Int32} {c_spotX : Nat → Int32} {c_spotY : Nat → Int32} {c_toX : Nat → Int32} {c_toY : Nat → Int32} {c_fromX : Nat → Int32} {c_fromY : Nat → Int32} {c_edgeWorth : Nat → Int32} {c_placeWorth : Nat → Int32} {c_givenTo : Nat → Int32} {c_cameFrom : Nat → Int32} {c_slack : Nat → Int32} {c_seen : Nat → Int32} {g_columns : Int32} {g_rows : Int32} {g_hedges : Int32} {g_hurdles : Int32} {g_wantCount : Int32} {g_rest : Int32} {g_frozen : Int32} {g_kinds : Nat → Int32} {g_wants : Nat → Int32} {x4 : Int32} {x5 : Int32} {Q : Int32 → (Int32 × Int32 × (Nat → Int32) × (Nat → Int32) × (Nat → Int32) × (Nat → Int32) × (Nat → Int32) × (Nat → Int32) × (Nat → Int32) × (Nat → Int32) × (Nat → Int32) × (Nat → Int32) × (Nat → Int32) × (Nat → Int32)) → Prop} {B49 : Int32 → Int32 → Prop} (cx : Cx x cX0_least 6 RX0 rm_X0_least D [(cyI, .int), (cyJ, .long), (cyZ, .boolean)]) (hR : ∀ (v : Int32) (u : Int32 × Int32 × (Nat → Int32) × (Nat → Int32) × (Nat → Int32) × (Nat → Int32) × (Nat → Int32) × (Nat → Int32) × (Nat → Int32) × (Nat → Int32) × (Nat → Int32) × (Nat → Int32) × (Nat → Int32) × (Nat → Int32)) (pc : Nat) (lv : List (Nat × Value)), decode cX0_least pc = .ok (.ireturn, 1) → Q v u → J x 0 0 6 (W_CarG cyI cyJ cyZ a_c a_c_spotX a_c_spotY a_c_toX a_c_toY a_c_fromX a_c_fromY a_c_edgeWorth a_c_placeWorth a_c_givenTo a_c_cameFrom a_c_slack a_c_seen a_g a_g_kinds a_g_wants u.1 u.2.1 u.2.2.1 u.2.2.2.1 u.2.2.2.2.1 u.2.2.2.2.2.1 u.2.2.2.2.2.2.1 u.2.2.2.2.2.2.2.1 u.2.2.2.2.2.2.2.2.1 u.2.2.2.2.2.2.2.2.2.1 u.2.2.2.2.2.2.2.2.2.2.1 u.2.2.2.2.2.2.2.2.2.2.2.1 u.2.2.2.2.2.2.2.2.2.2.2.2.1 u.2.2.2.2.2.2.2.2.2.2.2.2.2 g_columns g_rows g_hedges g_hurdles g_wantCount g_rest g_frozen g_kinds g_wants) lv pc [.int v]) (hB49 : ∀ (x4 : Int32) (x5 : Int32), B49 x4 x5 → J x 0 0 6 (W_CarG cyI cyJ cyZ a_c a_c_spotX a_c_spotY a_c_toX a_c_toY a_c_fromX a_c_fromY a_c_edgeWorth a_c_placeWorth a_c_givenTo a_c_cameFrom a_c_slack a_c_seen a_g a_g_kinds a_g_wants c_edges c_places c_spotX c_spotY c_toX c_toY c_fromX c_fromY c_edgeWorth c_placeWorth c_givenTo c_cameFrom c_slack c_seen g_columns g_rows g_hedges g_hurdles g_wantCount g_rest g_frozen g_kinds g_wants) [(0, .ref a_c), (4, .int x4), (5, .int x5)] 49 []) (h : bk_X0_least_86 Q B49 x4 x5) :
    J x 0 0 6 (W_CarG cyI cyJ cyZ a_c a_c_spotX a_c_spotY a_c_toX a_c_toY a_c_fromX a_c_fromY a_c_edgeWorth a_c_placeWorth a_c_givenTo a_c_cameFrom a_c_slack a_c_seen a_g a_g_kinds a_g_wants c_edges c_places c_spotX c_spotY c_toX c_toY c_fromX c_fromY c_edgeWorth c_placeWorth c_givenTo c_cameFrom c_slack c_seen g_columns g_rows g_hedges g_hurdles g_wantCount g_rest g_frozen g_kinds g_wants) [(0, .ref a_c), (4, .int x4), (5, .int x5)] 86 [] := by
  unfold bk_X0_least_86 at h
  obtain ⟨y6, ey6⟩ : ∃ z : Int32, z = x5 + 1 := ⟨_, rfl⟩
  have h := h y6 ey6
  refine j_iinc cx 2 rfl (cst := 1) (by decide) ey6 [(5, .int y6), (0, .ref a_c), (4, .int x4)] (by decide) rfl dX0_least_86 (pn := 89) rfl ?_
  refine j_goto cx 49 dX0_least_89 rfl ?_
  refine j_sub [1, 2, 0] [(0, .ref a_c), (4, .int x4), (5, .int y6)] rfl ?_
  exact hB49 _ _ h
set_option maxHeartbeats 4000000 in
set_option maxRecDepth 100000 in
theorem B_X0_least_49 {x : CX} {D : DG} {cyI cyJ cyZ : ClassId} {a_c a_c_spotX a_c_spotY a_c_toX a_c_toY a_c_fromX a_c_fromY a_c_edgeWorth a_c_placeWorth a_c_givenTo a_c_cameFrom a_c_slack a_c_seen a_g a_g_kinds a_g_wants : Nat} {c_edges : Int32} {c_places : Int32} {c_spotX : Nat → Int32} {c_spotY : Nat → Int32} {c_toX : Nat → Int32} {c_toY : Nat → Int32} {c_fromX : Nat → Int32} {c_fromY : Nat → Int32} {c_edgeWorth : Nat → Int32} {c_placeWorth : Nat → Int32} {c_givenTo : Nat → Int32} {c_cameFrom : Nat → Int32} {c_slack : Nat → Int32} {c_seen : Nat → Int32} {g_columns : Int32} {g_rows : Int32} {g_hedges : Int32} {g_hurdles : Int32} {g_wantCount : Int32} {g_rest : Int32} {g_frozen : Int32} {g_kinds : Nat → Int32} {g_wants : Nat → Int32} {x4 : Int32} {x5 : Int32} {Q : Int32 → (Int32 × Int32 × (Nat → Int32) × (Nat → Int32) × (Nat → Int32) × (Nat → Int32) × (Nat → Int32) × (Nat → Int32) × (Nat → Int32) × (Nat → Int32) × (Nat → Int32) × (Nat → Int32) × (Nat → Int32) × (Nat → Int32)) → Prop} {B49 : Int32 → Int32 → Prop} (cx : Cx x cX0_least 6 RX0 rm_X0_least D [(cyI, .int), (cyJ, .long), (cyZ, .boolean)]) (hR : ∀ (v : Int32) (u : Int32 × Int32 × (Nat → Int32) × (Nat → Int32) × (Nat → Int32) × (Nat → Int32) × (Nat → Int32) × (Nat → Int32) × (Nat → Int32) × (Nat → Int32) × (Nat → Int32) × (Nat → Int32) × (Nat → Int32) × (Nat → Int32)) (pc : Nat) (lv : List (Nat × Value)), decode cX0_least pc = .ok (.ireturn, 1) → Q v u → J x 0 0 6 (W_CarG cyI cyJ cyZ a_c a_c_spotX a_c_spotY a_c_toX a_c_toY a_c_fromX a_c_fromY a_c_edgeWorth a_c_placeWorth a_c_givenTo a_c_cameFrom a_c_slack a_c_seen a_g a_g_kinds a_g_wants u.1 u.2.1 u.2.2.1 u.2.2.2.1 u.2.2.2.2.1 u.2.2.2.2.2.1 u.2.2.2.2.2.2.1 u.2.2.2.2.2.2.2.1 u.2.2.2.2.2.2.2.2.1 u.2.2.2.2.2.2.2.2.2.1 u.2.2.2.2.2.2.2.2.2.2.1 u.2.2.2.2.2.2.2.2.2.2.2.1 u.2.2.2.2.2.2.2.2.2.2.2.2.1 u.2.2.2.2.2.2.2.2.2.2.2.2.2 g_columns g_rows g_hedges g_hurdles g_wantCount g_rest g_frozen g_kinds g_wants) lv pc [.int v]) (hB49 : ∀ (x4 : Int32) (x5 : Int32), B49 x4 x5 → J x 0 0 6 (W_CarG cyI cyJ cyZ a_c a_c_spotX a_c_spotY a_c_toX a_c_toY a_c_fromX a_c_fromY a_c_edgeWorth a_c_placeWorth a_c_givenTo a_c_cameFrom a_c_slack a_c_seen a_g a_g_kinds a_g_wants c_edges c_places c_spotX c_spotY c_toX c_toY c_fromX c_fromY c_edgeWorth c_placeWorth c_givenTo c_cameFrom c_slack c_seen g_columns g_rows g_hedges g_hurdles g_wantCount g_rest g_frozen g_kinds g_wants) [(0, .ref a_c), (4, .int x4), (5, .int x5)] 49 []) (h : bd_X0_least_49 Q B49 c_edges c_places c_spotX c_spotY c_toX c_toY c_fromX c_fromY c_edgeWorth c_placeWorth c_givenTo c_cameFrom c_slack c_seen x4 x5) :
    J x 0 0 6 (W_CarG cyI cyJ cyZ a_c a_c_spotX a_c_spotY a_c_toX a_c_toY a_c_fromX a_c_fromY a_c_edgeWorth a_c_placeWorth a_c_givenTo a_c_cameFrom a_c_slack a_c_seen a_g a_g_kinds a_g_wants c_edges c_places c_spotX c_spotY c_toX c_toY c_fromX c_fromY c_edgeWorth c_placeWorth c_givenTo c_cameFrom c_slack c_seen g_columns g_rows g_hedges g_hurdles g_wantCount g_rest g_frozen g_kinds g_wants) [(0, .ref a_c), (4, .int x4), (5, .int x5)] 49 [] := by
  unfold bd_X0_least_49 at h
  refine j_iload cx 2 rfl dX0_least_49 (pn := 51) rfl ?_
  refine j_aload_n cx 0 rfl rfl dX0_least_51 (pn := 52) rfl ?_
  refine j_get cx inGX0 0 rfl rfl 13 (by decide) q_fl_X0_64 rfl rfl dX0_least_52 (pn := 55) rfl ?_
  refine j_icmp_gt cx 92 dX0_least_55 (pn := 58) rfl rfl (fun c4 => ?_) (fun c4 => ?_)
  · have h := h.1 c4
    refine j_iload cx 1 rfl dX0_least_92 (pn := 94) rfl ?_
    exact hR x4 (c_edges, c_places, c_spotX, c_spotY, c_toX, c_toY, c_fromX, c_fromY, c_edgeWorth, c_placeWorth, c_givenTo, c_cameFrom, c_slack, c_seen) 94 _ dX0_least_94 h
  · have h := h.2 c4
    refine j_aload_n cx 0 rfl rfl dX0_least_58 (pn := 59) rfl ?_
    refine j_get cx inGX0 0 rfl rfl 8 (by decide) q_fl_X0_36 rfl rfl dX0_least_59 (pn := 62) rfl ?_
    refine j_iload cx 2 rfl dX0_least_62 (pn := 64) rfl ?_
    refine j_iald cx 9 0 rfl rfl h.1 dX0_least_64 (pn := 65) rfl ?_
    have h := h.2
    refine j_if_eq cx 86 dX0_least_65 (pn := 68) rfl rfl (fun c5 => ?_) (fun c5 => ?_)
    · have h := h.1 c5
      exact J_X0_least_86 cx hR hB49 h
    · have h := h.2 c5
      refine j_iload cx 1 rfl dX0_least_68 (pn := 70) rfl ?_
      refine j_aload_n cx 0 rfl rfl dX0_least_70 (pn := 71) rfl ?_
      refine j_aload_n cx 0 rfl rfl dX0_least_71 (pn := 72) rfl ?_
      refine j_get cx inGX0 0 rfl rfl 8 (by decide) q_fl_X0_36 rfl rfl dX0_least_72 (pn := 75) rfl ?_
      refine j_iload cx 2 rfl dX0_least_75 (pn := 77) rfl ?_
      refine j_iald cx 9 0 rfl rfl h.1 dX0_least_77 (pn := 78) rfl ?_
      have h := h.2
      refine j_iload cx 2 rfl dX0_least_78 (pn := 80) rfl ?_
      refine j_callvI cx q_inst_X0_way q_sel_X0_way (b := a_c) (As := [.int (c_givenTo x5.toNatClampNeg), .int x5]) (rest := [.int x4]) (W_Car cyI cyJ cyZ a_c a_c_spotX a_c_spotY a_c_toX a_c_toY a_c_fromX a_c_fromY a_c_edgeWorth a_c_placeWorth a_c_givenTo a_c_cameFrom a_c_slack a_c_seen c_edges c_places c_spotX c_spotY c_toX c_toY c_fromX c_fromY c_edgeWorth c_placeWorth c_givenTo c_cameFrom c_slack c_seen) [(a_g, .inr (4, [.ref a_g_kinds, .ref a_g_wants, .int g_columns, .int g_rows, .int g_hedges, .int g_hurdles, .int g_wantCount, .int g_rest, .int g_frozen])), (a_g_kinds, .inl (cyI, 10, .inl g_kinds)), (a_g_wants, .inl (cyI, 7, .inl g_wants))] (c_X0_way h) ⟨q_code_X0_way, q_ml_X0_67, q_init_X0, hd_X0_way, ⟨Nat.le_of_ble_eq_true rfl, Nat.le_of_ble_eq_true rfl⟩, Nat.le_of_ble_eq_true rfl, Nat.le_of_ble_eq_true rfl⟩ (q0 := 0) rfl rfl rfl [0, 1, 2, 3, 4, 5, 6, 7, 8, 9, 10, 11, 12] [13, 14, 15] [3, 4, 5, 6, 7, 8, 9, 10, 11, 12, 13, 14, 15, 0, 1, 2] rfl rfl rfl rfl rfl (by decide) (fun _ : Unit => (W_CarG cyI cyJ cyZ a_c a_c_spotX a_c_spotY a_c_toX a_c_toY a_c_fromX a_c_fromY a_c_edgeWorth a_c_placeWorth a_c_givenTo a_c_cameFrom a_c_slack a_c_seen a_g a_g_kinds a_g_wants c_edges c_places c_spotX c_spotY c_toX c_toY c_fromX c_fromY c_edgeWorth c_placeWorth c_givenTo c_cameFrom c_slack c_seen g_columns g_rows g_hedges g_hurdles g_wantCount g_rest g_frozen g_kinds g_wants)) (fun _ => rfl) (fun _ => rfl) rfl rfl (Nat.le_of_ble_eq_true rfl) dX0_least_80 (pn := 83) rfl (fun r7 _ h => ?_)
      show J x 0 0 6 (W_CarG cyI cyJ cyZ a_c a_c_spotX a_c_spotY a_c_toX a_c_toY a_c_fromX a_c_fromY a_c_edgeWorth a_c_placeWorth a_c_givenTo a_c_cameFrom a_c_slack a_c_seen a_g a_g_kinds a_g_wants c_edges c_places c_spotX c_spotY c_toX c_toY c_fromX c_fromY c_edgeWorth c_placeWorth c_givenTo c_cameFrom c_slack c_seen g_columns g_rows g_hedges g_hurdles g_wantCount g_rest g_frozen g_kinds g_wants) [(0, .ref a_c), (4, .int x4), (5, .int x5)] 83 [.int r7, .int x4]
      refine j_iadd cx dX0_least_83 (pn := 84) rfl ?_
      refine j_topi (fun y8 ey8 => ?_)
      have h := h y8 ey8
      refine j_istore cx [(4, .int y8), (0, .ref a_c), (5, .int x5)] (by decide) rfl dX0_least_84 (pn := 86) rfl ?_
      refine j_sub [1, 0, 2] [(0, .ref a_c), (4, .int y8), (5, .int x5)] rfl ?_
      exact J_X0_least_86 cx hR hB49 h
set_option maxHeartbeats 4000000 in
set_option maxRecDepth 100000 in
theorem J_X0_least_49 {x : CX} {D : DG} {cyI cyJ cyZ : ClassId} {a_c a_c_spotX a_c_spotY a_c_toX a_c_toY a_c_fromX a_c_fromY a_c_edgeWorth a_c_placeWorth a_c_givenTo a_c_cameFrom a_c_slack a_c_seen a_g a_g_kinds a_g_wants : Nat} {c_edges : Int32} {c_places : Int32} {c_spotX : Nat → Int32} {c_spotY : Nat → Int32} {c_toX : Nat → Int32} {c_toY : Nat → Int32} {c_fromX : Nat → Int32} {c_fromY : Nat → Int32} {c_edgeWorth : Nat → Int32} {c_placeWorth : Nat → Int32} {c_givenTo : Nat → Int32} {c_cameFrom : Nat → Int32} {c_slack : Nat → Int32} {c_seen : Nat → Int32} {g_columns : Int32} {g_rows : Int32} {g_hedges : Int32} {g_hurdles : Int32} {g_wantCount : Int32} {g_rest : Int32} {g_frozen : Int32} {g_kinds : Nat → Int32} {g_wants : Nat → Int32} {x4 : Int32} {x5 : Int32} {Q : Int32 → (Int32 × Int32 × (Nat → Int32) × (Nat → Int32) × (Nat → Int32) × (Nat → Int32) × (Nat → Int32) × (Nat → Int32) × (Nat → Int32) × (Nat → Int32) × (Nat → Int32) × (Nat → Int32) × (Nat → Int32) × (Nat → Int32)) → Prop} (cx : Cx x cX0_least 6 RX0 rm_X0_least D [(cyI, .int), (cyJ, .long), (cyZ, .boolean)]) (hR : ∀ (v : Int32) (u : Int32 × Int32 × (Nat → Int32) × (Nat → Int32) × (Nat → Int32) × (Nat → Int32) × (Nat → Int32) × (Nat → Int32) × (Nat → Int32) × (Nat → Int32) × (Nat → Int32) × (Nat → Int32) × (Nat → Int32) × (Nat → Int32)) (pc : Nat) (lv : List (Nat × Value)), decode cX0_least pc = .ok (.ireturn, 1) → Q v u → J x 0 0 6 (W_CarG cyI cyJ cyZ a_c a_c_spotX a_c_spotY a_c_toX a_c_toY a_c_fromX a_c_fromY a_c_edgeWorth a_c_placeWorth a_c_givenTo a_c_cameFrom a_c_slack a_c_seen a_g a_g_kinds a_g_wants u.1 u.2.1 u.2.2.1 u.2.2.2.1 u.2.2.2.2.1 u.2.2.2.2.2.1 u.2.2.2.2.2.2.1 u.2.2.2.2.2.2.2.1 u.2.2.2.2.2.2.2.2.1 u.2.2.2.2.2.2.2.2.2.1 u.2.2.2.2.2.2.2.2.2.2.1 u.2.2.2.2.2.2.2.2.2.2.2.1 u.2.2.2.2.2.2.2.2.2.2.2.2.1 u.2.2.2.2.2.2.2.2.2.2.2.2.2 g_columns g_rows g_hedges g_hurdles g_wantCount g_rest g_frozen g_kinds g_wants) lv pc [.int v]) (h : lp_X0_least_49 Q  c_edges c_places c_spotX c_spotY c_toX c_toY c_fromX c_fromY c_edgeWorth c_placeWorth c_givenTo c_cameFrom c_slack c_seen x4 x5) :
    J x 0 0 6 (W_CarG cyI cyJ cyZ a_c a_c_spotX a_c_spotY a_c_toX a_c_toY a_c_fromX a_c_fromY a_c_edgeWorth a_c_placeWorth a_c_givenTo a_c_cameFrom a_c_slack a_c_seen a_g a_g_kinds a_g_wants c_edges c_places c_spotX c_spotY c_toX c_toY c_fromX c_fromY c_edgeWorth c_placeWorth c_givenTo c_cameFrom c_slack c_seen g_columns g_rows g_hedges g_hurdles g_wantCount g_rest g_frozen g_kinds g_wants) [(0, .ref a_c), (4, .int x4), (5, .int x5)] 49 [] := by
  obtain ⟨I, ⟨n, h0⟩, hb⟩ := h
  revert x4 x5
  induction n using Nat.strongRecOn with
  | _ n ih =>
    intro x4 x5 h0
    exact B_X0_least_49 cx hR (fun _ _ hz => by obtain ⟨n2, hlt, hI⟩ := hz; exact ih n2 hlt hI) (hb n x4 x5 h0)
set_option maxHeartbeats 4000000 in
set_option maxRecDepth 100000 in
theorem B_X0_least_22 {x : CX} {D : DG} {cyI cyJ cyZ : ClassId} {a_c a_c_spotX a_c_spotY a_c_toX a_c_toY a_c_fromX a_c_fromY a_c_edgeWorth a_c_placeWorth a_c_givenTo a_c_cameFrom a_c_slack a_c_seen a_g a_g_kinds a_g_wants : Nat} {c_edges : Int32} {c_places : Int32} {c_spotX : Nat → Int32} {c_spotY : Nat → Int32} {c_toX : Nat → Int32} {c_toY : Nat → Int32} {c_fromX : Nat → Int32} {c_fromY : Nat → Int32} {c_edgeWorth : Nat → Int32} {c_placeWorth : Nat → Int32} {c_givenTo : Nat → Int32} {c_cameFrom : Nat → Int32} {c_slack : Nat → Int32} {c_seen : Nat → Int32} {g_columns : Int32} {g_rows : Int32} {g_hedges : Int32} {g_hurdles : Int32} {g_wantCount : Int32} {g_rest : Int32} {g_frozen : Int32} {g_kinds : Nat → Int32} {g_wants : Nat → Int32} {x4 : Int32} {Q : Int32 → (Int32 × Int32 × (Nat → Int32) × (Nat → Int32) × (Nat → Int32) × (Nat → Int32) × (Nat → Int32) × (Nat → Int32) × (Nat → Int32) × (Nat → Int32) × (Nat → Int32) × (Nat → Int32) × (Nat → Int32) × (Nat → Int32)) → Prop} {B22 : (Nat → Int32) → (Nat → Int32) → (Nat → Int32) → (Nat → Int32) → (Nat → Int32) → (Nat → Int32) → Int32 → Prop} (cx : Cx x cX0_least 6 RX0 rm_X0_least D [(cyI, .int), (cyJ, .long), (cyZ, .boolean)]) (hR : ∀ (v : Int32) (u : Int32 × Int32 × (Nat → Int32) × (Nat → Int32) × (Nat → Int32) × (Nat → Int32) × (Nat → Int32) × (Nat → Int32) × (Nat → Int32) × (Nat → Int32) × (Nat → Int32) × (Nat → Int32) × (Nat → Int32) × (Nat → Int32)) (pc : Nat) (lv : List (Nat × Value)), decode cX0_least pc = .ok (.ireturn, 1) → Q v u → J x 0 0 6 (W_CarG cyI cyJ cyZ a_c a_c_spotX a_c_spotY a_c_toX a_c_toY a_c_fromX a_c_fromY a_c_edgeWorth a_c_placeWorth a_c_givenTo a_c_cameFrom a_c_slack a_c_seen a_g a_g_kinds a_g_wants u.1 u.2.1 u.2.2.1 u.2.2.2.1 u.2.2.2.2.1 u.2.2.2.2.2.1 u.2.2.2.2.2.2.1 u.2.2.2.2.2.2.2.1 u.2.2.2.2.2.2.2.2.1 u.2.2.2.2.2.2.2.2.2.1 u.2.2.2.2.2.2.2.2.2.2.1 u.2.2.2.2.2.2.2.2.2.2.2.1 u.2.2.2.2.2.2.2.2.2.2.2.2.1 u.2.2.2.2.2.2.2.2.2.2.2.2.2 g_columns g_rows g_hedges g_hurdles g_wantCount g_rest g_frozen g_kinds g_wants) lv pc [.int v]) (hB22 : ∀ (c_edgeWorth : Nat → Int32) (c_placeWorth : Nat → Int32) (c_givenTo : Nat → Int32) (c_cameFrom : Nat → Int32) (c_slack : Nat → Int32) (c_seen : Nat → Int32) (x4 : Int32), B22 c_edgeWorth c_placeWorth c_givenTo c_cameFrom c_slack c_seen x4 → J x 0 0 6 (W_CarG cyI cyJ cyZ a_c a_c_spotX a_c_spotY a_c_toX a_c_toY a_c_fromX a_c_fromY a_c_edgeWorth a_c_placeWorth a_c_givenTo a_c_cameFrom a_c_slack a_c_seen a_g a_g_kinds a_g_wants c_edges c_places c_spotX c_spotY c_toX c_toY c_fromX c_fromY c_edgeWorth c_placeWorth c_givenTo c_cameFrom c_slack c_seen g_columns g_rows g_hedges g_hurdles g_wantCount g_rest g_frozen g_kinds g_wants) [(0, .ref a_c), (4, .int x4)] 22 []) (h : bd_X0_least_22 Q B22 c_edges c_places c_spotX c_spotY c_toX c_toY c_fromX c_fromY c_edgeWorth c_placeWorth c_givenTo c_cameFrom c_slack c_seen x4) :
    J x 0 0 6 (W_CarG cyI cyJ cyZ a_c a_c_spotX a_c_spotY a_c_toX a_c_toY a_c_fromX a_c_fromY a_c_edgeWorth a_c_placeWorth a_c_givenTo a_c_cameFrom a_c_slack a_c_seen a_g a_g_kinds a_g_wants c_edges c_places c_spotX c_spotY c_toX c_toY c_fromX c_fromY c_edgeWorth c_placeWorth c_givenTo c_cameFrom c_slack c_seen g_columns g_rows g_hedges g_hurdles g_wantCount g_rest g_frozen g_kinds g_wants) [(0, .ref a_c), (4, .int x4)] 22 [] := by
  unfold bd_X0_least_22 at h
  refine j_iload cx 1 rfl dX0_least_22 (pn := 24) rfl ?_
  refine j_aload_n cx 0 rfl rfl dX0_least_24 (pn := 25) rfl ?_
  refine j_get cx inGX0 0 rfl rfl 12 (by decide) q_fl_X0_56 rfl rfl dX0_least_25 (pn := 28) rfl ?_
  refine j_icmp_gt cx 43 dX0_least_28 (pn := 31) rfl rfl (fun c3 => ?_) (fun c3 => ?_)
  · have h := h.1 c3
    refine j_iconst cx (v := 0) (by decide) dX0_least_43 (pn := 44) rfl ?_
    refine j_istore cx [(4, .int 0), (0, .ref a_c)] (by decide) rfl dX0_least_44 (pn := 46) rfl ?_
    refine j_iconst cx (v := 1) (by decide) dX0_least_46 (pn := 47) rfl ?_
    refine j_istore cx [(5, .int 1), (4, .int 0), (0, .ref a_c)] (by decide) rfl dX0_least_47 (pn := 49) rfl ?_
    refine j_sub [2, 1, 0] [(0, .ref a_c), (4, .int 0), (5, .int 1)] rfl ?_
    exact J_X0_least_49 cx hR h
  · have h := h.2 c3
    refine j_aload_n cx 0 rfl rfl dX0_least_31 (pn := 32) rfl ?_
    refine j_iload cx 1 rfl dX0_least_32 (pn := 34) rfl ?_
    refine j_callvV cx q_inst_X0_giveTo q_sel_X0_giveTo (b := a_c) (As := [.int x4]) (rest := []) (W_Car cyI cyJ cyZ a_c a_c_spotX a_c_spotY a_c_toX a_c_toY a_c_fromX a_c_fromY a_c_edgeWorth a_c_placeWorth a_c_givenTo a_c_cameFrom a_c_slack a_c_seen c_edges c_places c_spotX c_spotY c_toX c_toY c_fromX c_fromY c_edgeWorth c_placeWorth c_givenTo c_cameFrom c_slack c_seen) [(a_g, .inr (4, [.ref a_g_kinds, .ref a_g_wants, .int g_columns, .int g_rows, .int g_hedges, .int g_hurdles, .int g_wantCount, .int g_rest, .int g_frozen])), (a_g_kinds, .inl (cyI, 10, .inl g_kinds)), (a_g_wants, .inl (cyI, 7, .inl g_wants))] (c_X0_giveTo h) ⟨q_code_X0_giveTo, q_ml_X0_60, q_init_X0, hd_X0_giveTo, ⟨Nat.le_of_ble_eq_true rfl, Nat.le_of_ble_eq_true rfl⟩, Nat.le_of_ble_eq_true rfl, Nat.le_of_ble_eq_true rfl⟩ (q0 := 0) rfl rfl rfl [0, 1, 2, 3, 4, 5, 6, 7, 8, 9, 10, 11, 12] [13, 14, 15] [3, 4, 5, 6, 7, 8, 9, 10, 11, 12, 13, 14, 15, 0, 1, 2] rfl rfl rfl rfl rfl (by decide) (fun u : (Nat → Int32) × (Nat → Int32) × (Nat → Int32) × (Nat → Int32) × (Nat → Int32) × (Nat → Int32) => (W_CarG cyI cyJ cyZ a_c a_c_spotX a_c_spotY a_c_toX a_c_toY a_c_fromX a_c_fromY a_c_edgeWorth a_c_placeWorth a_c_givenTo a_c_cameFrom a_c_slack a_c_seen a_g a_g_kinds a_g_wants c_edges c_places c_spotX c_spotY c_toX c_toY c_fromX c_fromY u.1 u.2.1 u.2.2.1 u.2.2.2.1 u.2.2.2.2.1 u.2.2.2.2.2 g_columns g_rows g_hedges g_hurdles g_wantCount g_rest g_frozen g_kinds g_wants)) (fun _ => rfl) (fun _ => rfl) rfl rfl (Nat.le_of_ble_eq_true rfl) dX0_least_34 (pn := 37) rfl (fun u9 h => ?_)
    show J x 0 0 6 (W_CarG cyI cyJ cyZ a_c a_c_spotX a_c_spotY a_c_toX a_c_toY a_c_fromX a_c_fromY a_c_edgeWorth a_c_placeWorth a_c_givenTo a_c_cameFrom a_c_slack a_c_seen a_g a_g_kinds a_g_wants c_edges c_places c_spotX c_spotY c_toX c_toY c_fromX c_fromY u9.1 u9.2.1 u9.2.2.1 u9.2.2.2.1 u9.2.2.2.2.1 u9.2.2.2.2.2 g_columns g_rows g_hedges g_hurdles g_wantCount g_rest g_frozen g_kinds g_wants) [(0, .ref a_c), (4, .int x4)] 37 []
    obtain ⟨y10, ey10⟩ : ∃ z : Int32, z = x4 + 1 := ⟨_, rfl⟩
    have h := h y10 ey10
    refine j_iinc cx 1 rfl (cst := 1) (by decide) ey10 [(4, .int y10), (0, .ref a_c)] (by decide) rfl dX0_least_37 (pn := 40) rfl ?_
    refine j_goto cx 22 dX0_least_40 rfl ?_
    refine j_sub [1, 0] [(0, .ref a_c), (4, .int y10)] rfl ?_
    exact hB22 _ _ _ _ _ _ _ h
set_option maxHeartbeats 4000000 in
set_option maxRecDepth 100000 in
theorem J_X0_least_22 {x : CX} {D : DG} {cyI cyJ cyZ : ClassId} {a_c a_c_spotX a_c_spotY a_c_toX a_c_toY a_c_fromX a_c_fromY a_c_edgeWorth a_c_placeWorth a_c_givenTo a_c_cameFrom a_c_slack a_c_seen a_g a_g_kinds a_g_wants : Nat} {c_edges : Int32} {c_places : Int32} {c_spotX : Nat → Int32} {c_spotY : Nat → Int32} {c_toX : Nat → Int32} {c_toY : Nat → Int32} {c_fromX : Nat → Int32} {c_fromY : Nat → Int32} {c_edgeWorth : Nat → Int32} {c_placeWorth : Nat → Int32} {c_givenTo : Nat → Int32} {c_cameFrom : Nat → Int32} {c_slack : Nat → Int32} {c_seen : Nat → Int32} {g_columns : Int32} {g_rows : Int32} {g_hedges : Int32} {g_hurdles : Int32} {g_wantCount : Int32} {g_rest : Int32} {g_frozen : Int32} {g_kinds : Nat → Int32} {g_wants : Nat → Int32} {x4 : Int32} {Q : Int32 → (Int32 × Int32 × (Nat → Int32) × (Nat → Int32) × (Nat → Int32) × (Nat → Int32) × (Nat → Int32) × (Nat → Int32) × (Nat → Int32) × (Nat → Int32) × (Nat → Int32) × (Nat → Int32) × (Nat → Int32) × (Nat → Int32)) → Prop} (cx : Cx x cX0_least 6 RX0 rm_X0_least D [(cyI, .int), (cyJ, .long), (cyZ, .boolean)]) (hR : ∀ (v : Int32) (u : Int32 × Int32 × (Nat → Int32) × (Nat → Int32) × (Nat → Int32) × (Nat → Int32) × (Nat → Int32) × (Nat → Int32) × (Nat → Int32) × (Nat → Int32) × (Nat → Int32) × (Nat → Int32) × (Nat → Int32) × (Nat → Int32)) (pc : Nat) (lv : List (Nat × Value)), decode cX0_least pc = .ok (.ireturn, 1) → Q v u → J x 0 0 6 (W_CarG cyI cyJ cyZ a_c a_c_spotX a_c_spotY a_c_toX a_c_toY a_c_fromX a_c_fromY a_c_edgeWorth a_c_placeWorth a_c_givenTo a_c_cameFrom a_c_slack a_c_seen a_g a_g_kinds a_g_wants u.1 u.2.1 u.2.2.1 u.2.2.2.1 u.2.2.2.2.1 u.2.2.2.2.2.1 u.2.2.2.2.2.2.1 u.2.2.2.2.2.2.2.1 u.2.2.2.2.2.2.2.2.1 u.2.2.2.2.2.2.2.2.2.1 u.2.2.2.2.2.2.2.2.2.2.1 u.2.2.2.2.2.2.2.2.2.2.2.1 u.2.2.2.2.2.2.2.2.2.2.2.2.1 u.2.2.2.2.2.2.2.2.2.2.2.2.2 g_columns g_rows g_hedges g_hurdles g_wantCount g_rest g_frozen g_kinds g_wants) lv pc [.int v]) (h : lp_X0_least_22 Q  c_edges c_places c_spotX c_spotY c_toX c_toY c_fromX c_fromY c_edgeWorth c_placeWorth c_givenTo c_cameFrom c_slack c_seen x4) :
    J x 0 0 6 (W_CarG cyI cyJ cyZ a_c a_c_spotX a_c_spotY a_c_toX a_c_toY a_c_fromX a_c_fromY a_c_edgeWorth a_c_placeWorth a_c_givenTo a_c_cameFrom a_c_slack a_c_seen a_g a_g_kinds a_g_wants c_edges c_places c_spotX c_spotY c_toX c_toY c_fromX c_fromY c_edgeWorth c_placeWorth c_givenTo c_cameFrom c_slack c_seen g_columns g_rows g_hedges g_hurdles g_wantCount g_rest g_frozen g_kinds g_wants) [(0, .ref a_c), (4, .int x4)] 22 [] := by
  obtain ⟨I, ⟨n, h0⟩, hb⟩ := h
  revert c_edgeWorth c_placeWorth c_givenTo c_cameFrom c_slack c_seen x4
  induction n using Nat.strongRecOn with
  | _ n ih =>
    intro c_edgeWorth c_placeWorth c_givenTo c_cameFrom c_slack c_seen x4 h0
    exact B_X0_least_22 cx hR (fun _ _ _ _ _ _ _ hz => by obtain ⟨n2, hlt, hI⟩ := hz; exact ih n2 hlt hI) (hb n c_edgeWorth c_placeWorth c_givenTo c_cameFrom c_slack c_seen x4 h0)
set_option maxHeartbeats 4000000 in
set_option maxRecDepth 100000 in
theorem c_X0_least {D : DG} {cyI cyJ cyZ : ClassId} {a_c a_c_spotX a_c_spotY a_c_toX a_c_toY a_c_fromX a_c_fromY a_c_edgeWorth a_c_placeWorth a_c_givenTo a_c_cameFrom a_c_slack a_c_seen a_g a_g_kinds a_g_wants : Nat} {c_edges : Int32} {c_places : Int32} {c_spotX : Nat → Int32} {c_spotY : Nat → Int32} {c_toX : Nat → Int32} {c_toY : Nat → Int32} {c_fromX : Nat → Int32} {c_fromY : Nat → Int32} {c_edgeWorth : Nat → Int32} {c_placeWorth : Nat → Int32} {c_givenTo : Nat → Int32} {c_cameFrom : Nat → Int32} {c_slack : Nat → Int32} {c_seen : Nat → Int32} {g_columns : Int32} {g_rows : Int32} {g_hedges : Int32} {g_hurdles : Int32} {g_wantCount : Int32} {g_rest : Int32} {g_frozen : Int32} {g_kinds : Nat → Int32} {g_wants : Nat → Int32} {p2 : Int32} {p3 : Int32} {Q : Int32 → (Int32 × Int32 × (Nat → Int32) × (Nat → Int32) × (Nat → Int32) × (Nat → Int32) × (Nat → Int32) × (Nat → Int32) × (Nat → Int32) × (Nat → Int32) × (Nat → Int32) × (Nat → Int32) × (Nat → Int32) × (Nat → Int32)) → Prop} (h : wp_X0_least p2 p3 c_spotX c_spotY c_toX c_toY c_fromX c_fromY c_edgeWorth c_placeWorth c_givenTo c_cameFrom c_slack c_seen g_columns g_rows Q) :
    MetI yX0_least cX0_least 6 (some .int) rm_X0_least D [(cyI, .int), (cyJ, .long), (cyZ, .boolean)] [.ref a_c, .ref a_g, .int p2, .int p3] (W_CarG cyI cyJ cyZ a_c a_c_spotX a_c_spotY a_c_toX a_c_toY a_c_fromX a_c_fromY a_c_edgeWorth a_c_placeWorth a_c_givenTo a_c_cameFrom a_c_slack a_c_seen a_g a_g_kinds a_g_wants c_edges c_places c_spotX c_spotY c_toX c_toY c_fromX c_fromY c_edgeWorth c_placeWorth c_givenTo c_cameFrom c_slack c_seen g_columns g_rows g_hedges g_hurdles g_wantCount g_rest g_frozen g_kinds g_wants) (fun u : Int32 × Int32 × (Nat → Int32) × (Nat → Int32) × (Nat → Int32) × (Nat → Int32) × (Nat → Int32) × (Nat → Int32) × (Nat → Int32) × (Nat → Int32) × (Nat → Int32) × (Nat → Int32) × (Nat → Int32) × (Nat → Int32) => (W_CarG cyI cyJ cyZ a_c a_c_spotX a_c_spotY a_c_toX a_c_toY a_c_fromX a_c_fromY a_c_edgeWorth a_c_placeWorth a_c_givenTo a_c_cameFrom a_c_slack a_c_seen a_g a_g_kinds a_g_wants u.1 u.2.1 u.2.2.1 u.2.2.2.1 u.2.2.2.2.1 u.2.2.2.2.2.1 u.2.2.2.2.2.2.1 u.2.2.2.2.2.2.2.1 u.2.2.2.2.2.2.2.2.1 u.2.2.2.2.2.2.2.2.2.1 u.2.2.2.2.2.2.2.2.2.2.1 u.2.2.2.2.2.2.2.2.2.2.2.1 u.2.2.2.2.2.2.2.2.2.2.2.2.1 u.2.2.2.2.2.2.2.2.2.2.2.2.2 g_columns g_rows g_hedges g_hurdles g_wantCount g_rest g_frozen g_kinds g_wants)) (fun v u => Q v u) := by
  unfold wp_X0_least at h
  refine metI_of (by decide) (Nat.le_of_ble_eq_true rfl) (fun x cx0 hR0 => ?_)
  have cx : Cx x cX0_least 6 RX0 rm_X0_least D [(cyI, .int), (cyJ, .long), (cyZ, .boolean)] := cx0
  have hR : ∀ (v : Int32) (u : Int32 × Int32 × (Nat → Int32) × (Nat → Int32) × (Nat → Int32) × (Nat → Int32) × (Nat → Int32) × (Nat → Int32) × (Nat → Int32) × (Nat → Int32) × (Nat → Int32) × (Nat → Int32) × (Nat → Int32) × (Nat → Int32)) (pc : Nat) (lv : List (Nat × Value)), decode cX0_least pc = .ok (.ireturn, 1) → Q v u → J x 0 0 6 (W_CarG cyI cyJ cyZ a_c a_c_spotX a_c_spotY a_c_toX a_c_toY a_c_fromX a_c_fromY a_c_edgeWorth a_c_placeWorth a_c_givenTo a_c_cameFrom a_c_slack a_c_seen a_g a_g_kinds a_g_wants u.1 u.2.1 u.2.2.1 u.2.2.2.1 u.2.2.2.2.1 u.2.2.2.2.2.1 u.2.2.2.2.2.2.1 u.2.2.2.2.2.2.2.1 u.2.2.2.2.2.2.2.2.1 u.2.2.2.2.2.2.2.2.2.1 u.2.2.2.2.2.2.2.2.2.2.1 u.2.2.2.2.2.2.2.2.2.2.2.1 u.2.2.2.2.2.2.2.2.2.2.2.2.1 u.2.2.2.2.2.2.2.2.2.2.2.2.2 g_columns g_rows g_hedges g_hurdles g_wantCount g_rest g_frozen g_kinds g_wants) lv pc [.int v] := (fun v u pc lv d hq => hR0 v u pc lv d hq)
  show J x 0 0 6 (W_CarG cyI cyJ cyZ a_c a_c_spotX a_c_spotY a_c_toX a_c_toY a_c_fromX a_c_fromY a_c_edgeWorth a_c_placeWorth a_c_givenTo a_c_cameFrom a_c_slack a_c_seen a_g a_g_kinds a_g_wants c_edges c_places c_spotX c_spotY c_toX c_toY c_fromX c_fromY c_edgeWorth c_placeWorth c_givenTo c_cameFrom c_slack c_seen g_columns g_rows g_hedges g_hurdles g_wantCount g_rest g_frozen g_kinds g_wants) [(0, .ref a_c), (1, .ref a_g), (2, .int p2), (3, .int p3)] 0 []
  refine j_aload_n cx 0 rfl rfl dX0_least_0 (pn := 1) rfl ?_
  refine j_aload_n cx 1 rfl rfl dX0_least_1 (pn := 2) rfl ?_
  refine j_callvV0 cx q_inst_X0_laySpots q_sel_X0_laySpots (b := a_c) (As := [.ref a_g]) (rest := []) (c_X0_laySpots h) ⟨q_code_X0_laySpots, q_ml_X0_48, q_init_X0, hd_X0_laySpots, ⟨Nat.le_of_ble_eq_true rfl, Nat.le_of_ble_eq_true rfl⟩, Nat.le_of_ble_eq_true rfl, Nat.le_of_ble_eq_true rfl⟩ (q0 := 0) rfl rfl rfl rfl (Nat.le_of_ble_eq_true rfl) dX0_least_2 (pn := 5) rfl (fun u1 h => ?_)
  show J x 0 0 6 (W_CarG cyI cyJ cyZ a_c a_c_spotX a_c_spotY a_c_toX a_c_toY a_c_fromX a_c_fromY a_c_edgeWorth a_c_placeWorth a_c_givenTo a_c_cameFrom a_c_slack a_c_seen a_g a_g_kinds a_g_wants c_edges c_places u1.1 u1.2 c_toX c_toY c_fromX c_fromY c_edgeWorth c_placeWorth c_givenTo c_cameFrom c_slack c_seen g_columns g_rows g_hedges g_hurdles g_wantCount g_rest g_frozen g_kinds g_wants) [(0, .ref a_c), (1, .ref a_g), (2, .int p2), (3, .int p3)] 5 []
  refine j_aload_n cx 0 rfl rfl dX0_least_5 (pn := 6) rfl ?_
  refine j_iload_n cx 2 rfl rfl dX0_least_6 (pn := 7) rfl ?_
  refine j_iload_n cx 3 rfl rfl dX0_least_7 (pn := 8) rfl ?_
  refine j_iconst cx (v := (-1)) (by decide) dX0_least_8 (pn := 9) rfl ?_
  refine j_ixor cx dX0_least_9 (pn := 10) rfl ?_
  refine j_iand cx dX0_least_10 (pn := 11) rfl ?_
  refine j_iload_n cx 3 rfl rfl dX0_least_11 (pn := 12) rfl ?_
  refine j_iload_n cx 2 rfl rfl dX0_least_12 (pn := 13) rfl ?_
  refine j_iconst cx (v := (-1)) (by decide) dX0_least_13 (pn := 14) rfl ?_
  refine j_ixor cx dX0_least_14 (pn := 15) rfl ?_
  refine j_iand cx dX0_least_15 (pn := 16) rfl ?_
  refine j_callvV cx q_inst_X0_lay q_sel_X0_lay (b := a_c) (As := [.int (p2 &&& (p3 ^^^ (-1))), .int (p3 &&& (p2 ^^^ (-1)))]) (rest := []) (W_Car cyI cyJ cyZ a_c a_c_spotX a_c_spotY a_c_toX a_c_toY a_c_fromX a_c_fromY a_c_edgeWorth a_c_placeWorth a_c_givenTo a_c_cameFrom a_c_slack a_c_seen c_edges c_places u1.1 u1.2 c_toX c_toY c_fromX c_fromY c_edgeWorth c_placeWorth c_givenTo c_cameFrom c_slack c_seen) [(a_g, .inr (4, [.ref a_g_kinds, .ref a_g_wants, .int g_columns, .int g_rows, .int g_hedges, .int g_hurdles, .int g_wantCount, .int g_rest, .int g_frozen])), (a_g_kinds, .inl (cyI, 10, .inl g_kinds)), (a_g_wants, .inl (cyI, 7, .inl g_wants))] (c_X0_lay h) ⟨q_code_X0_lay, q_ml_X0_52, q_init_X0, hd_X0_lay, ⟨Nat.le_of_ble_eq_true rfl, Nat.le_of_ble_eq_true rfl⟩, Nat.le_of_ble_eq_true rfl, Nat.le_of_ble_eq_true rfl⟩ (q0 := 0) rfl rfl rfl [0, 1, 2, 3, 4, 5, 6, 7, 8, 9, 10, 11, 12] [13, 14, 15] [3, 4, 5, 6, 7, 8, 9, 10, 11, 12, 13, 14, 15, 0, 1, 2] rfl rfl rfl rfl rfl (by decide) (fun u : Int32 × Int32 × (Nat → Int32) × (Nat → Int32) × (Nat → Int32) × (Nat → Int32) × (Nat → Int32) × (Nat → Int32) × (Nat → Int32) => (W_CarG cyI cyJ cyZ a_c a_c_spotX a_c_spotY a_c_toX a_c_toY a_c_fromX a_c_fromY a_c_edgeWorth a_c_placeWorth a_c_givenTo a_c_cameFrom a_c_slack a_c_seen a_g a_g_kinds a_g_wants u.1 u.2.1 u1.1 u1.2 u.2.2.1 u.2.2.2.1 u.2.2.2.2.1 u.2.2.2.2.2.1 u.2.2.2.2.2.2.1 u.2.2.2.2.2.2.2.1 u.2.2.2.2.2.2.2.2 c_cameFrom c_slack c_seen g_columns g_rows g_hedges g_hurdles g_wantCount g_rest g_frozen g_kinds g_wants)) (fun _ => rfl) (fun _ => rfl) rfl rfl (Nat.le_of_ble_eq_true rfl) dX0_least_16 (pn := 19) rfl (fun u2 h => ?_)
  show J x 0 0 6 (W_CarG cyI cyJ cyZ a_c a_c_spotX a_c_spotY a_c_toX a_c_toY a_c_fromX a_c_fromY a_c_edgeWorth a_c_placeWorth a_c_givenTo a_c_cameFrom a_c_slack a_c_seen a_g a_g_kinds a_g_wants u2.1 u2.2.1 u1.1 u1.2 u2.2.2.1 u2.2.2.2.1 u2.2.2.2.2.1 u2.2.2.2.2.2.1 u2.2.2.2.2.2.2.1 u2.2.2.2.2.2.2.2.1 u2.2.2.2.2.2.2.2.2 c_cameFrom c_slack c_seen g_columns g_rows g_hedges g_hurdles g_wantCount g_rest g_frozen g_kinds g_wants) [(0, .ref a_c), (1, .ref a_g), (2, .int p2), (3, .int p3)] 19 []
  refine j_iconst cx (v := 1) (by decide) dX0_least_19 (pn := 20) rfl ?_
  refine j_istore cx [(4, .int 1), (0, .ref a_c), (1, .ref a_g), (2, .int p2), (3, .int p3)] (by decide) rfl dX0_least_20 (pn := 22) rfl ?_
  refine j_sub [1, 0] [(0, .ref a_c), (4, .int 1)] rfl ?_
  exact J_X0_least_22 cx hR h
