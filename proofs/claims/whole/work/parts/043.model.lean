theorem dX11_isFold_0 : decode cX11_isFold 0 = .ok (.iload_n 1, 1) := by decide +kernel
theorem dX11_isFold_1 : decode cX11_isFold 1 = .ok (.ifCond .le 11, 3) := by decide +kernel
theorem dX11_isFold_4 : decode cX11_isFold 4 = .ok (.aload_n 0, 1) := by decide +kernel
theorem dX11_isFold_5 : decode cX11_isFold 5 = .ok (.iload_n 1, 1) := by decide +kernel
theorem dX11_isFold_6 : decode cX11_isFold 6 = .ok (.invokevirtual 231, 3) := by decide +kernel
theorem dX11_isFold_9 : decode cX11_isFold 9 = .ok (.ifCond .ne 5, 3) := by decide +kernel
theorem dX11_isFold_12 : decode cX11_isFold 12 = .ok (.iconst 0, 1) := by decide +kernel
theorem dX11_isFold_13 : decode cX11_isFold 13 = .ok (.ireturn, 1) := by decide +kernel
theorem dX11_isFold_14 : decode cX11_isFold 14 = .ok (.iconst 0, 1) := by decide +kernel
theorem dX11_isFold_15 : decode cX11_isFold 15 = .ok (.istore_n 2, 1) := by decide +kernel
theorem dX11_isFold_16 : decode cX11_isFold 16 = .ok (.iload_n 2, 1) := by decide +kernel
theorem dX11_isFold_17 : decode cX11_isFold 17 = .ok (.aload_n 0, 1) := by decide +kernel
theorem dX11_isFold_18 : decode cX11_isFold 18 = .ok (.invokevirtual 86, 3) := by decide +kernel
theorem dX11_isFold_21 : decode cX11_isFold 21 = .ok (.if_icmp .ge 31, 3) := by decide +kernel
theorem dX11_isFold_24 : decode cX11_isFold 24 = .ok (.iload_n 1, 1) := by decide +kernel
theorem dX11_isFold_25 : decode cX11_isFold 25 = .ok (.iload_n 2, 1) := by decide +kernel
theorem dX11_isFold_26 : decode cX11_isFold 26 = .ok (.ishr, 1) := by decide +kernel
theorem dX11_isFold_27 : decode cX11_isFold 27 = .ok (.iconst 1, 1) := by decide +kernel
theorem dX11_isFold_28 : decode cX11_isFold 28 = .ok (.iand, 1) := by decide +kernel
theorem dX11_isFold_29 : decode cX11_isFold 29 = .ok (.iconst 1, 1) := by decide +kernel
theorem dX11_isFold_30 : decode cX11_isFold 30 = .ok (.if_icmp .ne 16, 3) := by decide +kernel
theorem dX11_isFold_33 : decode cX11_isFold 33 = .ok (.aload_n 0, 1) := by decide +kernel
theorem dX11_isFold_34 : decode cX11_isFold 34 = .ok (.getfield 16, 3) := by decide +kernel
theorem dX11_isFold_37 : decode cX11_isFold 37 = .ok (.iload_n 2, 1) := by decide +kernel
theorem dX11_isFold_38 : decode cX11_isFold 38 = .ok (.iaload, 1) := by decide +kernel
theorem dX11_isFold_39 : decode cX11_isFold 39 = .ok (.bipush 9, 2) := by decide +kernel
theorem dX11_isFold_41 : decode cX11_isFold 41 = .ok (.if_icmp .le 5, 3) := by decide +kernel
theorem dX11_isFold_44 : decode cX11_isFold 44 = .ok (.iconst 0, 1) := by decide +kernel
theorem dX11_isFold_45 : decode cX11_isFold 45 = .ok (.ireturn, 1) := by decide +kernel
theorem dX11_isFold_46 : decode cX11_isFold 46 = .ok (.iinc 2 1, 3) := by decide +kernel
theorem dX11_isFold_49 : decode cX11_isFold 49 = .ok (.goto (-33), 3) := by decide +kernel
theorem dX11_isFold_52 : decode cX11_isFold 52 = .ok (.iload_n 1, 1) := by decide +kernel
theorem dX11_isFold_53 : decode cX11_isFold 53 = .ok (.iload_n 1, 1) := by decide +kernel
theorem dX11_isFold_54 : decode cX11_isFold 54 = .ok (.ineg, 1) := by decide +kernel
theorem dX11_isFold_55 : decode cX11_isFold 55 = .ok (.iand, 1) := by decide +kernel
theorem dX11_isFold_56 : decode cX11_isFold 56 = .ok (.istore_n 2, 1) := by decide +kernel
theorem dX11_isFold_57 : decode cX11_isFold 57 = .ok (.iconst 0, 1) := by decide +kernel
theorem dX11_isFold_58 : decode cX11_isFold 58 = .ok (.istore_n 3, 1) := by decide +kernel
theorem dX11_isFold_59 : decode cX11_isFold 59 = .ok (.iload_n 3, 1) := by decide +kernel
theorem dX11_isFold_60 : decode cX11_isFold 60 = .ok (.bipush 10, 2) := by decide +kernel
theorem dX11_isFold_62 : decode cX11_isFold 62 = .ok (.if_icmp .ge 19, 3) := by decide +kernel
theorem dX11_isFold_65 : decode cX11_isFold 65 = .ok (.iload_n 2, 1) := by decide +kernel
theorem dX11_isFold_66 : decode cX11_isFold 66 = .ok (.aload_n 0, 1) := by decide +kernel
theorem dX11_isFold_67 : decode cX11_isFold 67 = .ok (.iload_n 2, 1) := by decide +kernel
theorem dX11_isFold_68 : decode cX11_isFold 68 = .ok (.invokevirtual 234, 3) := by decide +kernel
theorem dX11_isFold_71 : decode cX11_isFold 71 = .ok (.iload_n 1, 1) := by decide +kernel
theorem dX11_isFold_72 : decode cX11_isFold 72 = .ok (.iand, 1) := by decide +kernel
theorem dX11_isFold_73 : decode cX11_isFold 73 = .ok (.ior, 1) := by decide +kernel
theorem dX11_isFold_74 : decode cX11_isFold 74 = .ok (.istore_n 2, 1) := by decide +kernel
theorem dX11_isFold_75 : decode cX11_isFold 75 = .ok (.iinc 3 1, 3) := by decide +kernel
theorem dX11_isFold_78 : decode cX11_isFold 78 = .ok (.goto (-19), 3) := by decide +kernel
theorem dX11_isFold_81 : decode cX11_isFold 81 = .ok (.iload_n 2, 1) := by decide +kernel
theorem dX11_isFold_82 : decode cX11_isFold 82 = .ok (.iload_n 1, 1) := by decide +kernel
theorem dX11_isFold_83 : decode cX11_isFold 83 = .ok (.if_icmp .ne 7, 3) := by decide +kernel
theorem dX11_isFold_86 : decode cX11_isFold 86 = .ok (.iconst 1, 1) := by decide +kernel
theorem dX11_isFold_87 : decode cX11_isFold 87 = .ok (.goto 4, 3) := by decide +kernel
theorem dX11_isFold_90 : decode cX11_isFold 90 = .ok (.iconst 0, 1) := by decide +kernel
theorem dX11_isFold_91 : decode cX11_isFold 91 = .ok (.ireturn, 1) := by decide +kernel
abbrev rm_X11_isFold : Room := { frames := 3, cells := 0, slots := 0, locals := 71 }
theorem hd_X11_isFold : yX11_isFold.cls ≠ "java/lang/invoke/MethodHandle" ∧ yX11_isFold.cls ≠ "java/lang/invoke/VarHandle" ∧ (parseMethodDescriptor yX11_isFold.desc).map (fun d => d.parameters.length) = some 1 := by decide +kernel
def bd_X11_isFold_59 (Q : Int32 → Prop) (B59 : Int32 → Int32 → Prop) (p1 : Int32) (M_wide : Int32) (M_high : Int32) (x2 : Int32) (x3 : Int32) : Prop :=
((10 ≤ x3 → ((¬ x2 = p1 → Q 0) ∧
(x2 = p1 → Q 1))) ∧
(¬ 10 ≤ x3 → wp_X11_besides x2 M_wide M_high (fun (r9 : Int32) => ∀ y10 : Int32, y10 = (x2 ||| (r9 &&& p1)) →
∀ y11 : Int32, y11 = (x3 + 1) →
B59 y10 y11)))
def lp_X11_isFold_59 (Q : Int32 → Prop) (p1 : Int32) (M_wide : Int32) (M_high : Int32) (x2 : Int32) (x3 : Int32) : Prop :=
∃ I : Nat → Int32 → Int32 → Prop, (∃ n, I n x2 x3) ∧ ∀ n x2 x3, I n x2 x3 → bd_X11_isFold_59 Q  (fun x2' x3' => ∃ n', n' < n ∧ I n' x2' x3') p1 M_wide M_high x2 x3
def bk_X11_isFold_46 (Q : Int32 → Prop) (B16 : Int32 → Prop) (x2 : Int32) : Prop :=
∀ y13 : Int32, y13 = (x2 + 1) →
B16 y13
def bd_X11_isFold_16 (Q : Int32 → Prop) (B16 : Int32 → Prop) (p1 : Int32) (M_wide : Int32) (M_high : Int32) (M_square : Nat → Int32) (x2 : Int32) : Prop :=
wp_X11_squares M_wide M_high (fun (r4 : Int32) => ((r4 ≤ x2 → ∀ y6 : Int32, y6 = (p1 &&& (-p1)) →
lp_X11_isFold_59 Q p1 M_wide M_high y6 0) ∧
(¬ r4 ≤ x2 → ((¬ ((p1 >>> (x2 &&& 31)) &&& 1) = 1 → bk_X11_isFold_46 Q B16 x2) ∧
(((p1 >>> (x2 &&& 31)) &&& 1) = 1 → vp_in x2 10 ∧ (((M_square x2.toNatClampNeg) ≤ 9 → bk_X11_isFold_46 Q B16 x2) ∧
(¬ (M_square x2.toNatClampNeg) ≤ 9 → Q 0)))))))
def lp_X11_isFold_16 (Q : Int32 → Prop) (p1 : Int32) (M_wide : Int32) (M_high : Int32) (M_square : Nat → Int32) (x2 : Int32) : Prop :=
∃ I : Nat → Int32 → Prop, (∃ n, I n x2) ∧ ∀ n x2, I n x2 → bd_X11_isFold_16 Q  (fun x2' => ∃ n', n' < n ∧ I n' x2') p1 M_wide M_high M_square x2
def wp_X11_isFold (p1 : Int32) (M_wide : Int32) (M_high : Int32) (M_square : Nat → Int32) (Q : Int32 → Prop) : Prop :=
((p1 ≤ 0 → Q 0) ∧
(¬ p1 ≤ 0 → wp_X11_isSet p1 M_wide M_high (fun (r2 : Int32) => ((¬ r2 = 0 → lp_X11_isFold_16 Q p1 M_wide M_high M_square 0) ∧
(r2 = 0 → Q 0)))))
set_option maxHeartbeats 4000000 in
set_option maxRecDepth 100000 in
theorem B_X11_isFold_59 {x : CX} {D : DG} {cyI cyJ cyZ : ClassId} {a_M a_M_square a_M_want a_M_text a_M_read a_M_row a_M_foldSet a_M_foldEdges a_M_foldNeeds a_M_foldYards a_M_least a_M_ways a_M_price a_M_rowBy a_M_columnBy a_M_rowOf a_M_wayBack a_M_slack a_M_isUsed a_M_lifted a_M_freed a_M_path : Nat} {M_wide : Int32} {M_high : Int32} {M_hedges : Int64} {M_hurdles : Int32} {M_wants : Int32} {M_rest : Int32} {M_frozen : Int32} {M_bytes : Int32} {M_position : Int32} {M_tokenAt : Int32} {M_token : Int64} {M_digits : Int32} {M_number : Int32} {M_faultAt : Int32} {M_readMany : Int32} {M_readWide : Int32} {M_readHigh : Int32} {M_nights : Int32} {M_why : Int32} {M_folds : Int32} {M_square : Nat → Int32} {M_want : Nat → Int32} {M_text : Nat → Int32} {M_read : Nat → Int32} {M_row : Nat → Int32} {M_foldSet : Nat → Int32} {M_foldEdges : Nat → Int64} {M_foldNeeds : Nat → Int32} {M_foldYards : Nat → Int32} {M_least : Nat → Int32} {M_ways : Nat → Int32} {M_price : Nat → Int32} {M_rowBy : Nat → Int32} {M_columnBy : Nat → Int32} {M_rowOf : Nat → Int32} {M_wayBack : Nat → Int32} {M_slack : Nat → Int32} {M_isUsed : Nat → Int32} {M_lifted : Nat → Int32} {M_freed : Nat → Int32} {M_path : Nat → Int32} {p1 : Int32} {x2 : Int32} {x3 : Int32} {Q : Int32 → Prop} {B59 : Int32 → Int32 → Prop} (cx : Cx x cX11_isFold 4 RX11 rm_X11_isFold D [(cyI, .int), (cyJ, .long), (cyZ, .boolean)]) (hR : ∀ (v : Int32) (pc : Nat) (lv : List (Nat × Value)), decode cX11_isFold pc = .ok (.ireturn, 1) → (v = 0 ∨ v = 1) → Q v → J x 0 0 4 (W_Model cyI cyJ cyZ a_M a_M_square a_M_want a_M_text a_M_read a_M_row a_M_foldSet a_M_foldEdges a_M_foldNeeds a_M_foldYards a_M_least a_M_ways a_M_price a_M_rowBy a_M_columnBy a_M_rowOf a_M_wayBack a_M_slack a_M_isUsed a_M_lifted a_M_freed a_M_path M_wide M_high M_hedges M_hurdles M_wants M_rest M_frozen M_bytes M_position M_tokenAt M_token M_digits M_number M_faultAt M_readMany M_readWide M_readHigh M_nights M_why M_folds M_square M_want M_text M_read M_row M_foldSet M_foldEdges M_foldNeeds M_foldYards M_least M_ways M_price M_rowBy M_columnBy M_rowOf M_wayBack M_slack M_isUsed M_lifted M_freed M_path) lv pc [.int v]) (hB59 : ∀ (x2 : Int32) (x3 : Int32), B59 x2 x3 → J x 0 0 4 (W_Model cyI cyJ cyZ a_M a_M_square a_M_want a_M_text a_M_read a_M_row a_M_foldSet a_M_foldEdges a_M_foldNeeds a_M_foldYards a_M_least a_M_ways a_M_price a_M_rowBy a_M_columnBy a_M_rowOf a_M_wayBack a_M_slack a_M_isUsed a_M_lifted a_M_freed a_M_path M_wide M_high M_hedges M_hurdles M_wants M_rest M_frozen M_bytes M_position M_tokenAt M_token M_digits M_number M_faultAt M_readMany M_readWide M_readHigh M_nights M_why M_folds M_square M_want M_text M_read M_row M_foldSet M_foldEdges M_foldNeeds M_foldYards M_least M_ways M_price M_rowBy M_columnBy M_rowOf M_wayBack M_slack M_isUsed M_lifted M_freed M_path) [(0, .ref a_M), (1, .int p1), (2, .int x2), (3, .int x3)] 59 []) (h : bd_X11_isFold_59 Q B59 p1 M_wide M_high x2 x3) :
    J x 0 0 4 (W_Model cyI cyJ cyZ a_M a_M_square a_M_want a_M_text a_M_read a_M_row a_M_foldSet a_M_foldEdges a_M_foldNeeds a_M_foldYards a_M_least a_M_ways a_M_price a_M_rowBy a_M_columnBy a_M_rowOf a_M_wayBack a_M_slack a_M_isUsed a_M_lifted a_M_freed a_M_path M_wide M_high M_hedges M_hurdles M_wants M_rest M_frozen M_bytes M_position M_tokenAt M_token M_digits M_number M_faultAt M_readMany M_readWide M_readHigh M_nights M_why M_folds M_square M_want M_text M_read M_row M_foldSet M_foldEdges M_foldNeeds M_foldYards M_least M_ways M_price M_rowBy M_columnBy M_rowOf M_wayBack M_slack M_isUsed M_lifted M_freed M_path) [(0, .ref a_M), (1, .int p1), (2, .int x2), (3, .int x3)] 59 [] := by
  unfold bd_X11_isFold_59 at h
  refine j_iload_n cx 3 rfl rfl dX11_isFold_59 (pn := 60) rfl ?_
  refine j_bipush cx (v := 10) (by decide) dX11_isFold_60 (pn := 62) rfl ?_
  refine j_icmp_ge cx 81 dX11_isFold_62 (pn := 65) rfl rfl (fun c7 => ?_) (fun c7 => ?_)
  · have h := h.1 c7
    refine j_iload_n cx 2 rfl rfl dX11_isFold_81 (pn := 82) rfl ?_
    refine j_iload_n cx 1 rfl rfl dX11_isFold_82 (pn := 83) rfl ?_
    refine j_icmp_ne cx 90 dX11_isFold_83 (pn := 86) rfl rfl (fun c8 => ?_) (fun c8 => ?_)
    · have h := h.1 c8
      refine j_iconst cx (v := 0) (by decide) dX11_isFold_90 (pn := 91) rfl ?_
      exact hR 0 91 _ dX11_isFold_91 (Or.inl rfl) h
    · have h := h.2 c8
      refine j_iconst cx (v := 1) (by decide) dX11_isFold_86 (pn := 87) rfl ?_
      refine j_goto cx 91 dX11_isFold_87 rfl ?_
      exact hR 1 91 _ dX11_isFold_91 (Or.inr rfl) h
  · have h := h.2 c7
    refine j_iload_n cx 2 rfl rfl dX11_isFold_65 (pn := 66) rfl ?_
    refine j_aload_n cx 0 rfl rfl dX11_isFold_66 (pn := 67) rfl ?_
    refine j_iload_n cx 2 rfl rfl dX11_isFold_67 (pn := 68) rfl ?_
    refine j_callvI0 cx q_inst_X11_besides q_sel_X11_besides (b := a_M) (As := [.int x2]) (rest := [.int x2]) (c_X11_besides h) ⟨q_code_X11_besides, q_ml_X11_234, q_init_X11, hd_X11_besides, ⟨Nat.le_of_ble_eq_true rfl, Nat.le_of_ble_eq_true rfl⟩, Nat.le_of_ble_eq_true rfl, Nat.le_of_ble_eq_true rfl⟩ (q0 := 0) rfl rfl rfl rfl (Nat.le_of_ble_eq_true rfl) dX11_isFold_68 (pn := 71) rfl (fun r9 _ h => ?_)
    show J x 0 0 4 (W_Model cyI cyJ cyZ a_M a_M_square a_M_want a_M_text a_M_read a_M_row a_M_foldSet a_M_foldEdges a_M_foldNeeds a_M_foldYards a_M_least a_M_ways a_M_price a_M_rowBy a_M_columnBy a_M_rowOf a_M_wayBack a_M_slack a_M_isUsed a_M_lifted a_M_freed a_M_path M_wide M_high M_hedges M_hurdles M_wants M_rest M_frozen M_bytes M_position M_tokenAt M_token M_digits M_number M_faultAt M_readMany M_readWide M_readHigh M_nights M_why M_folds M_square M_want M_text M_read M_row M_foldSet M_foldEdges M_foldNeeds M_foldYards M_least M_ways M_price M_rowBy M_columnBy M_rowOf M_wayBack M_slack M_isUsed M_lifted M_freed M_path) [(0, .ref a_M), (1, .int p1), (2, .int x2), (3, .int x3)] 71 [.int r9, .int x2]
    refine j_iload_n cx 1 rfl rfl dX11_isFold_71 (pn := 72) rfl ?_
    refine j_iand cx dX11_isFold_72 (pn := 73) rfl ?_
    refine j_ior cx dX11_isFold_73 (pn := 74) rfl ?_
    refine j_topi (fun y10 ey10 => ?_)
    have h := h y10 ey10
    refine j_istore_n cx rfl [(2, .int y10), (0, .ref a_M), (1, .int p1), (3, .int x3)] (by decide) rfl dX11_isFold_74 (pn := 75) rfl ?_
    obtain ⟨y11, ey11⟩ : ∃ z : Int32, z = x3 + 1 := ⟨_, rfl⟩
    have h := h y11 ey11
    refine j_iinc cx 3 rfl (cst := 1) (by decide) ey11 [(3, .int y11), (2, .int y10), (0, .ref a_M), (1, .int p1)] (by decide) rfl dX11_isFold_75 (pn := 78) rfl ?_
    refine j_goto cx 59 dX11_isFold_78 rfl ?_
    refine j_sub [2, 3, 1, 0] [(0, .ref a_M), (1, .int p1), (2, .int y10), (3, .int y11)] rfl ?_
    exact hB59 _ _ h
set_option maxHeartbeats 4000000 in
set_option maxRecDepth 100000 in
theorem J_X11_isFold_59 {x : CX} {D : DG} {cyI cyJ cyZ : ClassId} {a_M a_M_square a_M_want a_M_text a_M_read a_M_row a_M_foldSet a_M_foldEdges a_M_foldNeeds a_M_foldYards a_M_least a_M_ways a_M_price a_M_rowBy a_M_columnBy a_M_rowOf a_M_wayBack a_M_slack a_M_isUsed a_M_lifted a_M_freed a_M_path : Nat} {M_wide : Int32} {M_high : Int32} {M_hedges : Int64} {M_hurdles : Int32} {M_wants : Int32} {M_rest : Int32} {M_frozen : Int32} {M_bytes : Int32} {M_position : Int32} {M_tokenAt : Int32} {M_token : Int64} {M_digits : Int32} {M_number : Int32} {M_faultAt : Int32} {M_readMany : Int32} {M_readWide : Int32} {M_readHigh : Int32} {M_nights : Int32} {M_why : Int32} {M_folds : Int32} {M_square : Nat → Int32} {M_want : Nat → Int32} {M_text : Nat → Int32} {M_read : Nat → Int32} {M_row : Nat → Int32} {M_foldSet : Nat → Int32} {M_foldEdges : Nat → Int64} {M_foldNeeds : Nat → Int32} {M_foldYards : Nat → Int32} {M_least : Nat → Int32} {M_ways : Nat → Int32} {M_price : Nat → Int32} {M_rowBy : Nat → Int32} {M_columnBy : Nat → Int32} {M_rowOf : Nat → Int32} {M_wayBack : Nat → Int32} {M_slack : Nat → Int32} {M_isUsed : Nat → Int32} {M_lifted : Nat → Int32} {M_freed : Nat → Int32} {M_path : Nat → Int32} {p1 : Int32} {x2 : Int32} {x3 : Int32} {Q : Int32 → Prop} (cx : Cx x cX11_isFold 4 RX11 rm_X11_isFold D [(cyI, .int), (cyJ, .long), (cyZ, .boolean)]) (hR : ∀ (v : Int32) (pc : Nat) (lv : List (Nat × Value)), decode cX11_isFold pc = .ok (.ireturn, 1) → (v = 0 ∨ v = 1) → Q v → J x 0 0 4 (W_Model cyI cyJ cyZ a_M a_M_square a_M_want a_M_text a_M_read a_M_row a_M_foldSet a_M_foldEdges a_M_foldNeeds a_M_foldYards a_M_least a_M_ways a_M_price a_M_rowBy a_M_columnBy a_M_rowOf a_M_wayBack a_M_slack a_M_isUsed a_M_lifted a_M_freed a_M_path M_wide M_high M_hedges M_hurdles M_wants M_rest M_frozen M_bytes M_position M_tokenAt M_token M_digits M_number M_faultAt M_readMany M_readWide M_readHigh M_nights M_why M_folds M_square M_want M_text M_read M_row M_foldSet M_foldEdges M_foldNeeds M_foldYards M_least M_ways M_price M_rowBy M_columnBy M_rowOf M_wayBack M_slack M_isUsed M_lifted M_freed M_path) lv pc [.int v]) (h : lp_X11_isFold_59 Q  p1 M_wide M_high x2 x3) :
    J x 0 0 4 (W_Model cyI cyJ cyZ a_M a_M_square a_M_want a_M_text a_M_read a_M_row a_M_foldSet a_M_foldEdges a_M_foldNeeds a_M_foldYards a_M_least a_M_ways a_M_price a_M_rowBy a_M_columnBy a_M_rowOf a_M_wayBack a_M_slack a_M_isUsed a_M_lifted a_M_freed a_M_path M_wide M_high M_hedges M_hurdles M_wants M_rest M_frozen M_bytes M_position M_tokenAt M_token M_digits M_number M_faultAt M_readMany M_readWide M_readHigh M_nights M_why M_folds M_square M_want M_text M_read M_row M_foldSet M_foldEdges M_foldNeeds M_foldYards M_least M_ways M_price M_rowBy M_columnBy M_rowOf M_wayBack M_slack M_isUsed M_lifted M_freed M_path) [(0, .ref a_M), (1, .int p1), (2, .int x2), (3, .int x3)] 59 [] := by
  obtain ⟨I, ⟨n, h0⟩, hb⟩ := h
  revert x2 x3
  induction n using Nat.strongRecOn with
  | _ n ih =>
    intro x2 x3 h0
    exact B_X11_isFold_59 cx hR (fun _ _ hz => by obtain ⟨n2, hlt, hI⟩ := hz; exact ih n2 hlt hI) (hb n x2 x3 h0)
set_option maxHeartbeats 4000000 in
set_option maxRecDepth 100000 in
theorem J_X11_isFold_46 {x : CX} {D : DG} {cyI cyJ cyZ : ClassId} {a_M a_M_square a_M_want a_M_text a_M_read a_M_row a_M_foldSet a_M_foldEdges a_M_foldNeeds a_M_foldYards a_M_least a_M_ways a_M_price a_M_rowBy a_M_columnBy a_M_rowOf a_M_wayBack a_M_slack a_M_isUsed a_M_lifted a_M_freed a_M_path : Nat} {M_wide : Int32} {M_high : Int32} {M_hedges : Int64} {M_hurdles : Int32} {M_wants : Int32} {M_rest : Int32} {M_frozen : Int32} {M_bytes : Int32} {M_position : Int32} {M_tokenAt : Int32} {M_token : Int64} {M_digits : Int32} {M_number : Int32} {M_faultAt : Int32} {M_readMany : Int32} {M_readWide : Int32} {M_readHigh : Int32} {M_nights : Int32} {M_why : Int32} {M_folds : Int32} {M_square : Nat → Int32} {M_want : Nat → Int32} {M_text : Nat → Int32} {M_read : Nat → Int32} {M_row : Nat → Int32} {M_foldSet : Nat → Int32} {M_foldEdges : Nat → Int64} {M_foldNeeds : Nat → Int32} {M_foldYards : Nat → Int32} {M_least : Nat → Int32} {M_ways : Nat → Int32} {M_price : Nat → Int32} {M_rowBy : Nat → Int32} {M_columnBy : Nat → Int32} {M_rowOf : Nat → Int32} {M_wayBack : Nat → Int32} {M_slack : Nat → Int32} {M_isUsed : Nat → Int32} {M_lifted : Nat → Int32} {M_freed : Nat → Int32} {M_path : Nat → Int32} {p1 : Int32} {x2 : Int32} {Q : Int32 → Prop} {B16 : Int32 → Prop} (cx : Cx x cX11_isFold 4 RX11 rm_X11_isFold D [(cyI, .int), (cyJ, .long), (cyZ, .boolean)]) (hR : ∀ (v : Int32) (pc : Nat) (lv : List (Nat × Value)), decode cX11_isFold pc = .ok (.ireturn, 1) → (v = 0 ∨ v = 1) → Q v → J x 0 0 4 (W_Model cyI cyJ cyZ a_M a_M_square a_M_want a_M_text a_M_read a_M_row a_M_foldSet a_M_foldEdges a_M_foldNeeds a_M_foldYards a_M_least a_M_ways a_M_price a_M_rowBy a_M_columnBy a_M_rowOf a_M_wayBack a_M_slack a_M_isUsed a_M_lifted a_M_freed a_M_path M_wide M_high M_hedges M_hurdles M_wants M_rest M_frozen M_bytes M_position M_tokenAt M_token M_digits M_number M_faultAt M_readMany M_readWide M_readHigh M_nights M_why M_folds M_square M_want M_text M_read M_row M_foldSet M_foldEdges M_foldNeeds M_foldYards M_least M_ways M_price M_rowBy M_columnBy M_rowOf M_wayBack M_slack M_isUsed M_lifted M_freed M_path) lv pc [.int v]) (hB16 : ∀ (x2 : Int32), B16 x2 → J x 0 0 4 (W_Model cyI cyJ cyZ a_M a_M_square a_M_want a_M_text a_M_read a_M_row a_M_foldSet a_M_foldEdges a_M_foldNeeds a_M_foldYards a_M_least a_M_ways a_M_price a_M_rowBy a_M_columnBy a_M_rowOf a_M_wayBack a_M_slack a_M_isUsed a_M_lifted a_M_freed a_M_path M_wide M_high M_hedges M_hurdles M_wants M_rest M_frozen M_bytes M_position M_tokenAt M_token M_digits M_number M_faultAt M_readMany M_readWide M_readHigh M_nights M_why M_folds M_square M_want M_text M_read M_row M_foldSet M_foldEdges M_foldNeeds M_foldYards M_least M_ways M_price M_rowBy M_columnBy M_rowOf M_wayBack M_slack M_isUsed M_lifted M_freed M_path) [(0, .ref a_M), (1, .int p1), (2, .int x2)] 16 []) (h : bk_X11_isFold_46 Q B16 x2) :
    J x 0 0 4 (W_Model cyI cyJ cyZ a_M a_M_square a_M_want a_M_text a_M_read a_M_row a_M_foldSet a_M_foldEdges a_M_foldNeeds a_M_foldYards a_M_least a_M_ways a_M_price a_M_rowBy a_M_columnBy a_M_rowOf a_M_wayBack a_M_slack a_M_isUsed a_M_lifted a_M_freed a_M_path M_wide M_high M_hedges M_hurdles M_wants M_rest M_frozen M_bytes M_position M_tokenAt M_token M_digits M_number M_faultAt M_readMany M_readWide M_readHigh M_nights M_why M_folds M_square M_want M_text M_read M_row M_foldSet M_foldEdges M_foldNeeds M_foldYards M_least M_ways M_price M_rowBy M_columnBy M_rowOf M_wayBack M_slack M_isUsed M_lifted M_freed M_path) [(0, .ref a_M), (1, .int p1), (2, .int x2)] 46 [] := by
  unfold bk_X11_isFold_46 at h
  obtain ⟨y13, ey13⟩ : ∃ z : Int32, z = x2 + 1 := ⟨_, rfl⟩
  have h := h y13 ey13
  refine j_iinc cx 2 rfl (cst := 1) (by decide) ey13 [(2, .int y13), (0, .ref a_M), (1, .int p1)] (by decide) rfl dX11_isFold_46 (pn := 49) rfl ?_
  refine j_goto cx 16 dX11_isFold_49 rfl ?_
  refine j_sub [1, 2, 0] [(0, .ref a_M), (1, .int p1), (2, .int y13)] rfl ?_
  exact hB16 _ h
set_option maxHeartbeats 4000000 in
set_option maxRecDepth 100000 in
theorem B_X11_isFold_16 {x : CX} {D : DG} {cyI cyJ cyZ : ClassId} {a_M a_M_square a_M_want a_M_text a_M_read a_M_row a_M_foldSet a_M_foldEdges a_M_foldNeeds a_M_foldYards a_M_least a_M_ways a_M_price a_M_rowBy a_M_columnBy a_M_rowOf a_M_wayBack a_M_slack a_M_isUsed a_M_lifted a_M_freed a_M_path : Nat} {M_wide : Int32} {M_high : Int32} {M_hedges : Int64} {M_hurdles : Int32} {M_wants : Int32} {M_rest : Int32} {M_frozen : Int32} {M_bytes : Int32} {M_position : Int32} {M_tokenAt : Int32} {M_token : Int64} {M_digits : Int32} {M_number : Int32} {M_faultAt : Int32} {M_readMany : Int32} {M_readWide : Int32} {M_readHigh : Int32} {M_nights : Int32} {M_why : Int32} {M_folds : Int32} {M_square : Nat → Int32} {M_want : Nat → Int32} {M_text : Nat → Int32} {M_read : Nat → Int32} {M_row : Nat → Int32} {M_foldSet : Nat → Int32} {M_foldEdges : Nat → Int64} {M_foldNeeds : Nat → Int32} {M_foldYards : Nat → Int32} {M_least : Nat → Int32} {M_ways : Nat → Int32} {M_price : Nat → Int32} {M_rowBy : Nat → Int32} {M_columnBy : Nat → Int32} {M_rowOf : Nat → Int32} {M_wayBack : Nat → Int32} {M_slack : Nat → Int32} {M_isUsed : Nat → Int32} {M_lifted : Nat → Int32} {M_freed : Nat → Int32} {M_path : Nat → Int32} {p1 : Int32} {x2 : Int32} {Q : Int32 → Prop} {B16 : Int32 → Prop} (cx : Cx x cX11_isFold 4 RX11 rm_X11_isFold D [(cyI, .int), (cyJ, .long), (cyZ, .boolean)]) (hR : ∀ (v : Int32) (pc : Nat) (lv : List (Nat × Value)), decode cX11_isFold pc = .ok (.ireturn, 1) → (v = 0 ∨ v = 1) → Q v → J x 0 0 4 (W_Model cyI cyJ cyZ a_M a_M_square a_M_want a_M_text a_M_read a_M_row a_M_foldSet a_M_foldEdges a_M_foldNeeds a_M_foldYards a_M_least a_M_ways a_M_price a_M_rowBy a_M_columnBy a_M_rowOf a_M_wayBack a_M_slack a_M_isUsed a_M_lifted a_M_freed a_M_path M_wide M_high M_hedges M_hurdles M_wants M_rest M_frozen M_bytes M_position M_tokenAt M_token M_digits M_number M_faultAt M_readMany M_readWide M_readHigh M_nights M_why M_folds M_square M_want M_text M_read M_row M_foldSet M_foldEdges M_foldNeeds M_foldYards M_least M_ways M_price M_rowBy M_columnBy M_rowOf M_wayBack M_slack M_isUsed M_lifted M_freed M_path) lv pc [.int v]) (hB16 : ∀ (x2 : Int32), B16 x2 → J x 0 0 4 (W_Model cyI cyJ cyZ a_M a_M_square a_M_want a_M_text a_M_read a_M_row a_M_foldSet a_M_foldEdges a_M_foldNeeds a_M_foldYards a_M_least a_M_ways a_M_price a_M_rowBy a_M_columnBy a_M_rowOf a_M_wayBack a_M_slack a_M_isUsed a_M_lifted a_M_freed a_M_path M_wide M_high M_hedges M_hurdles M_wants M_rest M_frozen M_bytes M_position M_tokenAt M_token M_digits M_number M_faultAt M_readMany M_readWide M_readHigh M_nights M_why M_folds M_square M_want M_text M_read M_row M_foldSet M_foldEdges M_foldNeeds M_foldYards M_least M_ways M_price M_rowBy M_columnBy M_rowOf M_wayBack M_slack M_isUsed M_lifted M_freed M_path) [(0, .ref a_M), (1, .int p1), (2, .int x2)] 16 []) (h : bd_X11_isFold_16 Q B16 p1 M_wide M_high M_square x2) :
    J x 0 0 4 (W_Model cyI cyJ cyZ a_M a_M_square a_M_want a_M_text a_M_read a_M_row a_M_foldSet a_M_foldEdges a_M_foldNeeds a_M_foldYards a_M_least a_M_ways a_M_price a_M_rowBy a_M_columnBy a_M_rowOf a_M_wayBack a_M_slack a_M_isUsed a_M_lifted a_M_freed a_M_path M_wide M_high M_hedges M_hurdles M_wants M_rest M_frozen M_bytes M_position M_tokenAt M_token M_digits M_number M_faultAt M_readMany M_readWide M_readHigh M_nights M_why M_folds M_square M_want M_text M_read M_row M_foldSet M_foldEdges M_foldNeeds M_foldYards M_least M_ways M_price M_rowBy M_columnBy M_rowOf M_wayBack M_slack M_isUsed M_lifted M_freed M_path) [(0, .ref a_M), (1, .int p1), (2, .int x2)] 16 [] := by
  unfold bd_X11_isFold_16 at h
  refine j_iload_n cx 2 rfl rfl dX11_isFold_16 (pn := 17) rfl ?_
  refine j_aload_n cx 0 rfl rfl dX11_isFold_17 (pn := 18) rfl ?_
  refine j_callvI0 cx q_inst_X11_squares q_sel_X11_squares (b := a_M) (As := []) (rest := [.int x2]) (c_X11_squares h) ⟨q_code_X11_squares, q_ml_X11_86, q_init_X11, hd_X11_squares, ⟨Nat.le_of_ble_eq_true rfl, Nat.le_of_ble_eq_true rfl⟩, Nat.le_of_ble_eq_true rfl, Nat.le_of_ble_eq_true rfl⟩ (q0 := 0) rfl rfl rfl rfl (Nat.le_of_ble_eq_true rfl) dX11_isFold_18 (pn := 21) rfl (fun r4 _ h => ?_)
  show J x 0 0 4 (W_Model cyI cyJ cyZ a_M a_M_square a_M_want a_M_text a_M_read a_M_row a_M_foldSet a_M_foldEdges a_M_foldNeeds a_M_foldYards a_M_least a_M_ways a_M_price a_M_rowBy a_M_columnBy a_M_rowOf a_M_wayBack a_M_slack a_M_isUsed a_M_lifted a_M_freed a_M_path M_wide M_high M_hedges M_hurdles M_wants M_rest M_frozen M_bytes M_position M_tokenAt M_token M_digits M_number M_faultAt M_readMany M_readWide M_readHigh M_nights M_why M_folds M_square M_want M_text M_read M_row M_foldSet M_foldEdges M_foldNeeds M_foldYards M_least M_ways M_price M_rowBy M_columnBy M_rowOf M_wayBack M_slack M_isUsed M_lifted M_freed M_path) [(0, .ref a_M), (1, .int p1), (2, .int x2)] 21 [.int r4, .int x2]
  refine j_icmp_ge cx 52 dX11_isFold_21 (pn := 24) rfl rfl (fun c5 => ?_) (fun c5 => ?_)
  · have h := h.1 c5
    refine j_iload_n cx 1 rfl rfl dX11_isFold_52 (pn := 53) rfl ?_
    refine j_iload_n cx 1 rfl rfl dX11_isFold_53 (pn := 54) rfl ?_
    refine j_ineg cx dX11_isFold_54 (pn := 55) rfl ?_
    refine j_iand cx dX11_isFold_55 (pn := 56) rfl ?_
    refine j_topi (fun y6 ey6 => ?_)
    have h := h y6 ey6
    refine j_istore_n cx rfl [(2, .int y6), (0, .ref a_M), (1, .int p1)] (by decide) rfl dX11_isFold_56 (pn := 57) rfl ?_
    refine j_iconst cx (v := 0) (by decide) dX11_isFold_57 (pn := 58) rfl ?_
    refine j_istore_n cx rfl [(3, .int 0), (2, .int y6), (0, .ref a_M), (1, .int p1)] (by decide) rfl dX11_isFold_58 (pn := 59) rfl ?_
    refine j_sub [2, 3, 1, 0] [(0, .ref a_M), (1, .int p1), (2, .int y6), (3, .int 0)] rfl ?_
    exact J_X11_isFold_59 cx hR h
  · have h := h.2 c5
    refine j_iload_n cx 1 rfl rfl dX11_isFold_24 (pn := 25) rfl ?_
    refine j_iload_n cx 2 rfl rfl dX11_isFold_25 (pn := 26) rfl ?_
    refine j_ishr cx dX11_isFold_26 (pn := 27) rfl ?_
    refine j_iconst cx (v := 1) (by decide) dX11_isFold_27 (pn := 28) rfl ?_
    refine j_iand cx dX11_isFold_28 (pn := 29) rfl ?_
    refine j_iconst cx (v := 1) (by decide) dX11_isFold_29 (pn := 30) rfl ?_
    refine j_icmp_ne cx 46 dX11_isFold_30 (pn := 33) rfl rfl (fun c12 => ?_) (fun c12 => ?_)
    · have h := h.1 c12
      exact J_X11_isFold_46 cx hR hB16 h
    · have h := h.2 c12
      refine j_aload_n cx 0 rfl rfl dX11_isFold_33 (pn := 34) rfl ?_
      refine j_get cx inGX11 0 rfl rfl 2 (by decide) q_fl_X11_16 rfl rfl dX11_isFold_34 (pn := 37) rfl ?_
      refine j_iload_n cx 2 rfl rfl dX11_isFold_37 (pn := 38) rfl ?_
      refine j_iald cx 1 0 rfl rfl h.1 dX11_isFold_38 (pn := 39) rfl ?_
      have h := h.2
      refine j_bipush cx (v := 9) (by decide) dX11_isFold_39 (pn := 41) rfl ?_
      refine j_icmp_le cx 46 dX11_isFold_41 (pn := 44) rfl rfl (fun c14 => ?_) (fun c14 => ?_)
      · have h := h.1 c14
        exact J_X11_isFold_46 cx hR hB16 h
      · have h := h.2 c14
        refine j_iconst cx (v := 0) (by decide) dX11_isFold_44 (pn := 45) rfl ?_
        exact hR 0 45 _ dX11_isFold_45 (Or.inl rfl) h
set_option maxHeartbeats 4000000 in
set_option maxRecDepth 100000 in
theorem J_X11_isFold_16 {x : CX} {D : DG} {cyI cyJ cyZ : ClassId} {a_M a_M_square a_M_want a_M_text a_M_read a_M_row a_M_foldSet a_M_foldEdges a_M_foldNeeds a_M_foldYards a_M_least a_M_ways a_M_price a_M_rowBy a_M_columnBy a_M_rowOf a_M_wayBack a_M_slack a_M_isUsed a_M_lifted a_M_freed a_M_path : Nat} {M_wide : Int32} {M_high : Int32} {M_hedges : Int64} {M_hurdles : Int32} {M_wants : Int32} {M_rest : Int32} {M_frozen : Int32} {M_bytes : Int32} {M_position : Int32} {M_tokenAt : Int32} {M_token : Int64} {M_digits : Int32} {M_number : Int32} {M_faultAt : Int32} {M_readMany : Int32} {M_readWide : Int32} {M_readHigh : Int32} {M_nights : Int32} {M_why : Int32} {M_folds : Int32} {M_square : Nat → Int32} {M_want : Nat → Int32} {M_text : Nat → Int32} {M_read : Nat → Int32} {M_row : Nat → Int32} {M_foldSet : Nat → Int32} {M_foldEdges : Nat → Int64} {M_foldNeeds : Nat → Int32} {M_foldYards : Nat → Int32} {M_least : Nat → Int32} {M_ways : Nat → Int32} {M_price : Nat → Int32} {M_rowBy : Nat → Int32} {M_columnBy : Nat → Int32} {M_rowOf : Nat → Int32} {M_wayBack : Nat → Int32} {M_slack : Nat → Int32} {M_isUsed : Nat → Int32} {M_lifted : Nat → Int32} {M_freed : Nat → Int32} {M_path : Nat → Int32} {p1 : Int32} {x2 : Int32} {Q : Int32 → Prop} (cx : Cx x cX11_isFold 4 RX11 rm_X11_isFold D [(cyI, .int), (cyJ, .long), (cyZ, .boolean)]) (hR : ∀ (v : Int32) (pc : Nat) (lv : List (Nat × Value)), decode cX11_isFold pc = .ok (.ireturn, 1) → (v = 0 ∨ v = 1) → Q v → J x 0 0 4 (W_Model cyI cyJ cyZ a_M a_M_square a_M_want a_M_text a_M_read a_M_row a_M_foldSet a_M_foldEdges a_M_foldNeeds a_M_foldYards a_M_least a_M_ways a_M_price a_M_rowBy a_M_columnBy a_M_rowOf a_M_wayBack a_M_slack a_M_isUsed a_M_lifted a_M_freed a_M_path M_wide M_high M_hedges M_hurdles M_wants M_rest M_frozen M_bytes M_position M_tokenAt M_token M_digits M_number M_faultAt M_readMany M_readWide M_readHigh M_nights M_why M_folds M_square M_want M_text M_read M_row M_foldSet M_foldEdges M_foldNeeds M_foldYards M_least M_ways M_price M_rowBy M_columnBy M_rowOf M_wayBack M_slack M_isUsed M_lifted M_freed M_path) lv pc [.int v]) (h : lp_X11_isFold_16 Q  p1 M_wide M_high M_square x2) :
    J x 0 0 4 (W_Model cyI cyJ cyZ a_M a_M_square a_M_want a_M_text a_M_read a_M_row a_M_foldSet a_M_foldEdges a_M_foldNeeds a_M_foldYards a_M_least a_M_ways a_M_price a_M_rowBy a_M_columnBy a_M_rowOf a_M_wayBack a_M_slack a_M_isUsed a_M_lifted a_M_freed a_M_path M_wide M_high M_hedges M_hurdles M_wants M_rest M_frozen M_bytes M_position M_tokenAt M_token M_digits M_number M_faultAt M_readMany M_readWide M_readHigh M_nights M_why M_folds M_square M_want M_text M_read M_row M_foldSet M_foldEdges M_foldNeeds M_foldYards M_least M_ways M_price M_rowBy M_columnBy M_rowOf M_wayBack M_slack M_isUsed M_lifted M_freed M_path) [(0, .ref a_M), (1, .int p1), (2, .int x2)] 16 [] := by
  obtain ⟨I, ⟨n, h0⟩, hb⟩ := h
  revert x2
  induction n using Nat.strongRecOn with
  | _ n ih =>
    intro x2 h0
    exact B_X11_isFold_16 cx hR (fun _ hz => by obtain ⟨n2, hlt, hI⟩ := hz; exact ih n2 hlt hI) (hb n x2 h0)
set_option maxHeartbeats 4000000 in
set_option maxRecDepth 100000 in
theorem c_X11_isFold {D : DG} {cyI cyJ cyZ : ClassId} {a_M a_M_square a_M_want a_M_text a_M_read a_M_row a_M_foldSet a_M_foldEdges a_M_foldNeeds a_M_foldYards a_M_least a_M_ways a_M_price a_M_rowBy a_M_columnBy a_M_rowOf a_M_wayBack a_M_slack a_M_isUsed a_M_lifted a_M_freed a_M_path : Nat} {M_wide : Int32} {M_high : Int32} {M_hedges : Int64} {M_hurdles : Int32} {M_wants : Int32} {M_rest : Int32} {M_frozen : Int32} {M_bytes : Int32} {M_position : Int32} {M_tokenAt : Int32} {M_token : Int64} {M_digits : Int32} {M_number : Int32} {M_faultAt : Int32} {M_readMany : Int32} {M_readWide : Int32} {M_readHigh : Int32} {M_nights : Int32} {M_why : Int32} {M_folds : Int32} {M_square : Nat → Int32} {M_want : Nat → Int32} {M_text : Nat → Int32} {M_read : Nat → Int32} {M_row : Nat → Int32} {M_foldSet : Nat → Int32} {M_foldEdges : Nat → Int64} {M_foldNeeds : Nat → Int32} {M_foldYards : Nat → Int32} {M_least : Nat → Int32} {M_ways : Nat → Int32} {M_price : Nat → Int32} {M_rowBy : Nat → Int32} {M_columnBy : Nat → Int32} {M_rowOf : Nat → Int32} {M_wayBack : Nat → Int32} {M_slack : Nat → Int32} {M_isUsed : Nat → Int32} {M_lifted : Nat → Int32} {M_freed : Nat → Int32} {M_path : Nat → Int32} {p1 : Int32} {Q : Int32 → Prop} (h : wp_X11_isFold p1 M_wide M_high M_square Q) :
    MetI yX11_isFold cX11_isFold 4 (some .boolean) rm_X11_isFold D [(cyI, .int), (cyJ, .long), (cyZ, .boolean)] [.ref a_M, .int p1] (W_Model cyI cyJ cyZ a_M a_M_square a_M_want a_M_text a_M_read a_M_row a_M_foldSet a_M_foldEdges a_M_foldNeeds a_M_foldYards a_M_least a_M_ways a_M_price a_M_rowBy a_M_columnBy a_M_rowOf a_M_wayBack a_M_slack a_M_isUsed a_M_lifted a_M_freed a_M_path M_wide M_high M_hedges M_hurdles M_wants M_rest M_frozen M_bytes M_position M_tokenAt M_token M_digits M_number M_faultAt M_readMany M_readWide M_readHigh M_nights M_why M_folds M_square M_want M_text M_read M_row M_foldSet M_foldEdges M_foldNeeds M_foldYards M_least M_ways M_price M_rowBy M_columnBy M_rowOf M_wayBack M_slack M_isUsed M_lifted M_freed M_path) (fun _ : Unit => (W_Model cyI cyJ cyZ a_M a_M_square a_M_want a_M_text a_M_read a_M_row a_M_foldSet a_M_foldEdges a_M_foldNeeds a_M_foldYards a_M_least a_M_ways a_M_price a_M_rowBy a_M_columnBy a_M_rowOf a_M_wayBack a_M_slack a_M_isUsed a_M_lifted a_M_freed a_M_path M_wide M_high M_hedges M_hurdles M_wants M_rest M_frozen M_bytes M_position M_tokenAt M_token M_digits M_number M_faultAt M_readMany M_readWide M_readHigh M_nights M_why M_folds M_square M_want M_text M_read M_row M_foldSet M_foldEdges M_foldNeeds M_foldYards M_least M_ways M_price M_rowBy M_columnBy M_rowOf M_wayBack M_slack M_isUsed M_lifted M_freed M_path)) (fun v _ => Q v ) := by
  unfold wp_X11_isFold at h
  refine metZ_of (by decide) (Nat.le_of_ble_eq_true rfl) (fun x cx0 hR0 => ?_)
  have cx : Cx x cX11_isFold 4 RX11 rm_X11_isFold D [(cyI, .int), (cyJ, .long), (cyZ, .boolean)] := cx0
  have hR : ∀ (v : Int32) (pc : Nat) (lv : List (Nat × Value)), decode cX11_isFold pc = .ok (.ireturn, 1) → (v = 0 ∨ v = 1) → Q v → J x 0 0 4 (W_Model cyI cyJ cyZ a_M a_M_square a_M_want a_M_text a_M_read a_M_row a_M_foldSet a_M_foldEdges a_M_foldNeeds a_M_foldYards a_M_least a_M_ways a_M_price a_M_rowBy a_M_columnBy a_M_rowOf a_M_wayBack a_M_slack a_M_isUsed a_M_lifted a_M_freed a_M_path M_wide M_high M_hedges M_hurdles M_wants M_rest M_frozen M_bytes M_position M_tokenAt M_token M_digits M_number M_faultAt M_readMany M_readWide M_readHigh M_nights M_why M_folds M_square M_want M_text M_read M_row M_foldSet M_foldEdges M_foldNeeds M_foldYards M_least M_ways M_price M_rowBy M_columnBy M_rowOf M_wayBack M_slack M_isUsed M_lifted M_freed M_path) lv pc [.int v] := (fun v pc lv d hz hq => hR0 v () pc lv d hz hq)
  show J x 0 0 4 (W_Model cyI cyJ cyZ a_M a_M_square a_M_want a_M_text a_M_read a_M_row a_M_foldSet a_M_foldEdges a_M_foldNeeds a_M_foldYards a_M_least a_M_ways a_M_price a_M_rowBy a_M_columnBy a_M_rowOf a_M_wayBack a_M_slack a_M_isUsed a_M_lifted a_M_freed a_M_path M_wide M_high M_hedges M_hurdles M_wants M_rest M_frozen M_bytes M_position M_tokenAt M_token M_digits M_number M_faultAt M_readMany M_readWide M_readHigh M_nights M_why M_folds M_square M_want M_text M_read M_row M_foldSet M_foldEdges M_foldNeeds M_foldYards M_least M_ways M_price M_rowBy M_columnBy M_rowOf M_wayBack M_slack M_isUsed M_lifted M_freed M_path) [(0, .ref a_M), (1, .int p1)] 0 []
  refine j_iload_n cx 1 rfl rfl dX11_isFold_0 (pn := 1) rfl ?_
  refine j_if_le cx 12 dX11_isFold_1 (pn := 4) rfl rfl (fun c1 => ?_) (fun c1 => ?_)
  · have h := h.1 c1
    refine j_iconst cx (v := 0) (by decide) dX11_isFold_12 (pn := 13) rfl ?_
    exact hR 0 13 _ dX11_isFold_13 (Or.inl rfl) h
  · have h := h.2 c1
    refine j_aload_n cx 0 rfl rfl dX11_isFold_4 (pn := 5) rfl ?_
    refine j_iload_n cx 1 rfl rfl dX11_isFold_5 (pn := 6) rfl ?_
    refine j_callvI0 cx q_inst_X11_isSet q_sel_X11_isSet (b := a_M) (As := [.int p1]) (rest := []) (c_X11_isSet h) ⟨q_code_X11_isSet, q_ml_X11_231, q_init_X11, hd_X11_isSet, ⟨Nat.le_of_ble_eq_true rfl, Nat.le_of_ble_eq_true rfl⟩, Nat.le_of_ble_eq_true rfl, Nat.le_of_ble_eq_true rfl⟩ (q0 := 0) rfl rfl rfl rfl (Nat.le_of_ble_eq_true rfl) dX11_isFold_6 (pn := 9) rfl (fun r2 _ h => ?_)
    show J x 0 0 4 (W_Model cyI cyJ cyZ a_M a_M_square a_M_want a_M_text a_M_read a_M_row a_M_foldSet a_M_foldEdges a_M_foldNeeds a_M_foldYards a_M_least a_M_ways a_M_price a_M_rowBy a_M_columnBy a_M_rowOf a_M_wayBack a_M_slack a_M_isUsed a_M_lifted a_M_freed a_M_path M_wide M_high M_hedges M_hurdles M_wants M_rest M_frozen M_bytes M_position M_tokenAt M_token M_digits M_number M_faultAt M_readMany M_readWide M_readHigh M_nights M_why M_folds M_square M_want M_text M_read M_row M_foldSet M_foldEdges M_foldNeeds M_foldYards M_least M_ways M_price M_rowBy M_columnBy M_rowOf M_wayBack M_slack M_isUsed M_lifted M_freed M_path) [(0, .ref a_M), (1, .int p1)] 9 [.int r2]
    refine j_if_ne cx 14 dX11_isFold_9 (pn := 12) rfl rfl (fun c3 => ?_) (fun c3 => ?_)
    · have h := h.1 c3
      refine j_iconst cx (v := 0) (by decide) dX11_isFold_14 (pn := 15) rfl ?_
      refine j_istore_n cx rfl [(2, .int 0), (0, .ref a_M), (1, .int p1)] (by decide) rfl dX11_isFold_15 (pn := 16) rfl ?_
      refine j_sub [1, 2, 0] [(0, .ref a_M), (1, .int p1), (2, .int 0)] rfl ?_
      exact J_X11_isFold_16 cx hR h
    · have h := h.2 c3
      refine j_iconst cx (v := 0) (by decide) dX11_isFold_12 (pn := 13) rfl ?_
      exact hR 0 13 _ dX11_isFold_13 (Or.inl rfl) h
theorem dX11_edgesOf_0 : decode cX11_edgesOf 0 = .ok (.lconst 0, 1) := by decide +kernel
theorem dX11_edgesOf_1 : decode cX11_edgesOf 1 = .ok (.lstore_n 2, 1) := by decide +kernel
theorem dX11_edgesOf_2 : decode cX11_edgesOf 2 = .ok (.iconst 0, 1) := by decide +kernel
theorem dX11_edgesOf_3 : decode cX11_edgesOf 3 = .ok (.istore 4, 2) := by decide +kernel
theorem dX11_edgesOf_5 : decode cX11_edgesOf 5 = .ok (.iload 4, 2) := by decide +kernel
theorem dX11_edgesOf_7 : decode cX11_edgesOf 7 = .ok (.aload_n 0, 1) := by decide +kernel
theorem dX11_edgesOf_8 : decode cX11_edgesOf 8 = .ok (.invokevirtual 86, 3) := by decide +kernel
theorem dX11_edgesOf_11 : decode cX11_edgesOf 11 = .ok (.if_icmp .ge 135, 3) := by decide +kernel
theorem dX11_edgesOf_14 : decode cX11_edgesOf 14 = .ok (.iconst 0, 1) := by decide +kernel
theorem dX11_edgesOf_15 : decode cX11_edgesOf 15 = .ok (.istore 5, 2) := by decide +kernel
theorem dX11_edgesOf_17 : decode cX11_edgesOf 17 = .ok (.iload 5, 2) := by decide +kernel
theorem dX11_edgesOf_19 : decode cX11_edgesOf 19 = .ok (.iconst 4, 1) := by decide +kernel
theorem dX11_edgesOf_20 : decode cX11_edgesOf 20 = .ok (.if_icmp .ge 120, 3) := by decide +kernel
theorem dX11_edgesOf_23 : decode cX11_edgesOf 23 = .ok (.iload_n 1, 1) := by decide +kernel
theorem dX11_edgesOf_24 : decode cX11_edgesOf 24 = .ok (.iload 4, 2) := by decide +kernel
theorem dX11_edgesOf_26 : decode cX11_edgesOf 26 = .ok (.ishr, 1) := by decide +kernel
theorem dX11_edgesOf_27 : decode cX11_edgesOf 27 = .ok (.iconst 1, 1) := by decide +kernel
theorem dX11_edgesOf_28 : decode cX11_edgesOf 28 = .ok (.iand, 1) := by decide +kernel
theorem dX11_edgesOf_29 : decode cX11_edgesOf 29 = .ok (.iconst 1, 1) := by decide +kernel
theorem dX11_edgesOf_30 : decode cX11_edgesOf 30 = .ok (.if_icmp .ne 110, 3) := by decide +kernel
theorem dX11_edgesOf_33 : decode cX11_edgesOf 33 = .ok (.aload_n 0, 1) := by decide +kernel
theorem dX11_edgesOf_34 : decode cX11_edgesOf 34 = .ok (.iload 4, 2) := by decide +kernel
theorem dX11_edgesOf_36 : decode cX11_edgesOf 36 = .ok (.iload 5, 2) := by decide +kernel
theorem dX11_edgesOf_38 : decode cX11_edgesOf 38 = .ok (.invokevirtual 228, 3) := by decide +kernel
theorem dX11_edgesOf_41 : decode cX11_edgesOf 41 = .ok (.istore 6, 2) := by decide +kernel
theorem dX11_edgesOf_43 : decode cX11_edgesOf 43 = .ok (.lconst 1, 1) := by decide +kernel
theorem dX11_edgesOf_44 : decode cX11_edgesOf 44 = .ok (.aload_n 0, 1) := by decide +kernel
theorem dX11_edgesOf_45 : decode cX11_edgesOf 45 = .ok (.iload 4, 2) := by decide +kernel
theorem dX11_edgesOf_47 : decode cX11_edgesOf 47 = .ok (.iload 5, 2) := by decide +kernel
theorem dX11_edgesOf_49 : decode cX11_edgesOf 49 = .ok (.invokevirtual 201, 3) := by decide +kernel
theorem dX11_edgesOf_52 : decode cX11_edgesOf 52 = .ok (.lshl, 1) := by decide +kernel
theorem dX11_edgesOf_53 : decode cX11_edgesOf 53 = .ok (.lstore 7, 2) := by decide +kernel
theorem dX11_edgesOf_55 : decode cX11_edgesOf 55 = .ok (.iload 6, 2) := by decide +kernel
theorem dX11_edgesOf_57 : decode cX11_edgesOf 57 = .ok (.iconst (-1), 1) := by decide +kernel
theorem dX11_edgesOf_58 : decode cX11_edgesOf 58 = .ok (.if_icmp .eq 17, 3) := by decide +kernel
theorem dX11_edgesOf_61 : decode cX11_edgesOf 61 = .ok (.iload_n 1, 1) := by decide +kernel
theorem dX11_edgesOf_62 : decode cX11_edgesOf 62 = .ok (.iload 6, 2) := by decide +kernel
theorem dX11_edgesOf_64 : decode cX11_edgesOf 64 = .ok (.ishr, 1) := by decide +kernel
theorem dX11_edgesOf_65 : decode cX11_edgesOf 65 = .ok (.iconst 1, 1) := by decide +kernel
theorem dX11_edgesOf_66 : decode cX11_edgesOf 66 = .ok (.iand, 1) := by decide +kernel
theorem dX11_edgesOf_67 : decode cX11_edgesOf 67 = .ok (.iconst 1, 1) := by decide +kernel
theorem dX11_edgesOf_68 : decode cX11_edgesOf 68 = .ok (.if_icmp .ne 7, 3) := by decide +kernel
theorem dX11_edgesOf_71 : decode cX11_edgesOf 71 = .ok (.iconst 1, 1) := by decide +kernel
theorem dX11_edgesOf_72 : decode cX11_edgesOf 72 = .ok (.goto 4, 3) := by decide +kernel
theorem dX11_edgesOf_75 : decode cX11_edgesOf 75 = .ok (.iconst 0, 1) := by decide +kernel
theorem dX11_edgesOf_76 : decode cX11_edgesOf 76 = .ok (.istore 9, 2) := by decide +kernel
theorem dX11_edgesOf_78 : decode cX11_edgesOf 78 = .ok (.iload 6, 2) := by decide +kernel
theorem dX11_edgesOf_80 : decode cX11_edgesOf 80 = .ok (.iconst (-1), 1) := by decide +kernel
theorem dX11_edgesOf_81 : decode cX11_edgesOf 81 = .ok (.if_icmp .eq 19, 3) := by decide +kernel
theorem dX11_edgesOf_84 : decode cX11_edgesOf 84 = .ok (.aload_n 0, 1) := by decide +kernel
theorem dX11_edgesOf_85 : decode cX11_edgesOf 85 = .ok (.getfield 16, 3) := by decide +kernel
theorem dX11_edgesOf_88 : decode cX11_edgesOf 88 = .ok (.iload 6, 2) := by decide +kernel
theorem dX11_edgesOf_90 : decode cX11_edgesOf 90 = .ok (.iaload, 1) := by decide +kernel
theorem dX11_edgesOf_91 : decode cX11_edgesOf 91 = .ok (.bipush 10, 2) := by decide +kernel
theorem dX11_edgesOf_93 : decode cX11_edgesOf 93 = .ok (.if_icmp .ne 7, 3) := by decide +kernel
theorem dX11_edgesOf_96 : decode cX11_edgesOf 96 = .ok (.iconst 1, 1) := by decide +kernel
theorem dX11_edgesOf_97 : decode cX11_edgesOf 97 = .ok (.goto 4, 3) := by decide +kernel
theorem dX11_edgesOf_100 : decode cX11_edgesOf 100 = .ok (.iconst 0, 1) := by decide +kernel
theorem dX11_edgesOf_101 : decode cX11_edgesOf 101 = .ok (.istore 10, 2) := by decide +kernel
theorem dX11_edgesOf_103 : decode cX11_edgesOf 103 = .ok (.lload_n 2, 1) := by decide +kernel
theorem dX11_edgesOf_104 : decode cX11_edgesOf 104 = .ok (.iload 9, 2) := by decide +kernel
theorem dX11_edgesOf_106 : decode cX11_edgesOf 106 = .ok (.ifCond .ne 20, 3) := by decide +kernel
theorem dX11_edgesOf_109 : decode cX11_edgesOf 109 = .ok (.iload 10, 2) := by decide +kernel
theorem dX11_edgesOf_111 : decode cX11_edgesOf 111 = .ok (.ifCond .ne 15, 3) := by decide +kernel
theorem dX11_edgesOf_114 : decode cX11_edgesOf 114 = .ok (.aload_n 0, 1) := by decide +kernel
theorem dX11_edgesOf_115 : decode cX11_edgesOf 115 = .ok (.getfield 195, 3) := by decide +kernel
theorem dX11_edgesOf_118 : decode cX11_edgesOf 118 = .ok (.lload 7, 2) := by decide +kernel
theorem dX11_edgesOf_120 : decode cX11_edgesOf 120 = .ok (.land, 1) := by decide +kernel
theorem dX11_edgesOf_121 : decode cX11_edgesOf 121 = .ok (.lconst 0, 1) := by decide +kernel
theorem dX11_edgesOf_122 : decode cX11_edgesOf 122 = .ok (.lcmp, 1) := by decide +kernel
theorem dX11_edgesOf_123 : decode cX11_edgesOf 123 = .ok (.ifCond .eq 7, 3) := by decide +kernel
theorem dX11_edgesOf_126 : decode cX11_edgesOf 126 = .ok (.lconst 0, 1) := by decide +kernel
theorem dX11_edgesOf_127 : decode cX11_edgesOf 127 = .ok (.goto 5, 3) := by decide +kernel
theorem dX11_edgesOf_130 : decode cX11_edgesOf 130 = .ok (.lload 7, 2) := by decide +kernel
theorem dX11_edgesOf_132 : decode cX11_edgesOf 132 = .ok (.lor, 1) := by decide +kernel
theorem dX11_edgesOf_133 : decode cX11_edgesOf 133 = .ok (.lstore_n 2, 1) := by decide +kernel
theorem dX11_edgesOf_134 : decode cX11_edgesOf 134 = .ok (.iinc 5 1, 3) := by decide +kernel
theorem dX11_edgesOf_137 : decode cX11_edgesOf 137 = .ok (.goto (-120), 3) := by decide +kernel
theorem dX11_edgesOf_140 : decode cX11_edgesOf 140 = .ok (.iinc 4 1, 3) := by decide +kernel
theorem dX11_edgesOf_143 : decode cX11_edgesOf 143 = .ok (.goto (-138), 3) := by decide +kernel
theorem dX11_edgesOf_146 : decode cX11_edgesOf 146 = .ok (.lload_n 2, 1) := by decide +kernel
theorem dX11_edgesOf_147 : decode cX11_edgesOf 147 = .ok (.lreturn, 1) := by decide +kernel
abbrev rm_X11_edgesOf : Room := { frames := 2, cells := 0, slots := 0, locals := 46 }
theorem hd_X11_edgesOf : yX11_edgesOf.cls ≠ "java/lang/invoke/MethodHandle" ∧ yX11_edgesOf.cls ≠ "java/lang/invoke/VarHandle" ∧ (parseMethodDescriptor yX11_edgesOf.desc).map (fun d => d.parameters.length) = some 1 := by decide +kernel
def bk_X11_edgesOf_140 (Q : Int64 → Prop) (B5 : Int64 → Int32 → Prop) (xl2 : Int64) (x4 : Int32) : Prop :=
∀ y4 : Int32, y4 = (x4 + 1) →
B5 xl2 y4
def bk_X11_edgesOf_132 (Q : Int64 → Prop) (B5 : Int64 → Int32 → Prop) (B17 : Int64 → Int32 → Prop) (x5 : Int32) (s0 : Int64) (s1 : Int64) : Prop :=
∀ y12 : Int64, y12 = (s1 ||| s0) →
∀ y13 : Int32, y13 = (x5 + 1) →
B17 y12 y13
def bk_X11_edgesOf_126 (Q : Int64 → Prop) (B5 : Int64 → Int32 → Prop) (B17 : Int64 → Int32 → Prop) (x5 : Int32) (s0 : Int64) : Prop :=
bk_X11_edgesOf_132 Q B5 B17 x5 0 s0
def bk_X11_edgesOf_101 (Q : Int64 → Prop) (B5 : Int64 → Int32 → Prop) (B17 : Int64 → Int32 → Prop) (xl2 : Int64) (x5 : Int32) (xl7 : Int64) (x9 : Int32) (M_hedges : Int64) (s0 : Int32) : Prop :=
((¬ x9 = 0 → bk_X11_edgesOf_126 Q B5 B17 x5 xl2) ∧
(x9 = 0 → ((¬ s0 = 0 → bk_X11_edgesOf_126 Q B5 B17 x5 xl2) ∧
(s0 = 0 → (((M_hedges &&& xl7) = 0 → bk_X11_edgesOf_132 Q B5 B17 x5 xl7 xl2) ∧
(¬ (M_hedges &&& xl7) = 0 → bk_X11_edgesOf_126 Q B5 B17 x5 xl2))))))
def bk_X11_edgesOf_100 (Q : Int64 → Prop) (B5 : Int64 → Int32 → Prop) (B17 : Int64 → Int32 → Prop) (xl2 : Int64) (x5 : Int32) (xl7 : Int64) (x9 : Int32) (M_hedges : Int64) : Prop :=
bk_X11_edgesOf_101 Q B5 B17 xl2 x5 xl7 x9 M_hedges 0
def bk_X11_edgesOf_76 (Q : Int64 → Prop) (B5 : Int64 → Int32 → Prop) (B17 : Int64 → Int32 → Prop) (xl2 : Int64) (x5 : Int32) (x6 : Int32) (xl7 : Int64) (M_hedges : Int64) (M_square : Nat → Int32) (s0 : Int32) : Prop :=
((x6 = (-1) → bk_X11_edgesOf_100 Q B5 B17 xl2 x5 xl7 s0 M_hedges) ∧
(¬ x6 = (-1) → vp_in x6 10 ∧ ((¬ (M_square x6.toNatClampNeg) = 10 → bk_X11_edgesOf_100 Q B5 B17 xl2 x5 xl7 s0 M_hedges) ∧
((M_square x6.toNatClampNeg) = 10 → bk_X11_edgesOf_101 Q B5 B17 xl2 x5 xl7 s0 M_hedges 1))))
def bk_X11_edgesOf_75 (Q : Int64 → Prop) (B5 : Int64 → Int32 → Prop) (B17 : Int64 → Int32 → Prop) (xl2 : Int64) (x5 : Int32) (x6 : Int32) (xl7 : Int64) (M_hedges : Int64) (M_square : Nat → Int32) : Prop :=
bk_X11_edgesOf_76 Q B5 B17 xl2 x5 x6 xl7 M_hedges M_square 0
def bd_X11_edgesOf_17 (Q : Int64 → Prop) (B5 : Int64 → Int32 → Prop) (B17 : Int64 → Int32 → Prop) (p1 : Int32) (x4 : Int32) (M_wide : Int32) (M_high : Int32) (M_hedges : Int64) (M_square : Nat → Int32) (xl2 : Int64) (x5 : Int32) : Prop :=
((4 ≤ x5 → bk_X11_edgesOf_140 Q B5 xl2 x4) ∧
(¬ 4 ≤ x5 → ((¬ ((p1 >>> (x4 &&& 31)) &&& 1) = 1 → bk_X11_edgesOf_140 Q B5 xl2 x4) ∧
(((p1 >>> (x4 &&& 31)) &&& 1) = 1 → wp_X11_besideOf x4 x5 M_wide M_high (fun (r6 : Int32) => wp_X11_edgeAt x4 x5 M_wide M_high (fun (r7 : Int32) => ∀ y8 : Int64, y8 = (1 <<< (r7.toInt64 &&& 63)) →
((r6 = (-1) → bk_X11_edgesOf_75 Q B5 B17 xl2 x5 r6 y8 M_hedges M_square) ∧
(¬ r6 = (-1) → ((¬ ((p1 >>> (r6 &&& 31)) &&& 1) = 1 → bk_X11_edgesOf_75 Q B5 B17 xl2 x5 r6 y8 M_hedges M_square) ∧
(((p1 >>> (r6 &&& 31)) &&& 1) = 1 → bk_X11_edgesOf_76 Q B5 B17 xl2 x5 r6 y8 M_hedges M_square 1))))))))))
def lp_X11_edgesOf_17 (Q : Int64 → Prop) (B5 : Int64 → Int32 → Prop) (p1 : Int32) (x4 : Int32) (M_wide : Int32) (M_high : Int32) (M_hedges : Int64) (M_square : Nat → Int32) (xl2 : Int64) (x5 : Int32) : Prop :=
∃ I : Nat → Int64 → Int32 → Prop, (∃ n, I n xl2 x5) ∧ ∀ n xl2 x5, I n xl2 x5 → bd_X11_edgesOf_17 Q B5 (fun xl2' x5' => ∃ n', n' < n ∧ I n' xl2' x5') p1 x4 M_wide M_high M_hedges M_square xl2 x5
def bd_X11_edgesOf_5 (Q : Int64 → Prop) (B5 : Int64 → Int32 → Prop) (p1 : Int32) (M_wide : Int32) (M_high : Int32) (M_hedges : Int64) (M_square : Nat → Int32) (xl2 : Int64) (x4 : Int32) : Prop :=
wp_X11_squares M_wide M_high (fun (r1 : Int32) => ((r1 ≤ x4 → Q xl2) ∧
(¬ r1 ≤ x4 → lp_X11_edgesOf_17 Q B5 p1 x4 M_wide M_high M_hedges M_square xl2 0)))
def lp_X11_edgesOf_5 (Q : Int64 → Prop) (p1 : Int32) (M_wide : Int32) (M_high : Int32) (M_hedges : Int64) (M_square : Nat → Int32) (xl2 : Int64) (x4 : Int32) : Prop :=
∃ I : Nat → Int64 → Int32 → Prop, (∃ n, I n xl2 x4) ∧ ∀ n xl2 x4, I n xl2 x4 → bd_X11_edgesOf_5 Q  (fun xl2' x4' => ∃ n', n' < n ∧ I n' xl2' x4') p1 M_wide M_high M_hedges M_square xl2 x4
def wp_X11_edgesOf (p1 : Int32) (M_wide : Int32) (M_high : Int32) (M_hedges : Int64) (M_square : Nat → Int32) (Q : Int64 → Prop) : Prop :=
lp_X11_edgesOf_5 Q p1 M_wide M_high M_hedges M_square 0 0
set_option maxHeartbeats 4000000 in
set_option maxRecDepth 100000 in
theorem J_X11_edgesOf_140 {x : CX} {D : DG} {cyI cyJ cyZ : ClassId} {a_M a_M_square a_M_want a_M_text a_M_read a_M_row a_M_foldSet a_M_foldEdges a_M_foldNeeds a_M_foldYards a_M_least a_M_ways a_M_price a_M_rowBy a_M_columnBy a_M_rowOf a_M_wayBack a_M_slack a_M_isUsed a_M_lifted a_M_freed a_M_path : Nat} {M_wide : Int32} {M_high : Int32} {M_hedges : Int64} {M_hurdles : Int32} {M_wants : Int32} {M_rest : Int32} {M_frozen : Int32} {M_bytes : Int32} {M_position : Int32} {M_tokenAt : Int32} {M_token : Int64} {M_digits : Int32} {M_number : Int32} {M_faultAt : Int32} {M_readMany : Int32} {M_readWide : Int32} {M_readHigh : Int32} {M_nights : Int32} {M_why : Int32} {M_folds : Int32} {M_square : Nat → Int32} {M_want : Nat → Int32} {M_text : Nat → Int32} {M_read : Nat → Int32} {M_row : Nat → Int32} {M_foldSet : Nat → Int32} {M_foldEdges : Nat → Int64} {M_foldNeeds : Nat → Int32} {M_foldYards : Nat → Int32} {M_least : Nat → Int32} {M_ways : Nat → Int32} {M_price : Nat → Int32} {M_rowBy : Nat → Int32} {M_columnBy : Nat → Int32} {M_rowOf : Nat → Int32} {M_wayBack : Nat → Int32} {M_slack : Nat → Int32} {M_isUsed : Nat → Int32} {M_lifted : Nat → Int32} {M_freed : Nat → Int32} {M_path : Nat → Int32} {p1 : Int32} {xl2 : Int64} {x4 : Int32} {Q : Int64 → Prop} {B5 : Int64 → Int32 → Prop} (cx : Cx x cX11_edgesOf 11 RX11 rm_X11_edgesOf D [(cyI, .int), (cyJ, .long), (cyZ, .boolean)]) (hR : ∀ (v : Int64) (pc : Nat) (lv : List (Nat × Value)), decode cX11_edgesOf pc = .ok (.lreturn, 1) → Q v → J x 0 0 11 (W_Model cyI cyJ cyZ a_M a_M_square a_M_want a_M_text a_M_read a_M_row a_M_foldSet a_M_foldEdges a_M_foldNeeds a_M_foldYards a_M_least a_M_ways a_M_price a_M_rowBy a_M_columnBy a_M_rowOf a_M_wayBack a_M_slack a_M_isUsed a_M_lifted a_M_freed a_M_path M_wide M_high M_hedges M_hurdles M_wants M_rest M_frozen M_bytes M_position M_tokenAt M_token M_digits M_number M_faultAt M_readMany M_readWide M_readHigh M_nights M_why M_folds M_square M_want M_text M_read M_row M_foldSet M_foldEdges M_foldNeeds M_foldYards M_least M_ways M_price M_rowBy M_columnBy M_rowOf M_wayBack M_slack M_isUsed M_lifted M_freed M_path) lv pc [.long v]) (hB5 : ∀ (xl2 : Int64) (x4 : Int32), B5 xl2 x4 → J x 0 0 11 (W_Model cyI cyJ cyZ a_M a_M_square a_M_want a_M_text a_M_read a_M_row a_M_foldSet a_M_foldEdges a_M_foldNeeds a_M_foldYards a_M_least a_M_ways a_M_price a_M_rowBy a_M_columnBy a_M_rowOf a_M_wayBack a_M_slack a_M_isUsed a_M_lifted a_M_freed a_M_path M_wide M_high M_hedges M_hurdles M_wants M_rest M_frozen M_bytes M_position M_tokenAt M_token M_digits M_number M_faultAt M_readMany M_readWide M_readHigh M_nights M_why M_folds M_square M_want M_text M_read M_row M_foldSet M_foldEdges M_foldNeeds M_foldYards M_least M_ways M_price M_rowBy M_columnBy M_rowOf M_wayBack M_slack M_isUsed M_lifted M_freed M_path) [(0, .ref a_M), (1, .int p1), (2, .long xl2), (4, .int x4)] 5 []) (h : bk_X11_edgesOf_140 Q B5 xl2 x4) :
    J x 0 0 11 (W_Model cyI cyJ cyZ a_M a_M_square a_M_want a_M_text a_M_read a_M_row a_M_foldSet a_M_foldEdges a_M_foldNeeds a_M_foldYards a_M_least a_M_ways a_M_price a_M_rowBy a_M_columnBy a_M_rowOf a_M_wayBack a_M_slack a_M_isUsed a_M_lifted a_M_freed a_M_path M_wide M_high M_hedges M_hurdles M_wants M_rest M_frozen M_bytes M_position M_tokenAt M_token M_digits M_number M_faultAt M_readMany M_readWide M_readHigh M_nights M_why M_folds M_square M_want M_text M_read M_row M_foldSet M_foldEdges M_foldNeeds M_foldYards M_least M_ways M_price M_rowBy M_columnBy M_rowOf M_wayBack M_slack M_isUsed M_lifted M_freed M_path) [(0, .ref a_M), (1, .int p1), (2, .long xl2), (4, .int x4)] 140 [] := by
  unfold bk_X11_edgesOf_140 at h
  obtain ⟨y4, ey4⟩ : ∃ z : Int32, z = x4 + 1 := ⟨_, rfl⟩
  have h := h y4 ey4
  refine j_iinc cx 3 rfl (cst := 1) (by decide) ey4 [(4, .int y4), (0, .ref a_M), (1, .int p1), (2, .long xl2)] (by decide) rfl dX11_edgesOf_140 (pn := 143) rfl ?_
  refine j_goto cx 5 dX11_edgesOf_143 rfl ?_
  refine j_sub [1, 2, 3, 0] [(0, .ref a_M), (1, .int p1), (2, .long xl2), (4, .int y4)] rfl ?_
  exact hB5 _ _ h
set_option maxHeartbeats 4000000 in
set_option maxRecDepth 100000 in
theorem J_X11_edgesOf_132 {x : CX} {D : DG} {cyI cyJ cyZ : ClassId} {a_M a_M_square a_M_want a_M_text a_M_read a_M_row a_M_foldSet a_M_foldEdges a_M_foldNeeds a_M_foldYards a_M_least a_M_ways a_M_price a_M_rowBy a_M_columnBy a_M_rowOf a_M_wayBack a_M_slack a_M_isUsed a_M_lifted a_M_freed a_M_path : Nat} {M_wide : Int32} {M_high : Int32} {M_hedges : Int64} {M_hurdles : Int32} {M_wants : Int32} {M_rest : Int32} {M_frozen : Int32} {M_bytes : Int32} {M_position : Int32} {M_tokenAt : Int32} {M_token : Int64} {M_digits : Int32} {M_number : Int32} {M_faultAt : Int32} {M_readMany : Int32} {M_readWide : Int32} {M_readHigh : Int32} {M_nights : Int32} {M_why : Int32} {M_folds : Int32} {M_square : Nat → Int32} {M_want : Nat → Int32} {M_text : Nat → Int32} {M_read : Nat → Int32} {M_row : Nat → Int32} {M_foldSet : Nat → Int32} {M_foldEdges : Nat → Int64} {M_foldNeeds : Nat → Int32} {M_foldYards : Nat → Int32} {M_least : Nat → Int32} {M_ways : Nat → Int32} {M_price : Nat → Int32} {M_rowBy : Nat → Int32} {M_columnBy : Nat → Int32} {M_rowOf : Nat → Int32} {M_wayBack : Nat → Int32} {M_slack : Nat → Int32} {M_isUsed : Nat → Int32} {M_lifted : Nat → Int32} {M_freed : Nat → Int32} {M_path : Nat → Int32} {p1 : Int32} {x4 : Int32} {x5 : Int32} {s0 : Int64} {s1 : Int64} {Q : Int64 → Prop} {B5 : Int64 → Int32 → Prop} {B17 : Int64 → Int32 → Prop} (cx : Cx x cX11_edgesOf 11 RX11 rm_X11_edgesOf D [(cyI, .int), (cyJ, .long), (cyZ, .boolean)]) (hR : ∀ (v : Int64) (pc : Nat) (lv : List (Nat × Value)), decode cX11_edgesOf pc = .ok (.lreturn, 1) → Q v → J x 0 0 11 (W_Model cyI cyJ cyZ a_M a_M_square a_M_want a_M_text a_M_read a_M_row a_M_foldSet a_M_foldEdges a_M_foldNeeds a_M_foldYards a_M_least a_M_ways a_M_price a_M_rowBy a_M_columnBy a_M_rowOf a_M_wayBack a_M_slack a_M_isUsed a_M_lifted a_M_freed a_M_path M_wide M_high M_hedges M_hurdles M_wants M_rest M_frozen M_bytes M_position M_tokenAt M_token M_digits M_number M_faultAt M_readMany M_readWide M_readHigh M_nights M_why M_folds M_square M_want M_text M_read M_row M_foldSet M_foldEdges M_foldNeeds M_foldYards M_least M_ways M_price M_rowBy M_columnBy M_rowOf M_wayBack M_slack M_isUsed M_lifted M_freed M_path) lv pc [.long v]) (hB5 : ∀ (xl2 : Int64) (x4 : Int32), B5 xl2 x4 → J x 0 0 11 (W_Model cyI cyJ cyZ a_M a_M_square a_M_want a_M_text a_M_read a_M_row a_M_foldSet a_M_foldEdges a_M_foldNeeds a_M_foldYards a_M_least a_M_ways a_M_price a_M_rowBy a_M_columnBy a_M_rowOf a_M_wayBack a_M_slack a_M_isUsed a_M_lifted a_M_freed a_M_path M_wide M_high M_hedges M_hurdles M_wants M_rest M_frozen M_bytes M_position M_tokenAt M_token M_digits M_number M_faultAt M_readMany M_readWide M_readHigh M_nights M_why M_folds M_square M_want M_text M_read M_row M_foldSet M_foldEdges M_foldNeeds M_foldYards M_least M_ways M_price M_rowBy M_columnBy M_rowOf M_wayBack M_slack M_isUsed M_lifted M_freed M_path) [(0, .ref a_M), (1, .int p1), (2, .long xl2), (4, .int x4)] 5 []) (hB17 : ∀ (xl2 : Int64) (x5 : Int32), B17 xl2 x5 → J x 0 0 11 (W_Model cyI cyJ cyZ a_M a_M_square a_M_want a_M_text a_M_read a_M_row a_M_foldSet a_M_foldEdges a_M_foldNeeds a_M_foldYards a_M_least a_M_ways a_M_price a_M_rowBy a_M_columnBy a_M_rowOf a_M_wayBack a_M_slack a_M_isUsed a_M_lifted a_M_freed a_M_path M_wide M_high M_hedges M_hurdles M_wants M_rest M_frozen M_bytes M_position M_tokenAt M_token M_digits M_number M_faultAt M_readMany M_readWide M_readHigh M_nights M_why M_folds M_square M_want M_text M_read M_row M_foldSet M_foldEdges M_foldNeeds M_foldYards M_least M_ways M_price M_rowBy M_columnBy M_rowOf M_wayBack M_slack M_isUsed M_lifted M_freed M_path) [(0, .ref a_M), (1, .int p1), (2, .long xl2), (4, .int x4), (5, .int x5)] 17 []) (h : bk_X11_edgesOf_132 Q B5 B17 x5 s0 s1) :
    J x 0 0 11 (W_Model cyI cyJ cyZ a_M a_M_square a_M_want a_M_text a_M_read a_M_row a_M_foldSet a_M_foldEdges a_M_foldNeeds a_M_foldYards a_M_least a_M_ways a_M_price a_M_rowBy a_M_columnBy a_M_rowOf a_M_wayBack a_M_slack a_M_isUsed a_M_lifted a_M_freed a_M_path M_wide M_high M_hedges M_hurdles M_wants M_rest M_frozen M_bytes M_position M_tokenAt M_token M_digits M_number M_faultAt M_readMany M_readWide M_readHigh M_nights M_why M_folds M_square M_want M_text M_read M_row M_foldSet M_foldEdges M_foldNeeds M_foldYards M_least M_ways M_price M_rowBy M_columnBy M_rowOf M_wayBack M_slack M_isUsed M_lifted M_freed M_path) [(0, .ref a_M), (1, .int p1), (4, .int x4), (5, .int x5)] 132 [.long s0, .long s1] := by
  unfold bk_X11_edgesOf_132 at h
  refine j_lor cx dX11_edgesOf_132 (pn := 133) rfl ?_
  refine j_topl (fun y12 ey12 => ?_)
  have h := h y12 ey12
  refine j_lstore_n cx rfl [(2, .long y12), (0, .ref a_M), (1, .int p1), (4, .int x4), (5, .int x5)] (by decide) rfl dX11_edgesOf_133 (pn := 134) rfl ?_
  obtain ⟨y13, ey13⟩ : ∃ z : Int32, z = x5 + 1 := ⟨_, rfl⟩
  have h := h y13 ey13
  refine j_iinc cx 4 rfl (cst := 1) (by decide) ey13 [(5, .int y13), (2, .long y12), (0, .ref a_M), (1, .int p1), (4, .int x4)] (by decide) rfl dX11_edgesOf_134 (pn := 137) rfl ?_
  refine j_goto cx 17 dX11_edgesOf_137 rfl ?_
  refine j_sub [2, 3, 1, 4, 0] [(0, .ref a_M), (1, .int p1), (2, .long y12), (4, .int x4), (5, .int y13)] rfl ?_
  exact hB17 _ _ h
set_option maxHeartbeats 4000000 in
set_option maxRecDepth 100000 in
theorem J_X11_edgesOf_126 {x : CX} {D : DG} {cyI cyJ cyZ : ClassId} {a_M a_M_square a_M_want a_M_text a_M_read a_M_row a_M_foldSet a_M_foldEdges a_M_foldNeeds a_M_foldYards a_M_least a_M_ways a_M_price a_M_rowBy a_M_columnBy a_M_rowOf a_M_wayBack a_M_slack a_M_isUsed a_M_lifted a_M_freed a_M_path : Nat} {M_wide : Int32} {M_high : Int32} {M_hedges : Int64} {M_hurdles : Int32} {M_wants : Int32} {M_rest : Int32} {M_frozen : Int32} {M_bytes : Int32} {M_position : Int32} {M_tokenAt : Int32} {M_token : Int64} {M_digits : Int32} {M_number : Int32} {M_faultAt : Int32} {M_readMany : Int32} {M_readWide : Int32} {M_readHigh : Int32} {M_nights : Int32} {M_why : Int32} {M_folds : Int32} {M_square : Nat → Int32} {M_want : Nat → Int32} {M_text : Nat → Int32} {M_read : Nat → Int32} {M_row : Nat → Int32} {M_foldSet : Nat → Int32} {M_foldEdges : Nat → Int64} {M_foldNeeds : Nat → Int32} {M_foldYards : Nat → Int32} {M_least : Nat → Int32} {M_ways : Nat → Int32} {M_price : Nat → Int32} {M_rowBy : Nat → Int32} {M_columnBy : Nat → Int32} {M_rowOf : Nat → Int32} {M_wayBack : Nat → Int32} {M_slack : Nat → Int32} {M_isUsed : Nat → Int32} {M_lifted : Nat → Int32} {M_freed : Nat → Int32} {M_path : Nat → Int32} {p1 : Int32} {x4 : Int32} {x5 : Int32} {s0 : Int64} {Q : Int64 → Prop} {B5 : Int64 → Int32 → Prop} {B17 : Int64 → Int32 → Prop} (cx : Cx x cX11_edgesOf 11 RX11 rm_X11_edgesOf D [(cyI, .int), (cyJ, .long), (cyZ, .boolean)]) (hR : ∀ (v : Int64) (pc : Nat) (lv : List (Nat × Value)), decode cX11_edgesOf pc = .ok (.lreturn, 1) → Q v → J x 0 0 11 (W_Model cyI cyJ cyZ a_M a_M_square a_M_want a_M_text a_M_read a_M_row a_M_foldSet a_M_foldEdges a_M_foldNeeds a_M_foldYards a_M_least a_M_ways a_M_price a_M_rowBy a_M_columnBy a_M_rowOf a_M_wayBack a_M_slack a_M_isUsed a_M_lifted a_M_freed a_M_path M_wide M_high M_hedges M_hurdles M_wants M_rest M_frozen M_bytes M_position M_tokenAt M_token M_digits M_number M_faultAt M_readMany M_readWide M_readHigh M_nights M_why M_folds M_square M_want M_text M_read M_row M_foldSet M_foldEdges M_foldNeeds M_foldYards M_least M_ways M_price M_rowBy M_columnBy M_rowOf M_wayBack M_slack M_isUsed M_lifted M_freed M_path) lv pc [.long v]) (hB5 : ∀ (xl2 : Int64) (x4 : Int32), B5 xl2 x4 → J x 0 0 11 (W_Model cyI cyJ cyZ a_M a_M_square a_M_want a_M_text a_M_read a_M_row a_M_foldSet a_M_foldEdges a_M_foldNeeds a_M_foldYards a_M_least a_M_ways a_M_price a_M_rowBy a_M_columnBy a_M_rowOf a_M_wayBack a_M_slack a_M_isUsed a_M_lifted a_M_freed a_M_path M_wide M_high M_hedges M_hurdles M_wants M_rest M_frozen M_bytes M_position M_tokenAt M_token M_digits M_number M_faultAt M_readMany M_readWide M_readHigh M_nights M_why M_folds M_square M_want M_text M_read M_row M_foldSet M_foldEdges M_foldNeeds M_foldYards M_least M_ways M_price M_rowBy M_columnBy M_rowOf M_wayBack M_slack M_isUsed M_lifted M_freed M_path) [(0, .ref a_M), (1, .int p1), (2, .long xl2), (4, .int x4)] 5 []) (hB17 : ∀ (xl2 : Int64) (x5 : Int32), B17 xl2 x5 → J x 0 0 11 (W_Model cyI cyJ cyZ a_M a_M_square a_M_want a_M_text a_M_read a_M_row a_M_foldSet a_M_foldEdges a_M_foldNeeds a_M_foldYards a_M_least a_M_ways a_M_price a_M_rowBy a_M_columnBy a_M_rowOf a_M_wayBack a_M_slack a_M_isUsed a_M_lifted a_M_freed a_M_path M_wide M_high M_hedges M_hurdles M_wants M_rest M_frozen M_bytes M_position M_tokenAt M_token M_digits M_number M_faultAt M_readMany M_readWide M_readHigh M_nights M_why M_folds M_square M_want M_text M_read M_row M_foldSet M_foldEdges M_foldNeeds M_foldYards M_least M_ways M_price M_rowBy M_columnBy M_rowOf M_wayBack M_slack M_isUsed M_lifted M_freed M_path) [(0, .ref a_M), (1, .int p1), (2, .long xl2), (4, .int x4), (5, .int x5)] 17 []) (h : bk_X11_edgesOf_126 Q B5 B17 x5 s0) :
    J x 0 0 11 (W_Model cyI cyJ cyZ a_M a_M_square a_M_want a_M_text a_M_read a_M_row a_M_foldSet a_M_foldEdges a_M_foldNeeds a_M_foldYards a_M_least a_M_ways a_M_price a_M_rowBy a_M_columnBy a_M_rowOf a_M_wayBack a_M_slack a_M_isUsed a_M_lifted a_M_freed a_M_path M_wide M_high M_hedges M_hurdles M_wants M_rest M_frozen M_bytes M_position M_tokenAt M_token M_digits M_number M_faultAt M_readMany M_readWide M_readHigh M_nights M_why M_folds M_square M_want M_text M_read M_row M_foldSet M_foldEdges M_foldNeeds M_foldYards M_least M_ways M_price M_rowBy M_columnBy M_rowOf M_wayBack M_slack M_isUsed M_lifted M_freed M_path) [(0, .ref a_M), (1, .int p1), (4, .int x4), (5, .int x5)] 126 [.long s0] := by
  unfold bk_X11_edgesOf_126 at h
  refine j_lconst cx (v := 0) (by decide) dX11_edgesOf_126 (pn := 127) rfl ?_
  refine j_goto cx 132 dX11_edgesOf_127 rfl ?_
  exact J_X11_edgesOf_132 cx hR hB5 hB17 h
set_option maxHeartbeats 4000000 in
set_option maxRecDepth 100000 in
theorem J_X11_edgesOf_101 {x : CX} {D : DG} {cyI cyJ cyZ : ClassId} {a_M a_M_square a_M_want a_M_text a_M_read a_M_row a_M_foldSet a_M_foldEdges a_M_foldNeeds a_M_foldYards a_M_least a_M_ways a_M_price a_M_rowBy a_M_columnBy a_M_rowOf a_M_wayBack a_M_slack a_M_isUsed a_M_lifted a_M_freed a_M_path : Nat} {M_wide : Int32} {M_high : Int32} {M_hedges : Int64} {M_hurdles : Int32} {M_wants : Int32} {M_rest : Int32} {M_frozen : Int32} {M_bytes : Int32} {M_position : Int32} {M_tokenAt : Int32} {M_token : Int64} {M_digits : Int32} {M_number : Int32} {M_faultAt : Int32} {M_readMany : Int32} {M_readWide : Int32} {M_readHigh : Int32} {M_nights : Int32} {M_why : Int32} {M_folds : Int32} {M_square : Nat → Int32} {M_want : Nat → Int32} {M_text : Nat → Int32} {M_read : Nat → Int32} {M_row : Nat → Int32} {M_foldSet : Nat → Int32} {M_foldEdges : Nat → Int64} {M_foldNeeds : Nat → Int32} {M_foldYards : Nat → Int32} {M_least : Nat → Int32} {M_ways : Nat → Int32} {M_price : Nat → Int32} {M_rowBy : Nat → Int32} {M_columnBy : Nat → Int32} {M_rowOf : Nat → Int32} {M_wayBack : Nat → Int32} {M_slack : Nat → Int32} {M_isUsed : Nat → Int32} {M_lifted : Nat → Int32} {M_freed : Nat → Int32} {M_path : Nat → Int32} {p1 : Int32} {xl2 : Int64} {x4 : Int32} {x5 : Int32} {xl7 : Int64} {x9 : Int32} {s0 : Int32} {Q : Int64 → Prop} {B5 : Int64 → Int32 → Prop} {B17 : Int64 → Int32 → Prop} (cx : Cx x cX11_edgesOf 11 RX11 rm_X11_edgesOf D [(cyI, .int), (cyJ, .long), (cyZ, .boolean)]) (hR : ∀ (v : Int64) (pc : Nat) (lv : List (Nat × Value)), decode cX11_edgesOf pc = .ok (.lreturn, 1) → Q v → J x 0 0 11 (W_Model cyI cyJ cyZ a_M a_M_square a_M_want a_M_text a_M_read a_M_row a_M_foldSet a_M_foldEdges a_M_foldNeeds a_M_foldYards a_M_least a_M_ways a_M_price a_M_rowBy a_M_columnBy a_M_rowOf a_M_wayBack a_M_slack a_M_isUsed a_M_lifted a_M_freed a_M_path M_wide M_high M_hedges M_hurdles M_wants M_rest M_frozen M_bytes M_position M_tokenAt M_token M_digits M_number M_faultAt M_readMany M_readWide M_readHigh M_nights M_why M_folds M_square M_want M_text M_read M_row M_foldSet M_foldEdges M_foldNeeds M_foldYards M_least M_ways M_price M_rowBy M_columnBy M_rowOf M_wayBack M_slack M_isUsed M_lifted M_freed M_path) lv pc [.long v]) (hB5 : ∀ (xl2 : Int64) (x4 : Int32), B5 xl2 x4 → J x 0 0 11 (W_Model cyI cyJ cyZ a_M a_M_square a_M_want a_M_text a_M_read a_M_row a_M_foldSet a_M_foldEdges a_M_foldNeeds a_M_foldYards a_M_least a_M_ways a_M_price a_M_rowBy a_M_columnBy a_M_rowOf a_M_wayBack a_M_slack a_M_isUsed a_M_lifted a_M_freed a_M_path M_wide M_high M_hedges M_hurdles M_wants M_rest M_frozen M_bytes M_position M_tokenAt M_token M_digits M_number M_faultAt M_readMany M_readWide M_readHigh M_nights M_why M_folds M_square M_want M_text M_read M_row M_foldSet M_foldEdges M_foldNeeds M_foldYards M_least M_ways M_price M_rowBy M_columnBy M_rowOf M_wayBack M_slack M_isUsed M_lifted M_freed M_path) [(0, .ref a_M), (1, .int p1), (2, .long xl2), (4, .int x4)] 5 []) (hB17 : ∀ (xl2 : Int64) (x5 : Int32), B17 xl2 x5 → J x 0 0 11 (W_Model cyI cyJ cyZ a_M a_M_square a_M_want a_M_text a_M_read a_M_row a_M_foldSet a_M_foldEdges a_M_foldNeeds a_M_foldYards a_M_least a_M_ways a_M_price a_M_rowBy a_M_columnBy a_M_rowOf a_M_wayBack a_M_slack a_M_isUsed a_M_lifted a_M_freed a_M_path M_wide M_high M_hedges M_hurdles M_wants M_rest M_frozen M_bytes M_position M_tokenAt M_token M_digits M_number M_faultAt M_readMany M_readWide M_readHigh M_nights M_why M_folds M_square M_want M_text M_read M_row M_foldSet M_foldEdges M_foldNeeds M_foldYards M_least M_ways M_price M_rowBy M_columnBy M_rowOf M_wayBack M_slack M_isUsed M_lifted M_freed M_path) [(0, .ref a_M), (1, .int p1), (2, .long xl2), (4, .int x4), (5, .int x5)] 17 []) (h : bk_X11_edgesOf_101 Q B5 B17 xl2 x5 xl7 x9 M_hedges s0) :
    J x 0 0 11 (W_Model cyI cyJ cyZ a_M a_M_square a_M_want a_M_text a_M_read a_M_row a_M_foldSet a_M_foldEdges a_M_foldNeeds a_M_foldYards a_M_least a_M_ways a_M_price a_M_rowBy a_M_columnBy a_M_rowOf a_M_wayBack a_M_slack a_M_isUsed a_M_lifted a_M_freed a_M_path M_wide M_high M_hedges M_hurdles M_wants M_rest M_frozen M_bytes M_position M_tokenAt M_token M_digits M_number M_faultAt M_readMany M_readWide M_readHigh M_nights M_why M_folds M_square M_want M_text M_read M_row M_foldSet M_foldEdges M_foldNeeds M_foldYards M_least M_ways M_price M_rowBy M_columnBy M_rowOf M_wayBack M_slack M_isUsed M_lifted M_freed M_path) [(0, .ref a_M), (1, .int p1), (2, .long xl2), (4, .int x4), (5, .int x5), (7, .long xl7), (9, .int x9)] 101 [.int s0] := by
  unfold bk_X11_edgesOf_101 at h
  refine j_istore cx [(10, .int s0), (0, .ref a_M), (1, .int p1), (2, .long xl2), (4, .int x4), (5, .int x5), (7, .long xl7), (9, .int x9)] (by decide) rfl dX11_edgesOf_101 (pn := 103) rfl ?_
  refine j_lload_n cx 3 rfl rfl dX11_edgesOf_103 (pn := 104) rfl ?_
  refine j_iload cx 7 rfl dX11_edgesOf_104 (pn := 106) rfl ?_
  refine j_if_ne cx 126 dX11_edgesOf_106 (pn := 109) rfl rfl (fun c11 => ?_) (fun c11 => ?_)
  · have h := h.1 c11
    refine j_sub [1, 2, 4, 5] [(0, .ref a_M), (1, .int p1), (4, .int x4), (5, .int x5)] rfl ?_
    exact J_X11_edgesOf_126 cx hR hB5 hB17 h
  · have h := h.2 c11
    refine j_iload cx 0 rfl dX11_edgesOf_109 (pn := 111) rfl ?_
    refine j_if_ne cx 126 dX11_edgesOf_111 (pn := 114) rfl rfl (fun c14 => ?_) (fun c14 => ?_)
    · have h := h.1 c14
      refine j_sub [1, 2, 4, 5] [(0, .ref a_M), (1, .int p1), (4, .int x4), (5, .int x5)] rfl ?_
      exact J_X11_edgesOf_126 cx hR hB5 hB17 h
    · have h := h.2 c14
      refine j_aload_n cx 1 rfl rfl dX11_edgesOf_114 (pn := 115) rfl ?_
      refine j_get cx inGX11 0 rfl rfl 3 (by decide) q_fl_X11_195 rfl rfl dX11_edgesOf_115 (pn := 118) rfl ?_
      refine j_lload cx 6 rfl dX11_edgesOf_118 (pn := 120) rfl ?_
      refine j_land cx dX11_edgesOf_120 (pn := 121) rfl ?_
      refine j_lconst cx (v := 0) (by decide) dX11_edgesOf_121 (pn := 122) rfl ?_
      refine j_lif_eq cx 130 dX11_edgesOf_122 (pm := 123) (pn := 126) rfl dX11_edgesOf_123 rfl rfl (fun c15 => ?_) (fun c15 => ?_)
      · have h := h.1 c15
        refine j_lload cx 6 rfl dX11_edgesOf_130 (pn := 132) rfl ?_
        refine j_sub [1, 2, 4, 5] [(0, .ref a_M), (1, .int p1), (4, .int x4), (5, .int x5)] rfl ?_
        exact J_X11_edgesOf_132 cx hR hB5 hB17 h
      · have h := h.2 c15
        refine j_sub [1, 2, 4, 5] [(0, .ref a_M), (1, .int p1), (4, .int x4), (5, .int x5)] rfl ?_
        exact J_X11_edgesOf_126 cx hR hB5 hB17 h
set_option maxHeartbeats 4000000 in
set_option maxRecDepth 100000 in
theorem J_X11_edgesOf_100 {x : CX} {D : DG} {cyI cyJ cyZ : ClassId} {a_M a_M_square a_M_want a_M_text a_M_read a_M_row a_M_foldSet a_M_foldEdges a_M_foldNeeds a_M_foldYards a_M_least a_M_ways a_M_price a_M_rowBy a_M_columnBy a_M_rowOf a_M_wayBack a_M_slack a_M_isUsed a_M_lifted a_M_freed a_M_path : Nat} {M_wide : Int32} {M_high : Int32} {M_hedges : Int64} {M_hurdles : Int32} {M_wants : Int32} {M_rest : Int32} {M_frozen : Int32} {M_bytes : Int32} {M_position : Int32} {M_tokenAt : Int32} {M_token : Int64} {M_digits : Int32} {M_number : Int32} {M_faultAt : Int32} {M_readMany : Int32} {M_readWide : Int32} {M_readHigh : Int32} {M_nights : Int32} {M_why : Int32} {M_folds : Int32} {M_square : Nat → Int32} {M_want : Nat → Int32} {M_text : Nat → Int32} {M_read : Nat → Int32} {M_row : Nat → Int32} {M_foldSet : Nat → Int32} {M_foldEdges : Nat → Int64} {M_foldNeeds : Nat → Int32} {M_foldYards : Nat → Int32} {M_least : Nat → Int32} {M_ways : Nat → Int32} {M_price : Nat → Int32} {M_rowBy : Nat → Int32} {M_columnBy : Nat → Int32} {M_rowOf : Nat → Int32} {M_wayBack : Nat → Int32} {M_slack : Nat → Int32} {M_isUsed : Nat → Int32} {M_lifted : Nat → Int32} {M_freed : Nat → Int32} {M_path : Nat → Int32} {p1 : Int32} {xl2 : Int64} {x4 : Int32} {x5 : Int32} {xl7 : Int64} {x9 : Int32} {Q : Int64 → Prop} {B5 : Int64 → Int32 → Prop} {B17 : Int64 → Int32 → Prop} (cx : Cx x cX11_edgesOf 11 RX11 rm_X11_edgesOf D [(cyI, .int), (cyJ, .long), (cyZ, .boolean)]) (hR : ∀ (v : Int64) (pc : Nat) (lv : List (Nat × Value)), decode cX11_edgesOf pc = .ok (.lreturn, 1) → Q v → J x 0 0 11 (W_Model cyI cyJ cyZ a_M a_M_square a_M_want a_M_text a_M_read a_M_row a_M_foldSet a_M_foldEdges a_M_foldNeeds a_M_foldYards a_M_least a_M_ways a_M_price a_M_rowBy a_M_columnBy a_M_rowOf a_M_wayBack a_M_slack a_M_isUsed a_M_lifted a_M_freed a_M_path M_wide M_high M_hedges M_hurdles M_wants M_rest M_frozen M_bytes M_position M_tokenAt M_token M_digits M_number M_faultAt M_readMany M_readWide M_readHigh M_nights M_why M_folds M_square M_want M_text M_read M_row M_foldSet M_foldEdges M_foldNeeds M_foldYards M_least M_ways M_price M_rowBy M_columnBy M_rowOf M_wayBack M_slack M_isUsed M_lifted M_freed M_path) lv pc [.long v]) (hB5 : ∀ (xl2 : Int64) (x4 : Int32), B5 xl2 x4 → J x 0 0 11 (W_Model cyI cyJ cyZ a_M a_M_square a_M_want a_M_text a_M_read a_M_row a_M_foldSet a_M_foldEdges a_M_foldNeeds a_M_foldYards a_M_least a_M_ways a_M_price a_M_rowBy a_M_columnBy a_M_rowOf a_M_wayBack a_M_slack a_M_isUsed a_M_lifted a_M_freed a_M_path M_wide M_high M_hedges M_hurdles M_wants M_rest M_frozen M_bytes M_position M_tokenAt M_token M_digits M_number M_faultAt M_readMany M_readWide M_readHigh M_nights M_why M_folds M_square M_want M_text M_read M_row M_foldSet M_foldEdges M_foldNeeds M_foldYards M_least M_ways M_price M_rowBy M_columnBy M_rowOf M_wayBack M_slack M_isUsed M_lifted M_freed M_path) [(0, .ref a_M), (1, .int p1), (2, .long xl2), (4, .int x4)] 5 []) (hB17 : ∀ (xl2 : Int64) (x5 : Int32), B17 xl2 x5 → J x 0 0 11 (W_Model cyI cyJ cyZ a_M a_M_square a_M_want a_M_text a_M_read a_M_row a_M_foldSet a_M_foldEdges a_M_foldNeeds a_M_foldYards a_M_least a_M_ways a_M_price a_M_rowBy a_M_columnBy a_M_rowOf a_M_wayBack a_M_slack a_M_isUsed a_M_lifted a_M_freed a_M_path M_wide M_high M_hedges M_hurdles M_wants M_rest M_frozen M_bytes M_position M_tokenAt M_token M_digits M_number M_faultAt M_readMany M_readWide M_readHigh M_nights M_why M_folds M_square M_want M_text M_read M_row M_foldSet M_foldEdges M_foldNeeds M_foldYards M_least M_ways M_price M_rowBy M_columnBy M_rowOf M_wayBack M_slack M_isUsed M_lifted M_freed M_path) [(0, .ref a_M), (1, .int p1), (2, .long xl2), (4, .int x4), (5, .int x5)] 17 []) (h : bk_X11_edgesOf_100 Q B5 B17 xl2 x5 xl7 x9 M_hedges) :
    J x 0 0 11 (W_Model cyI cyJ cyZ a_M a_M_square a_M_want a_M_text a_M_read a_M_row a_M_foldSet a_M_foldEdges a_M_foldNeeds a_M_foldYards a_M_least a_M_ways a_M_price a_M_rowBy a_M_columnBy a_M_rowOf a_M_wayBack a_M_slack a_M_isUsed a_M_lifted a_M_freed a_M_path M_wide M_high M_hedges M_hurdles M_wants M_rest M_frozen M_bytes M_position M_tokenAt M_token M_digits M_number M_faultAt M_readMany M_readWide M_readHigh M_nights M_why M_folds M_square M_want M_text M_read M_row M_foldSet M_foldEdges M_foldNeeds M_foldYards M_least M_ways M_price M_rowBy M_columnBy M_rowOf M_wayBack M_slack M_isUsed M_lifted M_freed M_path) [(0, .ref a_M), (1, .int p1), (2, .long xl2), (4, .int x4), (5, .int x5), (7, .long xl7), (9, .int x9)] 100 [] := by
  unfold bk_X11_edgesOf_100 at h
  refine j_iconst cx (v := 0) (by decide) dX11_edgesOf_100 (pn := 101) rfl ?_
  exact J_X11_edgesOf_101 cx hR hB5 hB17 h
set_option maxHeartbeats 4000000 in
set_option maxRecDepth 100000 in
theorem J_X11_edgesOf_76 {x : CX} {D : DG} {cyI cyJ cyZ : ClassId} {a_M a_M_square a_M_want a_M_text a_M_read a_M_row a_M_foldSet a_M_foldEdges a_M_foldNeeds a_M_foldYards a_M_least a_M_ways a_M_price a_M_rowBy a_M_columnBy a_M_rowOf a_M_wayBack a_M_slack a_M_isUsed a_M_lifted a_M_freed a_M_path : Nat} {M_wide : Int32} {M_high : Int32} {M_hedges : Int64} {M_hurdles : Int32} {M_wants : Int32} {M_rest : Int32} {M_frozen : Int32} {M_bytes : Int32} {M_position : Int32} {M_tokenAt : Int32} {M_token : Int64} {M_digits : Int32} {M_number : Int32} {M_faultAt : Int32} {M_readMany : Int32} {M_readWide : Int32} {M_readHigh : Int32} {M_nights : Int32} {M_why : Int32} {M_folds : Int32} {M_square : Nat → Int32} {M_want : Nat → Int32} {M_text : Nat → Int32} {M_read : Nat → Int32} {M_row : Nat → Int32} {M_foldSet : Nat → Int32} {M_foldEdges : Nat → Int64} {M_foldNeeds : Nat → Int32} {M_foldYards : Nat → Int32} {M_least : Nat → Int32} {M_ways : Nat → Int32} {M_price : Nat → Int32} {M_rowBy : Nat → Int32} {M_columnBy : Nat → Int32} {M_rowOf : Nat → Int32} {M_wayBack : Nat → Int32} {M_slack : Nat → Int32} {M_isUsed : Nat → Int32} {M_lifted : Nat → Int32} {M_freed : Nat → Int32} {M_path : Nat → Int32} {p1 : Int32} {xl2 : Int64} {x4 : Int32} {x5 : Int32} {x6 : Int32} {xl7 : Int64} {s0 : Int32} {Q : Int64 → Prop} {B5 : Int64 → Int32 → Prop} {B17 : Int64 → Int32 → Prop} (cx : Cx x cX11_edgesOf 11 RX11 rm_X11_edgesOf D [(cyI, .int), (cyJ, .long), (cyZ, .boolean)]) (hR : ∀ (v : Int64) (pc : Nat) (lv : List (Nat × Value)), decode cX11_edgesOf pc = .ok (.lreturn, 1) → Q v → J x 0 0 11 (W_Model cyI cyJ cyZ a_M a_M_square a_M_want a_M_text a_M_read a_M_row a_M_foldSet a_M_foldEdges a_M_foldNeeds a_M_foldYards a_M_least a_M_ways a_M_price a_M_rowBy a_M_columnBy a_M_rowOf a_M_wayBack a_M_slack a_M_isUsed a_M_lifted a_M_freed a_M_path M_wide M_high M_hedges M_hurdles M_wants M_rest M_frozen M_bytes M_position M_tokenAt M_token M_digits M_number M_faultAt M_readMany M_readWide M_readHigh M_nights M_why M_folds M_square M_want M_text M_read M_row M_foldSet M_foldEdges M_foldNeeds M_foldYards M_least M_ways M_price M_rowBy M_columnBy M_rowOf M_wayBack M_slack M_isUsed M_lifted M_freed M_path) lv pc [.long v]) (hB5 : ∀ (xl2 : Int64) (x4 : Int32), B5 xl2 x4 → J x 0 0 11 (W_Model cyI cyJ cyZ a_M a_M_square a_M_want a_M_text a_M_read a_M_row a_M_foldSet a_M_foldEdges a_M_foldNeeds a_M_foldYards a_M_least a_M_ways a_M_price a_M_rowBy a_M_columnBy a_M_rowOf a_M_wayBack a_M_slack a_M_isUsed a_M_lifted a_M_freed a_M_path M_wide M_high M_hedges M_hurdles M_wants M_rest M_frozen M_bytes M_position M_tokenAt M_token M_digits M_number M_faultAt M_readMany M_readWide M_readHigh M_nights M_why M_folds M_square M_want M_text M_read M_row M_foldSet M_foldEdges M_foldNeeds M_foldYards M_least M_ways M_price M_rowBy M_columnBy M_rowOf M_wayBack M_slack M_isUsed M_lifted M_freed M_path) [(0, .ref a_M), (1, .int p1), (2, .long xl2), (4, .int x4)] 5 []) (hB17 : ∀ (xl2 : Int64) (x5 : Int32), B17 xl2 x5 → J x 0 0 11 (W_Model cyI cyJ cyZ a_M a_M_square a_M_want a_M_text a_M_read a_M_row a_M_foldSet a_M_foldEdges a_M_foldNeeds a_M_foldYards a_M_least a_M_ways a_M_price a_M_rowBy a_M_columnBy a_M_rowOf a_M_wayBack a_M_slack a_M_isUsed a_M_lifted a_M_freed a_M_path M_wide M_high M_hedges M_hurdles M_wants M_rest M_frozen M_bytes M_position M_tokenAt M_token M_digits M_number M_faultAt M_readMany M_readWide M_readHigh M_nights M_why M_folds M_square M_want M_text M_read M_row M_foldSet M_foldEdges M_foldNeeds M_foldYards M_least M_ways M_price M_rowBy M_columnBy M_rowOf M_wayBack M_slack M_isUsed M_lifted M_freed M_path) [(0, .ref a_M), (1, .int p1), (2, .long xl2), (4, .int x4), (5, .int x5)] 17 []) (h : bk_X11_edgesOf_76 Q B5 B17 xl2 x5 x6 xl7 M_hedges M_square s0) :
    J x 0 0 11 (W_Model cyI cyJ cyZ a_M a_M_square a_M_want a_M_text a_M_read a_M_row a_M_foldSet a_M_foldEdges a_M_foldNeeds a_M_foldYards a_M_least a_M_ways a_M_price a_M_rowBy a_M_columnBy a_M_rowOf a_M_wayBack a_M_slack a_M_isUsed a_M_lifted a_M_freed a_M_path M_wide M_high M_hedges M_hurdles M_wants M_rest M_frozen M_bytes M_position M_tokenAt M_token M_digits M_number M_faultAt M_readMany M_readWide M_readHigh M_nights M_why M_folds M_square M_want M_text M_read M_row M_foldSet M_foldEdges M_foldNeeds M_foldYards M_least M_ways M_price M_rowBy M_columnBy M_rowOf M_wayBack M_slack M_isUsed M_lifted M_freed M_path) [(0, .ref a_M), (1, .int p1), (2, .long xl2), (4, .int x4), (5, .int x5), (6, .int x6), (7, .long xl7)] 76 [.int s0] := by
  unfold bk_X11_edgesOf_76 at h
  refine j_istore cx [(9, .int s0), (0, .ref a_M), (1, .int p1), (2, .long xl2), (4, .int x4), (5, .int x5), (6, .int x6), (7, .long xl7)] (by decide) rfl dX11_edgesOf_76 (pn := 78) rfl ?_
  refine j_iload cx 6 rfl dX11_edgesOf_78 (pn := 80) rfl ?_
  refine j_iconst cx (v := (-1)) (by decide) dX11_edgesOf_80 (pn := 81) rfl ?_
  refine j_icmp_eq cx 100 dX11_edgesOf_81 (pn := 84) rfl rfl (fun c10 => ?_) (fun c10 => ?_)
  · have h := h.1 c10
    refine j_sub [1, 2, 3, 4, 5, 7, 0] [(0, .ref a_M), (1, .int p1), (2, .long xl2), (4, .int x4), (5, .int x5), (7, .long xl7), (9, .int s0)] rfl ?_
    exact J_X11_edgesOf_100 cx hR hB5 hB17 h
  · have h := h.2 c10
    refine j_aload_n cx 1 rfl rfl dX11_edgesOf_84 (pn := 85) rfl ?_
    refine j_get cx inGX11 0 rfl rfl 2 (by decide) q_fl_X11_16 rfl rfl dX11_edgesOf_85 (pn := 88) rfl ?_
    refine j_iload cx 6 rfl dX11_edgesOf_88 (pn := 90) rfl ?_
    refine j_iald cx 1 0 rfl rfl h.1 dX11_edgesOf_90 (pn := 91) rfl ?_
    have h := h.2
    refine j_bipush cx (v := 10) (by decide) dX11_edgesOf_91 (pn := 93) rfl ?_
    refine j_icmp_ne cx 100 dX11_edgesOf_93 (pn := 96) rfl rfl (fun c16 => ?_) (fun c16 => ?_)
    · have h := h.1 c16
      refine j_sub [1, 2, 3, 4, 5, 7, 0] [(0, .ref a_M), (1, .int p1), (2, .long xl2), (4, .int x4), (5, .int x5), (7, .long xl7), (9, .int s0)] rfl ?_
      exact J_X11_edgesOf_100 cx hR hB5 hB17 h
    · have h := h.2 c16
      refine j_iconst cx (v := 1) (by decide) dX11_edgesOf_96 (pn := 97) rfl ?_
      refine j_goto cx 101 dX11_edgesOf_97 rfl ?_
      refine j_sub [1, 2, 3, 4, 5, 7, 0] [(0, .ref a_M), (1, .int p1), (2, .long xl2), (4, .int x4), (5, .int x5), (7, .long xl7), (9, .int s0)] rfl ?_
      exact J_X11_edgesOf_101 cx hR hB5 hB17 h
set_option maxHeartbeats 4000000 in
set_option maxRecDepth 100000 in
theorem J_X11_edgesOf_75 {x : CX} {D : DG} {cyI cyJ cyZ : ClassId} {a_M a_M_square a_M_want a_M_text a_M_read a_M_row a_M_foldSet a_M_foldEdges a_M_foldNeeds a_M_foldYards a_M_least a_M_ways a_M_price a_M_rowBy a_M_columnBy a_M_rowOf a_M_wayBack a_M_slack a_M_isUsed a_M_lifted a_M_freed a_M_path : Nat} {M_wide : Int32} {M_high : Int32} {M_hedges : Int64} {M_hurdles : Int32} {M_wants : Int32} {M_rest : Int32} {M_frozen : Int32} {M_bytes : Int32} {M_position : Int32} {M_tokenAt : Int32} {M_token : Int64} {M_digits : Int32} {M_number : Int32} {M_faultAt : Int32} {M_readMany : Int32} {M_readWide : Int32} {M_readHigh : Int32} {M_nights : Int32} {M_why : Int32} {M_folds : Int32} {M_square : Nat → Int32} {M_want : Nat → Int32} {M_text : Nat → Int32} {M_read : Nat → Int32} {M_row : Nat → Int32} {M_foldSet : Nat → Int32} {M_foldEdges : Nat → Int64} {M_foldNeeds : Nat → Int32} {M_foldYards : Nat → Int32} {M_least : Nat → Int32} {M_ways : Nat → Int32} {M_price : Nat → Int32} {M_rowBy : Nat → Int32} {M_columnBy : Nat → Int32} {M_rowOf : Nat → Int32} {M_wayBack : Nat → Int32} {M_slack : Nat → Int32} {M_isUsed : Nat → Int32} {M_lifted : Nat → Int32} {M_freed : Nat → Int32} {M_path : Nat → Int32} {p1 : Int32} {xl2 : Int64} {x4 : Int32} {x5 : Int32} {x6 : Int32} {xl7 : Int64} {Q : Int64 → Prop} {B5 : Int64 → Int32 → Prop} {B17 : Int64 → Int32 → Prop} (cx : Cx x cX11_edgesOf 11 RX11 rm_X11_edgesOf D [(cyI, .int), (cyJ, .long), (cyZ, .boolean)]) (hR : ∀ (v : Int64) (pc : Nat) (lv : List (Nat × Value)), decode cX11_edgesOf pc = .ok (.lreturn, 1) → Q v → J x 0 0 11 (W_Model cyI cyJ cyZ a_M a_M_square a_M_want a_M_text a_M_read a_M_row a_M_foldSet a_M_foldEdges a_M_foldNeeds a_M_foldYards a_M_least a_M_ways a_M_price a_M_rowBy a_M_columnBy a_M_rowOf a_M_wayBack a_M_slack a_M_isUsed a_M_lifted a_M_freed a_M_path M_wide M_high M_hedges M_hurdles M_wants M_rest M_frozen M_bytes M_position M_tokenAt M_token M_digits M_number M_faultAt M_readMany M_readWide M_readHigh M_nights M_why M_folds M_square M_want M_text M_read M_row M_foldSet M_foldEdges M_foldNeeds M_foldYards M_least M_ways M_price M_rowBy M_columnBy M_rowOf M_wayBack M_slack M_isUsed M_lifted M_freed M_path) lv pc [.long v]) (hB5 : ∀ (xl2 : Int64) (x4 : Int32), B5 xl2 x4 → J x 0 0 11 (W_Model cyI cyJ cyZ a_M a_M_square a_M_want a_M_text a_M_read a_M_row a_M_foldSet a_M_foldEdges a_M_foldNeeds a_M_foldYards a_M_least a_M_ways a_M_price a_M_rowBy a_M_columnBy a_M_rowOf a_M_wayBack a_M_slack a_M_isUsed a_M_lifted a_M_freed a_M_path M_wide M_high M_hedges M_hurdles M_wants M_rest M_frozen M_bytes M_position M_tokenAt M_token M_digits M_number M_faultAt M_readMany M_readWide M_readHigh M_nights M_why M_folds M_square M_want M_text M_read M_row M_foldSet M_foldEdges M_foldNeeds M_foldYards M_least M_ways M_price M_rowBy M_columnBy M_rowOf M_wayBack M_slack M_isUsed M_lifted M_freed M_path) [(0, .ref a_M), (1, .int p1), (2, .long xl2), (4, .int x4)] 5 []) (hB17 : ∀ (xl2 : Int64) (x5 : Int32), B17 xl2 x5 → J x 0 0 11 (W_Model cyI cyJ cyZ a_M a_M_square a_M_want a_M_text a_M_read a_M_row a_M_foldSet a_M_foldEdges a_M_foldNeeds a_M_foldYards a_M_least a_M_ways a_M_price a_M_rowBy a_M_columnBy a_M_rowOf a_M_wayBack a_M_slack a_M_isUsed a_M_lifted a_M_freed a_M_path M_wide M_high M_hedges M_hurdles M_wants M_rest M_frozen M_bytes M_position M_tokenAt M_token M_digits M_number M_faultAt M_readMany M_readWide M_readHigh M_nights M_why M_folds M_square M_want M_text M_read M_row M_foldSet M_foldEdges M_foldNeeds M_foldYards M_least M_ways M_price M_rowBy M_columnBy M_rowOf M_wayBack M_slack M_isUsed M_lifted M_freed M_path) [(0, .ref a_M), (1, .int p1), (2, .long xl2), (4, .int x4), (5, .int x5)] 17 []) (h : bk_X11_edgesOf_75 Q B5 B17 xl2 x5 x6 xl7 M_hedges M_square) :
    J x 0 0 11 (W_Model cyI cyJ cyZ a_M a_M_square a_M_want a_M_text a_M_read a_M_row a_M_foldSet a_M_foldEdges a_M_foldNeeds a_M_foldYards a_M_least a_M_ways a_M_price a_M_rowBy a_M_columnBy a_M_rowOf a_M_wayBack a_M_slack a_M_isUsed a_M_lifted a_M_freed a_M_path M_wide M_high M_hedges M_hurdles M_wants M_rest M_frozen M_bytes M_position M_tokenAt M_token M_digits M_number M_faultAt M_readMany M_readWide M_readHigh M_nights M_why M_folds M_square M_want M_text M_read M_row M_foldSet M_foldEdges M_foldNeeds M_foldYards M_least M_ways M_price M_rowBy M_columnBy M_rowOf M_wayBack M_slack M_isUsed M_lifted M_freed M_path) [(0, .ref a_M), (1, .int p1), (2, .long xl2), (4, .int x4), (5, .int x5), (6, .int x6), (7, .long xl7)] 75 [] := by
  unfold bk_X11_edgesOf_75 at h
  refine j_iconst cx (v := 0) (by decide) dX11_edgesOf_75 (pn := 76) rfl ?_
  exact J_X11_edgesOf_76 cx hR hB5 hB17 h
set_option maxHeartbeats 4000000 in
set_option maxRecDepth 100000 in
theorem B_X11_edgesOf_17 {x : CX} {D : DG} {cyI cyJ cyZ : ClassId} {a_M a_M_square a_M_want a_M_text a_M_read a_M_row a_M_foldSet a_M_foldEdges a_M_foldNeeds a_M_foldYards a_M_least a_M_ways a_M_price a_M_rowBy a_M_columnBy a_M_rowOf a_M_wayBack a_M_slack a_M_isUsed a_M_lifted a_M_freed a_M_path : Nat} {M_wide : Int32} {M_high : Int32} {M_hedges : Int64} {M_hurdles : Int32} {M_wants : Int32} {M_rest : Int32} {M_frozen : Int32} {M_bytes : Int32} {M_position : Int32} {M_tokenAt : Int32} {M_token : Int64} {M_digits : Int32} {M_number : Int32} {M_faultAt : Int32} {M_readMany : Int32} {M_readWide : Int32} {M_readHigh : Int32} {M_nights : Int32} {M_why : Int32} {M_folds : Int32} {M_square : Nat → Int32} {M_want : Nat → Int32} {M_text : Nat → Int32} {M_read : Nat → Int32} {M_row : Nat → Int32} {M_foldSet : Nat → Int32} {M_foldEdges : Nat → Int64} {M_foldNeeds : Nat → Int32} {M_foldYards : Nat → Int32} {M_least : Nat → Int32} {M_ways : Nat → Int32} {M_price : Nat → Int32} {M_rowBy : Nat → Int32} {M_columnBy : Nat → Int32} {M_rowOf : Nat → Int32} {M_wayBack : Nat → Int32} {M_slack : Nat → Int32} {M_isUsed : Nat → Int32} {M_lifted : Nat → Int32} {M_freed : Nat → Int32} {M_path : Nat → Int32} {p1 : Int32} {xl2 : Int64} {x4 : Int32} {x5 : Int32} {Q : Int64 → Prop} {B5 : Int64 → Int32 → Prop} {B17 : Int64 → Int32 → Prop} (cx : Cx x cX11_edgesOf 11 RX11 rm_X11_edgesOf D [(cyI, .int), (cyJ, .long), (cyZ, .boolean)]) (hR : ∀ (v : Int64) (pc : Nat) (lv : List (Nat × Value)), decode cX11_edgesOf pc = .ok (.lreturn, 1) → Q v → J x 0 0 11 (W_Model cyI cyJ cyZ a_M a_M_square a_M_want a_M_text a_M_read a_M_row a_M_foldSet a_M_foldEdges a_M_foldNeeds a_M_foldYards a_M_least a_M_ways a_M_price a_M_rowBy a_M_columnBy a_M_rowOf a_M_wayBack a_M_slack a_M_isUsed a_M_lifted a_M_freed a_M_path M_wide M_high M_hedges M_hurdles M_wants M_rest M_frozen M_bytes M_position M_tokenAt M_token M_digits M_number M_faultAt M_readMany M_readWide M_readHigh M_nights M_why M_folds M_square M_want M_text M_read M_row M_foldSet M_foldEdges M_foldNeeds M_foldYards M_least M_ways M_price M_rowBy M_columnBy M_rowOf M_wayBack M_slack M_isUsed M_lifted M_freed M_path) lv pc [.long v]) (hB5 : ∀ (xl2 : Int64) (x4 : Int32), B5 xl2 x4 → J x 0 0 11 (W_Model cyI cyJ cyZ a_M a_M_square a_M_want a_M_text a_M_read a_M_row a_M_foldSet a_M_foldEdges a_M_foldNeeds a_M_foldYards a_M_least a_M_ways a_M_price a_M_rowBy a_M_columnBy a_M_rowOf a_M_wayBack a_M_slack a_M_isUsed a_M_lifted a_M_freed a_M_path M_wide M_high M_hedges M_hurdles M_wants M_rest M_frozen M_bytes M_position M_tokenAt M_token M_digits M_number M_faultAt M_readMany M_readWide M_readHigh M_nights M_why M_folds M_square M_want M_text M_read M_row M_foldSet M_foldEdges M_foldNeeds M_foldYards M_least M_ways M_price M_rowBy M_columnBy M_rowOf M_wayBack M_slack M_isUsed M_lifted M_freed M_path) [(0, .ref a_M), (1, .int p1), (2, .long xl2), (4, .int x4)] 5 []) (hB17 : ∀ (xl2 : Int64) (x5 : Int32), B17 xl2 x5 → J x 0 0 11 (W_Model cyI cyJ cyZ a_M a_M_square a_M_want a_M_text a_M_read a_M_row a_M_foldSet a_M_foldEdges a_M_foldNeeds a_M_foldYards a_M_least a_M_ways a_M_price a_M_rowBy a_M_columnBy a_M_rowOf a_M_wayBack a_M_slack a_M_isUsed a_M_lifted a_M_freed a_M_path M_wide M_high M_hedges M_hurdles M_wants M_rest M_frozen M_bytes M_position M_tokenAt M_token M_digits M_number M_faultAt M_readMany M_readWide M_readHigh M_nights M_why M_folds M_square M_want M_text M_read M_row M_foldSet M_foldEdges M_foldNeeds M_foldYards M_least M_ways M_price M_rowBy M_columnBy M_rowOf M_wayBack M_slack M_isUsed M_lifted M_freed M_path) [(0, .ref a_M), (1, .int p1), (2, .long xl2), (4, .int x4), (5, .int x5)] 17 []) (h : bd_X11_edgesOf_17 Q B5 B17 p1 x4 M_wide M_high M_hedges M_square xl2 x5) :
    J x 0 0 11 (W_Model cyI cyJ cyZ a_M a_M_square a_M_want a_M_text a_M_read a_M_row a_M_foldSet a_M_foldEdges a_M_foldNeeds a_M_foldYards a_M_least a_M_ways a_M_price a_M_rowBy a_M_columnBy a_M_rowOf a_M_wayBack a_M_slack a_M_isUsed a_M_lifted a_M_freed a_M_path M_wide M_high M_hedges M_hurdles M_wants M_rest M_frozen M_bytes M_position M_tokenAt M_token M_digits M_number M_faultAt M_readMany M_readWide M_readHigh M_nights M_why M_folds M_square M_want M_text M_read M_row M_foldSet M_foldEdges M_foldNeeds M_foldYards M_least M_ways M_price M_rowBy M_columnBy M_rowOf M_wayBack M_slack M_isUsed M_lifted M_freed M_path) [(0, .ref a_M), (1, .int p1), (2, .long xl2), (4, .int x4), (5, .int x5)] 17 [] := by
  unfold bd_X11_edgesOf_17 at h
  refine j_iload cx 4 rfl dX11_edgesOf_17 (pn := 19) rfl ?_
  refine j_iconst cx (v := 4) (by decide) dX11_edgesOf_19 (pn := 20) rfl ?_
  refine j_icmp_ge cx 140 dX11_edgesOf_20 (pn := 23) rfl rfl (fun c3 => ?_) (fun c3 => ?_)
  · have h := h.1 c3
    refine j_sub [0, 1, 2, 3] [(0, .ref a_M), (1, .int p1), (2, .long xl2), (4, .int x4)] rfl ?_
    exact J_X11_edgesOf_140 cx hR hB5 h
  · have h := h.2 c3
    refine j_iload_n cx 1 rfl rfl dX11_edgesOf_23 (pn := 24) rfl ?_
    refine j_iload cx 3 rfl dX11_edgesOf_24 (pn := 26) rfl ?_
    refine j_ishr cx dX11_edgesOf_26 (pn := 27) rfl ?_
    refine j_iconst cx (v := 1) (by decide) dX11_edgesOf_27 (pn := 28) rfl ?_
    refine j_iand cx dX11_edgesOf_28 (pn := 29) rfl ?_
    refine j_iconst cx (v := 1) (by decide) dX11_edgesOf_29 (pn := 30) rfl ?_
    refine j_icmp_ne cx 140 dX11_edgesOf_30 (pn := 33) rfl rfl (fun c5 => ?_) (fun c5 => ?_)
    · have h := h.1 c5
      refine j_sub [0, 1, 2, 3] [(0, .ref a_M), (1, .int p1), (2, .long xl2), (4, .int x4)] rfl ?_
      exact J_X11_edgesOf_140 cx hR hB5 h
    · have h := h.2 c5
      refine j_aload_n cx 0 rfl rfl dX11_edgesOf_33 (pn := 34) rfl ?_
      refine j_iload cx 3 rfl dX11_edgesOf_34 (pn := 36) rfl ?_
      refine j_iload cx 4 rfl dX11_edgesOf_36 (pn := 38) rfl ?_
      refine j_callvI0 cx q_inst_X11_besideOf q_sel_X11_besideOf (b := a_M) (As := [.int x4, .int x5]) (rest := []) (c_X11_besideOf h) ⟨q_code_X11_besideOf, q_ml_X11_228, q_init_X11, hd_X11_besideOf, ⟨Nat.le_of_ble_eq_true rfl, Nat.le_of_ble_eq_true rfl⟩, Nat.le_of_ble_eq_true rfl, Nat.le_of_ble_eq_true rfl⟩ (q0 := 0) rfl rfl rfl rfl (Nat.le_of_ble_eq_true rfl) dX11_edgesOf_38 (pn := 41) rfl (fun r6 _ h => ?_)
      show J x 0 0 11 (W_Model cyI cyJ cyZ a_M a_M_square a_M_want a_M_text a_M_read a_M_row a_M_foldSet a_M_foldEdges a_M_foldNeeds a_M_foldYards a_M_least a_M_ways a_M_price a_M_rowBy a_M_columnBy a_M_rowOf a_M_wayBack a_M_slack a_M_isUsed a_M_lifted a_M_freed a_M_path M_wide M_high M_hedges M_hurdles M_wants M_rest M_frozen M_bytes M_position M_tokenAt M_token M_digits M_number M_faultAt M_readMany M_readWide M_readHigh M_nights M_why M_folds M_square M_want M_text M_read M_row M_foldSet M_foldEdges M_foldNeeds M_foldYards M_least M_ways M_price M_rowBy M_columnBy M_rowOf M_wayBack M_slack M_isUsed M_lifted M_freed M_path) [(0, .ref a_M), (1, .int p1), (2, .long xl2), (4, .int x4), (5, .int x5)] 41 [.int r6]
      refine j_istore cx [(6, .int r6), (0, .ref a_M), (1, .int p1), (2, .long xl2), (4, .int x4), (5, .int x5)] (by decide) rfl dX11_edgesOf_41 (pn := 43) rfl ?_
      refine j_lconst cx (v := 1) (by decide) dX11_edgesOf_43 (pn := 44) rfl ?_
      refine j_aload_n cx 1 rfl rfl dX11_edgesOf_44 (pn := 45) rfl ?_
      refine j_iload cx 4 rfl dX11_edgesOf_45 (pn := 47) rfl ?_
      refine j_iload cx 5 rfl dX11_edgesOf_47 (pn := 49) rfl ?_
      refine j_callvI0 cx q_inst_X11_edgeAt q_sel_X11_edgeAt (b := a_M) (As := [.int x4, .int x5]) (rest := [.long 1]) (c_X11_edgeAt h) ⟨q_code_X11_edgeAt, q_ml_X11_201, q_init_X11, hd_X11_edgeAt, ⟨Nat.le_of_ble_eq_true rfl, Nat.le_of_ble_eq_true rfl⟩, Nat.le_of_ble_eq_true rfl, Nat.le_of_ble_eq_true rfl⟩ (q0 := 0) rfl rfl rfl rfl (Nat.le_of_ble_eq_true rfl) dX11_edgesOf_49 (pn := 52) rfl (fun r7 _ h => ?_)
      show J x 0 0 11 (W_Model cyI cyJ cyZ a_M a_M_square a_M_want a_M_text a_M_read a_M_row a_M_foldSet a_M_foldEdges a_M_foldNeeds a_M_foldYards a_M_least a_M_ways a_M_price a_M_rowBy a_M_columnBy a_M_rowOf a_M_wayBack a_M_slack a_M_isUsed a_M_lifted a_M_freed a_M_path M_wide M_high M_hedges M_hurdles M_wants M_rest M_frozen M_bytes M_position M_tokenAt M_token M_digits M_number M_faultAt M_readMany M_readWide M_readHigh M_nights M_why M_folds M_square M_want M_text M_read M_row M_foldSet M_foldEdges M_foldNeeds M_foldYards M_least M_ways M_price M_rowBy M_columnBy M_rowOf M_wayBack M_slack M_isUsed M_lifted M_freed M_path) [(6, .int r6), (0, .ref a_M), (1, .int p1), (2, .long xl2), (4, .int x4), (5, .int x5)] 52 [.int r7, .long 1]
      refine j_lshl cx dX11_edgesOf_52 (pn := 53) rfl ?_
      refine j_topl (fun y8 ey8 => ?_)
      have h := h y8 ey8
      refine j_lstore cx [(7, .long y8), (6, .int r6), (0, .ref a_M), (1, .int p1), (2, .long xl2), (4, .int x4), (5, .int x5)] (by decide) rfl dX11_edgesOf_53 (pn := 55) rfl ?_
      refine j_iload cx 1 rfl dX11_edgesOf_55 (pn := 57) rfl ?_
      refine j_iconst cx (v := (-1)) (by decide) dX11_edgesOf_57 (pn := 58) rfl ?_
      refine j_icmp_eq cx 75 dX11_edgesOf_58 (pn := 61) rfl rfl (fun c9 => ?_) (fun c9 => ?_)
      · have h := h.1 c9
        refine j_sub [2, 3, 4, 5, 6, 1, 0] [(0, .ref a_M), (1, .int p1), (2, .long xl2), (4, .int x4), (5, .int x5), (6, .int r6), (7, .long y8)] rfl ?_
        exact J_X11_edgesOf_75 cx hR hB5 hB17 h
      · have h := h.2 c9
        refine j_iload_n cx 3 rfl rfl dX11_edgesOf_61 (pn := 62) rfl ?_
        refine j_iload cx 1 rfl dX11_edgesOf_62 (pn := 64) rfl ?_
        refine j_ishr cx dX11_edgesOf_64 (pn := 65) rfl ?_
        refine j_iconst cx (v := 1) (by decide) dX11_edgesOf_65 (pn := 66) rfl ?_
        refine j_iand cx dX11_edgesOf_66 (pn := 67) rfl ?_
        refine j_iconst cx (v := 1) (by decide) dX11_edgesOf_67 (pn := 68) rfl ?_
        refine j_icmp_ne cx 75 dX11_edgesOf_68 (pn := 71) rfl rfl (fun c17 => ?_) (fun c17 => ?_)
        · have h := h.1 c17
          refine j_sub [2, 3, 4, 5, 6, 1, 0] [(0, .ref a_M), (1, .int p1), (2, .long xl2), (4, .int x4), (5, .int x5), (6, .int r6), (7, .long y8)] rfl ?_
          exact J_X11_edgesOf_75 cx hR hB5 hB17 h
        · have h := h.2 c17
          refine j_iconst cx (v := 1) (by decide) dX11_edgesOf_71 (pn := 72) rfl ?_
          refine j_goto cx 76 dX11_edgesOf_72 rfl ?_
          refine j_sub [2, 3, 4, 5, 6, 1, 0] [(0, .ref a_M), (1, .int p1), (2, .long xl2), (4, .int x4), (5, .int x5), (6, .int r6), (7, .long y8)] rfl ?_
          exact J_X11_edgesOf_76 cx hR hB5 hB17 h
set_option maxHeartbeats 4000000 in
set_option maxRecDepth 100000 in
theorem J_X11_edgesOf_17 {x : CX} {D : DG} {cyI cyJ cyZ : ClassId} {a_M a_M_square a_M_want a_M_text a_M_read a_M_row a_M_foldSet a_M_foldEdges a_M_foldNeeds a_M_foldYards a_M_least a_M_ways a_M_price a_M_rowBy a_M_columnBy a_M_rowOf a_M_wayBack a_M_slack a_M_isUsed a_M_lifted a_M_freed a_M_path : Nat} {M_wide : Int32} {M_high : Int32} {M_hedges : Int64} {M_hurdles : Int32} {M_wants : Int32} {M_rest : Int32} {M_frozen : Int32} {M_bytes : Int32} {M_position : Int32} {M_tokenAt : Int32} {M_token : Int64} {M_digits : Int32} {M_number : Int32} {M_faultAt : Int32} {M_readMany : Int32} {M_readWide : Int32} {M_readHigh : Int32} {M_nights : Int32} {M_why : Int32} {M_folds : Int32} {M_square : Nat → Int32} {M_want : Nat → Int32} {M_text : Nat → Int32} {M_read : Nat → Int32} {M_row : Nat → Int32} {M_foldSet : Nat → Int32} {M_foldEdges : Nat → Int64} {M_foldNeeds : Nat → Int32} {M_foldYards : Nat → Int32} {M_least : Nat → Int32} {M_ways : Nat → Int32} {M_price : Nat → Int32} {M_rowBy : Nat → Int32} {M_columnBy : Nat → Int32} {M_rowOf : Nat → Int32} {M_wayBack : Nat → Int32} {M_slack : Nat → Int32} {M_isUsed : Nat → Int32} {M_lifted : Nat → Int32} {M_freed : Nat → Int32} {M_path : Nat → Int32} {p1 : Int32} {xl2 : Int64} {x4 : Int32} {x5 : Int32} {Q : Int64 → Prop} {B5 : Int64 → Int32 → Prop} (cx : Cx x cX11_edgesOf 11 RX11 rm_X11_edgesOf D [(cyI, .int), (cyJ, .long), (cyZ, .boolean)]) (hR : ∀ (v : Int64) (pc : Nat) (lv : List (Nat × Value)), decode cX11_edgesOf pc = .ok (.lreturn, 1) → Q v → J x 0 0 11 (W_Model cyI cyJ cyZ a_M a_M_square a_M_want a_M_text a_M_read a_M_row a_M_foldSet a_M_foldEdges a_M_foldNeeds a_M_foldYards a_M_least a_M_ways a_M_price a_M_rowBy a_M_columnBy a_M_rowOf a_M_wayBack a_M_slack a_M_isUsed a_M_lifted a_M_freed a_M_path M_wide M_high M_hedges M_hurdles M_wants M_rest M_frozen M_bytes M_position M_tokenAt M_token M_digits M_number M_faultAt M_readMany M_readWide M_readHigh M_nights M_why M_folds M_square M_want M_text M_read M_row M_foldSet M_foldEdges M_foldNeeds M_foldYards M_least M_ways M_price M_rowBy M_columnBy M_rowOf M_wayBack M_slack M_isUsed M_lifted M_freed M_path) lv pc [.long v]) (hB5 : ∀ (xl2 : Int64) (x4 : Int32), B5 xl2 x4 → J x 0 0 11 (W_Model cyI cyJ cyZ a_M a_M_square a_M_want a_M_text a_M_read a_M_row a_M_foldSet a_M_foldEdges a_M_foldNeeds a_M_foldYards a_M_least a_M_ways a_M_price a_M_rowBy a_M_columnBy a_M_rowOf a_M_wayBack a_M_slack a_M_isUsed a_M_lifted a_M_freed a_M_path M_wide M_high M_hedges M_hurdles M_wants M_rest M_frozen M_bytes M_position M_tokenAt M_token M_digits M_number M_faultAt M_readMany M_readWide M_readHigh M_nights M_why M_folds M_square M_want M_text M_read M_row M_foldSet M_foldEdges M_foldNeeds M_foldYards M_least M_ways M_price M_rowBy M_columnBy M_rowOf M_wayBack M_slack M_isUsed M_lifted M_freed M_path) [(0, .ref a_M), (1, .int p1), (2, .long xl2), (4, .int x4)] 5 []) (h : lp_X11_edgesOf_17 Q B5 p1 x4 M_wide M_high M_hedges M_square xl2 x5) :
    J x 0 0 11 (W_Model cyI cyJ cyZ a_M a_M_square a_M_want a_M_text a_M_read a_M_row a_M_foldSet a_M_foldEdges a_M_foldNeeds a_M_foldYards a_M_least a_M_ways a_M_price a_M_rowBy a_M_columnBy a_M_rowOf a_M_wayBack a_M_slack a_M_isUsed a_M_lifted a_M_freed a_M_path M_wide M_high M_hedges M_hurdles M_wants M_rest M_frozen M_bytes M_position M_tokenAt M_token M_digits M_number M_faultAt M_readMany M_readWide M_readHigh M_nights M_why M_folds M_square M_want M_text M_read M_row M_foldSet M_foldEdges M_foldNeeds M_foldYards M_least M_ways M_price M_rowBy M_columnBy M_rowOf M_wayBack M_slack M_isUsed M_lifted M_freed M_path) [(0, .ref a_M), (1, .int p1), (2, .long xl2), (4, .int x4), (5, .int x5)] 17 [] := by
  obtain ⟨I, ⟨n, h0⟩, hb⟩ := h
  revert xl2 x5
  induction n using Nat.strongRecOn with
  | _ n ih =>
    intro xl2 x5 h0
    exact B_X11_edgesOf_17 cx hR hB5 (fun _ _ hz => by obtain ⟨n2, hlt, hI⟩ := hz; exact ih n2 hlt hI) (hb n xl2 x5 h0)
set_option maxHeartbeats 4000000 in
set_option maxRecDepth 100000 in
theorem B_X11_edgesOf_5 {x : CX} {D : DG} {cyI cyJ cyZ : ClassId} {a_M a_M_square a_M_want a_M_text a_M_read a_M_row a_M_foldSet a_M_foldEdges a_M_foldNeeds a_M_foldYards a_M_least a_M_ways a_M_price a_M_rowBy a_M_columnBy a_M_rowOf a_M_wayBack a_M_slack a_M_isUsed a_M_lifted a_M_freed a_M_path : Nat} {M_wide : Int32} {M_high : Int32} {M_hedges : Int64} {M_hurdles : Int32} {M_wants : Int32} {M_rest : Int32} {M_frozen : Int32} {M_bytes : Int32} {M_position : Int32} {M_tokenAt : Int32} {M_token : Int64} {M_digits : Int32} {M_number : Int32} {M_faultAt : Int32} {M_readMany : Int32} {M_readWide : Int32} {M_readHigh : Int32} {M_nights : Int32} {M_why : Int32} {M_folds : Int32} {M_square : Nat → Int32} {M_want : Nat → Int32} {M_text : Nat → Int32} {M_read : Nat → Int32} {M_row : Nat → Int32} {M_foldSet : Nat → Int32} {M_foldEdges : Nat → Int64} {M_foldNeeds : Nat → Int32} {M_foldYards : Nat → Int32} {M_least : Nat → Int32} {M_ways : Nat → Int32} {M_price : Nat → Int32} {M_rowBy : Nat → Int32} {M_columnBy : Nat → Int32} {M_rowOf : Nat → Int32} {M_wayBack : Nat → Int32} {M_slack : Nat → Int32} {M_isUsed : Nat → Int32} {M_lifted : Nat → Int32} {M_freed : Nat → Int32} {M_path : Nat → Int32} {p1 : Int32} {xl2 : Int64} {x4 : Int32} {Q : Int64 → Prop} {B5 : Int64 → Int32 → Prop} (cx : Cx x cX11_edgesOf 11 RX11 rm_X11_edgesOf D [(cyI, .int), (cyJ, .long), (cyZ, .boolean)]) (hR : ∀ (v : Int64) (pc : Nat) (lv : List (Nat × Value)), decode cX11_edgesOf pc = .ok (.lreturn, 1) → Q v → J x 0 0 11 (W_Model cyI cyJ cyZ a_M a_M_square a_M_want a_M_text a_M_read a_M_row a_M_foldSet a_M_foldEdges a_M_foldNeeds a_M_foldYards a_M_least a_M_ways a_M_price a_M_rowBy a_M_columnBy a_M_rowOf a_M_wayBack a_M_slack a_M_isUsed a_M_lifted a_M_freed a_M_path M_wide M_high M_hedges M_hurdles M_wants M_rest M_frozen M_bytes M_position M_tokenAt M_token M_digits M_number M_faultAt M_readMany M_readWide M_readHigh M_nights M_why M_folds M_square M_want M_text M_read M_row M_foldSet M_foldEdges M_foldNeeds M_foldYards M_least M_ways M_price M_rowBy M_columnBy M_rowOf M_wayBack M_slack M_isUsed M_lifted M_freed M_path) lv pc [.long v]) (hB5 : ∀ (xl2 : Int64) (x4 : Int32), B5 xl2 x4 → J x 0 0 11 (W_Model cyI cyJ cyZ a_M a_M_square a_M_want a_M_text a_M_read a_M_row a_M_foldSet a_M_foldEdges a_M_foldNeeds a_M_foldYards a_M_least a_M_ways a_M_price a_M_rowBy a_M_columnBy a_M_rowOf a_M_wayBack a_M_slack a_M_isUsed a_M_lifted a_M_freed a_M_path M_wide M_high M_hedges M_hurdles M_wants M_rest M_frozen M_bytes M_position M_tokenAt M_token M_digits M_number M_faultAt M_readMany M_readWide M_readHigh M_nights M_why M_folds M_square M_want M_text M_read M_row M_foldSet M_foldEdges M_foldNeeds M_foldYards M_least M_ways M_price M_rowBy M_columnBy M_rowOf M_wayBack M_slack M_isUsed M_lifted M_freed M_path) [(0, .ref a_M), (1, .int p1), (2, .long xl2), (4, .int x4)] 5 []) (h : bd_X11_edgesOf_5 Q B5 p1 M_wide M_high M_hedges M_square xl2 x4) :
    J x 0 0 11 (W_Model cyI cyJ cyZ a_M a_M_square a_M_want a_M_text a_M_read a_M_row a_M_foldSet a_M_foldEdges a_M_foldNeeds a_M_foldYards a_M_least a_M_ways a_M_price a_M_rowBy a_M_columnBy a_M_rowOf a_M_wayBack a_M_slack a_M_isUsed a_M_lifted a_M_freed a_M_path M_wide M_high M_hedges M_hurdles M_wants M_rest M_frozen M_bytes M_position M_tokenAt M_token M_digits M_number M_faultAt M_readMany M_readWide M_readHigh M_nights M_why M_folds M_square M_want M_text M_read M_row M_foldSet M_foldEdges M_foldNeeds M_foldYards M_least M_ways M_price M_rowBy M_columnBy M_rowOf M_wayBack M_slack M_isUsed M_lifted M_freed M_path) [(0, .ref a_M), (1, .int p1), (2, .long xl2), (4, .int x4)] 5 [] := by
  unfold bd_X11_edgesOf_5 at h
  refine j_iload cx 3 rfl dX11_edgesOf_5 (pn := 7) rfl ?_
  refine j_aload_n cx 0 rfl rfl dX11_edgesOf_7 (pn := 8) rfl ?_
  refine j_callvI0 cx q_inst_X11_squares q_sel_X11_squares (b := a_M) (As := []) (rest := [.int x4]) (c_X11_squares h) ⟨q_code_X11_squares, q_ml_X11_86, q_init_X11, hd_X11_squares, ⟨Nat.le_of_ble_eq_true rfl, Nat.le_of_ble_eq_true rfl⟩, Nat.le_of_ble_eq_true rfl, Nat.le_of_ble_eq_true rfl⟩ (q0 := 0) rfl rfl rfl rfl (Nat.le_of_ble_eq_true rfl) dX11_edgesOf_8 (pn := 11) rfl (fun r1 _ h => ?_)
  show J x 0 0 11 (W_Model cyI cyJ cyZ a_M a_M_square a_M_want a_M_text a_M_read a_M_row a_M_foldSet a_M_foldEdges a_M_foldNeeds a_M_foldYards a_M_least a_M_ways a_M_price a_M_rowBy a_M_columnBy a_M_rowOf a_M_wayBack a_M_slack a_M_isUsed a_M_lifted a_M_freed a_M_path M_wide M_high M_hedges M_hurdles M_wants M_rest M_frozen M_bytes M_position M_tokenAt M_token M_digits M_number M_faultAt M_readMany M_readWide M_readHigh M_nights M_why M_folds M_square M_want M_text M_read M_row M_foldSet M_foldEdges M_foldNeeds M_foldYards M_least M_ways M_price M_rowBy M_columnBy M_rowOf M_wayBack M_slack M_isUsed M_lifted M_freed M_path) [(0, .ref a_M), (1, .int p1), (2, .long xl2), (4, .int x4)] 11 [.int r1, .int x4]
  refine j_icmp_ge cx 146 dX11_edgesOf_11 (pn := 14) rfl rfl (fun c2 => ?_) (fun c2 => ?_)
  · have h := h.1 c2
    refine j_lload_n cx 2 rfl rfl dX11_edgesOf_146 (pn := 147) rfl ?_
    exact hR xl2 147 _ dX11_edgesOf_147 h
  · have h := h.2 c2
    refine j_iconst cx (v := 0) (by decide) dX11_edgesOf_14 (pn := 15) rfl ?_
    refine j_istore cx [(5, .int 0), (0, .ref a_M), (1, .int p1), (2, .long xl2), (4, .int x4)] (by decide) rfl dX11_edgesOf_15 (pn := 17) rfl ?_
    refine j_sub [1, 2, 3, 4, 0] [(0, .ref a_M), (1, .int p1), (2, .long xl2), (4, .int x4), (5, .int 0)] rfl ?_
    exact J_X11_edgesOf_17 cx hR hB5 h
set_option maxHeartbeats 4000000 in
set_option maxRecDepth 100000 in
theorem J_X11_edgesOf_5 {x : CX} {D : DG} {cyI cyJ cyZ : ClassId} {a_M a_M_square a_M_want a_M_text a_M_read a_M_row a_M_foldSet a_M_foldEdges a_M_foldNeeds a_M_foldYards a_M_least a_M_ways a_M_price a_M_rowBy a_M_columnBy a_M_rowOf a_M_wayBack a_M_slack a_M_isUsed a_M_lifted a_M_freed a_M_path : Nat} {M_wide : Int32} {M_high : Int32} {M_hedges : Int64} {M_hurdles : Int32} {M_wants : Int32} {M_rest : Int32} {M_frozen : Int32} {M_bytes : Int32} {M_position : Int32} {M_tokenAt : Int32} {M_token : Int64} {M_digits : Int32} {M_number : Int32} {M_faultAt : Int32} {M_readMany : Int32} {M_readWide : Int32} {M_readHigh : Int32} {M_nights : Int32} {M_why : Int32} {M_folds : Int32} {M_square : Nat → Int32} {M_want : Nat → Int32} {M_text : Nat → Int32} {M_read : Nat → Int32} {M_row : Nat → Int32} {M_foldSet : Nat → Int32} {M_foldEdges : Nat → Int64} {M_foldNeeds : Nat → Int32} {M_foldYards : Nat → Int32} {M_least : Nat → Int32} {M_ways : Nat → Int32} {M_price : Nat → Int32} {M_rowBy : Nat → Int32} {M_columnBy : Nat → Int32} {M_rowOf : Nat → Int32} {M_wayBack : Nat → Int32} {M_slack : Nat → Int32} {M_isUsed : Nat → Int32} {M_lifted : Nat → Int32} {M_freed : Nat → Int32} {M_path : Nat → Int32} {p1 : Int32} {xl2 : Int64} {x4 : Int32} {Q : Int64 → Prop} (cx : Cx x cX11_edgesOf 11 RX11 rm_X11_edgesOf D [(cyI, .int), (cyJ, .long), (cyZ, .boolean)]) (hR : ∀ (v : Int64) (pc : Nat) (lv : List (Nat × Value)), decode cX11_edgesOf pc = .ok (.lreturn, 1) → Q v → J x 0 0 11 (W_Model cyI cyJ cyZ a_M a_M_square a_M_want a_M_text a_M_read a_M_row a_M_foldSet a_M_foldEdges a_M_foldNeeds a_M_foldYards a_M_least a_M_ways a_M_price a_M_rowBy a_M_columnBy a_M_rowOf a_M_wayBack a_M_slack a_M_isUsed a_M_lifted a_M_freed a_M_path M_wide M_high M_hedges M_hurdles M_wants M_rest M_frozen M_bytes M_position M_tokenAt M_token M_digits M_number M_faultAt M_readMany M_readWide M_readHigh M_nights M_why M_folds M_square M_want M_text M_read M_row M_foldSet M_foldEdges M_foldNeeds M_foldYards M_least M_ways M_price M_rowBy M_columnBy M_rowOf M_wayBack M_slack M_isUsed M_lifted M_freed M_path) lv pc [.long v]) (h : lp_X11_edgesOf_5 Q  p1 M_wide M_high M_hedges M_square xl2 x4) :
    J x 0 0 11 (W_Model cyI cyJ cyZ a_M a_M_square a_M_want a_M_text a_M_read a_M_row a_M_foldSet a_M_foldEdges a_M_foldNeeds a_M_foldYards a_M_least a_M_ways a_M_price a_M_rowBy a_M_columnBy a_M_rowOf a_M_wayBack a_M_slack a_M_isUsed a_M_lifted a_M_freed a_M_path M_wide M_high M_hedges M_hurdles M_wants M_rest M_frozen M_bytes M_position M_tokenAt M_token M_digits M_number M_faultAt M_readMany M_readWide M_readHigh M_nights M_why M_folds M_square M_want M_text M_read M_row M_foldSet M_foldEdges M_foldNeeds M_foldYards M_least M_ways M_price M_rowBy M_columnBy M_rowOf M_wayBack M_slack M_isUsed M_lifted M_freed M_path) [(0, .ref a_M), (1, .int p1), (2, .long xl2), (4, .int x4)] 5 [] := by
  obtain ⟨I, ⟨n, h0⟩, hb⟩ := h
  revert xl2 x4
  induction n using Nat.strongRecOn with
  | _ n ih =>
    intro xl2 x4 h0
    exact B_X11_edgesOf_5 cx hR (fun _ _ hz => by obtain ⟨n2, hlt, hI⟩ := hz; exact ih n2 hlt hI) (hb n xl2 x4 h0)
set_option maxHeartbeats 4000000 in
set_option maxRecDepth 100000 in
theorem c_X11_edgesOf {D : DG} {cyI cyJ cyZ : ClassId} {a_M a_M_square a_M_want a_M_text a_M_read a_M_row a_M_foldSet a_M_foldEdges a_M_foldNeeds a_M_foldYards a_M_least a_M_ways a_M_price a_M_rowBy a_M_columnBy a_M_rowOf a_M_wayBack a_M_slack a_M_isUsed a_M_lifted a_M_freed a_M_path : Nat} {M_wide : Int32} {M_high : Int32} {M_hedges : Int64} {M_hurdles : Int32} {M_wants : Int32} {M_rest : Int32} {M_frozen : Int32} {M_bytes : Int32} {M_position : Int32} {M_tokenAt : Int32} {M_token : Int64} {M_digits : Int32} {M_number : Int32} {M_faultAt : Int32} {M_readMany : Int32} {M_readWide : Int32} {M_readHigh : Int32} {M_nights : Int32} {M_why : Int32} {M_folds : Int32} {M_square : Nat → Int32} {M_want : Nat → Int32} {M_text : Nat → Int32} {M_read : Nat → Int32} {M_row : Nat → Int32} {M_foldSet : Nat → Int32} {M_foldEdges : Nat → Int64} {M_foldNeeds : Nat → Int32} {M_foldYards : Nat → Int32} {M_least : Nat → Int32} {M_ways : Nat → Int32} {M_price : Nat → Int32} {M_rowBy : Nat → Int32} {M_columnBy : Nat → Int32} {M_rowOf : Nat → Int32} {M_wayBack : Nat → Int32} {M_slack : Nat → Int32} {M_isUsed : Nat → Int32} {M_lifted : Nat → Int32} {M_freed : Nat → Int32} {M_path : Nat → Int32} {p1 : Int32} {Q : Int64 → Prop} (h : wp_X11_edgesOf p1 M_wide M_high M_hedges M_square Q) :
    MetL yX11_edgesOf cX11_edgesOf 11 (some .long) rm_X11_edgesOf D [(cyI, .int), (cyJ, .long), (cyZ, .boolean)] [.ref a_M, .int p1] (W_Model cyI cyJ cyZ a_M a_M_square a_M_want a_M_text a_M_read a_M_row a_M_foldSet a_M_foldEdges a_M_foldNeeds a_M_foldYards a_M_least a_M_ways a_M_price a_M_rowBy a_M_columnBy a_M_rowOf a_M_wayBack a_M_slack a_M_isUsed a_M_lifted a_M_freed a_M_path M_wide M_high M_hedges M_hurdles M_wants M_rest M_frozen M_bytes M_position M_tokenAt M_token M_digits M_number M_faultAt M_readMany M_readWide M_readHigh M_nights M_why M_folds M_square M_want M_text M_read M_row M_foldSet M_foldEdges M_foldNeeds M_foldYards M_least M_ways M_price M_rowBy M_columnBy M_rowOf M_wayBack M_slack M_isUsed M_lifted M_freed M_path) (fun _ : Unit => (W_Model cyI cyJ cyZ a_M a_M_square a_M_want a_M_text a_M_read a_M_row a_M_foldSet a_M_foldEdges a_M_foldNeeds a_M_foldYards a_M_least a_M_ways a_M_price a_M_rowBy a_M_columnBy a_M_rowOf a_M_wayBack a_M_slack a_M_isUsed a_M_lifted a_M_freed a_M_path M_wide M_high M_hedges M_hurdles M_wants M_rest M_frozen M_bytes M_position M_tokenAt M_token M_digits M_number M_faultAt M_readMany M_readWide M_readHigh M_nights M_why M_folds M_square M_want M_text M_read M_row M_foldSet M_foldEdges M_foldNeeds M_foldYards M_least M_ways M_price M_rowBy M_columnBy M_rowOf M_wayBack M_slack M_isUsed M_lifted M_freed M_path)) (fun v _ => Q v ) := by
  unfold wp_X11_edgesOf at h
  refine metL_of (by decide) (Nat.le_of_ble_eq_true rfl) (fun x cx0 hR0 => ?_)
  have cx : Cx x cX11_edgesOf 11 RX11 rm_X11_edgesOf D [(cyI, .int), (cyJ, .long), (cyZ, .boolean)] := cx0
  have hR : ∀ (v : Int64) (pc : Nat) (lv : List (Nat × Value)), decode cX11_edgesOf pc = .ok (.lreturn, 1) → Q v → J x 0 0 11 (W_Model cyI cyJ cyZ a_M a_M_square a_M_want a_M_text a_M_read a_M_row a_M_foldSet a_M_foldEdges a_M_foldNeeds a_M_foldYards a_M_least a_M_ways a_M_price a_M_rowBy a_M_columnBy a_M_rowOf a_M_wayBack a_M_slack a_M_isUsed a_M_lifted a_M_freed a_M_path M_wide M_high M_hedges M_hurdles M_wants M_rest M_frozen M_bytes M_position M_tokenAt M_token M_digits M_number M_faultAt M_readMany M_readWide M_readHigh M_nights M_why M_folds M_square M_want M_text M_read M_row M_foldSet M_foldEdges M_foldNeeds M_foldYards M_least M_ways M_price M_rowBy M_columnBy M_rowOf M_wayBack M_slack M_isUsed M_lifted M_freed M_path) lv pc [.long v] := (fun v pc lv d hq => hR0 v () pc lv d hq)
  show J x 0 0 11 (W_Model cyI cyJ cyZ a_M a_M_square a_M_want a_M_text a_M_read a_M_row a_M_foldSet a_M_foldEdges a_M_foldNeeds a_M_foldYards a_M_least a_M_ways a_M_price a_M_rowBy a_M_columnBy a_M_rowOf a_M_wayBack a_M_slack a_M_isUsed a_M_lifted a_M_freed a_M_path M_wide M_high M_hedges M_hurdles M_wants M_rest M_frozen M_bytes M_position M_tokenAt M_token M_digits M_number M_faultAt M_readMany M_readWide M_readHigh M_nights M_why M_folds M_square M_want M_text M_read M_row M_foldSet M_foldEdges M_foldNeeds M_foldYards M_least M_ways M_price M_rowBy M_columnBy M_rowOf M_wayBack M_slack M_isUsed M_lifted M_freed M_path) [(0, .ref a_M), (1, .int p1)] 0 []
  refine j_lconst cx (v := 0) (by decide) dX11_edgesOf_0 (pn := 1) rfl ?_
  refine j_lstore_n cx rfl [(2, .long 0), (0, .ref a_M), (1, .int p1)] (by decide) rfl dX11_edgesOf_1 (pn := 2) rfl ?_
  refine j_iconst cx (v := 0) (by decide) dX11_edgesOf_2 (pn := 3) rfl ?_
  refine j_istore cx [(4, .int 0), (2, .long 0), (0, .ref a_M), (1, .int p1)] (by decide) rfl dX11_edgesOf_3 (pn := 5) rfl ?_
  refine j_sub [2, 3, 1, 0] [(0, .ref a_M), (1, .int p1), (2, .long 0), (4, .int 0)] rfl ?_
  exact J_X11_edgesOf_5 cx hR h
theorem dX11_bits_0 : decode cX11_bits 0 = .ok (.iconst 0, 1) := by decide +kernel
theorem dX11_bits_1 : decode cX11_bits 1 = .ok (.istore_n 2, 1) := by decide +kernel
theorem dX11_bits_2 : decode cX11_bits 2 = .ok (.lload_n 0, 1) := by decide +kernel
theorem dX11_bits_3 : decode cX11_bits 3 = .ok (.lstore_n 3, 1) := by decide +kernel
theorem dX11_bits_4 : decode cX11_bits 4 = .ok (.lload_n 3, 1) := by decide +kernel
theorem dX11_bits_5 : decode cX11_bits 5 = .ok (.lconst 0, 1) := by decide +kernel
theorem dX11_bits_6 : decode cX11_bits 6 = .ok (.lcmp, 1) := by decide +kernel
theorem dX11_bits_7 : decode cX11_bits 7 = .ok (.ifCond .eq 15, 3) := by decide +kernel
theorem dX11_bits_10 : decode cX11_bits 10 = .ok (.lload_n 3, 1) := by decide +kernel
theorem dX11_bits_11 : decode cX11_bits 11 = .ok (.lload_n 3, 1) := by decide +kernel
theorem dX11_bits_12 : decode cX11_bits 12 = .ok (.lconst 1, 1) := by decide +kernel
theorem dX11_bits_13 : decode cX11_bits 13 = .ok (.lsub, 1) := by decide +kernel
theorem dX11_bits_14 : decode cX11_bits 14 = .ok (.land, 1) := by decide +kernel
theorem dX11_bits_15 : decode cX11_bits 15 = .ok (.lstore_n 3, 1) := by decide +kernel
theorem dX11_bits_16 : decode cX11_bits 16 = .ok (.iinc 2 1, 3) := by decide +kernel
theorem dX11_bits_19 : decode cX11_bits 19 = .ok (.goto (-15), 3) := by decide +kernel
theorem dX11_bits_22 : decode cX11_bits 22 = .ok (.iload_n 2, 1) := by decide +kernel
theorem dX11_bits_23 : decode cX11_bits 23 = .ok (.ireturn, 1) := by decide +kernel
abbrev rm_X11_bits : Room := { frames := 0, cells := 0, slots := 0, locals := 0 }
theorem hd_X11_bits : yX11_bits.cls ≠ "java/lang/invoke/MethodHandle" ∧ yX11_bits.cls ≠ "java/lang/invoke/VarHandle" ∧ (parseMethodDescriptor yX11_bits.desc).map (fun d => d.parameters.length) = some 1 := by decide +kernel
def bd_X11_bits_4 (Q : Int32 → Prop) (B4 : Int32 → Int64 → Prop) (x2 : Int32) (xl3 : Int64) : Prop :=
((xl3 = 0 → Q x2) ∧
(¬ xl3 = 0 → ∀ y2 : Int64, y2 = (xl3 &&& (xl3 - 1)) →
∀ y3 : Int32, y3 = (x2 + 1) →
B4 y3 y2))
def lp_X11_bits_4 (Q : Int32 → Prop) (x2 : Int32) (xl3 : Int64) : Prop :=
∃ I : Nat → Int32 → Int64 → Prop, (∃ n, I n x2 xl3) ∧ ∀ n x2 xl3, I n x2 xl3 → bd_X11_bits_4 Q  (fun x2' xl3' => ∃ n', n' < n ∧ I n' x2' xl3')  x2 xl3
def wp_X11_bits (p0 : Int64) (Q : Int32 → Prop) : Prop :=
lp_X11_bits_4 Q 0 p0
set_option maxHeartbeats 4000000 in
set_option maxRecDepth 100000 in
theorem B_X11_bits_4 {x : CX} {D : DG} {cyI cyJ cyZ : ClassId} {x2 : Int32} {xl3 : Int64} {Q : Int32 → Prop} {B4 : Int32 → Int64 → Prop} (cx : Cx x cX11_bits 5 RX11 rm_X11_bits D [(cyI, .int), (cyJ, .long), (cyZ, .boolean)]) (hR : ∀ (v : Int32) (pc : Nat) (lv : List (Nat × Value)), decode cX11_bits pc = .ok (.ireturn, 1) → Q v → J x 0 0 5 ([] : va_W) lv pc [.int v]) (hB4 : ∀ (x2 : Int32) (xl3 : Int64), B4 x2 xl3 → J x 0 0 5 ([] : va_W) [(2, .int x2), (3, .long xl3)] 4 []) (h : bd_X11_bits_4 Q B4 x2 xl3) :
    J x 0 0 5 ([] : va_W) [(2, .int x2), (3, .long xl3)] 4 [] := by
  unfold bd_X11_bits_4 at h
  refine j_lload_n cx 1 rfl rfl dX11_bits_4 (pn := 5) rfl ?_
  refine j_lconst cx (v := 0) (by decide) dX11_bits_5 (pn := 6) rfl ?_
  refine j_lif_eq cx 22 dX11_bits_6 (pm := 7) (pn := 10) rfl dX11_bits_7 rfl rfl (fun c1 => ?_) (fun c1 => ?_)
  · have h := h.1 c1
    refine j_iload_n cx 0 rfl rfl dX11_bits_22 (pn := 23) rfl ?_
    exact hR x2 23 _ dX11_bits_23 h
  · have h := h.2 c1
    refine j_lload_n cx 1 rfl rfl dX11_bits_10 (pn := 11) rfl ?_
    refine j_lload_n cx 1 rfl rfl dX11_bits_11 (pn := 12) rfl ?_
    refine j_lconst cx (v := 1) (by decide) dX11_bits_12 (pn := 13) rfl ?_
    refine j_lsub cx dX11_bits_13 (pn := 14) rfl ?_
    refine j_land cx dX11_bits_14 (pn := 15) rfl ?_
    refine j_topl (fun y2 ey2 => ?_)
    have h := h y2 ey2
    refine j_lstore_n cx rfl [(3, .long y2), (2, .int x2)] (by decide) rfl dX11_bits_15 (pn := 16) rfl ?_
    obtain ⟨y3, ey3⟩ : ∃ z : Int32, z = x2 + 1 := ⟨_, rfl⟩
    have h := h y3 ey3
    refine j_iinc cx 1 rfl (cst := 1) (by decide) ey3 [(2, .int y3), (3, .long y2)] (by decide) rfl dX11_bits_16 (pn := 19) rfl ?_
    refine j_goto cx 4 dX11_bits_19 rfl ?_
    exact hB4 _ _ h
set_option maxHeartbeats 4000000 in
set_option maxRecDepth 100000 in
theorem J_X11_bits_4 {x : CX} {D : DG} {cyI cyJ cyZ : ClassId} {x2 : Int32} {xl3 : Int64} {Q : Int32 → Prop} (cx : Cx x cX11_bits 5 RX11 rm_X11_bits D [(cyI, .int), (cyJ, .long), (cyZ, .boolean)]) (hR : ∀ (v : Int32) (pc : Nat) (lv : List (Nat × Value)), decode cX11_bits pc = .ok (.ireturn, 1) → Q v → J x 0 0 5 ([] : va_W) lv pc [.int v]) (h : lp_X11_bits_4 Q  x2 xl3) :
    J x 0 0 5 ([] : va_W) [(2, .int x2), (3, .long xl3)] 4 [] := by
  obtain ⟨I, ⟨n, h0⟩, hb⟩ := h
  revert x2 xl3
  induction n using Nat.strongRecOn with
  | _ n ih =>
    intro x2 xl3 h0
    exact B_X11_bits_4 cx hR (fun _ _ hz => by obtain ⟨n2, hlt, hI⟩ := hz; exact ih n2 hlt hI) (hb n x2 xl3 h0)
set_option maxHeartbeats 4000000 in
set_option maxRecDepth 100000 in
theorem c_X11_bits {D : DG} {cyI cyJ cyZ : ClassId} {p0 : Int64} {Q : Int32 → Prop} (h : wp_X11_bits p0 Q) :
    MetI yX11_bits cX11_bits 5 (some .int) rm_X11_bits D [(cyI, .int), (cyJ, .long), (cyZ, .boolean)] [.long p0] ([] : va_W) (fun _ : Unit => ([] : va_W)) (fun v _ => Q v ) := by
  unfold wp_X11_bits at h
  refine metI_of (by decide) (Nat.le_of_ble_eq_true rfl) (fun x cx0 hR0 => ?_)
  have cx : Cx x cX11_bits 5 RX11 rm_X11_bits D [(cyI, .int), (cyJ, .long), (cyZ, .boolean)] := cx0
  have hR : ∀ (v : Int32) (pc : Nat) (lv : List (Nat × Value)), decode cX11_bits pc = .ok (.ireturn, 1) → Q v → J x 0 0 5 ([] : va_W) lv pc [.int v] := (fun v pc lv d hq => hR0 v () pc lv d hq)
  show J x 0 0 5 ([] : va_W) [(0, .long p0)] 0 []
  refine j_iconst cx (v := 0) (by decide) dX11_bits_0 (pn := 1) rfl ?_
  refine j_istore_n cx rfl [(2, .int 0), (0, .long p0)] (by decide) rfl dX11_bits_1 (pn := 2) rfl ?_
  refine j_lload_n cx 1 rfl rfl dX11_bits_2 (pn := 3) rfl ?_
  refine j_lstore_n cx rfl [(3, .long p0), (2, .int 0), (0, .long p0)] (by decide) rfl dX11_bits_3 (pn := 4) rfl ?_
  refine j_sub [1, 0] [(2, .int 0), (3, .long p0)] rfl ?_
  exact J_X11_bits_4 cx hR h
theorem dX11_yardsOf_0 : decode cX11_yardsOf 0 = .ok (.iconst 0, 1) := by decide +kernel
theorem dX11_yardsOf_1 : decode cX11_yardsOf 1 = .ok (.istore_n 2, 1) := by decide +kernel
theorem dX11_yardsOf_2 : decode cX11_yardsOf 2 = .ok (.iconst 0, 1) := by decide +kernel
theorem dX11_yardsOf_3 : decode cX11_yardsOf 3 = .ok (.istore_n 3, 1) := by decide +kernel
theorem dX11_yardsOf_4 : decode cX11_yardsOf 4 = .ok (.iload_n 3, 1) := by decide +kernel
theorem dX11_yardsOf_5 : decode cX11_yardsOf 5 = .ok (.aload_n 0, 1) := by decide +kernel
theorem dX11_yardsOf_6 : decode cX11_yardsOf 6 = .ok (.invokevirtual 86, 3) := by decide +kernel
theorem dX11_yardsOf_9 : decode cX11_yardsOf 9 = .ok (.if_icmp .ge 42, 3) := by decide +kernel
theorem dX11_yardsOf_12 : decode cX11_yardsOf 12 = .ok (.iload_n 2, 1) := by decide +kernel
theorem dX11_yardsOf_13 : decode cX11_yardsOf 13 = .ok (.iload_n 1, 1) := by decide +kernel
theorem dX11_yardsOf_14 : decode cX11_yardsOf 14 = .ok (.iload_n 3, 1) := by decide +kernel
theorem dX11_yardsOf_15 : decode cX11_yardsOf 15 = .ok (.ishr, 1) := by decide +kernel
theorem dX11_yardsOf_16 : decode cX11_yardsOf 16 = .ok (.iconst 1, 1) := by decide +kernel
theorem dX11_yardsOf_17 : decode cX11_yardsOf 17 = .ok (.iand, 1) := by decide +kernel
theorem dX11_yardsOf_18 : decode cX11_yardsOf 18 = .ok (.iconst 1, 1) := by decide +kernel
theorem dX11_yardsOf_19 : decode cX11_yardsOf 19 = .ok (.if_icmp .ne 23, 3) := by decide +kernel
theorem dX11_yardsOf_22 : decode cX11_yardsOf 22 = .ok (.aload_n 0, 1) := by decide +kernel
theorem dX11_yardsOf_23 : decode cX11_yardsOf 23 = .ok (.getfield 16, 3) := by decide +kernel
theorem dX11_yardsOf_26 : decode cX11_yardsOf 26 = .ok (.iload_n 3, 1) := by decide +kernel
theorem dX11_yardsOf_27 : decode cX11_yardsOf 27 = .ok (.iaload, 1) := by decide +kernel
theorem dX11_yardsOf_28 : decode cX11_yardsOf 28 = .ok (.bipush 10, 2) := by decide +kernel
theorem dX11_yardsOf_30 : decode cX11_yardsOf 30 = .ok (.if_icmp .ge 12, 3) := by decide +kernel
theorem dX11_yardsOf_33 : decode cX11_yardsOf 33 = .ok (.aload_n 0, 1) := by decide +kernel
theorem dX11_yardsOf_34 : decode cX11_yardsOf 34 = .ok (.getfield 16, 3) := by decide +kernel
theorem dX11_yardsOf_37 : decode cX11_yardsOf 37 = .ok (.iload_n 3, 1) := by decide +kernel
theorem dX11_yardsOf_38 : decode cX11_yardsOf 38 = .ok (.iaload, 1) := by decide +kernel
theorem dX11_yardsOf_39 : decode cX11_yardsOf 39 = .ok (.goto 4, 3) := by decide +kernel
theorem dX11_yardsOf_42 : decode cX11_yardsOf 42 = .ok (.iconst 0, 1) := by decide +kernel
theorem dX11_yardsOf_43 : decode cX11_yardsOf 43 = .ok (.iadd, 1) := by decide +kernel
theorem dX11_yardsOf_44 : decode cX11_yardsOf 44 = .ok (.istore_n 2, 1) := by decide +kernel
theorem dX11_yardsOf_45 : decode cX11_yardsOf 45 = .ok (.iinc 3 1, 3) := by decide +kernel
theorem dX11_yardsOf_48 : decode cX11_yardsOf 48 = .ok (.goto (-44), 3) := by decide +kernel
theorem dX11_yardsOf_51 : decode cX11_yardsOf 51 = .ok (.iload_n 2, 1) := by decide +kernel
theorem dX11_yardsOf_52 : decode cX11_yardsOf 52 = .ok (.ireturn, 1) := by decide +kernel
abbrev rm_X11_yardsOf : Room := { frames := 1, cells := 0, slots := 0, locals := 20 }
theorem hd_X11_yardsOf : yX11_yardsOf.cls ≠ "java/lang/invoke/MethodHandle" ∧ yX11_yardsOf.cls ≠ "java/lang/invoke/VarHandle" ∧ (parseMethodDescriptor yX11_yardsOf.desc).map (fun d => d.parameters.length) = some 1 := by decide +kernel
def bk_X11_yardsOf_43 (Q : Int32 → Prop) (B4 : Int32 → Int32 → Prop) (x3 : Int32) (s0 : Int32) (s1 : Int32) : Prop :=
∀ y4 : Int32, y4 = (s1 + s0) →
∀ y5 : Int32, y5 = (x3 + 1) →
B4 y4 y5
def bk_X11_yardsOf_42 (Q : Int32 → Prop) (B4 : Int32 → Int32 → Prop) (x3 : Int32) (s0 : Int32) : Prop :=
bk_X11_yardsOf_43 Q B4 x3 0 s0
def bd_X11_yardsOf_4 (Q : Int32 → Prop) (B4 : Int32 → Int32 → Prop) (p1 : Int32) (M_wide : Int32) (M_high : Int32) (M_square : Nat → Int32) (x2 : Int32) (x3 : Int32) : Prop :=
wp_X11_squares M_wide M_high (fun (r1 : Int32) => ((r1 ≤ x3 → Q x2) ∧
(¬ r1 ≤ x3 → ((¬ ((p1 >>> (x3 &&& 31)) &&& 1) = 1 → bk_X11_yardsOf_42 Q B4 x3 x2) ∧
(((p1 >>> (x3 &&& 31)) &&& 1) = 1 → vp_in x3 10 ∧ ((10 ≤ (M_square x3.toNatClampNeg) → bk_X11_yardsOf_42 Q B4 x3 x2) ∧
(¬ 10 ≤ (M_square x3.toNatClampNeg) → vp_in x3 10 ∧ bk_X11_yardsOf_43 Q B4 x3 (M_square x3.toNatClampNeg) x2)))))))
def lp_X11_yardsOf_4 (Q : Int32 → Prop) (p1 : Int32) (M_wide : Int32) (M_high : Int32) (M_square : Nat → Int32) (x2 : Int32) (x3 : Int32) : Prop :=
∃ I : Nat → Int32 → Int32 → Prop, (∃ n, I n x2 x3) ∧ ∀ n x2 x3, I n x2 x3 → bd_X11_yardsOf_4 Q  (fun x2' x3' => ∃ n', n' < n ∧ I n' x2' x3') p1 M_wide M_high M_square x2 x3
def wp_X11_yardsOf (p1 : Int32) (M_wide : Int32) (M_high : Int32) (M_square : Nat → Int32) (Q : Int32 → Prop) : Prop :=
lp_X11_yardsOf_4 Q p1 M_wide M_high M_square 0 0
set_option maxHeartbeats 4000000 in
set_option maxRecDepth 100000 in
theorem J_X11_yardsOf_43 {x : CX} {D : DG} {cyI cyJ cyZ : ClassId} {a_M a_M_square a_M_want a_M_text a_M_read a_M_row a_M_foldSet a_M_foldEdges a_M_foldNeeds a_M_foldYards a_M_least a_M_ways a_M_price a_M_rowBy a_M_columnBy a_M_rowOf a_M_wayBack a_M_slack a_M_isUsed a_M_lifted a_M_freed a_M_path : Nat} {M_wide : Int32} {M_high : Int32} {M_hedges : Int64} {M_hurdles : Int32} {M_wants : Int32} {M_rest : Int32} {M_frozen : Int32} {M_bytes : Int32} {M_position : Int32} {M_tokenAt : Int32} {M_token : Int64} {M_digits : Int32} {M_number : Int32} {M_faultAt : Int32} {M_readMany : Int32} {M_readWide : Int32} {M_readHigh : Int32} {M_nights : Int32} {M_why : Int32} {M_folds : Int32} {M_square : Nat → Int32} {M_want : Nat → Int32} {M_text : Nat → Int32} {M_read : Nat → Int32} {M_row : Nat → Int32} {M_foldSet : Nat → Int32} {M_foldEdges : Nat → Int64} {M_foldNeeds : Nat → Int32} {M_foldYards : Nat → Int32} {M_least : Nat → Int32} {M_ways : Nat → Int32} {M_price : Nat → Int32} {M_rowBy : Nat → Int32} {M_columnBy : Nat → Int32} {M_rowOf : Nat → Int32} {M_wayBack : Nat → Int32} {M_slack : Nat → Int32} {M_isUsed : Nat → Int32} {M_lifted : Nat → Int32} {M_freed : Nat → Int32} {M_path : Nat → Int32} {p1 : Int32} {x3 : Int32} {s0 : Int32} {s1 : Int32} {Q : Int32 → Prop} {B4 : Int32 → Int32 → Prop} (cx : Cx x cX11_yardsOf 4 RX11 rm_X11_yardsOf D [(cyI, .int), (cyJ, .long), (cyZ, .boolean)]) (hR : ∀ (v : Int32) (pc : Nat) (lv : List (Nat × Value)), decode cX11_yardsOf pc = .ok (.ireturn, 1) → Q v → J x 0 0 4 (W_Model cyI cyJ cyZ a_M a_M_square a_M_want a_M_text a_M_read a_M_row a_M_foldSet a_M_foldEdges a_M_foldNeeds a_M_foldYards a_M_least a_M_ways a_M_price a_M_rowBy a_M_columnBy a_M_rowOf a_M_wayBack a_M_slack a_M_isUsed a_M_lifted a_M_freed a_M_path M_wide M_high M_hedges M_hurdles M_wants M_rest M_frozen M_bytes M_position M_tokenAt M_token M_digits M_number M_faultAt M_readMany M_readWide M_readHigh M_nights M_why M_folds M_square M_want M_text M_read M_row M_foldSet M_foldEdges M_foldNeeds M_foldYards M_least M_ways M_price M_rowBy M_columnBy M_rowOf M_wayBack M_slack M_isUsed M_lifted M_freed M_path) lv pc [.int v]) (hB4 : ∀ (x2 : Int32) (x3 : Int32), B4 x2 x3 → J x 0 0 4 (W_Model cyI cyJ cyZ a_M a_M_square a_M_want a_M_text a_M_read a_M_row a_M_foldSet a_M_foldEdges a_M_foldNeeds a_M_foldYards a_M_least a_M_ways a_M_price a_M_rowBy a_M_columnBy a_M_rowOf a_M_wayBack a_M_slack a_M_isUsed a_M_lifted a_M_freed a_M_path M_wide M_high M_hedges M_hurdles M_wants M_rest M_frozen M_bytes M_position M_tokenAt M_token M_digits M_number M_faultAt M_readMany M_readWide M_readHigh M_nights M_why M_folds M_square M_want M_text M_read M_row M_foldSet M_foldEdges M_foldNeeds M_foldYards M_least M_ways M_price M_rowBy M_columnBy M_rowOf M_wayBack M_slack M_isUsed M_lifted M_freed M_path) [(0, .ref a_M), (1, .int p1), (2, .int x2), (3, .int x3)] 4 []) (h : bk_X11_yardsOf_43 Q B4 x3 s0 s1) :
    J x 0 0 4 (W_Model cyI cyJ cyZ a_M a_M_square a_M_want a_M_text a_M_read a_M_row a_M_foldSet a_M_foldEdges a_M_foldNeeds a_M_foldYards a_M_least a_M_ways a_M_price a_M_rowBy a_M_columnBy a_M_rowOf a_M_wayBack a_M_slack a_M_isUsed a_M_lifted a_M_freed a_M_path M_wide M_high M_hedges M_hurdles M_wants M_rest M_frozen M_bytes M_position M_tokenAt M_token M_digits M_number M_faultAt M_readMany M_readWide M_readHigh M_nights M_why M_folds M_square M_want M_text M_read M_row M_foldSet M_foldEdges M_foldNeeds M_foldYards M_least M_ways M_price M_rowBy M_columnBy M_rowOf M_wayBack M_slack M_isUsed M_lifted M_freed M_path) [(0, .ref a_M), (1, .int p1), (3, .int x3)] 43 [.int s0, .int s1] := by
  unfold bk_X11_yardsOf_43 at h
  refine j_iadd cx dX11_yardsOf_43 (pn := 44) rfl ?_
  refine j_topi (fun y4 ey4 => ?_)
  have h := h y4 ey4
  refine j_istore_n cx rfl [(2, .int y4), (0, .ref a_M), (1, .int p1), (3, .int x3)] (by decide) rfl dX11_yardsOf_44 (pn := 45) rfl ?_
  obtain ⟨y5, ey5⟩ : ∃ z : Int32, z = x3 + 1 := ⟨_, rfl⟩
  have h := h y5 ey5
  refine j_iinc cx 3 rfl (cst := 1) (by decide) ey5 [(3, .int y5), (2, .int y4), (0, .ref a_M), (1, .int p1)] (by decide) rfl dX11_yardsOf_45 (pn := 48) rfl ?_
  refine j_goto cx 4 dX11_yardsOf_48 rfl ?_
  refine j_sub [2, 3, 1, 0] [(0, .ref a_M), (1, .int p1), (2, .int y4), (3, .int y5)] rfl ?_
  exact hB4 _ _ h
set_option maxHeartbeats 4000000 in
set_option maxRecDepth 100000 in
theorem J_X11_yardsOf_42 {x : CX} {D : DG} {cyI cyJ cyZ : ClassId} {a_M a_M_square a_M_want a_M_text a_M_read a_M_row a_M_foldSet a_M_foldEdges a_M_foldNeeds a_M_foldYards a_M_least a_M_ways a_M_price a_M_rowBy a_M_columnBy a_M_rowOf a_M_wayBack a_M_slack a_M_isUsed a_M_lifted a_M_freed a_M_path : Nat} {M_wide : Int32} {M_high : Int32} {M_hedges : Int64} {M_hurdles : Int32} {M_wants : Int32} {M_rest : Int32} {M_frozen : Int32} {M_bytes : Int32} {M_position : Int32} {M_tokenAt : Int32} {M_token : Int64} {M_digits : Int32} {M_number : Int32} {M_faultAt : Int32} {M_readMany : Int32} {M_readWide : Int32} {M_readHigh : Int32} {M_nights : Int32} {M_why : Int32} {M_folds : Int32} {M_square : Nat → Int32} {M_want : Nat → Int32} {M_text : Nat → Int32} {M_read : Nat → Int32} {M_row : Nat → Int32} {M_foldSet : Nat → Int32} {M_foldEdges : Nat → Int64} {M_foldNeeds : Nat → Int32} {M_foldYards : Nat → Int32} {M_least : Nat → Int32} {M_ways : Nat → Int32} {M_price : Nat → Int32} {M_rowBy : Nat → Int32} {M_columnBy : Nat → Int32} {M_rowOf : Nat → Int32} {M_wayBack : Nat → Int32} {M_slack : Nat → Int32} {M_isUsed : Nat → Int32} {M_lifted : Nat → Int32} {M_freed : Nat → Int32} {M_path : Nat → Int32} {p1 : Int32} {x3 : Int32} {s0 : Int32} {Q : Int32 → Prop} {B4 : Int32 → Int32 → Prop} (cx : Cx x cX11_yardsOf 4 RX11 rm_X11_yardsOf D [(cyI, .int), (cyJ, .long), (cyZ, .boolean)]) (hR : ∀ (v : Int32) (pc : Nat) (lv : List (Nat × Value)), decode cX11_yardsOf pc = .ok (.ireturn, 1) → Q v → J x 0 0 4 (W_Model cyI cyJ cyZ a_M a_M_square a_M_want a_M_text a_M_read a_M_row a_M_foldSet a_M_foldEdges a_M_foldNeeds a_M_foldYards a_M_least a_M_ways a_M_price a_M_rowBy a_M_columnBy a_M_rowOf a_M_wayBack a_M_slack a_M_isUsed a_M_lifted a_M_freed a_M_path M_wide M_high M_hedges M_hurdles M_wants M_rest M_frozen M_bytes M_position M_tokenAt M_token M_digits M_number M_faultAt M_readMany M_readWide M_readHigh M_nights M_why M_folds M_square M_want M_text M_read M_row M_foldSet M_foldEdges M_foldNeeds M_foldYards M_least M_ways M_price M_rowBy M_columnBy M_rowOf M_wayBack M_slack M_isUsed M_lifted M_freed M_path) lv pc [.int v]) (hB4 : ∀ (x2 : Int32) (x3 : Int32), B4 x2 x3 → J x 0 0 4 (W_Model cyI cyJ cyZ a_M a_M_square a_M_want a_M_text a_M_read a_M_row a_M_foldSet a_M_foldEdges a_M_foldNeeds a_M_foldYards a_M_least a_M_ways a_M_price a_M_rowBy a_M_columnBy a_M_rowOf a_M_wayBack a_M_slack a_M_isUsed a_M_lifted a_M_freed a_M_path M_wide M_high M_hedges M_hurdles M_wants M_rest M_frozen M_bytes M_position M_tokenAt M_token M_digits M_number M_faultAt M_readMany M_readWide M_readHigh M_nights M_why M_folds M_square M_want M_text M_read M_row M_foldSet M_foldEdges M_foldNeeds M_foldYards M_least M_ways M_price M_rowBy M_columnBy M_rowOf M_wayBack M_slack M_isUsed M_lifted M_freed M_path) [(0, .ref a_M), (1, .int p1), (2, .int x2), (3, .int x3)] 4 []) (h : bk_X11_yardsOf_42 Q B4 x3 s0) :
    J x 0 0 4 (W_Model cyI cyJ cyZ a_M a_M_square a_M_want a_M_text a_M_read a_M_row a_M_foldSet a_M_foldEdges a_M_foldNeeds a_M_foldYards a_M_least a_M_ways a_M_price a_M_rowBy a_M_columnBy a_M_rowOf a_M_wayBack a_M_slack a_M_isUsed a_M_lifted a_M_freed a_M_path M_wide M_high M_hedges M_hurdles M_wants M_rest M_frozen M_bytes M_position M_tokenAt M_token M_digits M_number M_faultAt M_readMany M_readWide M_readHigh M_nights M_why M_folds M_square M_want M_text M_read M_row M_foldSet M_foldEdges M_foldNeeds M_foldYards M_least M_ways M_price M_rowBy M_columnBy M_rowOf M_wayBack M_slack M_isUsed M_lifted M_freed M_path) [(0, .ref a_M), (1, .int p1), (3, .int x3)] 42 [.int s0] := by
  unfold bk_X11_yardsOf_42 at h
  refine j_iconst cx (v := 0) (by decide) dX11_yardsOf_42 (pn := 43) rfl ?_
  exact J_X11_yardsOf_43 cx hR hB4 h
set_option maxHeartbeats 4000000 in
set_option maxRecDepth 100000 in
theorem B_X11_yardsOf_4 {x : CX} {D : DG} {cyI cyJ cyZ : ClassId} {a_M a_M_square a_M_want a_M_text a_M_read a_M_row a_M_foldSet a_M_foldEdges a_M_foldNeeds a_M_foldYards a_M_least a_M_ways a_M_price a_M_rowBy a_M_columnBy a_M_rowOf a_M_wayBack a_M_slack a_M_isUsed a_M_lifted a_M_freed a_M_path : Nat} {M_wide : Int32} {M_high : Int32} {M_hedges : Int64} {M_hurdles : Int32} {M_wants : Int32} {M_rest : Int32} {M_frozen : Int32} {M_bytes : Int32} {M_position : Int32} {M_tokenAt : Int32} {M_token : Int64} {M_digits : Int32} {M_number : Int32} {M_faultAt : Int32} {M_readMany : Int32} {M_readWide : Int32} {M_readHigh : Int32} {M_nights : Int32} {M_why : Int32} {M_folds : Int32} {M_square : Nat → Int32} {M_want : Nat → Int32} {M_text : Nat → Int32} {M_read : Nat → Int32} {M_row : Nat → Int32} {M_foldSet : Nat → Int32} {M_foldEdges : Nat → Int64} {M_foldNeeds : Nat → Int32} {M_foldYards : Nat → Int32} {M_least : Nat → Int32} {M_ways : Nat → Int32} {M_price : Nat → Int32} {M_rowBy : Nat → Int32} {M_columnBy : Nat → Int32} {M_rowOf : Nat → Int32} {M_wayBack : Nat → Int32} {M_slack : Nat → Int32} {M_isUsed : Nat → Int32} {M_lifted : Nat → Int32} {M_freed : Nat → Int32} {M_path : Nat → Int32} {p1 : Int32} {x2 : Int32} {x3 : Int32} {Q : Int32 → Prop} {B4 : Int32 → Int32 → Prop} (cx : Cx x cX11_yardsOf 4 RX11 rm_X11_yardsOf D [(cyI, .int), (cyJ, .long), (cyZ, .boolean)]) (hR : ∀ (v : Int32) (pc : Nat) (lv : List (Nat × Value)), decode cX11_yardsOf pc = .ok (.ireturn, 1) → Q v → J x 0 0 4 (W_Model cyI cyJ cyZ a_M a_M_square a_M_want a_M_text a_M_read a_M_row a_M_foldSet a_M_foldEdges a_M_foldNeeds a_M_foldYards a_M_least a_M_ways a_M_price a_M_rowBy a_M_columnBy a_M_rowOf a_M_wayBack a_M_slack a_M_isUsed a_M_lifted a_M_freed a_M_path M_wide M_high M_hedges M_hurdles M_wants M_rest M_frozen M_bytes M_position M_tokenAt M_token M_digits M_number M_faultAt M_readMany M_readWide M_readHigh M_nights M_why M_folds M_square M_want M_text M_read M_row M_foldSet M_foldEdges M_foldNeeds M_foldYards M_least M_ways M_price M_rowBy M_columnBy M_rowOf M_wayBack M_slack M_isUsed M_lifted M_freed M_path) lv pc [.int v]) (hB4 : ∀ (x2 : Int32) (x3 : Int32), B4 x2 x3 → J x 0 0 4 (W_Model cyI cyJ cyZ a_M a_M_square a_M_want a_M_text a_M_read a_M_row a_M_foldSet a_M_foldEdges a_M_foldNeeds a_M_foldYards a_M_least a_M_ways a_M_price a_M_rowBy a_M_columnBy a_M_rowOf a_M_wayBack a_M_slack a_M_isUsed a_M_lifted a_M_freed a_M_path M_wide M_high M_hedges M_hurdles M_wants M_rest M_frozen M_bytes M_position M_tokenAt M_token M_digits M_number M_faultAt M_readMany M_readWide M_readHigh M_nights M_why M_folds M_square M_want M_text M_read M_row M_foldSet M_foldEdges M_foldNeeds M_foldYards M_least M_ways M_price M_rowBy M_columnBy M_rowOf M_wayBack M_slack M_isUsed M_lifted M_freed M_path) [(0, .ref a_M), (1, .int p1), (2, .int x2), (3, .int x3)] 4 []) (h : bd_X11_yardsOf_4 Q B4 p1 M_wide M_high M_square x2 x3) :
    J x 0 0 4 (W_Model cyI cyJ cyZ a_M a_M_square a_M_want a_M_text a_M_read a_M_row a_M_foldSet a_M_foldEdges a_M_foldNeeds a_M_foldYards a_M_least a_M_ways a_M_price a_M_rowBy a_M_columnBy a_M_rowOf a_M_wayBack a_M_slack a_M_isUsed a_M_lifted a_M_freed a_M_path M_wide M_high M_hedges M_hurdles M_wants M_rest M_frozen M_bytes M_position M_tokenAt M_token M_digits M_number M_faultAt M_readMany M_readWide M_readHigh M_nights M_why M_folds M_square M_want M_text M_read M_row M_foldSet M_foldEdges M_foldNeeds M_foldYards M_least M_ways M_price M_rowBy M_columnBy M_rowOf M_wayBack M_slack M_isUsed M_lifted M_freed M_path) [(0, .ref a_M), (1, .int p1), (2, .int x2), (3, .int x3)] 4 [] := by
  unfold bd_X11_yardsOf_4 at h
  refine j_iload_n cx 3 rfl rfl dX11_yardsOf_4 (pn := 5) rfl ?_
  refine j_aload_n cx 0 rfl rfl dX11_yardsOf_5 (pn := 6) rfl ?_
  refine j_callvI0 cx q_inst_X11_squares q_sel_X11_squares (b := a_M) (As := []) (rest := [.int x3]) (c_X11_squares h) ⟨q_code_X11_squares, q_ml_X11_86, q_init_X11, hd_X11_squares, ⟨Nat.le_of_ble_eq_true rfl, Nat.le_of_ble_eq_true rfl⟩, Nat.le_of_ble_eq_true rfl, Nat.le_of_ble_eq_true rfl⟩ (q0 := 0) rfl rfl rfl rfl (Nat.le_of_ble_eq_true rfl) dX11_yardsOf_6 (pn := 9) rfl (fun r1 _ h => ?_)
  show J x 0 0 4 (W_Model cyI cyJ cyZ a_M a_M_square a_M_want a_M_text a_M_read a_M_row a_M_foldSet a_M_foldEdges a_M_foldNeeds a_M_foldYards a_M_least a_M_ways a_M_price a_M_rowBy a_M_columnBy a_M_rowOf a_M_wayBack a_M_slack a_M_isUsed a_M_lifted a_M_freed a_M_path M_wide M_high M_hedges M_hurdles M_wants M_rest M_frozen M_bytes M_position M_tokenAt M_token M_digits M_number M_faultAt M_readMany M_readWide M_readHigh M_nights M_why M_folds M_square M_want M_text M_read M_row M_foldSet M_foldEdges M_foldNeeds M_foldYards M_least M_ways M_price M_rowBy M_columnBy M_rowOf M_wayBack M_slack M_isUsed M_lifted M_freed M_path) [(0, .ref a_M), (1, .int p1), (2, .int x2), (3, .int x3)] 9 [.int r1, .int x3]
  refine j_icmp_ge cx 51 dX11_yardsOf_9 (pn := 12) rfl rfl (fun c2 => ?_) (fun c2 => ?_)
  · have h := h.1 c2
    refine j_iload_n cx 2 rfl rfl dX11_yardsOf_51 (pn := 52) rfl ?_
    exact hR x2 52 _ dX11_yardsOf_52 h
  · have h := h.2 c2
    refine j_iload_n cx 2 rfl rfl dX11_yardsOf_12 (pn := 13) rfl ?_
    refine j_iload_n cx 1 rfl rfl dX11_yardsOf_13 (pn := 14) rfl ?_
    refine j_iload_n cx 3 rfl rfl dX11_yardsOf_14 (pn := 15) rfl ?_
    refine j_ishr cx dX11_yardsOf_15 (pn := 16) rfl ?_
    refine j_iconst cx (v := 1) (by decide) dX11_yardsOf_16 (pn := 17) rfl ?_
    refine j_iand cx dX11_yardsOf_17 (pn := 18) rfl ?_
    refine j_iconst cx (v := 1) (by decide) dX11_yardsOf_18 (pn := 19) rfl ?_
    refine j_icmp_ne cx 42 dX11_yardsOf_19 (pn := 22) rfl rfl (fun c3 => ?_) (fun c3 => ?_)
    · have h := h.1 c3
      refine j_sub [0, 1, 3] [(0, .ref a_M), (1, .int p1), (3, .int x3)] rfl ?_
      exact J_X11_yardsOf_42 cx hR hB4 h
    · have h := h.2 c3
      refine j_aload_n cx 0 rfl rfl dX11_yardsOf_22 (pn := 23) rfl ?_
      refine j_get cx inGX11 0 rfl rfl 2 (by decide) q_fl_X11_16 rfl rfl dX11_yardsOf_23 (pn := 26) rfl ?_
      refine j_iload_n cx 3 rfl rfl dX11_yardsOf_26 (pn := 27) rfl ?_
      refine j_iald cx 1 0 rfl rfl h.1 dX11_yardsOf_27 (pn := 28) rfl ?_
      have h := h.2
      refine j_bipush cx (v := 10) (by decide) dX11_yardsOf_28 (pn := 30) rfl ?_
      refine j_icmp_ge cx 42 dX11_yardsOf_30 (pn := 33) rfl rfl (fun c6 => ?_) (fun c6 => ?_)
      · have h := h.1 c6
        refine j_sub [0, 1, 3] [(0, .ref a_M), (1, .int p1), (3, .int x3)] rfl ?_
        exact J_X11_yardsOf_42 cx hR hB4 h
      · have h := h.2 c6
        refine j_aload_n cx 0 rfl rfl dX11_yardsOf_33 (pn := 34) rfl ?_
        refine j_get cx inGX11 0 rfl rfl 2 (by decide) q_fl_X11_16 rfl rfl dX11_yardsOf_34 (pn := 37) rfl ?_
        refine j_iload_n cx 3 rfl rfl dX11_yardsOf_37 (pn := 38) rfl ?_
        refine j_iald cx 1 0 rfl rfl h.1 dX11_yardsOf_38 (pn := 39) rfl ?_
        have h := h.2
        refine j_goto cx 43 dX11_yardsOf_39 rfl ?_
        refine j_sub [0, 1, 3] [(0, .ref a_M), (1, .int p1), (3, .int x3)] rfl ?_
        exact J_X11_yardsOf_43 cx hR hB4 h
set_option maxHeartbeats 4000000 in
set_option maxRecDepth 100000 in
theorem J_X11_yardsOf_4 {x : CX} {D : DG} {cyI cyJ cyZ : ClassId} {a_M a_M_square a_M_want a_M_text a_M_read a_M_row a_M_foldSet a_M_foldEdges a_M_foldNeeds a_M_foldYards a_M_least a_M_ways a_M_price a_M_rowBy a_M_columnBy a_M_rowOf a_M_wayBack a_M_slack a_M_isUsed a_M_lifted a_M_freed a_M_path : Nat} {M_wide : Int32} {M_high : Int32} {M_hedges : Int64} {M_hurdles : Int32} {M_wants : Int32} {M_rest : Int32} {M_frozen : Int32} {M_bytes : Int32} {M_position : Int32} {M_tokenAt : Int32} {M_token : Int64} {M_digits : Int32} {M_number : Int32} {M_faultAt : Int32} {M_readMany : Int32} {M_readWide : Int32} {M_readHigh : Int32} {M_nights : Int32} {M_why : Int32} {M_folds : Int32} {M_square : Nat → Int32} {M_want : Nat → Int32} {M_text : Nat → Int32} {M_read : Nat → Int32} {M_row : Nat → Int32} {M_foldSet : Nat → Int32} {M_foldEdges : Nat → Int64} {M_foldNeeds : Nat → Int32} {M_foldYards : Nat → Int32} {M_least : Nat → Int32} {M_ways : Nat → Int32} {M_price : Nat → Int32} {M_rowBy : Nat → Int32} {M_columnBy : Nat → Int32} {M_rowOf : Nat → Int32} {M_wayBack : Nat → Int32} {M_slack : Nat → Int32} {M_isUsed : Nat → Int32} {M_lifted : Nat → Int32} {M_freed : Nat → Int32} {M_path : Nat → Int32} {p1 : Int32} {x2 : Int32} {x3 : Int32} {Q : Int32 → Prop} (cx : Cx x cX11_yardsOf 4 RX11 rm_X11_yardsOf D [(cyI, .int), (cyJ, .long), (cyZ, .boolean)]) (hR : ∀ (v : Int32) (pc : Nat) (lv : List (Nat × Value)), decode cX11_yardsOf pc = .ok (.ireturn, 1) → Q v → J x 0 0 4 (W_Model cyI cyJ cyZ a_M a_M_square a_M_want a_M_text a_M_read a_M_row a_M_foldSet a_M_foldEdges a_M_foldNeeds a_M_foldYards a_M_least a_M_ways a_M_price a_M_rowBy a_M_columnBy a_M_rowOf a_M_wayBack a_M_slack a_M_isUsed a_M_lifted a_M_freed a_M_path M_wide M_high M_hedges M_hurdles M_wants M_rest M_frozen M_bytes M_position M_tokenAt M_token M_digits M_number M_faultAt M_readMany M_readWide M_readHigh M_nights M_why M_folds M_square M_want M_text M_read M_row M_foldSet M_foldEdges M_foldNeeds M_foldYards M_least M_ways M_price M_rowBy M_columnBy M_rowOf M_wayBack M_slack M_isUsed M_lifted M_freed M_path) lv pc [.int v]) (h : lp_X11_yardsOf_4 Q  p1 M_wide M_high M_square x2 x3) :
    J x 0 0 4 (W_Model cyI cyJ cyZ a_M a_M_square a_M_want a_M_text a_M_read a_M_row a_M_foldSet a_M_foldEdges a_M_foldNeeds a_M_foldYards a_M_least a_M_ways a_M_price a_M_rowBy a_M_columnBy a_M_rowOf a_M_wayBack a_M_slack a_M_isUsed a_M_lifted a_M_freed a_M_path M_wide M_high M_hedges M_hurdles M_wants M_rest M_frozen M_bytes M_position M_tokenAt M_token M_digits M_number M_faultAt M_readMany M_readWide M_readHigh M_nights M_why M_folds M_square M_want M_text M_read M_row M_foldSet M_foldEdges M_foldNeeds M_foldYards M_least M_ways M_price M_rowBy M_columnBy M_rowOf M_wayBack M_slack M_isUsed M_lifted M_freed M_path) [(0, .ref a_M), (1, .int p1), (2, .int x2), (3, .int x3)] 4 [] := by
  obtain ⟨I, ⟨n, h0⟩, hb⟩ := h
  revert x2 x3
  induction n using Nat.strongRecOn with
  | _ n ih =>
    intro x2 x3 h0
    exact B_X11_yardsOf_4 cx hR (fun _ _ hz => by obtain ⟨n2, hlt, hI⟩ := hz; exact ih n2 hlt hI) (hb n x2 x3 h0)
set_option maxHeartbeats 4000000 in
set_option maxRecDepth 100000 in
theorem c_X11_yardsOf {D : DG} {cyI cyJ cyZ : ClassId} {a_M a_M_square a_M_want a_M_text a_M_read a_M_row a_M_foldSet a_M_foldEdges a_M_foldNeeds a_M_foldYards a_M_least a_M_ways a_M_price a_M_rowBy a_M_columnBy a_M_rowOf a_M_wayBack a_M_slack a_M_isUsed a_M_lifted a_M_freed a_M_path : Nat} {M_wide : Int32} {M_high : Int32} {M_hedges : Int64} {M_hurdles : Int32} {M_wants : Int32} {M_rest : Int32} {M_frozen : Int32} {M_bytes : Int32} {M_position : Int32} {M_tokenAt : Int32} {M_token : Int64} {M_digits : Int32} {M_number : Int32} {M_faultAt : Int32} {M_readMany : Int32} {M_readWide : Int32} {M_readHigh : Int32} {M_nights : Int32} {M_why : Int32} {M_folds : Int32} {M_square : Nat → Int32} {M_want : Nat → Int32} {M_text : Nat → Int32} {M_read : Nat → Int32} {M_row : Nat → Int32} {M_foldSet : Nat → Int32} {M_foldEdges : Nat → Int64} {M_foldNeeds : Nat → Int32} {M_foldYards : Nat → Int32} {M_least : Nat → Int32} {M_ways : Nat → Int32} {M_price : Nat → Int32} {M_rowBy : Nat → Int32} {M_columnBy : Nat → Int32} {M_rowOf : Nat → Int32} {M_wayBack : Nat → Int32} {M_slack : Nat → Int32} {M_isUsed : Nat → Int32} {M_lifted : Nat → Int32} {M_freed : Nat → Int32} {M_path : Nat → Int32} {p1 : Int32} {Q : Int32 → Prop} (h : wp_X11_yardsOf p1 M_wide M_high M_square Q) :
    MetI yX11_yardsOf cX11_yardsOf 4 (some .int) rm_X11_yardsOf D [(cyI, .int), (cyJ, .long), (cyZ, .boolean)] [.ref a_M, .int p1] (W_Model cyI cyJ cyZ a_M a_M_square a_M_want a_M_text a_M_read a_M_row a_M_foldSet a_M_foldEdges a_M_foldNeeds a_M_foldYards a_M_least a_M_ways a_M_price a_M_rowBy a_M_columnBy a_M_rowOf a_M_wayBack a_M_slack a_M_isUsed a_M_lifted a_M_freed a_M_path M_wide M_high M_hedges M_hurdles M_wants M_rest M_frozen M_bytes M_position M_tokenAt M_token M_digits M_number M_faultAt M_readMany M_readWide M_readHigh M_nights M_why M_folds M_square M_want M_text M_read M_row M_foldSet M_foldEdges M_foldNeeds M_foldYards M_least M_ways M_price M_rowBy M_columnBy M_rowOf M_wayBack M_slack M_isUsed M_lifted M_freed M_path) (fun _ : Unit => (W_Model cyI cyJ cyZ a_M a_M_square a_M_want a_M_text a_M_read a_M_row a_M_foldSet a_M_foldEdges a_M_foldNeeds a_M_foldYards a_M_least a_M_ways a_M_price a_M_rowBy a_M_columnBy a_M_rowOf a_M_wayBack a_M_slack a_M_isUsed a_M_lifted a_M_freed a_M_path M_wide M_high M_hedges M_hurdles M_wants M_rest M_frozen M_bytes M_position M_tokenAt M_token M_digits M_number M_faultAt M_readMany M_readWide M_readHigh M_nights M_why M_folds M_square M_want M_text M_read M_row M_foldSet M_foldEdges M_foldNeeds M_foldYards M_least M_ways M_price M_rowBy M_columnBy M_rowOf M_wayBack M_slack M_isUsed M_lifted M_freed M_path)) (fun v _ => Q v ) := by
  unfold wp_X11_yardsOf at h
  refine metI_of (by decide) (Nat.le_of_ble_eq_true rfl) (fun x cx0 hR0 => ?_)
  have cx : Cx x cX11_yardsOf 4 RX11 rm_X11_yardsOf D [(cyI, .int), (cyJ, .long), (cyZ, .boolean)] := cx0
  have hR : ∀ (v : Int32) (pc : Nat) (lv : List (Nat × Value)), decode cX11_yardsOf pc = .ok (.ireturn, 1) → Q v → J x 0 0 4 (W_Model cyI cyJ cyZ a_M a_M_square a_M_want a_M_text a_M_read a_M_row a_M_foldSet a_M_foldEdges a_M_foldNeeds a_M_foldYards a_M_least a_M_ways a_M_price a_M_rowBy a_M_columnBy a_M_rowOf a_M_wayBack a_M_slack a_M_isUsed a_M_lifted a_M_freed a_M_path M_wide M_high M_hedges M_hurdles M_wants M_rest M_frozen M_bytes M_position M_tokenAt M_token M_digits M_number M_faultAt M_readMany M_readWide M_readHigh M_nights M_why M_folds M_square M_want M_text M_read M_row M_foldSet M_foldEdges M_foldNeeds M_foldYards M_least M_ways M_price M_rowBy M_columnBy M_rowOf M_wayBack M_slack M_isUsed M_lifted M_freed M_path) lv pc [.int v] := (fun v pc lv d hq => hR0 v () pc lv d hq)
  show J x 0 0 4 (W_Model cyI cyJ cyZ a_M a_M_square a_M_want a_M_text a_M_read a_M_row a_M_foldSet a_M_foldEdges a_M_foldNeeds a_M_foldYards a_M_least a_M_ways a_M_price a_M_rowBy a_M_columnBy a_M_rowOf a_M_wayBack a_M_slack a_M_isUsed a_M_lifted a_M_freed a_M_path M_wide M_high M_hedges M_hurdles M_wants M_rest M_frozen M_bytes M_position M_tokenAt M_token M_digits M_number M_faultAt M_readMany M_readWide M_readHigh M_nights M_why M_folds M_square M_want M_text M_read M_row M_foldSet M_foldEdges M_foldNeeds M_foldYards M_least M_ways M_price M_rowBy M_columnBy M_rowOf M_wayBack M_slack M_isUsed M_lifted M_freed M_path) [(0, .ref a_M), (1, .int p1)] 0 []
  refine j_iconst cx (v := 0) (by decide) dX11_yardsOf_0 (pn := 1) rfl ?_
  refine j_istore_n cx rfl [(2, .int 0), (0, .ref a_M), (1, .int p1)] (by decide) rfl dX11_yardsOf_1 (pn := 2) rfl ?_
  refine j_iconst cx (v := 0) (by decide) dX11_yardsOf_2 (pn := 3) rfl ?_
  refine j_istore_n cx rfl [(3, .int 0), (2, .int 0), (0, .ref a_M), (1, .int p1)] (by decide) rfl dX11_yardsOf_3 (pn := 4) rfl ?_
  refine j_sub [2, 3, 1, 0] [(0, .ref a_M), (1, .int p1), (2, .int 0), (3, .int 0)] rfl ?_
  exact J_X11_yardsOf_4 cx hR h
theorem dX11_sides_0 : decode cX11_sides 0 = .ok (.aload_n 0, 1) := by decide +kernel
theorem dX11_sides_1 : decode cX11_sides 1 = .ok (.iload_n 1, 1) := by decide +kernel
theorem dX11_sides_2 : decode cX11_sides 2 = .ok (.invokevirtual 231, 3) := by decide +kernel
theorem dX11_sides_5 : decode cX11_sides 5 = .ok (.ifCond .ne 6, 3) := by decide +kernel
theorem dX11_sides_8 : decode cX11_sides 8 = .ok (.bipush (-3), 2) := by decide +kernel
theorem dX11_sides_10 : decode cX11_sides 10 = .ok (.ireturn, 1) := by decide +kernel
theorem dX11_sides_11 : decode cX11_sides 11 = .ok (.aload_n 0, 1) := by decide +kernel
theorem dX11_sides_12 : decode cX11_sides 12 = .ok (.iload_n 1, 1) := by decide +kernel
theorem dX11_sides_13 : decode cX11_sides 13 = .ok (.invokevirtual 237, 3) := by decide +kernel
theorem dX11_sides_16 : decode cX11_sides 16 = .ok (.ifCond .eq 14, 3) := by decide +kernel
theorem dX11_sides_19 : decode cX11_sides 19 = .ok (.aload_n 0, 1) := by decide +kernel
theorem dX11_sides_20 : decode cX11_sides 20 = .ok (.iload_n 1, 1) := by decide +kernel
theorem dX11_sides_21 : decode cX11_sides 21 = .ok (.invokevirtual 240, 3) := by decide +kernel
theorem dX11_sides_24 : decode cX11_sides 24 = .ok (.invokestatic 244, 3) := by decide +kernel
theorem dX11_sides_27 : decode cX11_sides 27 = .ok (.goto 4, 3) := by decide +kernel
theorem dX11_sides_30 : decode cX11_sides 30 = .ok (.iconst (-1), 1) := by decide +kernel
theorem dX11_sides_31 : decode cX11_sides 31 = .ok (.ireturn, 1) := by decide +kernel
abbrev rm_X11_sides : Room := { frames := 4, cells := 0, slots := 0, locals := 94 }
theorem hd_X11_sides : yX11_sides.cls ≠ "java/lang/invoke/MethodHandle" ∧ yX11_sides.cls ≠ "java/lang/invoke/VarHandle" ∧ (parseMethodDescriptor yX11_sides.desc).map (fun d => d.parameters.length) = some 1 := by decide +kernel
def wp_X11_sides (p1 : Int32) (M_wide : Int32) (M_high : Int32) (M_hedges : Int64) (M_square : Nat → Int32) (Q : Int32 → Prop) : Prop :=
wp_X11_isSet p1 M_wide M_high (fun (r1 : Int32) => ((¬ r1 = 0 → wp_X11_isFold p1 M_wide M_high M_square (fun (r3 : Int32) => ((r3 = 0 → Q (-1)) ∧
(¬ r3 = 0 → wp_X11_edgesOf p1 M_wide M_high M_hedges M_square (fun (r5 : Int64) => wp_X11_bits r5 (fun (r6 : Int32) => Q r6)))))) ∧
(r1 = 0 → Q (-3))))
set_option maxHeartbeats 4000000 in
set_option maxRecDepth 100000 in
theorem c_X11_sides {D : DG} {cyI cyJ cyZ : ClassId} {a_M a_M_square a_M_want a_M_text a_M_read a_M_row a_M_foldSet a_M_foldEdges a_M_foldNeeds a_M_foldYards a_M_least a_M_ways a_M_price a_M_rowBy a_M_columnBy a_M_rowOf a_M_wayBack a_M_slack a_M_isUsed a_M_lifted a_M_freed a_M_path : Nat} {M_wide : Int32} {M_high : Int32} {M_hedges : Int64} {M_hurdles : Int32} {M_wants : Int32} {M_rest : Int32} {M_frozen : Int32} {M_bytes : Int32} {M_position : Int32} {M_tokenAt : Int32} {M_token : Int64} {M_digits : Int32} {M_number : Int32} {M_faultAt : Int32} {M_readMany : Int32} {M_readWide : Int32} {M_readHigh : Int32} {M_nights : Int32} {M_why : Int32} {M_folds : Int32} {M_square : Nat → Int32} {M_want : Nat → Int32} {M_text : Nat → Int32} {M_read : Nat → Int32} {M_row : Nat → Int32} {M_foldSet : Nat → Int32} {M_foldEdges : Nat → Int64} {M_foldNeeds : Nat → Int32} {M_foldYards : Nat → Int32} {M_least : Nat → Int32} {M_ways : Nat → Int32} {M_price : Nat → Int32} {M_rowBy : Nat → Int32} {M_columnBy : Nat → Int32} {M_rowOf : Nat → Int32} {M_wayBack : Nat → Int32} {M_slack : Nat → Int32} {M_isUsed : Nat → Int32} {M_lifted : Nat → Int32} {M_freed : Nat → Int32} {M_path : Nat → Int32} {p1 : Int32} {Q : Int32 → Prop} (h : wp_X11_sides p1 M_wide M_high M_hedges M_square Q) :
    MetI yX11_sides cX11_sides 2 (some .int) rm_X11_sides D [(cyI, .int), (cyJ, .long), (cyZ, .boolean)] [.ref a_M, .int p1] (W_Model cyI cyJ cyZ a_M a_M_square a_M_want a_M_text a_M_read a_M_row a_M_foldSet a_M_foldEdges a_M_foldNeeds a_M_foldYards a_M_least a_M_ways a_M_price a_M_rowBy a_M_columnBy a_M_rowOf a_M_wayBack a_M_slack a_M_isUsed a_M_lifted a_M_freed a_M_path M_wide M_high M_hedges M_hurdles M_wants M_rest M_frozen M_bytes M_position M_tokenAt M_token M_digits M_number M_faultAt M_readMany M_readWide M_readHigh M_nights M_why M_folds M_square M_want M_text M_read M_row M_foldSet M_foldEdges M_foldNeeds M_foldYards M_least M_ways M_price M_rowBy M_columnBy M_rowOf M_wayBack M_slack M_isUsed M_lifted M_freed M_path) (fun _ : Unit => (W_Model cyI cyJ cyZ a_M a_M_square a_M_want a_M_text a_M_read a_M_row a_M_foldSet a_M_foldEdges a_M_foldNeeds a_M_foldYards a_M_least a_M_ways a_M_price a_M_rowBy a_M_columnBy a_M_rowOf a_M_wayBack a_M_slack a_M_isUsed a_M_lifted a_M_freed a_M_path M_wide M_high M_hedges M_hurdles M_wants M_rest M_frozen M_bytes M_position M_tokenAt M_token M_digits M_number M_faultAt M_readMany M_readWide M_readHigh M_nights M_why M_folds M_square M_want M_text M_read M_row M_foldSet M_foldEdges M_foldNeeds M_foldYards M_least M_ways M_price M_rowBy M_columnBy M_rowOf M_wayBack M_slack M_isUsed M_lifted M_freed M_path)) (fun v _ => Q v ) := by
  unfold wp_X11_sides at h
  refine metI_of (by decide) (Nat.le_of_ble_eq_true rfl) (fun x cx0 hR0 => ?_)
  have cx : Cx x cX11_sides 2 RX11 rm_X11_sides D [(cyI, .int), (cyJ, .long), (cyZ, .boolean)] := cx0
  have hR : ∀ (v : Int32) (pc : Nat) (lv : List (Nat × Value)), decode cX11_sides pc = .ok (.ireturn, 1) → Q v → J x 0 0 2 (W_Model cyI cyJ cyZ a_M a_M_square a_M_want a_M_text a_M_read a_M_row a_M_foldSet a_M_foldEdges a_M_foldNeeds a_M_foldYards a_M_least a_M_ways a_M_price a_M_rowBy a_M_columnBy a_M_rowOf a_M_wayBack a_M_slack a_M_isUsed a_M_lifted a_M_freed a_M_path M_wide M_high M_hedges M_hurdles M_wants M_rest M_frozen M_bytes M_position M_tokenAt M_token M_digits M_number M_faultAt M_readMany M_readWide M_readHigh M_nights M_why M_folds M_square M_want M_text M_read M_row M_foldSet M_foldEdges M_foldNeeds M_foldYards M_least M_ways M_price M_rowBy M_columnBy M_rowOf M_wayBack M_slack M_isUsed M_lifted M_freed M_path) lv pc [.int v] := (fun v pc lv d hq => hR0 v () pc lv d hq)
  show J x 0 0 2 (W_Model cyI cyJ cyZ a_M a_M_square a_M_want a_M_text a_M_read a_M_row a_M_foldSet a_M_foldEdges a_M_foldNeeds a_M_foldYards a_M_least a_M_ways a_M_price a_M_rowBy a_M_columnBy a_M_rowOf a_M_wayBack a_M_slack a_M_isUsed a_M_lifted a_M_freed a_M_path M_wide M_high M_hedges M_hurdles M_wants M_rest M_frozen M_bytes M_position M_tokenAt M_token M_digits M_number M_faultAt M_readMany M_readWide M_readHigh M_nights M_why M_folds M_square M_want M_text M_read M_row M_foldSet M_foldEdges M_foldNeeds M_foldYards M_least M_ways M_price M_rowBy M_columnBy M_rowOf M_wayBack M_slack M_isUsed M_lifted M_freed M_path) [(0, .ref a_M), (1, .int p1)] 0 []
  refine j_aload_n cx 0 rfl rfl dX11_sides_0 (pn := 1) rfl ?_
  refine j_iload_n cx 1 rfl rfl dX11_sides_1 (pn := 2) rfl ?_
  refine j_callvI0 cx q_inst_X11_isSet q_sel_X11_isSet (b := a_M) (As := [.int p1]) (rest := []) (c_X11_isSet h) ⟨q_code_X11_isSet, q_ml_X11_231, q_init_X11, hd_X11_isSet, ⟨Nat.le_of_ble_eq_true rfl, Nat.le_of_ble_eq_true rfl⟩, Nat.le_of_ble_eq_true rfl, Nat.le_of_ble_eq_true rfl⟩ (q0 := 0) rfl rfl rfl rfl (Nat.le_of_ble_eq_true rfl) dX11_sides_2 (pn := 5) rfl (fun r1 _ h => ?_)
  show J x 0 0 2 (W_Model cyI cyJ cyZ a_M a_M_square a_M_want a_M_text a_M_read a_M_row a_M_foldSet a_M_foldEdges a_M_foldNeeds a_M_foldYards a_M_least a_M_ways a_M_price a_M_rowBy a_M_columnBy a_M_rowOf a_M_wayBack a_M_slack a_M_isUsed a_M_lifted a_M_freed a_M_path M_wide M_high M_hedges M_hurdles M_wants M_rest M_frozen M_bytes M_position M_tokenAt M_token M_digits M_number M_faultAt M_readMany M_readWide M_readHigh M_nights M_why M_folds M_square M_want M_text M_read M_row M_foldSet M_foldEdges M_foldNeeds M_foldYards M_least M_ways M_price M_rowBy M_columnBy M_rowOf M_wayBack M_slack M_isUsed M_lifted M_freed M_path) [(0, .ref a_M), (1, .int p1)] 5 [.int r1]
  refine j_if_ne cx 11 dX11_sides_5 (pn := 8) rfl rfl (fun c2 => ?_) (fun c2 => ?_)
  · have h := h.1 c2
    refine j_aload_n cx 0 rfl rfl dX11_sides_11 (pn := 12) rfl ?_
    refine j_iload_n cx 1 rfl rfl dX11_sides_12 (pn := 13) rfl ?_
    refine j_callvI0 cx q_inst_X11_isFold q_sel_X11_isFold (b := a_M) (As := [.int p1]) (rest := []) (c_X11_isFold h) ⟨q_code_X11_isFold, q_ml_X11_237, q_init_X11, hd_X11_isFold, ⟨Nat.le_of_ble_eq_true rfl, Nat.le_of_ble_eq_true rfl⟩, Nat.le_of_ble_eq_true rfl, Nat.le_of_ble_eq_true rfl⟩ (q0 := 0) rfl rfl rfl rfl (Nat.le_of_ble_eq_true rfl) dX11_sides_13 (pn := 16) rfl (fun r3 _ h => ?_)
    show J x 0 0 2 (W_Model cyI cyJ cyZ a_M a_M_square a_M_want a_M_text a_M_read a_M_row a_M_foldSet a_M_foldEdges a_M_foldNeeds a_M_foldYards a_M_least a_M_ways a_M_price a_M_rowBy a_M_columnBy a_M_rowOf a_M_wayBack a_M_slack a_M_isUsed a_M_lifted a_M_freed a_M_path M_wide M_high M_hedges M_hurdles M_wants M_rest M_frozen M_bytes M_position M_tokenAt M_token M_digits M_number M_faultAt M_readMany M_readWide M_readHigh M_nights M_why M_folds M_square M_want M_text M_read M_row M_foldSet M_foldEdges M_foldNeeds M_foldYards M_least M_ways M_price M_rowBy M_columnBy M_rowOf M_wayBack M_slack M_isUsed M_lifted M_freed M_path) [(0, .ref a_M), (1, .int p1)] 16 [.int r3]
    refine j_if_eq cx 30 dX11_sides_16 (pn := 19) rfl rfl (fun c4 => ?_) (fun c4 => ?_)
    · have h := h.1 c4
      refine j_iconst cx (v := (-1)) (by decide) dX11_sides_30 (pn := 31) rfl ?_
      exact hR (-1) 31 _ dX11_sides_31 h
    · have h := h.2 c4
      refine j_aload_n cx 0 rfl rfl dX11_sides_19 (pn := 20) rfl ?_
      refine j_iload_n cx 1 rfl rfl dX11_sides_20 (pn := 21) rfl ?_
      refine j_callvL0 cx q_inst_X11_edgesOf q_sel_X11_edgesOf (b := a_M) (As := [.int p1]) (rest := []) (c_X11_edgesOf h) ⟨q_code_X11_edgesOf, q_ml_X11_240, q_init_X11, hd_X11_edgesOf, ⟨Nat.le_of_ble_eq_true rfl, Nat.le_of_ble_eq_true rfl⟩, Nat.le_of_ble_eq_true rfl, Nat.le_of_ble_eq_true rfl⟩ (q0 := 0) rfl rfl rfl rfl (Nat.le_of_ble_eq_true rfl) dX11_sides_21 (pn := 24) rfl (fun r5 _ h => ?_)
      show J x 0 0 2 (W_Model cyI cyJ cyZ a_M a_M_square a_M_want a_M_text a_M_read a_M_row a_M_foldSet a_M_foldEdges a_M_foldNeeds a_M_foldYards a_M_least a_M_ways a_M_price a_M_rowBy a_M_columnBy a_M_rowOf a_M_wayBack a_M_slack a_M_isUsed a_M_lifted a_M_freed a_M_path M_wide M_high M_hedges M_hurdles M_wants M_rest M_frozen M_bytes M_position M_tokenAt M_token M_digits M_number M_faultAt M_readMany M_readWide M_readHigh M_nights M_why M_folds M_square M_want M_text M_read M_row M_foldSet M_foldEdges M_foldNeeds M_foldYards M_least M_ways M_price M_rowBy M_columnBy M_rowOf M_wayBack M_slack M_isUsed M_lifted M_freed M_path) [(0, .ref a_M), (1, .int p1)] 24 [.long r5]
      refine j_calleI cx q_stat_X11_bits (As := [.long r5]) (rest := []) (c_X11_bits h) ⟨q_code_X11_bits, q_ml_X11_244, q_init_X11, hd_X11_bits, ⟨Nat.le_of_ble_eq_true rfl, Nat.le_of_ble_eq_true rfl⟩, Nat.le_of_ble_eq_true rfl, Nat.le_of_ble_eq_true rfl⟩ rfl rfl (Nat.le_of_ble_eq_true rfl) dX11_sides_24 (pn := 27) rfl (fun r6 h => ?_)
      show J x 0 0 2 (W_Model cyI cyJ cyZ a_M a_M_square a_M_want a_M_text a_M_read a_M_row a_M_foldSet a_M_foldEdges a_M_foldNeeds a_M_foldYards a_M_least a_M_ways a_M_price a_M_rowBy a_M_columnBy a_M_rowOf a_M_wayBack a_M_slack a_M_isUsed a_M_lifted a_M_freed a_M_path M_wide M_high M_hedges M_hurdles M_wants M_rest M_frozen M_bytes M_position M_tokenAt M_token M_digits M_number M_faultAt M_readMany M_readWide M_readHigh M_nights M_why M_folds M_square M_want M_text M_read M_row M_foldSet M_foldEdges M_foldNeeds M_foldYards M_least M_ways M_price M_rowBy M_columnBy M_rowOf M_wayBack M_slack M_isUsed M_lifted M_freed M_path) [(0, .ref a_M), (1, .int p1)] 27 [.int r6]
      refine j_goto cx 31 dX11_sides_27 rfl ?_
      exact hR r6 31 _ dX11_sides_31 h
  · have h := h.2 c2
    refine j_bipush cx (v := (-3)) (by decide) dX11_sides_8 (pn := 10) rfl ?_
    exact hR (-3) 10 _ dX11_sides_10 h
theorem dX11_edges_0 : decode cX11_edges 0 = .ok (.aload_n 0, 1) := by decide +kernel
theorem dX11_edges_1 : decode cX11_edges 1 = .ok (.iload_n 1, 1) := by decide +kernel
theorem dX11_edges_2 : decode cX11_edges 2 = .ok (.invokevirtual 231, 3) := by decide +kernel
theorem dX11_edges_5 : decode cX11_edges 5 = .ok (.ifCond .ne 7, 3) := by decide +kernel
theorem dX11_edges_8 : decode cX11_edges 8 = .ok (.ldc2_w 125, 3) := by decide +kernel
theorem dX11_edges_11 : decode cX11_edges 11 = .ok (.lreturn, 1) := by decide +kernel
theorem dX11_edges_12 : decode cX11_edges 12 = .ok (.aload_n 0, 1) := by decide +kernel
theorem dX11_edges_13 : decode cX11_edges 13 = .ok (.iload_n 1, 1) := by decide +kernel
theorem dX11_edges_14 : decode cX11_edges 14 = .ok (.invokevirtual 237, 3) := by decide +kernel
theorem dX11_edges_17 : decode cX11_edges 17 = .ok (.ifCond .eq 11, 3) := by decide +kernel
theorem dX11_edges_20 : decode cX11_edges 20 = .ok (.aload_n 0, 1) := by decide +kernel
theorem dX11_edges_21 : decode cX11_edges 21 = .ok (.iload_n 1, 1) := by decide +kernel
theorem dX11_edges_22 : decode cX11_edges 22 = .ok (.invokevirtual 240, 3) := by decide +kernel
theorem dX11_edges_25 : decode cX11_edges 25 = .ok (.goto 4, 3) := by decide +kernel
theorem dX11_edges_28 : decode cX11_edges 28 = .ok (.lconst 0, 1) := by decide +kernel
theorem dX11_edges_29 : decode cX11_edges 29 = .ok (.lreturn, 1) := by decide +kernel
abbrev rm_X11_edges : Room := { frames := 4, cells := 0, slots := 0, locals := 94 }
theorem hd_X11_edges : yX11_edges.cls ≠ "java/lang/invoke/MethodHandle" ∧ yX11_edges.cls ≠ "java/lang/invoke/VarHandle" ∧ (parseMethodDescriptor yX11_edges.desc).map (fun d => d.parameters.length) = some 1 := by decide +kernel
def wp_X11_edges (p1 : Int32) (M_wide : Int32) (M_high : Int32) (M_hedges : Int64) (M_square : Nat → Int32) (Q : Int64 → Prop) : Prop :=
wp_X11_isSet p1 M_wide M_high (fun (r1 : Int32) => ((¬ r1 = 0 → wp_X11_isFold p1 M_wide M_high M_square (fun (r3 : Int32) => ((r3 = 0 → Q 0) ∧
(¬ r3 = 0 → wp_X11_edgesOf p1 M_wide M_high M_hedges M_square (fun (r5 : Int64) => Q r5))))) ∧
(r1 = 0 → Q (-3))))
set_option maxHeartbeats 4000000 in
set_option maxRecDepth 100000 in
theorem c_X11_edges {D : DG} {cyI cyJ cyZ : ClassId} {a_M a_M_square a_M_want a_M_text a_M_read a_M_row a_M_foldSet a_M_foldEdges a_M_foldNeeds a_M_foldYards a_M_least a_M_ways a_M_price a_M_rowBy a_M_columnBy a_M_rowOf a_M_wayBack a_M_slack a_M_isUsed a_M_lifted a_M_freed a_M_path : Nat} {M_wide : Int32} {M_high : Int32} {M_hedges : Int64} {M_hurdles : Int32} {M_wants : Int32} {M_rest : Int32} {M_frozen : Int32} {M_bytes : Int32} {M_position : Int32} {M_tokenAt : Int32} {M_token : Int64} {M_digits : Int32} {M_number : Int32} {M_faultAt : Int32} {M_readMany : Int32} {M_readWide : Int32} {M_readHigh : Int32} {M_nights : Int32} {M_why : Int32} {M_folds : Int32} {M_square : Nat → Int32} {M_want : Nat → Int32} {M_text : Nat → Int32} {M_read : Nat → Int32} {M_row : Nat → Int32} {M_foldSet : Nat → Int32} {M_foldEdges : Nat → Int64} {M_foldNeeds : Nat → Int32} {M_foldYards : Nat → Int32} {M_least : Nat → Int32} {M_ways : Nat → Int32} {M_price : Nat → Int32} {M_rowBy : Nat → Int32} {M_columnBy : Nat → Int32} {M_rowOf : Nat → Int32} {M_wayBack : Nat → Int32} {M_slack : Nat → Int32} {M_isUsed : Nat → Int32} {M_lifted : Nat → Int32} {M_freed : Nat → Int32} {M_path : Nat → Int32} {p1 : Int32} {Q : Int64 → Prop} (h : wp_X11_edges p1 M_wide M_high M_hedges M_square Q) :
    MetL yX11_edges cX11_edges 2 (some .long) rm_X11_edges D [(cyI, .int), (cyJ, .long), (cyZ, .boolean)] [.ref a_M, .int p1] (W_Model cyI cyJ cyZ a_M a_M_square a_M_want a_M_text a_M_read a_M_row a_M_foldSet a_M_foldEdges a_M_foldNeeds a_M_foldYards a_M_least a_M_ways a_M_price a_M_rowBy a_M_columnBy a_M_rowOf a_M_wayBack a_M_slack a_M_isUsed a_M_lifted a_M_freed a_M_path M_wide M_high M_hedges M_hurdles M_wants M_rest M_frozen M_bytes M_position M_tokenAt M_token M_digits M_number M_faultAt M_readMany M_readWide M_readHigh M_nights M_why M_folds M_square M_want M_text M_read M_row M_foldSet M_foldEdges M_foldNeeds M_foldYards M_least M_ways M_price M_rowBy M_columnBy M_rowOf M_wayBack M_slack M_isUsed M_lifted M_freed M_path) (fun _ : Unit => (W_Model cyI cyJ cyZ a_M a_M_square a_M_want a_M_text a_M_read a_M_row a_M_foldSet a_M_foldEdges a_M_foldNeeds a_M_foldYards a_M_least a_M_ways a_M_price a_M_rowBy a_M_columnBy a_M_rowOf a_M_wayBack a_M_slack a_M_isUsed a_M_lifted a_M_freed a_M_path M_wide M_high M_hedges M_hurdles M_wants M_rest M_frozen M_bytes M_position M_tokenAt M_token M_digits M_number M_faultAt M_readMany M_readWide M_readHigh M_nights M_why M_folds M_square M_want M_text M_read M_row M_foldSet M_foldEdges M_foldNeeds M_foldYards M_least M_ways M_price M_rowBy M_columnBy M_rowOf M_wayBack M_slack M_isUsed M_lifted M_freed M_path)) (fun v _ => Q v ) := by
  unfold wp_X11_edges at h
  refine metL_of (by decide) (Nat.le_of_ble_eq_true rfl) (fun x cx0 hR0 => ?_)
  have cx : Cx x cX11_edges 2 RX11 rm_X11_edges D [(cyI, .int), (cyJ, .long), (cyZ, .boolean)] := cx0
  have hR : ∀ (v : Int64) (pc : Nat) (lv : List (Nat × Value)), decode cX11_edges pc = .ok (.lreturn, 1) → Q v → J x 0 0 2 (W_Model cyI cyJ cyZ a_M a_M_square a_M_want a_M_text a_M_read a_M_row a_M_foldSet a_M_foldEdges a_M_foldNeeds a_M_foldYards a_M_least a_M_ways a_M_price a_M_rowBy a_M_columnBy a_M_rowOf a_M_wayBack a_M_slack a_M_isUsed a_M_lifted a_M_freed a_M_path M_wide M_high M_hedges M_hurdles M_wants M_rest M_frozen M_bytes M_position M_tokenAt M_token M_digits M_number M_faultAt M_readMany M_readWide M_readHigh M_nights M_why M_folds M_square M_want M_text M_read M_row M_foldSet M_foldEdges M_foldNeeds M_foldYards M_least M_ways M_price M_rowBy M_columnBy M_rowOf M_wayBack M_slack M_isUsed M_lifted M_freed M_path) lv pc [.long v] := (fun v pc lv d hq => hR0 v () pc lv d hq)
  show J x 0 0 2 (W_Model cyI cyJ cyZ a_M a_M_square a_M_want a_M_text a_M_read a_M_row a_M_foldSet a_M_foldEdges a_M_foldNeeds a_M_foldYards a_M_least a_M_ways a_M_price a_M_rowBy a_M_columnBy a_M_rowOf a_M_wayBack a_M_slack a_M_isUsed a_M_lifted a_M_freed a_M_path M_wide M_high M_hedges M_hurdles M_wants M_rest M_frozen M_bytes M_position M_tokenAt M_token M_digits M_number M_faultAt M_readMany M_readWide M_readHigh M_nights M_why M_folds M_square M_want M_text M_read M_row M_foldSet M_foldEdges M_foldNeeds M_foldYards M_least M_ways M_price M_rowBy M_columnBy M_rowOf M_wayBack M_slack M_isUsed M_lifted M_freed M_path) [(0, .ref a_M), (1, .int p1)] 0 []
  refine j_aload_n cx 0 rfl rfl dX11_edges_0 (pn := 1) rfl ?_
  refine j_iload_n cx 1 rfl rfl dX11_edges_1 (pn := 2) rfl ?_
  refine j_callvI0 cx q_inst_X11_isSet q_sel_X11_isSet (b := a_M) (As := [.int p1]) (rest := []) (c_X11_isSet h) ⟨q_code_X11_isSet, q_ml_X11_231, q_init_X11, hd_X11_isSet, ⟨Nat.le_of_ble_eq_true rfl, Nat.le_of_ble_eq_true rfl⟩, Nat.le_of_ble_eq_true rfl, Nat.le_of_ble_eq_true rfl⟩ (q0 := 0) rfl rfl rfl rfl (Nat.le_of_ble_eq_true rfl) dX11_edges_2 (pn := 5) rfl (fun r1 _ h => ?_)
  show J x 0 0 2 (W_Model cyI cyJ cyZ a_M a_M_square a_M_want a_M_text a_M_read a_M_row a_M_foldSet a_M_foldEdges a_M_foldNeeds a_M_foldYards a_M_least a_M_ways a_M_price a_M_rowBy a_M_columnBy a_M_rowOf a_M_wayBack a_M_slack a_M_isUsed a_M_lifted a_M_freed a_M_path M_wide M_high M_hedges M_hurdles M_wants M_rest M_frozen M_bytes M_position M_tokenAt M_token M_digits M_number M_faultAt M_readMany M_readWide M_readHigh M_nights M_why M_folds M_square M_want M_text M_read M_row M_foldSet M_foldEdges M_foldNeeds M_foldYards M_least M_ways M_price M_rowBy M_columnBy M_rowOf M_wayBack M_slack M_isUsed M_lifted M_freed M_path) [(0, .ref a_M), (1, .int p1)] 5 [.int r1]
  refine j_if_ne cx 12 dX11_edges_5 (pn := 8) rfl rfl (fun c2 => ?_) (fun c2 => ?_)
  · have h := h.1 c2
    refine j_aload_n cx 0 rfl rfl dX11_edges_12 (pn := 13) rfl ?_
    refine j_iload_n cx 1 rfl rfl dX11_edges_13 (pn := 14) rfl ?_
    refine j_callvI0 cx q_inst_X11_isFold q_sel_X11_isFold (b := a_M) (As := [.int p1]) (rest := []) (c_X11_isFold h) ⟨q_code_X11_isFold, q_ml_X11_237, q_init_X11, hd_X11_isFold, ⟨Nat.le_of_ble_eq_true rfl, Nat.le_of_ble_eq_true rfl⟩, Nat.le_of_ble_eq_true rfl, Nat.le_of_ble_eq_true rfl⟩ (q0 := 0) rfl rfl rfl rfl (Nat.le_of_ble_eq_true rfl) dX11_edges_14 (pn := 17) rfl (fun r3 _ h => ?_)
    show J x 0 0 2 (W_Model cyI cyJ cyZ a_M a_M_square a_M_want a_M_text a_M_read a_M_row a_M_foldSet a_M_foldEdges a_M_foldNeeds a_M_foldYards a_M_least a_M_ways a_M_price a_M_rowBy a_M_columnBy a_M_rowOf a_M_wayBack a_M_slack a_M_isUsed a_M_lifted a_M_freed a_M_path M_wide M_high M_hedges M_hurdles M_wants M_rest M_frozen M_bytes M_position M_tokenAt M_token M_digits M_number M_faultAt M_readMany M_readWide M_readHigh M_nights M_why M_folds M_square M_want M_text M_read M_row M_foldSet M_foldEdges M_foldNeeds M_foldYards M_least M_ways M_price M_rowBy M_columnBy M_rowOf M_wayBack M_slack M_isUsed M_lifted M_freed M_path) [(0, .ref a_M), (1, .int p1)] 17 [.int r3]
    refine j_if_eq cx 28 dX11_edges_17 (pn := 20) rfl rfl (fun c4 => ?_) (fun c4 => ?_)
    · have h := h.1 c4
      refine j_lconst cx (v := 0) (by decide) dX11_edges_28 (pn := 29) rfl ?_
      exact hR 0 29 _ dX11_edges_29 h
    · have h := h.2 c4
      refine j_aload_n cx 0 rfl rfl dX11_edges_20 (pn := 21) rfl ?_
      refine j_iload_n cx 1 rfl rfl dX11_edges_21 (pn := 22) rfl ?_
      refine j_callvL0 cx q_inst_X11_edgesOf q_sel_X11_edgesOf (b := a_M) (As := [.int p1]) (rest := []) (c_X11_edgesOf h) ⟨q_code_X11_edgesOf, q_ml_X11_240, q_init_X11, hd_X11_edgesOf, ⟨Nat.le_of_ble_eq_true rfl, Nat.le_of_ble_eq_true rfl⟩, Nat.le_of_ble_eq_true rfl, Nat.le_of_ble_eq_true rfl⟩ (q0 := 0) rfl rfl rfl rfl (Nat.le_of_ble_eq_true rfl) dX11_edges_22 (pn := 25) rfl (fun r5 _ h => ?_)
      show J x 0 0 2 (W_Model cyI cyJ cyZ a_M a_M_square a_M_want a_M_text a_M_read a_M_row a_M_foldSet a_M_foldEdges a_M_foldNeeds a_M_foldYards a_M_least a_M_ways a_M_price a_M_rowBy a_M_columnBy a_M_rowOf a_M_wayBack a_M_slack a_M_isUsed a_M_lifted a_M_freed a_M_path M_wide M_high M_hedges M_hurdles M_wants M_rest M_frozen M_bytes M_position M_tokenAt M_token M_digits M_number M_faultAt M_readMany M_readWide M_readHigh M_nights M_why M_folds M_square M_want M_text M_read M_row M_foldSet M_foldEdges M_foldNeeds M_foldYards M_least M_ways M_price M_rowBy M_columnBy M_rowOf M_wayBack M_slack M_isUsed M_lifted M_freed M_path) [(0, .ref a_M), (1, .int p1)] 25 [.long r5]
      refine j_goto cx 29 dX11_edges_25 rfl ?_
      exact hR r5 29 _ dX11_edges_29 h
  · have h := h.2 c2
    refine j_ldc2 cx q_cl_X11_125 dX11_edges_8 (pn := 11) rfl ?_
    exact hR (-3) 11 _ dX11_edges_11 h
theorem dX11_yards_0 : decode cX11_yards 0 = .ok (.aload_n 0, 1) := by decide +kernel
theorem dX11_yards_1 : decode cX11_yards 1 = .ok (.iload_n 1, 1) := by decide +kernel
theorem dX11_yards_2 : decode cX11_yards 2 = .ok (.invokevirtual 231, 3) := by decide +kernel
theorem dX11_yards_5 : decode cX11_yards 5 = .ok (.ifCond .eq 11, 3) := by decide +kernel
theorem dX11_yards_8 : decode cX11_yards 8 = .ok (.aload_n 0, 1) := by decide +kernel
theorem dX11_yards_9 : decode cX11_yards 9 = .ok (.iload_n 1, 1) := by decide +kernel
theorem dX11_yards_10 : decode cX11_yards 10 = .ok (.invokevirtual 248, 3) := by decide +kernel
theorem dX11_yards_13 : decode cX11_yards 13 = .ok (.goto 5, 3) := by decide +kernel
theorem dX11_yards_16 : decode cX11_yards 16 = .ok (.bipush (-3), 2) := by decide +kernel
theorem dX11_yards_18 : decode cX11_yards 18 = .ok (.ireturn, 1) := by decide +kernel
abbrev rm_X11_yards : Room := { frames := 2, cells := 0, slots := 0, locals := 43 }
theorem hd_X11_yards : yX11_yards.cls ≠ "java/lang/invoke/MethodHandle" ∧ yX11_yards.cls ≠ "java/lang/invoke/VarHandle" ∧ (parseMethodDescriptor yX11_yards.desc).map (fun d => d.parameters.length) = some 1 := by decide +kernel
def wp_X11_yards (p1 : Int32) (M_wide : Int32) (M_high : Int32) (M_square : Nat → Int32) (Q : Int32 → Prop) : Prop :=
wp_X11_isSet p1 M_wide M_high (fun (r1 : Int32) => ((r1 = 0 → Q (-3)) ∧
(¬ r1 = 0 → wp_X11_yardsOf p1 M_wide M_high M_square (fun (r3 : Int32) => Q r3))))
set_option maxHeartbeats 4000000 in
set_option maxRecDepth 100000 in
theorem c_X11_yards {D : DG} {cyI cyJ cyZ : ClassId} {a_M a_M_square a_M_want a_M_text a_M_read a_M_row a_M_foldSet a_M_foldEdges a_M_foldNeeds a_M_foldYards a_M_least a_M_ways a_M_price a_M_rowBy a_M_columnBy a_M_rowOf a_M_wayBack a_M_slack a_M_isUsed a_M_lifted a_M_freed a_M_path : Nat} {M_wide : Int32} {M_high : Int32} {M_hedges : Int64} {M_hurdles : Int32} {M_wants : Int32} {M_rest : Int32} {M_frozen : Int32} {M_bytes : Int32} {M_position : Int32} {M_tokenAt : Int32} {M_token : Int64} {M_digits : Int32} {M_number : Int32} {M_faultAt : Int32} {M_readMany : Int32} {M_readWide : Int32} {M_readHigh : Int32} {M_nights : Int32} {M_why : Int32} {M_folds : Int32} {M_square : Nat → Int32} {M_want : Nat → Int32} {M_text : Nat → Int32} {M_read : Nat → Int32} {M_row : Nat → Int32} {M_foldSet : Nat → Int32} {M_foldEdges : Nat → Int64} {M_foldNeeds : Nat → Int32} {M_foldYards : Nat → Int32} {M_least : Nat → Int32} {M_ways : Nat → Int32} {M_price : Nat → Int32} {M_rowBy : Nat → Int32} {M_columnBy : Nat → Int32} {M_rowOf : Nat → Int32} {M_wayBack : Nat → Int32} {M_slack : Nat → Int32} {M_isUsed : Nat → Int32} {M_lifted : Nat → Int32} {M_freed : Nat → Int32} {M_path : Nat → Int32} {p1 : Int32} {Q : Int32 → Prop} (h : wp_X11_yards p1 M_wide M_high M_square Q) :
    MetI yX11_yards cX11_yards 2 (some .int) rm_X11_yards D [(cyI, .int), (cyJ, .long), (cyZ, .boolean)] [.ref a_M, .int p1] (W_Model cyI cyJ cyZ a_M a_M_square a_M_want a_M_text a_M_read a_M_row a_M_foldSet a_M_foldEdges a_M_foldNeeds a_M_foldYards a_M_least a_M_ways a_M_price a_M_rowBy a_M_columnBy a_M_rowOf a_M_wayBack a_M_slack a_M_isUsed a_M_lifted a_M_freed a_M_path M_wide M_high M_hedges M_hurdles M_wants M_rest M_frozen M_bytes M_position M_tokenAt M_token M_digits M_number M_faultAt M_readMany M_readWide M_readHigh M_nights M_why M_folds M_square M_want M_text M_read M_row M_foldSet M_foldEdges M_foldNeeds M_foldYards M_least M_ways M_price M_rowBy M_columnBy M_rowOf M_wayBack M_slack M_isUsed M_lifted M_freed M_path) (fun _ : Unit => (W_Model cyI cyJ cyZ a_M a_M_square a_M_want a_M_text a_M_read a_M_row a_M_foldSet a_M_foldEdges a_M_foldNeeds a_M_foldYards a_M_least a_M_ways a_M_price a_M_rowBy a_M_columnBy a_M_rowOf a_M_wayBack a_M_slack a_M_isUsed a_M_lifted a_M_freed a_M_path M_wide M_high M_hedges M_hurdles M_wants M_rest M_frozen M_bytes M_position M_tokenAt M_token M_digits M_number M_faultAt M_readMany M_readWide M_readHigh M_nights M_why M_folds M_square M_want M_text M_read M_row M_foldSet M_foldEdges M_foldNeeds M_foldYards M_least M_ways M_price M_rowBy M_columnBy M_rowOf M_wayBack M_slack M_isUsed M_lifted M_freed M_path)) (fun v _ => Q v ) := by
  unfold wp_X11_yards at h
  refine metI_of (by decide) (Nat.le_of_ble_eq_true rfl) (fun x cx0 hR0 => ?_)
  have cx : Cx x cX11_yards 2 RX11 rm_X11_yards D [(cyI, .int), (cyJ, .long), (cyZ, .boolean)] := cx0
  have hR : ∀ (v : Int32) (pc : Nat) (lv : List (Nat × Value)), decode cX11_yards pc = .ok (.ireturn, 1) → Q v → J x 0 0 2 (W_Model cyI cyJ cyZ a_M a_M_square a_M_want a_M_text a_M_read a_M_row a_M_foldSet a_M_foldEdges a_M_foldNeeds a_M_foldYards a_M_least a_M_ways a_M_price a_M_rowBy a_M_columnBy a_M_rowOf a_M_wayBack a_M_slack a_M_isUsed a_M_lifted a_M_freed a_M_path M_wide M_high M_hedges M_hurdles M_wants M_rest M_frozen M_bytes M_position M_tokenAt M_token M_digits M_number M_faultAt M_readMany M_readWide M_readHigh M_nights M_why M_folds M_square M_want M_text M_read M_row M_foldSet M_foldEdges M_foldNeeds M_foldYards M_least M_ways M_price M_rowBy M_columnBy M_rowOf M_wayBack M_slack M_isUsed M_lifted M_freed M_path) lv pc [.int v] := (fun v pc lv d hq => hR0 v () pc lv d hq)
  show J x 0 0 2 (W_Model cyI cyJ cyZ a_M a_M_square a_M_want a_M_text a_M_read a_M_row a_M_foldSet a_M_foldEdges a_M_foldNeeds a_M_foldYards a_M_least a_M_ways a_M_price a_M_rowBy a_M_columnBy a_M_rowOf a_M_wayBack a_M_slack a_M_isUsed a_M_lifted a_M_freed a_M_path M_wide M_high M_hedges M_hurdles M_wants M_rest M_frozen M_bytes M_position M_tokenAt M_token M_digits M_number M_faultAt M_readMany M_readWide M_readHigh M_nights M_why M_folds M_square M_want M_text M_read M_row M_foldSet M_foldEdges M_foldNeeds M_foldYards M_least M_ways M_price M_rowBy M_columnBy M_rowOf M_wayBack M_slack M_isUsed M_lifted M_freed M_path) [(0, .ref a_M), (1, .int p1)] 0 []
  refine j_aload_n cx 0 rfl rfl dX11_yards_0 (pn := 1) rfl ?_
  refine j_iload_n cx 1 rfl rfl dX11_yards_1 (pn := 2) rfl ?_
  refine j_callvI0 cx q_inst_X11_isSet q_sel_X11_isSet (b := a_M) (As := [.int p1]) (rest := []) (c_X11_isSet h) ⟨q_code_X11_isSet, q_ml_X11_231, q_init_X11, hd_X11_isSet, ⟨Nat.le_of_ble_eq_true rfl, Nat.le_of_ble_eq_true rfl⟩, Nat.le_of_ble_eq_true rfl, Nat.le_of_ble_eq_true rfl⟩ (q0 := 0) rfl rfl rfl rfl (Nat.le_of_ble_eq_true rfl) dX11_yards_2 (pn := 5) rfl (fun r1 _ h => ?_)
  show J x 0 0 2 (W_Model cyI cyJ cyZ a_M a_M_square a_M_want a_M_text a_M_read a_M_row a_M_foldSet a_M_foldEdges a_M_foldNeeds a_M_foldYards a_M_least a_M_ways a_M_price a_M_rowBy a_M_columnBy a_M_rowOf a_M_wayBack a_M_slack a_M_isUsed a_M_lifted a_M_freed a_M_path M_wide M_high M_hedges M_hurdles M_wants M_rest M_frozen M_bytes M_position M_tokenAt M_token M_digits M_number M_faultAt M_readMany M_readWide M_readHigh M_nights M_why M_folds M_square M_want M_text M_read M_row M_foldSet M_foldEdges M_foldNeeds M_foldYards M_least M_ways M_price M_rowBy M_columnBy M_rowOf M_wayBack M_slack M_isUsed M_lifted M_freed M_path) [(0, .ref a_M), (1, .int p1)] 5 [.int r1]
  refine j_if_eq cx 16 dX11_yards_5 (pn := 8) rfl rfl (fun c2 => ?_) (fun c2 => ?_)
  · have h := h.1 c2
    refine j_bipush cx (v := (-3)) (by decide) dX11_yards_16 (pn := 18) rfl ?_
    exact hR (-3) 18 _ dX11_yards_18 h
  · have h := h.2 c2
    refine j_aload_n cx 0 rfl rfl dX11_yards_8 (pn := 9) rfl ?_
    refine j_iload_n cx 1 rfl rfl dX11_yards_9 (pn := 10) rfl ?_
    refine j_callvI0 cx q_inst_X11_yardsOf q_sel_X11_yardsOf (b := a_M) (As := [.int p1]) (rest := []) (c_X11_yardsOf h) ⟨q_code_X11_yardsOf, q_ml_X11_248, q_init_X11, hd_X11_yardsOf, ⟨Nat.le_of_ble_eq_true rfl, Nat.le_of_ble_eq_true rfl⟩, Nat.le_of_ble_eq_true rfl, Nat.le_of_ble_eq_true rfl⟩ (q0 := 0) rfl rfl rfl rfl (Nat.le_of_ble_eq_true rfl) dX11_yards_10 (pn := 13) rfl (fun r3 _ h => ?_)
    show J x 0 0 2 (W_Model cyI cyJ cyZ a_M a_M_square a_M_want a_M_text a_M_read a_M_row a_M_foldSet a_M_foldEdges a_M_foldNeeds a_M_foldYards a_M_least a_M_ways a_M_price a_M_rowBy a_M_columnBy a_M_rowOf a_M_wayBack a_M_slack a_M_isUsed a_M_lifted a_M_freed a_M_path M_wide M_high M_hedges M_hurdles M_wants M_rest M_frozen M_bytes M_position M_tokenAt M_token M_digits M_number M_faultAt M_readMany M_readWide M_readHigh M_nights M_why M_folds M_square M_want M_text M_read M_row M_foldSet M_foldEdges M_foldNeeds M_foldYards M_least M_ways M_price M_rowBy M_columnBy M_rowOf M_wayBack M_slack M_isUsed M_lifted M_freed M_path) [(0, .ref a_M), (1, .int p1)] 13 [.int r3]
    refine j_goto cx 18 dX11_yards_13 rfl ?_
    exact hR r3 18 _ dX11_yards_18 h
theorem dX11_fold_0 : decode cX11_fold 0 = .ok (.aload_n 0, 1) := by decide +kernel
theorem dX11_fold_1 : decode cX11_fold 1 = .ok (.iload_n 1, 1) := by decide +kernel
theorem dX11_fold_2 : decode cX11_fold 2 = .ok (.invokevirtual 231, 3) := by decide +kernel
theorem dX11_fold_5 : decode cX11_fold 5 = .ok (.ifCond .ne 6, 3) := by decide +kernel
theorem dX11_fold_8 : decode cX11_fold 8 = .ok (.bipush (-3), 2) := by decide +kernel
theorem dX11_fold_10 : decode cX11_fold 10 = .ok (.ireturn, 1) := by decide +kernel
theorem dX11_fold_11 : decode cX11_fold 11 = .ok (.aload_n 0, 1) := by decide +kernel
theorem dX11_fold_12 : decode cX11_fold 12 = .ok (.getfield 198, 3) := by decide +kernel
theorem dX11_fold_15 : decode cX11_fold 15 = .ok (.bipush 20, 2) := by decide +kernel
theorem dX11_fold_17 : decode cX11_fold 17 = .ok (.if_icmp .ne 6, 3) := by decide +kernel
theorem dX11_fold_20 : decode cX11_fold 20 = .ok (.bipush (-5), 2) := by decide +kernel
theorem dX11_fold_22 : decode cX11_fold 22 = .ok (.ireturn, 1) := by decide +kernel
theorem dX11_fold_23 : decode cX11_fold 23 = .ok (.aload_n 0, 1) := by decide +kernel
theorem dX11_fold_24 : decode cX11_fold 24 = .ok (.getfield 32, 3) := by decide +kernel
theorem dX11_fold_27 : decode cX11_fold 27 = .ok (.aload_n 0, 1) := by decide +kernel
theorem dX11_fold_28 : decode cX11_fold 28 = .ok (.getfield 198, 3) := by decide +kernel
theorem dX11_fold_31 : decode cX11_fold 31 = .ok (.iload_n 1, 1) := by decide +kernel
theorem dX11_fold_32 : decode cX11_fold 32 = .ok (.iastore, 1) := by decide +kernel
theorem dX11_fold_33 : decode cX11_fold 33 = .ok (.aload_n 0, 1) := by decide +kernel
theorem dX11_fold_34 : decode cX11_fold 34 = .ok (.dup, 1) := by decide +kernel
theorem dX11_fold_35 : decode cX11_fold 35 = .ok (.getfield 198, 3) := by decide +kernel
theorem dX11_fold_38 : decode cX11_fold 38 = .ok (.iconst 1, 1) := by decide +kernel
theorem dX11_fold_39 : decode cX11_fold 39 = .ok (.iadd, 1) := by decide +kernel
theorem dX11_fold_40 : decode cX11_fold 40 = .ok (.putfield 198, 3) := by decide +kernel
theorem dX11_fold_43 : decode cX11_fold 43 = .ok (.aload_n 0, 1) := by decide +kernel
theorem dX11_fold_44 : decode cX11_fold 44 = .ok (.getfield 198, 3) := by decide +kernel
theorem dX11_fold_47 : decode cX11_fold 47 = .ok (.ireturn, 1) := by decide +kernel
abbrev rm_X11_fold : Room := { frames := 2, cells := 0, slots := 0, locals := 43 }
theorem hd_X11_fold : yX11_fold.cls ≠ "java/lang/invoke/MethodHandle" ∧ yX11_fold.cls ≠ "java/lang/invoke/VarHandle" ∧ (parseMethodDescriptor yX11_fold.desc).map (fun d => d.parameters.length) = some 1 := by decide +kernel
def wp_X11_fold (p1 : Int32) (M_wide : Int32) (M_high : Int32) (M_nights : Int32) (M_row : Nat → Int32) (Q : Int32 → (Int32 × (Nat → Int32)) → Prop) : Prop :=
wp_X11_isSet p1 M_wide M_high (fun (r1 : Int32) => ((¬ r1 = 0 → ((¬ M_nights = 20 → vp_in M_nights 20 ∧ (∀ f4 : Nat → Int32, f4 = (upd M_row M_nights.toNatClampNeg p1) →
∀ y5 : Int32, y5 = (M_nights + 1) →
Q y5 (y5, f4))) ∧
(M_nights = 20 → Q (-5) (M_nights, M_row)))) ∧
(r1 = 0 → Q (-3) (M_nights, M_row))))
set_option maxHeartbeats 4000000 in
set_option maxRecDepth 100000 in
theorem c_X11_fold {D : DG} {cyI cyJ cyZ : ClassId} {a_M a_M_square a_M_want a_M_text a_M_read a_M_row a_M_foldSet a_M_foldEdges a_M_foldNeeds a_M_foldYards a_M_least a_M_ways a_M_price a_M_rowBy a_M_columnBy a_M_rowOf a_M_wayBack a_M_slack a_M_isUsed a_M_lifted a_M_freed a_M_path : Nat} {M_wide : Int32} {M_high : Int32} {M_hedges : Int64} {M_hurdles : Int32} {M_wants : Int32} {M_rest : Int32} {M_frozen : Int32} {M_bytes : Int32} {M_position : Int32} {M_tokenAt : Int32} {M_token : Int64} {M_digits : Int32} {M_number : Int32} {M_faultAt : Int32} {M_readMany : Int32} {M_readWide : Int32} {M_readHigh : Int32} {M_nights : Int32} {M_why : Int32} {M_folds : Int32} {M_square : Nat → Int32} {M_want : Nat → Int32} {M_text : Nat → Int32} {M_read : Nat → Int32} {M_row : Nat → Int32} {M_foldSet : Nat → Int32} {M_foldEdges : Nat → Int64} {M_foldNeeds : Nat → Int32} {M_foldYards : Nat → Int32} {M_least : Nat → Int32} {M_ways : Nat → Int32} {M_price : Nat → Int32} {M_rowBy : Nat → Int32} {M_columnBy : Nat → Int32} {M_rowOf : Nat → Int32} {M_wayBack : Nat → Int32} {M_slack : Nat → Int32} {M_isUsed : Nat → Int32} {M_lifted : Nat → Int32} {M_freed : Nat → Int32} {M_path : Nat → Int32} {p1 : Int32} {Q : Int32 → (Int32 × (Nat → Int32)) → Prop} (h : wp_X11_fold p1 M_wide M_high M_nights M_row Q) :
    MetI yX11_fold cX11_fold 2 (some .int) rm_X11_fold D [(cyI, .int), (cyJ, .long), (cyZ, .boolean)] [.ref a_M, .int p1] (W_Model cyI cyJ cyZ a_M a_M_square a_M_want a_M_text a_M_read a_M_row a_M_foldSet a_M_foldEdges a_M_foldNeeds a_M_foldYards a_M_least a_M_ways a_M_price a_M_rowBy a_M_columnBy a_M_rowOf a_M_wayBack a_M_slack a_M_isUsed a_M_lifted a_M_freed a_M_path M_wide M_high M_hedges M_hurdles M_wants M_rest M_frozen M_bytes M_position M_tokenAt M_token M_digits M_number M_faultAt M_readMany M_readWide M_readHigh M_nights M_why M_folds M_square M_want M_text M_read M_row M_foldSet M_foldEdges M_foldNeeds M_foldYards M_least M_ways M_price M_rowBy M_columnBy M_rowOf M_wayBack M_slack M_isUsed M_lifted M_freed M_path) (fun u : Int32 × (Nat → Int32) => (W_Model cyI cyJ cyZ a_M a_M_square a_M_want a_M_text a_M_read a_M_row a_M_foldSet a_M_foldEdges a_M_foldNeeds a_M_foldYards a_M_least a_M_ways a_M_price a_M_rowBy a_M_columnBy a_M_rowOf a_M_wayBack a_M_slack a_M_isUsed a_M_lifted a_M_freed a_M_path M_wide M_high M_hedges M_hurdles M_wants M_rest M_frozen M_bytes M_position M_tokenAt M_token M_digits M_number M_faultAt M_readMany M_readWide M_readHigh u.1 M_why M_folds M_square M_want M_text M_read u.2 M_foldSet M_foldEdges M_foldNeeds M_foldYards M_least M_ways M_price M_rowBy M_columnBy M_rowOf M_wayBack M_slack M_isUsed M_lifted M_freed M_path)) (fun v u => Q v u) := by
  unfold wp_X11_fold at h
  refine metI_of (by decide) (Nat.le_of_ble_eq_true rfl) (fun x cx0 hR0 => ?_)
  have cx : Cx x cX11_fold 2 RX11 rm_X11_fold D [(cyI, .int), (cyJ, .long), (cyZ, .boolean)] := cx0
  have hR : ∀ (v : Int32) (u : Int32 × (Nat → Int32)) (pc : Nat) (lv : List (Nat × Value)), decode cX11_fold pc = .ok (.ireturn, 1) → Q v u → J x 0 0 2 (W_Model cyI cyJ cyZ a_M a_M_square a_M_want a_M_text a_M_read a_M_row a_M_foldSet a_M_foldEdges a_M_foldNeeds a_M_foldYards a_M_least a_M_ways a_M_price a_M_rowBy a_M_columnBy a_M_rowOf a_M_wayBack a_M_slack a_M_isUsed a_M_lifted a_M_freed a_M_path M_wide M_high M_hedges M_hurdles M_wants M_rest M_frozen M_bytes M_position M_tokenAt M_token M_digits M_number M_faultAt M_readMany M_readWide M_readHigh u.1 M_why M_folds M_square M_want M_text M_read u.2 M_foldSet M_foldEdges M_foldNeeds M_foldYards M_least M_ways M_price M_rowBy M_columnBy M_rowOf M_wayBack M_slack M_isUsed M_lifted M_freed M_path) lv pc [.int v] := (fun v u pc lv d hq => hR0 v u pc lv d hq)
  show J x 0 0 2 (W_Model cyI cyJ cyZ a_M a_M_square a_M_want a_M_text a_M_read a_M_row a_M_foldSet a_M_foldEdges a_M_foldNeeds a_M_foldYards a_M_least a_M_ways a_M_price a_M_rowBy a_M_columnBy a_M_rowOf a_M_wayBack a_M_slack a_M_isUsed a_M_lifted a_M_freed a_M_path M_wide M_high M_hedges M_hurdles M_wants M_rest M_frozen M_bytes M_position M_tokenAt M_token M_digits M_number M_faultAt M_readMany M_readWide M_readHigh M_nights M_why M_folds M_square M_want M_text M_read M_row M_foldSet M_foldEdges M_foldNeeds M_foldYards M_least M_ways M_price M_rowBy M_columnBy M_rowOf M_wayBack M_slack M_isUsed M_lifted M_freed M_path) [(0, .ref a_M), (1, .int p1)] 0 []
  refine j_aload_n cx 0 rfl rfl dX11_fold_0 (pn := 1) rfl ?_
  refine j_iload_n cx 1 rfl rfl dX11_fold_1 (pn := 2) rfl ?_
  refine j_callvI0 cx q_inst_X11_isSet q_sel_X11_isSet (b := a_M) (As := [.int p1]) (rest := []) (c_X11_isSet h) ⟨q_code_X11_isSet, q_ml_X11_231, q_init_X11, hd_X11_isSet, ⟨Nat.le_of_ble_eq_true rfl, Nat.le_of_ble_eq_true rfl⟩, Nat.le_of_ble_eq_true rfl, Nat.le_of_ble_eq_true rfl⟩ (q0 := 0) rfl rfl rfl rfl (Nat.le_of_ble_eq_true rfl) dX11_fold_2 (pn := 5) rfl (fun r1 _ h => ?_)
  show J x 0 0 2 (W_Model cyI cyJ cyZ a_M a_M_square a_M_want a_M_text a_M_read a_M_row a_M_foldSet a_M_foldEdges a_M_foldNeeds a_M_foldYards a_M_least a_M_ways a_M_price a_M_rowBy a_M_columnBy a_M_rowOf a_M_wayBack a_M_slack a_M_isUsed a_M_lifted a_M_freed a_M_path M_wide M_high M_hedges M_hurdles M_wants M_rest M_frozen M_bytes M_position M_tokenAt M_token M_digits M_number M_faultAt M_readMany M_readWide M_readHigh M_nights M_why M_folds M_square M_want M_text M_read M_row M_foldSet M_foldEdges M_foldNeeds M_foldYards M_least M_ways M_price M_rowBy M_columnBy M_rowOf M_wayBack M_slack M_isUsed M_lifted M_freed M_path) [(0, .ref a_M), (1, .int p1)] 5 [.int r1]
  refine j_if_ne cx 11 dX11_fold_5 (pn := 8) rfl rfl (fun c2 => ?_) (fun c2 => ?_)
  · have h := h.1 c2
    refine j_aload_n cx 0 rfl rfl dX11_fold_11 (pn := 12) rfl ?_
    refine j_get cx inGX11 0 rfl rfl 21 (by decide) q_fl_X11_198 rfl rfl dX11_fold_12 (pn := 15) rfl ?_
    refine j_bipush cx (v := 20) (by decide) dX11_fold_15 (pn := 17) rfl ?_
    refine j_icmp_ne cx 23 dX11_fold_17 (pn := 20) rfl rfl (fun c3 => ?_) (fun c3 => ?_)
    · have h := h.1 c3
      refine j_aload_n cx 0 rfl rfl dX11_fold_23 (pn := 24) rfl ?_
      refine j_get cx inGX11 0 rfl rfl 22 (by decide) q_fl_X11_32 rfl rfl dX11_fold_24 (pn := 27) rfl ?_
      refine j_aload_n cx 0 rfl rfl dX11_fold_27 (pn := 28) rfl ?_
      refine j_get cx inGX11 0 rfl rfl 21 (by decide) q_fl_X11_198 rfl rfl dX11_fold_28 (pn := 31) rfl ?_
      refine j_iload_n cx 1 rfl rfl dX11_fold_31 (pn := 32) rfl ?_
      have hin := h.1
      obtain ⟨f4, ef4⟩ : ∃ z, z = upd M_row M_nights.toNatClampNeg p1 := ⟨_, rfl⟩
      have h := h.2 f4 ef4
      refine j_iast cx 5 0 rfl rfl hin (W_Model cyI cyJ cyZ a_M a_M_square a_M_want a_M_text a_M_read a_M_row a_M_foldSet a_M_foldEdges a_M_foldNeeds a_M_foldYards a_M_least a_M_ways a_M_price a_M_rowBy a_M_columnBy a_M_rowOf a_M_wayBack a_M_slack a_M_isUsed a_M_lifted a_M_freed a_M_path M_wide M_high M_hedges M_hurdles M_wants M_rest M_frozen M_bytes M_position M_tokenAt M_token M_digits M_number M_faultAt M_readMany M_readWide M_readHigh M_nights M_why M_folds M_square M_want M_text M_read f4 M_foldSet M_foldEdges M_foldNeeds M_foldYards M_least M_ways M_price M_rowBy M_columnBy M_rowOf M_wayBack M_slack M_isUsed M_lifted M_freed M_path) (by subst ef4; rfl) dX11_fold_32 (pn := 33) rfl ?_
      refine j_aload_n cx 0 rfl rfl dX11_fold_33 (pn := 34) rfl ?_
      refine j_dup cx rfl dX11_fold_34 (pn := 35) rfl ?_
      refine j_get cx inGX11 0 rfl rfl 21 (by decide) q_fl_X11_198 rfl rfl dX11_fold_35 (pn := 38) rfl ?_
      refine j_iconst cx (v := 1) (by decide) dX11_fold_38 (pn := 39) rfl ?_
      refine j_iadd cx dX11_fold_39 (pn := 40) rfl ?_
      refine j_topi (fun y5 ey5 => ?_)
      have h := h y5 ey5
      refine j_put cx tyX11 tyX11_ok nmX11 inGX11 0 rfl rfl 21 (by decide) q_fl_X11_198 rfl rfl rfl rfl rfl (Nat.le_of_ble_eq_true rfl) (W_Model cyI cyJ cyZ a_M a_M_square a_M_want a_M_text a_M_read a_M_row a_M_foldSet a_M_foldEdges a_M_foldNeeds a_M_foldYards a_M_least a_M_ways a_M_price a_M_rowBy a_M_columnBy a_M_rowOf a_M_wayBack a_M_slack a_M_isUsed a_M_lifted a_M_freed a_M_path M_wide M_high M_hedges M_hurdles M_wants M_rest M_frozen M_bytes M_position M_tokenAt M_token M_digits M_number M_faultAt M_readMany M_readWide M_readHigh y5 M_why M_folds M_square M_want M_text M_read f4 M_foldSet M_foldEdges M_foldNeeds M_foldYards M_least M_ways M_price M_rowBy M_columnBy M_rowOf M_wayBack M_slack M_isUsed M_lifted M_freed M_path) rfl dX11_fold_40 (pn := 43) rfl ?_
      refine j_aload_n cx 0 rfl rfl dX11_fold_43 (pn := 44) rfl ?_
      refine j_get cx inGX11 0 rfl rfl 21 (by decide) q_fl_X11_198 rfl rfl dX11_fold_44 (pn := 47) rfl ?_
      exact hR y5 (y5, f4) 47 _ dX11_fold_47 h
    · have h := h.2 c3
      refine j_bipush cx (v := (-5)) (by decide) dX11_fold_20 (pn := 22) rfl ?_
      exact hR (-5) (M_nights, M_row) 22 _ dX11_fold_22 h
  · have h := h.2 c2
    refine j_bipush cx (v := (-3)) (by decide) dX11_fold_8 (pn := 10) rfl ?_
    exact hR (-3) (M_nights, M_row) 10 _ dX11_fold_10 h
theorem dX11_clear_0 : decode cX11_clear 0 = .ok (.aload_n 0, 1) := by decide +kernel
theorem dX11_clear_1 : decode cX11_clear 1 = .ok (.getfield 198, 3) := by decide +kernel
theorem dX11_clear_4 : decode cX11_clear 4 = .ok (.istore_n 1, 1) := by decide +kernel
theorem dX11_clear_5 : decode cX11_clear 5 = .ok (.aload_n 0, 1) := by decide +kernel
theorem dX11_clear_6 : decode cX11_clear 6 = .ok (.iconst 0, 1) := by decide +kernel
theorem dX11_clear_7 : decode cX11_clear 7 = .ok (.putfield 198, 3) := by decide +kernel
theorem dX11_clear_10 : decode cX11_clear 10 = .ok (.iload_n 1, 1) := by decide +kernel
theorem dX11_clear_11 : decode cX11_clear 11 = .ok (.ireturn, 1) := by decide +kernel
abbrev rm_X11_clear : Room := { frames := 0, cells := 0, slots := 0, locals := 0 }
theorem hd_X11_clear : yX11_clear.cls ≠ "java/lang/invoke/MethodHandle" ∧ yX11_clear.cls ≠ "java/lang/invoke/VarHandle" ∧ (parseMethodDescriptor yX11_clear.desc).map (fun d => d.parameters.length) = some 0 := by decide +kernel
def wp_X11_clear (M_nights : Int32) (Q : Int32 → Int32 → Prop) : Prop :=
Q M_nights 0
set_option maxHeartbeats 4000000 in
set_option maxRecDepth 100000 in
theorem c_X11_clear {D : DG} {cyI cyJ cyZ : ClassId} {a_M a_M_square a_M_want a_M_text a_M_read a_M_row a_M_foldSet a_M_foldEdges a_M_foldNeeds a_M_foldYards a_M_least a_M_ways a_M_price a_M_rowBy a_M_columnBy a_M_rowOf a_M_wayBack a_M_slack a_M_isUsed a_M_lifted a_M_freed a_M_path : Nat} {M_wide : Int32} {M_high : Int32} {M_hedges : Int64} {M_hurdles : Int32} {M_wants : Int32} {M_rest : Int32} {M_frozen : Int32} {M_bytes : Int32} {M_position : Int32} {M_tokenAt : Int32} {M_token : Int64} {M_digits : Int32} {M_number : Int32} {M_faultAt : Int32} {M_readMany : Int32} {M_readWide : Int32} {M_readHigh : Int32} {M_nights : Int32} {M_why : Int32} {M_folds : Int32} {M_square : Nat → Int32} {M_want : Nat → Int32} {M_text : Nat → Int32} {M_read : Nat → Int32} {M_row : Nat → Int32} {M_foldSet : Nat → Int32} {M_foldEdges : Nat → Int64} {M_foldNeeds : Nat → Int32} {M_foldYards : Nat → Int32} {M_least : Nat → Int32} {M_ways : Nat → Int32} {M_price : Nat → Int32} {M_rowBy : Nat → Int32} {M_columnBy : Nat → Int32} {M_rowOf : Nat → Int32} {M_wayBack : Nat → Int32} {M_slack : Nat → Int32} {M_isUsed : Nat → Int32} {M_lifted : Nat → Int32} {M_freed : Nat → Int32} {M_path : Nat → Int32} {Q : Int32 → Int32 → Prop} (h : wp_X11_clear M_nights Q) :
    MetI yX11_clear cX11_clear 2 (some .int) rm_X11_clear D [(cyI, .int), (cyJ, .long), (cyZ, .boolean)] [.ref a_M] (W_Model cyI cyJ cyZ a_M a_M_square a_M_want a_M_text a_M_read a_M_row a_M_foldSet a_M_foldEdges a_M_foldNeeds a_M_foldYards a_M_least a_M_ways a_M_price a_M_rowBy a_M_columnBy a_M_rowOf a_M_wayBack a_M_slack a_M_isUsed a_M_lifted a_M_freed a_M_path M_wide M_high M_hedges M_hurdles M_wants M_rest M_frozen M_bytes M_position M_tokenAt M_token M_digits M_number M_faultAt M_readMany M_readWide M_readHigh M_nights M_why M_folds M_square M_want M_text M_read M_row M_foldSet M_foldEdges M_foldNeeds M_foldYards M_least M_ways M_price M_rowBy M_columnBy M_rowOf M_wayBack M_slack M_isUsed M_lifted M_freed M_path) (fun u : Int32 => (W_Model cyI cyJ cyZ a_M a_M_square a_M_want a_M_text a_M_read a_M_row a_M_foldSet a_M_foldEdges a_M_foldNeeds a_M_foldYards a_M_least a_M_ways a_M_price a_M_rowBy a_M_columnBy a_M_rowOf a_M_wayBack a_M_slack a_M_isUsed a_M_lifted a_M_freed a_M_path M_wide M_high M_hedges M_hurdles M_wants M_rest M_frozen M_bytes M_position M_tokenAt M_token M_digits M_number M_faultAt M_readMany M_readWide M_readHigh u M_why M_folds M_square M_want M_text M_read M_row M_foldSet M_foldEdges M_foldNeeds M_foldYards M_least M_ways M_price M_rowBy M_columnBy M_rowOf M_wayBack M_slack M_isUsed M_lifted M_freed M_path)) (fun v u => Q v u) := by
  unfold wp_X11_clear at h
  refine metI_of (by decide) (Nat.le_of_ble_eq_true rfl) (fun x cx0 hR0 => ?_)
  have cx : Cx x cX11_clear 2 RX11 rm_X11_clear D [(cyI, .int), (cyJ, .long), (cyZ, .boolean)] := cx0
  have hR : ∀ (v : Int32) (u : Int32) (pc : Nat) (lv : List (Nat × Value)), decode cX11_clear pc = .ok (.ireturn, 1) → Q v u → J x 0 0 2 (W_Model cyI cyJ cyZ a_M a_M_square a_M_want a_M_text a_M_read a_M_row a_M_foldSet a_M_foldEdges a_M_foldNeeds a_M_foldYards a_M_least a_M_ways a_M_price a_M_rowBy a_M_columnBy a_M_rowOf a_M_wayBack a_M_slack a_M_isUsed a_M_lifted a_M_freed a_M_path M_wide M_high M_hedges M_hurdles M_wants M_rest M_frozen M_bytes M_position M_tokenAt M_token M_digits M_number M_faultAt M_readMany M_readWide M_readHigh u M_why M_folds M_square M_want M_text M_read M_row M_foldSet M_foldEdges M_foldNeeds M_foldYards M_least M_ways M_price M_rowBy M_columnBy M_rowOf M_wayBack M_slack M_isUsed M_lifted M_freed M_path) lv pc [.int v] := (fun v u pc lv d hq => hR0 v u pc lv d hq)
  show J x 0 0 2 (W_Model cyI cyJ cyZ a_M a_M_square a_M_want a_M_text a_M_read a_M_row a_M_foldSet a_M_foldEdges a_M_foldNeeds a_M_foldYards a_M_least a_M_ways a_M_price a_M_rowBy a_M_columnBy a_M_rowOf a_M_wayBack a_M_slack a_M_isUsed a_M_lifted a_M_freed a_M_path M_wide M_high M_hedges M_hurdles M_wants M_rest M_frozen M_bytes M_position M_tokenAt M_token M_digits M_number M_faultAt M_readMany M_readWide M_readHigh M_nights M_why M_folds M_square M_want M_text M_read M_row M_foldSet M_foldEdges M_foldNeeds M_foldYards M_least M_ways M_price M_rowBy M_columnBy M_rowOf M_wayBack M_slack M_isUsed M_lifted M_freed M_path) [(0, .ref a_M)] 0 []
  refine j_aload_n cx 0 rfl rfl dX11_clear_0 (pn := 1) rfl ?_
  refine j_get cx inGX11 0 rfl rfl 21 (by decide) q_fl_X11_198 rfl rfl dX11_clear_1 (pn := 4) rfl ?_
  refine j_istore_n cx rfl [(1, .int M_nights), (0, .ref a_M)] (by decide) rfl dX11_clear_4 (pn := 5) rfl ?_
  refine j_aload_n cx 1 rfl rfl dX11_clear_5 (pn := 6) rfl ?_
  refine j_iconst cx (v := 0) (by decide) dX11_clear_6 (pn := 7) rfl ?_
  refine j_put cx tyX11 tyX11_ok nmX11 inGX11 0 rfl rfl 21 (by decide) q_fl_X11_198 rfl rfl rfl rfl rfl (Nat.le_of_ble_eq_true rfl) (W_Model cyI cyJ cyZ a_M a_M_square a_M_want a_M_text a_M_read a_M_row a_M_foldSet a_M_foldEdges a_M_foldNeeds a_M_foldYards a_M_least a_M_ways a_M_price a_M_rowBy a_M_columnBy a_M_rowOf a_M_wayBack a_M_slack a_M_isUsed a_M_lifted a_M_freed a_M_path M_wide M_high M_hedges M_hurdles M_wants M_rest M_frozen M_bytes M_position M_tokenAt M_token M_digits M_number M_faultAt M_readMany M_readWide M_readHigh 0 M_why M_folds M_square M_want M_text M_read M_row M_foldSet M_foldEdges M_foldNeeds M_foldYards M_least M_ways M_price M_rowBy M_columnBy M_rowOf M_wayBack M_slack M_isUsed M_lifted M_freed M_path) rfl dX11_clear_7 (pn := 10) rfl ?_
  refine j_iload_n cx 0 rfl rfl dX11_clear_10 (pn := 11) rfl ?_
  exact hR M_nights 0 11 _ dX11_clear_11 h
theorem dX11_isFresh_0 : decode cX11_isFresh 0 = .ok (.aload_n 0, 1) := by decide +kernel
theorem dX11_isFresh_1 : decode cX11_isFresh 1 = .ok (.getfield 212, 3) := by decide +kernel
theorem dX11_isFresh_4 : decode cX11_isFresh 4 = .ok (.ifCond .eq 11, 3) := by decide +kernel
theorem dX11_isFresh_7 : decode cX11_isFresh 7 = .ok (.aload_n 0, 1) := by decide +kernel
theorem dX11_isFresh_8 : decode cX11_isFresh 8 = .ok (.getfield 212, 3) := by decide +kernel
theorem dX11_isFresh_11 : decode cX11_isFresh 11 = .ok (.iload_n 1, 1) := by decide +kernel
theorem dX11_isFresh_12 : decode cX11_isFresh 12 = .ok (.if_icmp .le 7, 3) := by decide +kernel
theorem dX11_isFresh_15 : decode cX11_isFresh 15 = .ok (.iconst 0, 1) := by decide +kernel
theorem dX11_isFresh_16 : decode cX11_isFresh 16 = .ok (.goto 9, 3) := by decide +kernel
theorem dX11_isFresh_19 : decode cX11_isFresh 19 = .ok (.iload_n 1, 1) := by decide +kernel
theorem dX11_isFresh_20 : decode cX11_isFresh 20 = .ok (.aload_n 0, 1) := by decide +kernel
theorem dX11_isFresh_21 : decode cX11_isFresh 21 = .ok (.getfield 212, 3) := by decide +kernel
theorem dX11_isFresh_24 : decode cX11_isFresh 24 = .ok (.isub, 1) := by decide +kernel
theorem dX11_isFresh_25 : decode cX11_isFresh 25 = .ok (.istore_n 2, 1) := by decide +kernel
theorem dX11_isFresh_26 : decode cX11_isFresh 26 = .ok (.iload_n 2, 1) := by decide +kernel
theorem dX11_isFresh_27 : decode cX11_isFresh 27 = .ok (.istore_n 3, 1) := by decide +kernel
theorem dX11_isFresh_28 : decode cX11_isFresh 28 = .ok (.iload_n 3, 1) := by decide +kernel
theorem dX11_isFresh_29 : decode cX11_isFresh 29 = .ok (.iload_n 1, 1) := by decide +kernel
theorem dX11_isFresh_30 : decode cX11_isFresh 30 = .ok (.if_icmp .ge 27, 3) := by decide +kernel
theorem dX11_isFresh_33 : decode cX11_isFresh 33 = .ok (.aload_n 0, 1) := by decide +kernel
theorem dX11_isFresh_34 : decode cX11_isFresh 34 = .ok (.getfield 32, 3) := by decide +kernel
theorem dX11_isFresh_37 : decode cX11_isFresh 37 = .ok (.iload_n 3, 1) := by decide +kernel
theorem dX11_isFresh_38 : decode cX11_isFresh 38 = .ok (.iaload, 1) := by decide +kernel
theorem dX11_isFresh_39 : decode cX11_isFresh 39 = .ok (.aload_n 0, 1) := by decide +kernel
theorem dX11_isFresh_40 : decode cX11_isFresh 40 = .ok (.getfield 32, 3) := by decide +kernel
theorem dX11_isFresh_43 : decode cX11_isFresh 43 = .ok (.iload_n 1, 1) := by decide +kernel
theorem dX11_isFresh_44 : decode cX11_isFresh 44 = .ok (.iaload, 1) := by decide +kernel
theorem dX11_isFresh_45 : decode cX11_isFresh 45 = .ok (.iand, 1) := by decide +kernel
theorem dX11_isFresh_46 : decode cX11_isFresh 46 = .ok (.ifCond .eq 5, 3) := by decide +kernel
theorem dX11_isFresh_49 : decode cX11_isFresh 49 = .ok (.iconst 0, 1) := by decide +kernel
theorem dX11_isFresh_50 : decode cX11_isFresh 50 = .ok (.ireturn, 1) := by decide +kernel
theorem dX11_isFresh_51 : decode cX11_isFresh 51 = .ok (.iinc 3 1, 3) := by decide +kernel
theorem dX11_isFresh_54 : decode cX11_isFresh 54 = .ok (.goto (-26), 3) := by decide +kernel
theorem dX11_isFresh_57 : decode cX11_isFresh 57 = .ok (.iconst 1, 1) := by decide +kernel
theorem dX11_isFresh_58 : decode cX11_isFresh 58 = .ok (.ireturn, 1) := by decide +kernel
abbrev rm_X11_isFresh : Room := { frames := 0, cells := 0, slots := 0, locals := 0 }
theorem hd_X11_isFresh : yX11_isFresh.cls ≠ "java/lang/invoke/MethodHandle" ∧ yX11_isFresh.cls ≠ "java/lang/invoke/VarHandle" ∧ (parseMethodDescriptor yX11_isFresh.desc).map (fun d => d.parameters.length) = some 1 := by decide +kernel
def bd_X11_isFresh_28 (Q : Int32 → Prop) (B28 : Int32 → Prop) (p1 : Int32) (M_row : Nat → Int32) (x3 : Int32) : Prop :=
((p1 ≤ x3 → Q 1) ∧
(¬ p1 ≤ x3 → vp_in x3 20 ∧ vp_in p1 20 ∧ ((((M_row x3.toNatClampNeg) &&& (M_row p1.toNatClampNeg)) = 0 → ∀ y4 : Int32, y4 = (x3 + 1) →
B28 y4) ∧
(¬ ((M_row x3.toNatClampNeg) &&& (M_row p1.toNatClampNeg)) = 0 → Q 0))))
def lp_X11_isFresh_28 (Q : Int32 → Prop) (p1 : Int32) (M_row : Nat → Int32) (x3 : Int32) : Prop :=
∃ I : Nat → Int32 → Prop, (∃ n, I n x3) ∧ ∀ n x3, I n x3 → bd_X11_isFresh_28 Q  (fun x3' => ∃ n', n' < n ∧ I n' x3') p1 M_row x3
def bk_X11_isFresh_25 (Q : Int32 → Prop) (p1 : Int32) (M_row : Nat → Int32) (s0 : Int32) : Prop :=
lp_X11_isFresh_28 Q p1 M_row s0
def bk_X11_isFresh_15 (Q : Int32 → Prop) (p1 : Int32) (M_row : Nat → Int32) : Prop :=
bk_X11_isFresh_25 Q p1 M_row 0
def wp_X11_isFresh (p1 : Int32) (M_rest : Int32) (M_row : Nat → Int32) (Q : Int32 → Prop) : Prop :=
((M_rest = 0 → bk_X11_isFresh_15 Q p1 M_row) ∧
(¬ M_rest = 0 → ((M_rest ≤ p1 → bk_X11_isFresh_25 Q p1 M_row (p1 - M_rest)) ∧
(¬ M_rest ≤ p1 → bk_X11_isFresh_15 Q p1 M_row))))
set_option maxHeartbeats 4000000 in
set_option maxRecDepth 100000 in
theorem B_X11_isFresh_28 {x : CX} {D : DG} {cyI cyJ cyZ : ClassId} {a_M a_M_square a_M_want a_M_text a_M_read a_M_row a_M_foldSet a_M_foldEdges a_M_foldNeeds a_M_foldYards a_M_least a_M_ways a_M_price a_M_rowBy a_M_columnBy a_M_rowOf a_M_wayBack a_M_slack a_M_isUsed a_M_lifted a_M_freed a_M_path : Nat} {M_wide : Int32} {M_high : Int32} {M_hedges : Int64} {M_hurdles : Int32} {M_wants : Int32} {M_rest : Int32} {M_frozen : Int32} {M_bytes : Int32} {M_position : Int32} {M_tokenAt : Int32} {M_token : Int64} {M_digits : Int32} {M_number : Int32} {M_faultAt : Int32} {M_readMany : Int32} {M_readWide : Int32} {M_readHigh : Int32} {M_nights : Int32} {M_why : Int32} {M_folds : Int32} {M_square : Nat → Int32} {M_want : Nat → Int32} {M_text : Nat → Int32} {M_read : Nat → Int32} {M_row : Nat → Int32} {M_foldSet : Nat → Int32} {M_foldEdges : Nat → Int64} {M_foldNeeds : Nat → Int32} {M_foldYards : Nat → Int32} {M_least : Nat → Int32} {M_ways : Nat → Int32} {M_price : Nat → Int32} {M_rowBy : Nat → Int32} {M_columnBy : Nat → Int32} {M_rowOf : Nat → Int32} {M_wayBack : Nat → Int32} {M_slack : Nat → Int32} {M_isUsed : Nat → Int32} {M_lifted : Nat → Int32} {M_freed : Nat → Int32} {M_path : Nat → Int32} {p1 : Int32} {x3 : Int32} {Q : Int32 → Prop} {B28 : Int32 → Prop} (cx : Cx x cX11_isFresh 4 RX11 rm_X11_isFresh D [(cyI, .int), (cyJ, .long), (cyZ, .boolean)]) (hR : ∀ (v : Int32) (pc : Nat) (lv : List (Nat × Value)), decode cX11_isFresh pc = .ok (.ireturn, 1) → (v = 0 ∨ v = 1) → Q v → J x 0 0 4 (W_Model cyI cyJ cyZ a_M a_M_square a_M_want a_M_text a_M_read a_M_row a_M_foldSet a_M_foldEdges a_M_foldNeeds a_M_foldYards a_M_least a_M_ways a_M_price a_M_rowBy a_M_columnBy a_M_rowOf a_M_wayBack a_M_slack a_M_isUsed a_M_lifted a_M_freed a_M_path M_wide M_high M_hedges M_hurdles M_wants M_rest M_frozen M_bytes M_position M_tokenAt M_token M_digits M_number M_faultAt M_readMany M_readWide M_readHigh M_nights M_why M_folds M_square M_want M_text M_read M_row M_foldSet M_foldEdges M_foldNeeds M_foldYards M_least M_ways M_price M_rowBy M_columnBy M_rowOf M_wayBack M_slack M_isUsed M_lifted M_freed M_path) lv pc [.int v]) (hB28 : ∀ (x3 : Int32), B28 x3 → J x 0 0 4 (W_Model cyI cyJ cyZ a_M a_M_square a_M_want a_M_text a_M_read a_M_row a_M_foldSet a_M_foldEdges a_M_foldNeeds a_M_foldYards a_M_least a_M_ways a_M_price a_M_rowBy a_M_columnBy a_M_rowOf a_M_wayBack a_M_slack a_M_isUsed a_M_lifted a_M_freed a_M_path M_wide M_high M_hedges M_hurdles M_wants M_rest M_frozen M_bytes M_position M_tokenAt M_token M_digits M_number M_faultAt M_readMany M_readWide M_readHigh M_nights M_why M_folds M_square M_want M_text M_read M_row M_foldSet M_foldEdges M_foldNeeds M_foldYards M_least M_ways M_price M_rowBy M_columnBy M_rowOf M_wayBack M_slack M_isUsed M_lifted M_freed M_path) [(0, .ref a_M), (1, .int p1), (3, .int x3)] 28 []) (h : bd_X11_isFresh_28 Q B28 p1 M_row x3) :
    J x 0 0 4 (W_Model cyI cyJ cyZ a_M a_M_square a_M_want a_M_text a_M_read a_M_row a_M_foldSet a_M_foldEdges a_M_foldNeeds a_M_foldYards a_M_least a_M_ways a_M_price a_M_rowBy a_M_columnBy a_M_rowOf a_M_wayBack a_M_slack a_M_isUsed a_M_lifted a_M_freed a_M_path M_wide M_high M_hedges M_hurdles M_wants M_rest M_frozen M_bytes M_position M_tokenAt M_token M_digits M_number M_faultAt M_readMany M_readWide M_readHigh M_nights M_why M_folds M_square M_want M_text M_read M_row M_foldSet M_foldEdges M_foldNeeds M_foldYards M_least M_ways M_price M_rowBy M_columnBy M_rowOf M_wayBack M_slack M_isUsed M_lifted M_freed M_path) [(0, .ref a_M), (1, .int p1), (3, .int x3)] 28 [] := by
  unfold bd_X11_isFresh_28 at h
  refine j_iload_n cx 2 rfl rfl dX11_isFresh_28 (pn := 29) rfl ?_
  refine j_iload_n cx 1 rfl rfl dX11_isFresh_29 (pn := 30) rfl ?_
  refine j_icmp_ge cx 57 dX11_isFresh_30 (pn := 33) rfl rfl (fun c2 => ?_) (fun c2 => ?_)
  · have h := h.1 c2
    refine j_iconst cx (v := 1) (by decide) dX11_isFresh_57 (pn := 58) rfl ?_
    exact hR 1 58 _ dX11_isFresh_58 (Or.inr rfl) h
  · have h := h.2 c2
    refine j_aload_n cx 0 rfl rfl dX11_isFresh_33 (pn := 34) rfl ?_
    refine j_get cx inGX11 0 rfl rfl 22 (by decide) q_fl_X11_32 rfl rfl dX11_isFresh_34 (pn := 37) rfl ?_
    refine j_iload_n cx 2 rfl rfl dX11_isFresh_37 (pn := 38) rfl ?_
    refine j_iald cx 5 0 rfl rfl h.1 dX11_isFresh_38 (pn := 39) rfl ?_
    have h := h.2
    refine j_aload_n cx 0 rfl rfl dX11_isFresh_39 (pn := 40) rfl ?_
    refine j_get cx inGX11 0 rfl rfl 22 (by decide) q_fl_X11_32 rfl rfl dX11_isFresh_40 (pn := 43) rfl ?_
    refine j_iload_n cx 1 rfl rfl dX11_isFresh_43 (pn := 44) rfl ?_
    refine j_iald cx 5 0 rfl rfl h.1 dX11_isFresh_44 (pn := 45) rfl ?_
    have h := h.2
    refine j_iand cx dX11_isFresh_45 (pn := 46) rfl ?_
    refine j_if_eq cx 51 dX11_isFresh_46 (pn := 49) rfl rfl (fun c3 => ?_) (fun c3 => ?_)
    · have h := h.1 c3
      obtain ⟨y4, ey4⟩ : ∃ z : Int32, z = x3 + 1 := ⟨_, rfl⟩
      have h := h y4 ey4
      refine j_iinc cx 2 rfl (cst := 1) (by decide) ey4 [(3, .int y4), (0, .ref a_M), (1, .int p1)] (by decide) rfl dX11_isFresh_51 (pn := 54) rfl ?_
      refine j_goto cx 28 dX11_isFresh_54 rfl ?_
      refine j_sub [1, 2, 0] [(0, .ref a_M), (1, .int p1), (3, .int y4)] rfl ?_
      exact hB28 _ h
    · have h := h.2 c3
      refine j_iconst cx (v := 0) (by decide) dX11_isFresh_49 (pn := 50) rfl ?_
      exact hR 0 50 _ dX11_isFresh_50 (Or.inl rfl) h
set_option maxHeartbeats 4000000 in
set_option maxRecDepth 100000 in
theorem J_X11_isFresh_28 {x : CX} {D : DG} {cyI cyJ cyZ : ClassId} {a_M a_M_square a_M_want a_M_text a_M_read a_M_row a_M_foldSet a_M_foldEdges a_M_foldNeeds a_M_foldYards a_M_least a_M_ways a_M_price a_M_rowBy a_M_columnBy a_M_rowOf a_M_wayBack a_M_slack a_M_isUsed a_M_lifted a_M_freed a_M_path : Nat} {M_wide : Int32} {M_high : Int32} {M_hedges : Int64} {M_hurdles : Int32} {M_wants : Int32} {M_rest : Int32} {M_frozen : Int32} {M_bytes : Int32} {M_position : Int32} {M_tokenAt : Int32} {M_token : Int64} {M_digits : Int32} {M_number : Int32} {M_faultAt : Int32} {M_readMany : Int32} {M_readWide : Int32} {M_readHigh : Int32} {M_nights : Int32} {M_why : Int32} {M_folds : Int32} {M_square : Nat → Int32} {M_want : Nat → Int32} {M_text : Nat → Int32} {M_read : Nat → Int32} {M_row : Nat → Int32} {M_foldSet : Nat → Int32} {M_foldEdges : Nat → Int64} {M_foldNeeds : Nat → Int32} {M_foldYards : Nat → Int32} {M_least : Nat → Int32} {M_ways : Nat → Int32} {M_price : Nat → Int32} {M_rowBy : Nat → Int32} {M_columnBy : Nat → Int32} {M_rowOf : Nat → Int32} {M_wayBack : Nat → Int32} {M_slack : Nat → Int32} {M_isUsed : Nat → Int32} {M_lifted : Nat → Int32} {M_freed : Nat → Int32} {M_path : Nat → Int32} {p1 : Int32} {x3 : Int32} {Q : Int32 → Prop} (cx : Cx x cX11_isFresh 4 RX11 rm_X11_isFresh D [(cyI, .int), (cyJ, .long), (cyZ, .boolean)]) (hR : ∀ (v : Int32) (pc : Nat) (lv : List (Nat × Value)), decode cX11_isFresh pc = .ok (.ireturn, 1) → (v = 0 ∨ v = 1) → Q v → J x 0 0 4 (W_Model cyI cyJ cyZ a_M a_M_square a_M_want a_M_text a_M_read a_M_row a_M_foldSet a_M_foldEdges a_M_foldNeeds a_M_foldYards a_M_least a_M_ways a_M_price a_M_rowBy a_M_columnBy a_M_rowOf a_M_wayBack a_M_slack a_M_isUsed a_M_lifted a_M_freed a_M_path M_wide M_high M_hedges M_hurdles M_wants M_rest M_frozen M_bytes M_position M_tokenAt M_token M_digits M_number M_faultAt M_readMany M_readWide M_readHigh M_nights M_why M_folds M_square M_want M_text M_read M_row M_foldSet M_foldEdges M_foldNeeds M_foldYards M_least M_ways M_price M_rowBy M_columnBy M_rowOf M_wayBack M_slack M_isUsed M_lifted M_freed M_path) lv pc [.int v]) (h : lp_X11_isFresh_28 Q  p1 M_row x3) :
    J x 0 0 4 (W_Model cyI cyJ cyZ a_M a_M_square a_M_want a_M_text a_M_read a_M_row a_M_foldSet a_M_foldEdges a_M_foldNeeds a_M_foldYards a_M_least a_M_ways a_M_price a_M_rowBy a_M_columnBy a_M_rowOf a_M_wayBack a_M_slack a_M_isUsed a_M_lifted a_M_freed a_M_path M_wide M_high M_hedges M_hurdles M_wants M_rest M_frozen M_bytes M_position M_tokenAt M_token M_digits M_number M_faultAt M_readMany M_readWide M_readHigh M_nights M_why M_folds M_square M_want M_text M_read M_row M_foldSet M_foldEdges M_foldNeeds M_foldYards M_least M_ways M_price M_rowBy M_columnBy M_rowOf M_wayBack M_slack M_isUsed M_lifted M_freed M_path) [(0, .ref a_M), (1, .int p1), (3, .int x3)] 28 [] := by
  obtain ⟨I, ⟨n, h0⟩, hb⟩ := h
  revert x3
  induction n using Nat.strongRecOn with
  | _ n ih =>
    intro x3 h0
    exact B_X11_isFresh_28 cx hR (fun _ hz => by obtain ⟨n2, hlt, hI⟩ := hz; exact ih n2 hlt hI) (hb n x3 h0)
set_option maxHeartbeats 4000000 in
set_option maxRecDepth 100000 in
theorem J_X11_isFresh_25 {x : CX} {D : DG} {cyI cyJ cyZ : ClassId} {a_M a_M_square a_M_want a_M_text a_M_read a_M_row a_M_foldSet a_M_foldEdges a_M_foldNeeds a_M_foldYards a_M_least a_M_ways a_M_price a_M_rowBy a_M_columnBy a_M_rowOf a_M_wayBack a_M_slack a_M_isUsed a_M_lifted a_M_freed a_M_path : Nat} {M_wide : Int32} {M_high : Int32} {M_hedges : Int64} {M_hurdles : Int32} {M_wants : Int32} {M_rest : Int32} {M_frozen : Int32} {M_bytes : Int32} {M_position : Int32} {M_tokenAt : Int32} {M_token : Int64} {M_digits : Int32} {M_number : Int32} {M_faultAt : Int32} {M_readMany : Int32} {M_readWide : Int32} {M_readHigh : Int32} {M_nights : Int32} {M_why : Int32} {M_folds : Int32} {M_square : Nat → Int32} {M_want : Nat → Int32} {M_text : Nat → Int32} {M_read : Nat → Int32} {M_row : Nat → Int32} {M_foldSet : Nat → Int32} {M_foldEdges : Nat → Int64} {M_foldNeeds : Nat → Int32} {M_foldYards : Nat → Int32} {M_least : Nat → Int32} {M_ways : Nat → Int32} {M_price : Nat → Int32} {M_rowBy : Nat → Int32} {M_columnBy : Nat → Int32} {M_rowOf : Nat → Int32} {M_wayBack : Nat → Int32} {M_slack : Nat → Int32} {M_isUsed : Nat → Int32} {M_lifted : Nat → Int32} {M_freed : Nat → Int32} {M_path : Nat → Int32} {p1 : Int32} {s0 : Int32} {Q : Int32 → Prop} (cx : Cx x cX11_isFresh 4 RX11 rm_X11_isFresh D [(cyI, .int), (cyJ, .long), (cyZ, .boolean)]) (hR : ∀ (v : Int32) (pc : Nat) (lv : List (Nat × Value)), decode cX11_isFresh pc = .ok (.ireturn, 1) → (v = 0 ∨ v = 1) → Q v → J x 0 0 4 (W_Model cyI cyJ cyZ a_M a_M_square a_M_want a_M_text a_M_read a_M_row a_M_foldSet a_M_foldEdges a_M_foldNeeds a_M_foldYards a_M_least a_M_ways a_M_price a_M_rowBy a_M_columnBy a_M_rowOf a_M_wayBack a_M_slack a_M_isUsed a_M_lifted a_M_freed a_M_path M_wide M_high M_hedges M_hurdles M_wants M_rest M_frozen M_bytes M_position M_tokenAt M_token M_digits M_number M_faultAt M_readMany M_readWide M_readHigh M_nights M_why M_folds M_square M_want M_text M_read M_row M_foldSet M_foldEdges M_foldNeeds M_foldYards M_least M_ways M_price M_rowBy M_columnBy M_rowOf M_wayBack M_slack M_isUsed M_lifted M_freed M_path) lv pc [.int v]) (h : bk_X11_isFresh_25 Q  p1 M_row s0) :
    J x 0 0 4 (W_Model cyI cyJ cyZ a_M a_M_square a_M_want a_M_text a_M_read a_M_row a_M_foldSet a_M_foldEdges a_M_foldNeeds a_M_foldYards a_M_least a_M_ways a_M_price a_M_rowBy a_M_columnBy a_M_rowOf a_M_wayBack a_M_slack a_M_isUsed a_M_lifted a_M_freed a_M_path M_wide M_high M_hedges M_hurdles M_wants M_rest M_frozen M_bytes M_position M_tokenAt M_token M_digits M_number M_faultAt M_readMany M_readWide M_readHigh M_nights M_why M_folds M_square M_want M_text M_read M_row M_foldSet M_foldEdges M_foldNeeds M_foldYards M_least M_ways M_price M_rowBy M_columnBy M_rowOf M_wayBack M_slack M_isUsed M_lifted M_freed M_path) [(0, .ref a_M), (1, .int p1)] 25 [.int s0] := by
  unfold bk_X11_isFresh_25 at h
  refine j_istore_n cx rfl [(2, .int s0), (0, .ref a_M), (1, .int p1)] (by decide) rfl dX11_isFresh_25 (pn := 26) rfl ?_
  refine j_iload_n cx 0 rfl rfl dX11_isFresh_26 (pn := 27) rfl ?_
  refine j_istore_n cx rfl [(3, .int s0), (2, .int s0), (0, .ref a_M), (1, .int p1)] (by decide) rfl dX11_isFresh_27 (pn := 28) rfl ?_
  refine j_sub [2, 3, 0] [(0, .ref a_M), (1, .int p1), (3, .int s0)] rfl ?_
  exact J_X11_isFresh_28 cx hR h
set_option maxHeartbeats 4000000 in
set_option maxRecDepth 100000 in
theorem J_X11_isFresh_15 {x : CX} {D : DG} {cyI cyJ cyZ : ClassId} {a_M a_M_square a_M_want a_M_text a_M_read a_M_row a_M_foldSet a_M_foldEdges a_M_foldNeeds a_M_foldYards a_M_least a_M_ways a_M_price a_M_rowBy a_M_columnBy a_M_rowOf a_M_wayBack a_M_slack a_M_isUsed a_M_lifted a_M_freed a_M_path : Nat} {M_wide : Int32} {M_high : Int32} {M_hedges : Int64} {M_hurdles : Int32} {M_wants : Int32} {M_rest : Int32} {M_frozen : Int32} {M_bytes : Int32} {M_position : Int32} {M_tokenAt : Int32} {M_token : Int64} {M_digits : Int32} {M_number : Int32} {M_faultAt : Int32} {M_readMany : Int32} {M_readWide : Int32} {M_readHigh : Int32} {M_nights : Int32} {M_why : Int32} {M_folds : Int32} {M_square : Nat → Int32} {M_want : Nat → Int32} {M_text : Nat → Int32} {M_read : Nat → Int32} {M_row : Nat → Int32} {M_foldSet : Nat → Int32} {M_foldEdges : Nat → Int64} {M_foldNeeds : Nat → Int32} {M_foldYards : Nat → Int32} {M_least : Nat → Int32} {M_ways : Nat → Int32} {M_price : Nat → Int32} {M_rowBy : Nat → Int32} {M_columnBy : Nat → Int32} {M_rowOf : Nat → Int32} {M_wayBack : Nat → Int32} {M_slack : Nat → Int32} {M_isUsed : Nat → Int32} {M_lifted : Nat → Int32} {M_freed : Nat → Int32} {M_path : Nat → Int32} {p1 : Int32} {Q : Int32 → Prop} (cx : Cx x cX11_isFresh 4 RX11 rm_X11_isFresh D [(cyI, .int), (cyJ, .long), (cyZ, .boolean)]) (hR : ∀ (v : Int32) (pc : Nat) (lv : List (Nat × Value)), decode cX11_isFresh pc = .ok (.ireturn, 1) → (v = 0 ∨ v = 1) → Q v → J x 0 0 4 (W_Model cyI cyJ cyZ a_M a_M_square a_M_want a_M_text a_M_read a_M_row a_M_foldSet a_M_foldEdges a_M_foldNeeds a_M_foldYards a_M_least a_M_ways a_M_price a_M_rowBy a_M_columnBy a_M_rowOf a_M_wayBack a_M_slack a_M_isUsed a_M_lifted a_M_freed a_M_path M_wide M_high M_hedges M_hurdles M_wants M_rest M_frozen M_bytes M_position M_tokenAt M_token M_digits M_number M_faultAt M_readMany M_readWide M_readHigh M_nights M_why M_folds M_square M_want M_text M_read M_row M_foldSet M_foldEdges M_foldNeeds M_foldYards M_least M_ways M_price M_rowBy M_columnBy M_rowOf M_wayBack M_slack M_isUsed M_lifted M_freed M_path) lv pc [.int v]) (h : bk_X11_isFresh_15 Q  p1 M_row) :
    J x 0 0 4 (W_Model cyI cyJ cyZ a_M a_M_square a_M_want a_M_text a_M_read a_M_row a_M_foldSet a_M_foldEdges a_M_foldNeeds a_M_foldYards a_M_least a_M_ways a_M_price a_M_rowBy a_M_columnBy a_M_rowOf a_M_wayBack a_M_slack a_M_isUsed a_M_lifted a_M_freed a_M_path M_wide M_high M_hedges M_hurdles M_wants M_rest M_frozen M_bytes M_position M_tokenAt M_token M_digits M_number M_faultAt M_readMany M_readWide M_readHigh M_nights M_why M_folds M_square M_want M_text M_read M_row M_foldSet M_foldEdges M_foldNeeds M_foldYards M_least M_ways M_price M_rowBy M_columnBy M_rowOf M_wayBack M_slack M_isUsed M_lifted M_freed M_path) [(0, .ref a_M), (1, .int p1)] 15 [] := by
  unfold bk_X11_isFresh_15 at h
  refine j_iconst cx (v := 0) (by decide) dX11_isFresh_15 (pn := 16) rfl ?_
  refine j_goto cx 25 dX11_isFresh_16 rfl ?_
  exact J_X11_isFresh_25 cx hR h
set_option maxHeartbeats 4000000 in
set_option maxRecDepth 100000 in
theorem c_X11_isFresh {D : DG} {cyI cyJ cyZ : ClassId} {a_M a_M_square a_M_want a_M_text a_M_read a_M_row a_M_foldSet a_M_foldEdges a_M_foldNeeds a_M_foldYards a_M_least a_M_ways a_M_price a_M_rowBy a_M_columnBy a_M_rowOf a_M_wayBack a_M_slack a_M_isUsed a_M_lifted a_M_freed a_M_path : Nat} {M_wide : Int32} {M_high : Int32} {M_hedges : Int64} {M_hurdles : Int32} {M_wants : Int32} {M_rest : Int32} {M_frozen : Int32} {M_bytes : Int32} {M_position : Int32} {M_tokenAt : Int32} {M_token : Int64} {M_digits : Int32} {M_number : Int32} {M_faultAt : Int32} {M_readMany : Int32} {M_readWide : Int32} {M_readHigh : Int32} {M_nights : Int32} {M_why : Int32} {M_folds : Int32} {M_square : Nat → Int32} {M_want : Nat → Int32} {M_text : Nat → Int32} {M_read : Nat → Int32} {M_row : Nat → Int32} {M_foldSet : Nat → Int32} {M_foldEdges : Nat → Int64} {M_foldNeeds : Nat → Int32} {M_foldYards : Nat → Int32} {M_least : Nat → Int32} {M_ways : Nat → Int32} {M_price : Nat → Int32} {M_rowBy : Nat → Int32} {M_columnBy : Nat → Int32} {M_rowOf : Nat → Int32} {M_wayBack : Nat → Int32} {M_slack : Nat → Int32} {M_isUsed : Nat → Int32} {M_lifted : Nat → Int32} {M_freed : Nat → Int32} {M_path : Nat → Int32} {p1 : Int32} {Q : Int32 → Prop} (h : wp_X11_isFresh p1 M_rest M_row Q) :
    MetI yX11_isFresh cX11_isFresh 4 (some .boolean) rm_X11_isFresh D [(cyI, .int), (cyJ, .long), (cyZ, .boolean)] [.ref a_M, .int p1] (W_Model cyI cyJ cyZ a_M a_M_square a_M_want a_M_text a_M_read a_M_row a_M_foldSet a_M_foldEdges a_M_foldNeeds a_M_foldYards a_M_least a_M_ways a_M_price a_M_rowBy a_M_columnBy a_M_rowOf a_M_wayBack a_M_slack a_M_isUsed a_M_lifted a_M_freed a_M_path M_wide M_high M_hedges M_hurdles M_wants M_rest M_frozen M_bytes M_position M_tokenAt M_token M_digits M_number M_faultAt M_readMany M_readWide M_readHigh M_nights M_why M_folds M_square M_want M_text M_read M_row M_foldSet M_foldEdges M_foldNeeds M_foldYards M_least M_ways M_price M_rowBy M_columnBy M_rowOf M_wayBack M_slack M_isUsed M_lifted M_freed M_path) (fun _ : Unit => (W_Model cyI cyJ cyZ a_M a_M_square a_M_want a_M_text a_M_read a_M_row a_M_foldSet a_M_foldEdges a_M_foldNeeds a_M_foldYards a_M_least a_M_ways a_M_price a_M_rowBy a_M_columnBy a_M_rowOf a_M_wayBack a_M_slack a_M_isUsed a_M_lifted a_M_freed a_M_path M_wide M_high M_hedges M_hurdles M_wants M_rest M_frozen M_bytes M_position M_tokenAt M_token M_digits M_number M_faultAt M_readMany M_readWide M_readHigh M_nights M_why M_folds M_square M_want M_text M_read M_row M_foldSet M_foldEdges M_foldNeeds M_foldYards M_least M_ways M_price M_rowBy M_columnBy M_rowOf M_wayBack M_slack M_isUsed M_lifted M_freed M_path)) (fun v _ => Q v ) := by
  unfold wp_X11_isFresh at h
  refine metZ_of (by decide) (Nat.le_of_ble_eq_true rfl) (fun x cx0 hR0 => ?_)
  have cx : Cx x cX11_isFresh 4 RX11 rm_X11_isFresh D [(cyI, .int), (cyJ, .long), (cyZ, .boolean)] := cx0
  have hR : ∀ (v : Int32) (pc : Nat) (lv : List (Nat × Value)), decode cX11_isFresh pc = .ok (.ireturn, 1) → (v = 0 ∨ v = 1) → Q v → J x 0 0 4 (W_Model cyI cyJ cyZ a_M a_M_square a_M_want a_M_text a_M_read a_M_row a_M_foldSet a_M_foldEdges a_M_foldNeeds a_M_foldYards a_M_least a_M_ways a_M_price a_M_rowBy a_M_columnBy a_M_rowOf a_M_wayBack a_M_slack a_M_isUsed a_M_lifted a_M_freed a_M_path M_wide M_high M_hedges M_hurdles M_wants M_rest M_frozen M_bytes M_position M_tokenAt M_token M_digits M_number M_faultAt M_readMany M_readWide M_readHigh M_nights M_why M_folds M_square M_want M_text M_read M_row M_foldSet M_foldEdges M_foldNeeds M_foldYards M_least M_ways M_price M_rowBy M_columnBy M_rowOf M_wayBack M_slack M_isUsed M_lifted M_freed M_path) lv pc [.int v] := (fun v pc lv d hz hq => hR0 v () pc lv d hz hq)
  show J x 0 0 4 (W_Model cyI cyJ cyZ a_M a_M_square a_M_want a_M_text a_M_read a_M_row a_M_foldSet a_M_foldEdges a_M_foldNeeds a_M_foldYards a_M_least a_M_ways a_M_price a_M_rowBy a_M_columnBy a_M_rowOf a_M_wayBack a_M_slack a_M_isUsed a_M_lifted a_M_freed a_M_path M_wide M_high M_hedges M_hurdles M_wants M_rest M_frozen M_bytes M_position M_tokenAt M_token M_digits M_number M_faultAt M_readMany M_readWide M_readHigh M_nights M_why M_folds M_square M_want M_text M_read M_row M_foldSet M_foldEdges M_foldNeeds M_foldYards M_least M_ways M_price M_rowBy M_columnBy M_rowOf M_wayBack M_slack M_isUsed M_lifted M_freed M_path) [(0, .ref a_M), (1, .int p1)] 0 []
  refine j_aload_n cx 0 rfl rfl dX11_isFresh_0 (pn := 1) rfl ?_
  refine j_get cx inGX11 0 rfl rfl 7 (by decide) q_fl_X11_212 rfl rfl dX11_isFresh_1 (pn := 4) rfl ?_
  refine j_if_eq cx 15 dX11_isFresh_4 (pn := 7) rfl rfl (fun c1 => ?_) (fun c1 => ?_)
  · have h := h.1 c1
    exact J_X11_isFresh_15 cx hR h
  · have h := h.2 c1
    refine j_aload_n cx 0 rfl rfl dX11_isFresh_7 (pn := 8) rfl ?_
    refine j_get cx inGX11 0 rfl rfl 7 (by decide) q_fl_X11_212 rfl rfl dX11_isFresh_8 (pn := 11) rfl ?_
    refine j_iload_n cx 1 rfl rfl dX11_isFresh_11 (pn := 12) rfl ?_
    refine j_icmp_le cx 19 dX11_isFresh_12 (pn := 15) rfl rfl (fun c5 => ?_) (fun c5 => ?_)
    · have h := h.1 c5
      refine j_iload_n cx 1 rfl rfl dX11_isFresh_19 (pn := 20) rfl ?_
      refine j_aload_n cx 0 rfl rfl dX11_isFresh_20 (pn := 21) rfl ?_
      refine j_get cx inGX11 0 rfl rfl 7 (by decide) q_fl_X11_212 rfl rfl dX11_isFresh_21 (pn := 24) rfl ?_
      refine j_isub cx dX11_isFresh_24 (pn := 25) rfl ?_
      exact J_X11_isFresh_25 cx hR h
    · have h := h.2 c5
      exact J_X11_isFresh_15 cx hR h
theorem dX11_wrongOf_0 : decode cX11_wrongOf 0 = .ok (.aload_n 0, 1) := by decide +kernel
theorem dX11_wrongOf_1 : decode cX11_wrongOf 1 = .ok (.aload_n 0, 1) := by decide +kernel
theorem dX11_wrongOf_2 : decode cX11_wrongOf 2 = .ok (.getfield 32, 3) := by decide +kernel
theorem dX11_wrongOf_5 : decode cX11_wrongOf 5 = .ok (.iload_n 1, 1) := by decide +kernel
theorem dX11_wrongOf_6 : decode cX11_wrongOf 6 = .ok (.iaload, 1) := by decide +kernel
theorem dX11_wrongOf_7 : decode cX11_wrongOf 7 = .ok (.invokevirtual 237, 3) := by decide +kernel
theorem dX11_wrongOf_10 : decode cX11_wrongOf 10 = .ok (.ifCond .ne 5, 3) := by decide +kernel
theorem dX11_wrongOf_13 : decode cX11_wrongOf 13 = .ok (.iconst 0, 1) := by decide +kernel
theorem dX11_wrongOf_14 : decode cX11_wrongOf 14 = .ok (.ireturn, 1) := by decide +kernel
theorem dX11_wrongOf_15 : decode cX11_wrongOf 15 = .ok (.aload_n 0, 1) := by decide +kernel
theorem dX11_wrongOf_16 : decode cX11_wrongOf 16 = .ok (.aload_n 0, 1) := by decide +kernel
theorem dX11_wrongOf_17 : decode cX11_wrongOf 17 = .ok (.getfield 32, 3) := by decide +kernel
theorem dX11_wrongOf_20 : decode cX11_wrongOf 20 = .ok (.iload_n 1, 1) := by decide +kernel
theorem dX11_wrongOf_21 : decode cX11_wrongOf 21 = .ok (.iaload, 1) := by decide +kernel
theorem dX11_wrongOf_22 : decode cX11_wrongOf 22 = .ok (.invokevirtual 240, 3) := by decide +kernel
theorem dX11_wrongOf_25 : decode cX11_wrongOf 25 = .ok (.invokestatic 244, 3) := by decide +kernel
theorem dX11_wrongOf_28 : decode cX11_wrongOf 28 = .ok (.aload_n 0, 1) := by decide +kernel
theorem dX11_wrongOf_29 : decode cX11_wrongOf 29 = .ok (.getfield 20, 3) := by decide +kernel
theorem dX11_wrongOf_32 : decode cX11_wrongOf 32 = .ok (.if_icmp .le 5, 3) := by decide +kernel
theorem dX11_wrongOf_35 : decode cX11_wrongOf 35 = .ok (.iconst 1, 1) := by decide +kernel
theorem dX11_wrongOf_36 : decode cX11_wrongOf 36 = .ok (.ireturn, 1) := by decide +kernel
theorem dX11_wrongOf_37 : decode cX11_wrongOf 37 = .ok (.aload_n 0, 1) := by decide +kernel
theorem dX11_wrongOf_38 : decode cX11_wrongOf 38 = .ok (.aload_n 0, 1) := by decide +kernel
theorem dX11_wrongOf_39 : decode cX11_wrongOf 39 = .ok (.getfield 32, 3) := by decide +kernel
theorem dX11_wrongOf_42 : decode cX11_wrongOf 42 = .ok (.iload_n 1, 1) := by decide +kernel
theorem dX11_wrongOf_43 : decode cX11_wrongOf 43 = .ok (.iaload, 1) := by decide +kernel
theorem dX11_wrongOf_44 : decode cX11_wrongOf 44 = .ok (.invokevirtual 248, 3) := by decide +kernel
theorem dX11_wrongOf_47 : decode cX11_wrongOf 47 = .ok (.aload_n 0, 1) := by decide +kernel
theorem dX11_wrongOf_48 : decode cX11_wrongOf 48 = .ok (.iload_n 1, 1) := by decide +kernel
theorem dX11_wrongOf_49 : decode cX11_wrongOf 49 = .ok (.invokevirtual 224, 3) := by decide +kernel
theorem dX11_wrongOf_52 : decode cX11_wrongOf 52 = .ok (.if_icmp .ge 5, 3) := by decide +kernel
theorem dX11_wrongOf_55 : decode cX11_wrongOf 55 = .ok (.iconst 2, 1) := by decide +kernel
theorem dX11_wrongOf_56 : decode cX11_wrongOf 56 = .ok (.ireturn, 1) := by decide +kernel
theorem dX11_wrongOf_57 : decode cX11_wrongOf 57 = .ok (.iload_n 1, 1) := by decide +kernel
theorem dX11_wrongOf_58 : decode cX11_wrongOf 58 = .ok (.ifCond .ne 5, 3) := by decide +kernel
theorem dX11_wrongOf_61 : decode cX11_wrongOf 61 = .ok (.iconst (-1), 1) := by decide +kernel
theorem dX11_wrongOf_62 : decode cX11_wrongOf 62 = .ok (.ireturn, 1) := by decide +kernel
theorem dX11_wrongOf_63 : decode cX11_wrongOf 63 = .ok (.aload_n 0, 1) := by decide +kernel
theorem dX11_wrongOf_64 : decode cX11_wrongOf 64 = .ok (.getfield 215, 3) := by decide +kernel
theorem dX11_wrongOf_67 : decode cX11_wrongOf 67 = .ok (.iload_n 1, 1) := by decide +kernel
theorem dX11_wrongOf_68 : decode cX11_wrongOf 68 = .ok (.ishr, 1) := by decide +kernel
theorem dX11_wrongOf_69 : decode cX11_wrongOf 69 = .ok (.iconst 1, 1) := by decide +kernel
theorem dX11_wrongOf_70 : decode cX11_wrongOf 70 = .ok (.iand, 1) := by decide +kernel
theorem dX11_wrongOf_71 : decode cX11_wrongOf 71 = .ok (.iconst 1, 1) := by decide +kernel
theorem dX11_wrongOf_72 : decode cX11_wrongOf 72 = .ok (.if_icmp .ne 26, 3) := by decide +kernel
theorem dX11_wrongOf_75 : decode cX11_wrongOf 75 = .ok (.aload_n 0, 1) := by decide +kernel
theorem dX11_wrongOf_76 : decode cX11_wrongOf 76 = .ok (.getfield 32, 3) := by decide +kernel
theorem dX11_wrongOf_79 : decode cX11_wrongOf 79 = .ok (.iload_n 1, 1) := by decide +kernel
theorem dX11_wrongOf_80 : decode cX11_wrongOf 80 = .ok (.iaload, 1) := by decide +kernel
theorem dX11_wrongOf_81 : decode cX11_wrongOf 81 = .ok (.aload_n 0, 1) := by decide +kernel
theorem dX11_wrongOf_82 : decode cX11_wrongOf 82 = .ok (.getfield 32, 3) := by decide +kernel
theorem dX11_wrongOf_85 : decode cX11_wrongOf 85 = .ok (.iload_n 1, 1) := by decide +kernel
theorem dX11_wrongOf_86 : decode cX11_wrongOf 86 = .ok (.iconst 1, 1) := by decide +kernel
theorem dX11_wrongOf_87 : decode cX11_wrongOf 87 = .ok (.isub, 1) := by decide +kernel
theorem dX11_wrongOf_88 : decode cX11_wrongOf 88 = .ok (.iaload, 1) := by decide +kernel
theorem dX11_wrongOf_89 : decode cX11_wrongOf 89 = .ok (.if_icmp .ne 7, 3) := by decide +kernel
theorem dX11_wrongOf_92 : decode cX11_wrongOf 92 = .ok (.iconst (-1), 1) := by decide +kernel
theorem dX11_wrongOf_93 : decode cX11_wrongOf 93 = .ok (.goto 4, 3) := by decide +kernel
theorem dX11_wrongOf_96 : decode cX11_wrongOf 96 = .ok (.iconst 3, 1) := by decide +kernel
theorem dX11_wrongOf_97 : decode cX11_wrongOf 97 = .ok (.ireturn, 1) := by decide +kernel
theorem dX11_wrongOf_98 : decode cX11_wrongOf 98 = .ok (.aload_n 0, 1) := by decide +kernel
theorem dX11_wrongOf_99 : decode cX11_wrongOf 99 = .ok (.getfield 32, 3) := by decide +kernel
theorem dX11_wrongOf_102 : decode cX11_wrongOf 102 = .ok (.iload_n 1, 1) := by decide +kernel
theorem dX11_wrongOf_103 : decode cX11_wrongOf 103 = .ok (.iconst 1, 1) := by decide +kernel
theorem dX11_wrongOf_104 : decode cX11_wrongOf 104 = .ok (.isub, 1) := by decide +kernel
theorem dX11_wrongOf_105 : decode cX11_wrongOf 105 = .ok (.iaload, 1) := by decide +kernel
theorem dX11_wrongOf_106 : decode cX11_wrongOf 106 = .ok (.istore_n 2, 1) := by decide +kernel
theorem dX11_wrongOf_107 : decode cX11_wrongOf 107 = .ok (.aload_n 0, 1) := by decide +kernel
theorem dX11_wrongOf_108 : decode cX11_wrongOf 108 = .ok (.getfield 32, 3) := by decide +kernel
theorem dX11_wrongOf_111 : decode cX11_wrongOf 111 = .ok (.iload_n 1, 1) := by decide +kernel
theorem dX11_wrongOf_112 : decode cX11_wrongOf 112 = .ok (.iaload, 1) := by decide +kernel
theorem dX11_wrongOf_113 : decode cX11_wrongOf 113 = .ok (.iload_n 2, 1) := by decide +kernel
theorem dX11_wrongOf_114 : decode cX11_wrongOf 114 = .ok (.if_icmp .eq 31, 3) := by decide +kernel
theorem dX11_wrongOf_117 : decode cX11_wrongOf 117 = .ok (.aload_n 0, 1) := by decide +kernel
theorem dX11_wrongOf_118 : decode cX11_wrongOf 118 = .ok (.iload_n 2, 1) := by decide +kernel
theorem dX11_wrongOf_119 : decode cX11_wrongOf 119 = .ok (.aload_n 0, 1) := by decide +kernel
theorem dX11_wrongOf_120 : decode cX11_wrongOf 120 = .ok (.getfield 32, 3) := by decide +kernel
theorem dX11_wrongOf_123 : decode cX11_wrongOf 123 = .ok (.iload_n 1, 1) := by decide +kernel
theorem dX11_wrongOf_124 : decode cX11_wrongOf 124 = .ok (.iaload, 1) := by decide +kernel
theorem dX11_wrongOf_125 : decode cX11_wrongOf 125 = .ok (.iconst (-1), 1) := by decide +kernel
theorem dX11_wrongOf_126 : decode cX11_wrongOf 126 = .ok (.ixor, 1) := by decide +kernel
theorem dX11_wrongOf_127 : decode cX11_wrongOf 127 = .ok (.iand, 1) := by decide +kernel
theorem dX11_wrongOf_128 : decode cX11_wrongOf 128 = .ok (.invokevirtual 234, 3) := by decide +kernel
theorem dX11_wrongOf_131 : decode cX11_wrongOf 131 = .ok (.aload_n 0, 1) := by decide +kernel
theorem dX11_wrongOf_132 : decode cX11_wrongOf 132 = .ok (.getfield 32, 3) := by decide +kernel
theorem dX11_wrongOf_135 : decode cX11_wrongOf 135 = .ok (.iload_n 1, 1) := by decide +kernel
theorem dX11_wrongOf_136 : decode cX11_wrongOf 136 = .ok (.iaload, 1) := by decide +kernel
theorem dX11_wrongOf_137 : decode cX11_wrongOf 137 = .ok (.iand, 1) := by decide +kernel
theorem dX11_wrongOf_138 : decode cX11_wrongOf 138 = .ok (.iload_n 2, 1) := by decide +kernel
theorem dX11_wrongOf_139 : decode cX11_wrongOf 139 = .ok (.iconst (-1), 1) := by decide +kernel
theorem dX11_wrongOf_140 : decode cX11_wrongOf 140 = .ok (.ixor, 1) := by decide +kernel
theorem dX11_wrongOf_141 : decode cX11_wrongOf 141 = .ok (.iand, 1) := by decide +kernel
theorem dX11_wrongOf_142 : decode cX11_wrongOf 142 = .ok (.ifCond .ne 5, 3) := by decide +kernel
theorem dX11_wrongOf_145 : decode cX11_wrongOf 145 = .ok (.iconst 4, 1) := by decide +kernel
theorem dX11_wrongOf_146 : decode cX11_wrongOf 146 = .ok (.ireturn, 1) := by decide +kernel
theorem dX11_wrongOf_147 : decode cX11_wrongOf 147 = .ok (.aload_n 0, 1) := by decide +kernel
theorem dX11_wrongOf_148 : decode cX11_wrongOf 148 = .ok (.iload_n 1, 1) := by decide +kernel
theorem dX11_wrongOf_149 : decode cX11_wrongOf 149 = .ok (.invokevirtual 251, 3) := by decide +kernel
theorem dX11_wrongOf_152 : decode cX11_wrongOf 152 = .ok (.ifCond .eq 7, 3) := by decide +kernel
theorem dX11_wrongOf_155 : decode cX11_wrongOf 155 = .ok (.iconst (-1), 1) := by decide +kernel
theorem dX11_wrongOf_156 : decode cX11_wrongOf 156 = .ok (.goto 4, 3) := by decide +kernel
theorem dX11_wrongOf_159 : decode cX11_wrongOf 159 = .ok (.iconst 5, 1) := by decide +kernel
theorem dX11_wrongOf_160 : decode cX11_wrongOf 160 = .ok (.ireturn, 1) := by decide +kernel
abbrev rm_X11_wrongOf : Room := { frames := 4, cells := 0, slots := 0, locals := 94 }
theorem hd_X11_wrongOf : yX11_wrongOf.cls ≠ "java/lang/invoke/MethodHandle" ∧ yX11_wrongOf.cls ≠ "java/lang/invoke/VarHandle" ∧ (parseMethodDescriptor yX11_wrongOf.desc).map (fun d => d.parameters.length) = some 1 := by decide +kernel
def wp_X11_wrongOf (p1 : Int32) (M_wide : Int32) (M_high : Int32) (M_hedges : Int64) (M_hurdles : Int32) (M_wants : Int32) (M_rest : Int32) (M_frozen : Int32) (M_square : Nat → Int32) (M_want : Nat → Int32) (M_row : Nat → Int32) (Q : Int32 → Prop) : Prop :=
vp_in p1 20 ∧ wp_X11_isFold (M_row p1.toNatClampNeg) M_wide M_high M_square (fun (r1 : Int32) => ((¬ r1 = 0 → vp_in p1 20 ∧ wp_X11_edgesOf (M_row p1.toNatClampNeg) M_wide M_high M_hedges M_square (fun (r3 : Int64) => wp_X11_bits r3 (fun (r4 : Int32) => ((r4 ≤ M_hurdles → vp_in p1 20 ∧ wp_X11_yardsOf (M_row p1.toNatClampNeg) M_wide M_high M_square (fun (r6 : Int32) => wp_X11_wantOf p1 M_wants M_want (fun (r7 : Int32) => ((r7 ≤ r6 → ((¬ p1 = 0 → ((¬ ((M_frozen >>> (p1 &&& 31)) &&& 1) = 1 → vp_in (p1 - 1) 20 ∧ (∀ y11 : Int32, y11 = (M_row (p1 - 1).toNatClampNeg) →
vp_in p1 20 ∧ (((M_row p1.toNatClampNeg) = y11 → Q 4) ∧
(¬ (M_row p1.toNatClampNeg) = y11 → vp_in p1 20 ∧ wp_X11_besides (y11 &&& ((M_row p1.toNatClampNeg) ^^^ (-1))) M_wide M_high (fun (r13 : Int32) => vp_in p1 20 ∧ ((¬ ((r13 &&& (M_row p1.toNatClampNeg)) &&& (y11 ^^^ (-1))) = 0 → wp_X11_isFresh p1 M_rest M_row (fun (r15 : Int32) => ((r15 = 0 → Q 5) ∧
(¬ r15 = 0 → Q (-1))))) ∧
(((r13 &&& (M_row p1.toNatClampNeg)) &&& (y11 ^^^ (-1))) = 0 → Q 4))))))) ∧
(((M_frozen >>> (p1 &&& 31)) &&& 1) = 1 → vp_in p1 20 ∧ vp_in (p1 - 1) 20 ∧ ((¬ (M_row p1.toNatClampNeg) = (M_row (p1 - 1).toNatClampNeg) → Q 3) ∧
((M_row p1.toNatClampNeg) = (M_row (p1 - 1).toNatClampNeg) → Q (-1)))))) ∧
(p1 = 0 → Q (-1)))) ∧
(¬ r7 ≤ r6 → Q 2))))) ∧
(¬ r4 ≤ M_hurdles → Q 1))))) ∧
(r1 = 0 → Q 0)))
set_option maxHeartbeats 4000000 in
set_option maxRecDepth 100000 in
theorem c_X11_wrongOf {D : DG} {cyI cyJ cyZ : ClassId} {a_M a_M_square a_M_want a_M_text a_M_read a_M_row a_M_foldSet a_M_foldEdges a_M_foldNeeds a_M_foldYards a_M_least a_M_ways a_M_price a_M_rowBy a_M_columnBy a_M_rowOf a_M_wayBack a_M_slack a_M_isUsed a_M_lifted a_M_freed a_M_path : Nat} {M_wide : Int32} {M_high : Int32} {M_hedges : Int64} {M_hurdles : Int32} {M_wants : Int32} {M_rest : Int32} {M_frozen : Int32} {M_bytes : Int32} {M_position : Int32} {M_tokenAt : Int32} {M_token : Int64} {M_digits : Int32} {M_number : Int32} {M_faultAt : Int32} {M_readMany : Int32} {M_readWide : Int32} {M_readHigh : Int32} {M_nights : Int32} {M_why : Int32} {M_folds : Int32} {M_square : Nat → Int32} {M_want : Nat → Int32} {M_text : Nat → Int32} {M_read : Nat → Int32} {M_row : Nat → Int32} {M_foldSet : Nat → Int32} {M_foldEdges : Nat → Int64} {M_foldNeeds : Nat → Int32} {M_foldYards : Nat → Int32} {M_least : Nat → Int32} {M_ways : Nat → Int32} {M_price : Nat → Int32} {M_rowBy : Nat → Int32} {M_columnBy : Nat → Int32} {M_rowOf : Nat → Int32} {M_wayBack : Nat → Int32} {M_slack : Nat → Int32} {M_isUsed : Nat → Int32} {M_lifted : Nat → Int32} {M_freed : Nat → Int32} {M_path : Nat → Int32} {p1 : Int32} {Q : Int32 → Prop} (h : wp_X11_wrongOf p1 M_wide M_high M_hedges M_hurdles M_wants M_rest M_frozen M_square M_want M_row Q) :
    MetI yX11_wrongOf cX11_wrongOf 3 (some .int) rm_X11_wrongOf D [(cyI, .int), (cyJ, .long), (cyZ, .boolean)] [.ref a_M, .int p1] (W_Model cyI cyJ cyZ a_M a_M_square a_M_want a_M_text a_M_read a_M_row a_M_foldSet a_M_foldEdges a_M_foldNeeds a_M_foldYards a_M_least a_M_ways a_M_price a_M_rowBy a_M_columnBy a_M_rowOf a_M_wayBack a_M_slack a_M_isUsed a_M_lifted a_M_freed a_M_path M_wide M_high M_hedges M_hurdles M_wants M_rest M_frozen M_bytes M_position M_tokenAt M_token M_digits M_number M_faultAt M_readMany M_readWide M_readHigh M_nights M_why M_folds M_square M_want M_text M_read M_row M_foldSet M_foldEdges M_foldNeeds M_foldYards M_least M_ways M_price M_rowBy M_columnBy M_rowOf M_wayBack M_slack M_isUsed M_lifted M_freed M_path) (fun _ : Unit => (W_Model cyI cyJ cyZ a_M a_M_square a_M_want a_M_text a_M_read a_M_row a_M_foldSet a_M_foldEdges a_M_foldNeeds a_M_foldYards a_M_least a_M_ways a_M_price a_M_rowBy a_M_columnBy a_M_rowOf a_M_wayBack a_M_slack a_M_isUsed a_M_lifted a_M_freed a_M_path M_wide M_high M_hedges M_hurdles M_wants M_rest M_frozen M_bytes M_position M_tokenAt M_token M_digits M_number M_faultAt M_readMany M_readWide M_readHigh M_nights M_why M_folds M_square M_want M_text M_read M_row M_foldSet M_foldEdges M_foldNeeds M_foldYards M_least M_ways M_price M_rowBy M_columnBy M_rowOf M_wayBack M_slack M_isUsed M_lifted M_freed M_path)) (fun v _ => Q v ) := by
  unfold wp_X11_wrongOf at h
  refine metI_of (by decide) (Nat.le_of_ble_eq_true rfl) (fun x cx0 hR0 => ?_)
  have cx : Cx x cX11_wrongOf 3 RX11 rm_X11_wrongOf D [(cyI, .int), (cyJ, .long), (cyZ, .boolean)] := cx0
  have hR : ∀ (v : Int32) (pc : Nat) (lv : List (Nat × Value)), decode cX11_wrongOf pc = .ok (.ireturn, 1) → Q v → J x 0 0 3 (W_Model cyI cyJ cyZ a_M a_M_square a_M_want a_M_text a_M_read a_M_row a_M_foldSet a_M_foldEdges a_M_foldNeeds a_M_foldYards a_M_least a_M_ways a_M_price a_M_rowBy a_M_columnBy a_M_rowOf a_M_wayBack a_M_slack a_M_isUsed a_M_lifted a_M_freed a_M_path M_wide M_high M_hedges M_hurdles M_wants M_rest M_frozen M_bytes M_position M_tokenAt M_token M_digits M_number M_faultAt M_readMany M_readWide M_readHigh M_nights M_why M_folds M_square M_want M_text M_read M_row M_foldSet M_foldEdges M_foldNeeds M_foldYards M_least M_ways M_price M_rowBy M_columnBy M_rowOf M_wayBack M_slack M_isUsed M_lifted M_freed M_path) lv pc [.int v] := (fun v pc lv d hq => hR0 v () pc lv d hq)
  show J x 0 0 3 (W_Model cyI cyJ cyZ a_M a_M_square a_M_want a_M_text a_M_read a_M_row a_M_foldSet a_M_foldEdges a_M_foldNeeds a_M_foldYards a_M_least a_M_ways a_M_price a_M_rowBy a_M_columnBy a_M_rowOf a_M_wayBack a_M_slack a_M_isUsed a_M_lifted a_M_freed a_M_path M_wide M_high M_hedges M_hurdles M_wants M_rest M_frozen M_bytes M_position M_tokenAt M_token M_digits M_number M_faultAt M_readMany M_readWide M_readHigh M_nights M_why M_folds M_square M_want M_text M_read M_row M_foldSet M_foldEdges M_foldNeeds M_foldYards M_least M_ways M_price M_rowBy M_columnBy M_rowOf M_wayBack M_slack M_isUsed M_lifted M_freed M_path) [(0, .ref a_M), (1, .int p1)] 0 []
  refine j_aload_n cx 0 rfl rfl dX11_wrongOf_0 (pn := 1) rfl ?_
  refine j_aload_n cx 0 rfl rfl dX11_wrongOf_1 (pn := 2) rfl ?_
  refine j_get cx inGX11 0 rfl rfl 22 (by decide) q_fl_X11_32 rfl rfl dX11_wrongOf_2 (pn := 5) rfl ?_
  refine j_iload_n cx 1 rfl rfl dX11_wrongOf_5 (pn := 6) rfl ?_
  refine j_iald cx 5 0 rfl rfl h.1 dX11_wrongOf_6 (pn := 7) rfl ?_
  have h := h.2
  refine j_callvI0 cx q_inst_X11_isFold q_sel_X11_isFold (b := a_M) (As := [.int (M_row p1.toNatClampNeg)]) (rest := []) (c_X11_isFold h) ⟨q_code_X11_isFold, q_ml_X11_237, q_init_X11, hd_X11_isFold, ⟨Nat.le_of_ble_eq_true rfl, Nat.le_of_ble_eq_true rfl⟩, Nat.le_of_ble_eq_true rfl, Nat.le_of_ble_eq_true rfl⟩ (q0 := 0) rfl rfl rfl rfl (Nat.le_of_ble_eq_true rfl) dX11_wrongOf_7 (pn := 10) rfl (fun r1 _ h => ?_)
  show J x 0 0 3 (W_Model cyI cyJ cyZ a_M a_M_square a_M_want a_M_text a_M_read a_M_row a_M_foldSet a_M_foldEdges a_M_foldNeeds a_M_foldYards a_M_least a_M_ways a_M_price a_M_rowBy a_M_columnBy a_M_rowOf a_M_wayBack a_M_slack a_M_isUsed a_M_lifted a_M_freed a_M_path M_wide M_high M_hedges M_hurdles M_wants M_rest M_frozen M_bytes M_position M_tokenAt M_token M_digits M_number M_faultAt M_readMany M_readWide M_readHigh M_nights M_why M_folds M_square M_want M_text M_read M_row M_foldSet M_foldEdges M_foldNeeds M_foldYards M_least M_ways M_price M_rowBy M_columnBy M_rowOf M_wayBack M_slack M_isUsed M_lifted M_freed M_path) [(0, .ref a_M), (1, .int p1)] 10 [.int r1]
  refine j_if_ne cx 15 dX11_wrongOf_10 (pn := 13) rfl rfl (fun c2 => ?_) (fun c2 => ?_)
  · have h := h.1 c2
    refine j_aload_n cx 0 rfl rfl dX11_wrongOf_15 (pn := 16) rfl ?_
    refine j_aload_n cx 0 rfl rfl dX11_wrongOf_16 (pn := 17) rfl ?_
    refine j_get cx inGX11 0 rfl rfl 22 (by decide) q_fl_X11_32 rfl rfl dX11_wrongOf_17 (pn := 20) rfl ?_
    refine j_iload_n cx 1 rfl rfl dX11_wrongOf_20 (pn := 21) rfl ?_
    refine j_iald cx 5 0 rfl rfl h.1 dX11_wrongOf_21 (pn := 22) rfl ?_
    have h := h.2
    refine j_callvL0 cx q_inst_X11_edgesOf q_sel_X11_edgesOf (b := a_M) (As := [.int (M_row p1.toNatClampNeg)]) (rest := []) (c_X11_edgesOf h) ⟨q_code_X11_edgesOf, q_ml_X11_240, q_init_X11, hd_X11_edgesOf, ⟨Nat.le_of_ble_eq_true rfl, Nat.le_of_ble_eq_true rfl⟩, Nat.le_of_ble_eq_true rfl, Nat.le_of_ble_eq_true rfl⟩ (q0 := 0) rfl rfl rfl rfl (Nat.le_of_ble_eq_true rfl) dX11_wrongOf_22 (pn := 25) rfl (fun r3 _ h => ?_)
    show J x 0 0 3 (W_Model cyI cyJ cyZ a_M a_M_square a_M_want a_M_text a_M_read a_M_row a_M_foldSet a_M_foldEdges a_M_foldNeeds a_M_foldYards a_M_least a_M_ways a_M_price a_M_rowBy a_M_columnBy a_M_rowOf a_M_wayBack a_M_slack a_M_isUsed a_M_lifted a_M_freed a_M_path M_wide M_high M_hedges M_hurdles M_wants M_rest M_frozen M_bytes M_position M_tokenAt M_token M_digits M_number M_faultAt M_readMany M_readWide M_readHigh M_nights M_why M_folds M_square M_want M_text M_read M_row M_foldSet M_foldEdges M_foldNeeds M_foldYards M_least M_ways M_price M_rowBy M_columnBy M_rowOf M_wayBack M_slack M_isUsed M_lifted M_freed M_path) [(0, .ref a_M), (1, .int p1)] 25 [.long r3]
    refine j_calleI cx q_stat_X11_bits (As := [.long r3]) (rest := []) (c_X11_bits h) ⟨q_code_X11_bits, q_ml_X11_244, q_init_X11, hd_X11_bits, ⟨Nat.le_of_ble_eq_true rfl, Nat.le_of_ble_eq_true rfl⟩, Nat.le_of_ble_eq_true rfl, Nat.le_of_ble_eq_true rfl⟩ rfl rfl (Nat.le_of_ble_eq_true rfl) dX11_wrongOf_25 (pn := 28) rfl (fun r4 h => ?_)
    show J x 0 0 3 (W_Model cyI cyJ cyZ a_M a_M_square a_M_want a_M_text a_M_read a_M_row a_M_foldSet a_M_foldEdges a_M_foldNeeds a_M_foldYards a_M_least a_M_ways a_M_price a_M_rowBy a_M_columnBy a_M_rowOf a_M_wayBack a_M_slack a_M_isUsed a_M_lifted a_M_freed a_M_path M_wide M_high M_hedges M_hurdles M_wants M_rest M_frozen M_bytes M_position M_tokenAt M_token M_digits M_number M_faultAt M_readMany M_readWide M_readHigh M_nights M_why M_folds M_square M_want M_text M_read M_row M_foldSet M_foldEdges M_foldNeeds M_foldYards M_least M_ways M_price M_rowBy M_columnBy M_rowOf M_wayBack M_slack M_isUsed M_lifted M_freed M_path) [(0, .ref a_M), (1, .int p1)] 28 [.int r4]
    refine j_aload_n cx 0 rfl rfl dX11_wrongOf_28 (pn := 29) rfl ?_
    refine j_get cx inGX11 0 rfl rfl 4 (by decide) q_fl_X11_20 rfl rfl dX11_wrongOf_29 (pn := 32) rfl ?_
    refine j_icmp_le cx 37 dX11_wrongOf_32 (pn := 35) rfl rfl (fun c5 => ?_) (fun c5 => ?_)
    · have h := h.1 c5
      refine j_aload_n cx 0 rfl rfl dX11_wrongOf_37 (pn := 38) rfl ?_
      refine j_aload_n cx 0 rfl rfl dX11_wrongOf_38 (pn := 39) rfl ?_
      refine j_get cx inGX11 0 rfl rfl 22 (by decide) q_fl_X11_32 rfl rfl dX11_wrongOf_39 (pn := 42) rfl ?_
      refine j_iload_n cx 1 rfl rfl dX11_wrongOf_42 (pn := 43) rfl ?_
      refine j_iald cx 5 0 rfl rfl h.1 dX11_wrongOf_43 (pn := 44) rfl ?_
      have h := h.2
      refine j_callvI0 cx q_inst_X11_yardsOf q_sel_X11_yardsOf (b := a_M) (As := [.int (M_row p1.toNatClampNeg)]) (rest := []) (c_X11_yardsOf h) ⟨q_code_X11_yardsOf, q_ml_X11_248, q_init_X11, hd_X11_yardsOf, ⟨Nat.le_of_ble_eq_true rfl, Nat.le_of_ble_eq_true rfl⟩, Nat.le_of_ble_eq_true rfl, Nat.le_of_ble_eq_true rfl⟩ (q0 := 0) rfl rfl rfl rfl (Nat.le_of_ble_eq_true rfl) dX11_wrongOf_44 (pn := 47) rfl (fun r6 _ h => ?_)
      show J x 0 0 3 (W_Model cyI cyJ cyZ a_M a_M_square a_M_want a_M_text a_M_read a_M_row a_M_foldSet a_M_foldEdges a_M_foldNeeds a_M_foldYards a_M_least a_M_ways a_M_price a_M_rowBy a_M_columnBy a_M_rowOf a_M_wayBack a_M_slack a_M_isUsed a_M_lifted a_M_freed a_M_path M_wide M_high M_hedges M_hurdles M_wants M_rest M_frozen M_bytes M_position M_tokenAt M_token M_digits M_number M_faultAt M_readMany M_readWide M_readHigh M_nights M_why M_folds M_square M_want M_text M_read M_row M_foldSet M_foldEdges M_foldNeeds M_foldYards M_least M_ways M_price M_rowBy M_columnBy M_rowOf M_wayBack M_slack M_isUsed M_lifted M_freed M_path) [(0, .ref a_M), (1, .int p1)] 47 [.int r6]
      refine j_aload_n cx 0 rfl rfl dX11_wrongOf_47 (pn := 48) rfl ?_
      refine j_iload_n cx 1 rfl rfl dX11_wrongOf_48 (pn := 49) rfl ?_
      refine j_callvI0 cx q_inst_X11_wantOf q_sel_X11_wantOf (b := a_M) (As := [.int p1]) (rest := [.int r6]) (c_X11_wantOf h) ⟨q_code_X11_wantOf, q_ml_X11_224, q_init_X11, hd_X11_wantOf, ⟨Nat.le_of_ble_eq_true rfl, Nat.le_of_ble_eq_true rfl⟩, Nat.le_of_ble_eq_true rfl, Nat.le_of_ble_eq_true rfl⟩ (q0 := 0) rfl rfl rfl rfl (Nat.le_of_ble_eq_true rfl) dX11_wrongOf_49 (pn := 52) rfl (fun r7 _ h => ?_)
      show J x 0 0 3 (W_Model cyI cyJ cyZ a_M a_M_square a_M_want a_M_text a_M_read a_M_row a_M_foldSet a_M_foldEdges a_M_foldNeeds a_M_foldYards a_M_least a_M_ways a_M_price a_M_rowBy a_M_columnBy a_M_rowOf a_M_wayBack a_M_slack a_M_isUsed a_M_lifted a_M_freed a_M_path M_wide M_high M_hedges M_hurdles M_wants M_rest M_frozen M_bytes M_position M_tokenAt M_token M_digits M_number M_faultAt M_readMany M_readWide M_readHigh M_nights M_why M_folds M_square M_want M_text M_read M_row M_foldSet M_foldEdges M_foldNeeds M_foldYards M_least M_ways M_price M_rowBy M_columnBy M_rowOf M_wayBack M_slack M_isUsed M_lifted M_freed M_path) [(0, .ref a_M), (1, .int p1)] 52 [.int r7, .int r6]
      refine j_icmp_ge cx 57 dX11_wrongOf_52 (pn := 55) rfl rfl (fun c8 => ?_) (fun c8 => ?_)
      · have h := h.1 c8
        refine j_iload_n cx 1 rfl rfl dX11_wrongOf_57 (pn := 58) rfl ?_
        refine j_if_ne cx 63 dX11_wrongOf_58 (pn := 61) rfl rfl (fun c9 => ?_) (fun c9 => ?_)
        · have h := h.1 c9
          refine j_aload_n cx 0 rfl rfl dX11_wrongOf_63 (pn := 64) rfl ?_
          refine j_get cx inGX11 0 rfl rfl 8 (by decide) q_fl_X11_215 rfl rfl dX11_wrongOf_64 (pn := 67) rfl ?_
          refine j_iload_n cx 1 rfl rfl dX11_wrongOf_67 (pn := 68) rfl ?_
          refine j_ishr cx dX11_wrongOf_68 (pn := 69) rfl ?_
          refine j_iconst cx (v := 1) (by decide) dX11_wrongOf_69 (pn := 70) rfl ?_
          refine j_iand cx dX11_wrongOf_70 (pn := 71) rfl ?_
          refine j_iconst cx (v := 1) (by decide) dX11_wrongOf_71 (pn := 72) rfl ?_
          refine j_icmp_ne cx 98 dX11_wrongOf_72 (pn := 75) rfl rfl (fun c10 => ?_) (fun c10 => ?_)
          · have h := h.1 c10
            refine j_aload_n cx 0 rfl rfl dX11_wrongOf_98 (pn := 99) rfl ?_
            refine j_get cx inGX11 0 rfl rfl 22 (by decide) q_fl_X11_32 rfl rfl dX11_wrongOf_99 (pn := 102) rfl ?_
            refine j_iload_n cx 1 rfl rfl dX11_wrongOf_102 (pn := 103) rfl ?_
            refine j_iconst cx (v := 1) (by decide) dX11_wrongOf_103 (pn := 104) rfl ?_
            refine j_isub cx dX11_wrongOf_104 (pn := 105) rfl ?_
            refine j_iald cx 5 0 rfl rfl h.1 dX11_wrongOf_105 (pn := 106) rfl ?_
            have h := h.2
            refine j_topi (fun y11 ey11 => ?_)
            have h := h y11 ey11
            refine j_istore_n cx rfl [(2, .int y11), (0, .ref a_M), (1, .int p1)] (by decide) rfl dX11_wrongOf_106 (pn := 107) rfl ?_
            refine j_aload_n cx 1 rfl rfl dX11_wrongOf_107 (pn := 108) rfl ?_
            refine j_get cx inGX11 0 rfl rfl 22 (by decide) q_fl_X11_32 rfl rfl dX11_wrongOf_108 (pn := 111) rfl ?_
            refine j_iload_n cx 2 rfl rfl dX11_wrongOf_111 (pn := 112) rfl ?_
            refine j_iald cx 5 0 rfl rfl h.1 dX11_wrongOf_112 (pn := 113) rfl ?_
            have h := h.2
            refine j_iload_n cx 0 rfl rfl dX11_wrongOf_113 (pn := 114) rfl ?_
            refine j_icmp_eq cx 145 dX11_wrongOf_114 (pn := 117) rfl rfl (fun c12 => ?_) (fun c12 => ?_)
            · have h := h.1 c12
              refine j_iconst cx (v := 4) (by decide) dX11_wrongOf_145 (pn := 146) rfl ?_
              exact hR 4 146 _ dX11_wrongOf_146 h
            · have h := h.2 c12
              refine j_aload_n cx 1 rfl rfl dX11_wrongOf_117 (pn := 118) rfl ?_
              refine j_iload_n cx 0 rfl rfl dX11_wrongOf_118 (pn := 119) rfl ?_
              refine j_aload_n cx 1 rfl rfl dX11_wrongOf_119 (pn := 120) rfl ?_
              refine j_get cx inGX11 0 rfl rfl 22 (by decide) q_fl_X11_32 rfl rfl dX11_wrongOf_120 (pn := 123) rfl ?_
              refine j_iload_n cx 2 rfl rfl dX11_wrongOf_123 (pn := 124) rfl ?_
              refine j_iald cx 5 0 rfl rfl h.1 dX11_wrongOf_124 (pn := 125) rfl ?_
              have h := h.2
              refine j_iconst cx (v := (-1)) (by decide) dX11_wrongOf_125 (pn := 126) rfl ?_
              refine j_ixor cx dX11_wrongOf_126 (pn := 127) rfl ?_
              refine j_iand cx dX11_wrongOf_127 (pn := 128) rfl ?_
              refine j_callvI0 cx q_inst_X11_besides q_sel_X11_besides (b := a_M) (As := [.int (y11 &&& ((M_row p1.toNatClampNeg) ^^^ (-1)))]) (rest := []) (c_X11_besides h) ⟨q_code_X11_besides, q_ml_X11_234, q_init_X11, hd_X11_besides, ⟨Nat.le_of_ble_eq_true rfl, Nat.le_of_ble_eq_true rfl⟩, Nat.le_of_ble_eq_true rfl, Nat.le_of_ble_eq_true rfl⟩ (q0 := 0) rfl rfl rfl rfl (Nat.le_of_ble_eq_true rfl) dX11_wrongOf_128 (pn := 131) rfl (fun r13 _ h => ?_)
              show J x 0 0 3 (W_Model cyI cyJ cyZ a_M a_M_square a_M_want a_M_text a_M_read a_M_row a_M_foldSet a_M_foldEdges a_M_foldNeeds a_M_foldYards a_M_least a_M_ways a_M_price a_M_rowBy a_M_columnBy a_M_rowOf a_M_wayBack a_M_slack a_M_isUsed a_M_lifted a_M_freed a_M_path M_wide M_high M_hedges M_hurdles M_wants M_rest M_frozen M_bytes M_position M_tokenAt M_token M_digits M_number M_faultAt M_readMany M_readWide M_readHigh M_nights M_why M_folds M_square M_want M_text M_read M_row M_foldSet M_foldEdges M_foldNeeds M_foldYards M_least M_ways M_price M_rowBy M_columnBy M_rowOf M_wayBack M_slack M_isUsed M_lifted M_freed M_path) [(2, .int y11), (0, .ref a_M), (1, .int p1)] 131 [.int r13]
              refine j_aload_n cx 1 rfl rfl dX11_wrongOf_131 (pn := 132) rfl ?_
              refine j_get cx inGX11 0 rfl rfl 22 (by decide) q_fl_X11_32 rfl rfl dX11_wrongOf_132 (pn := 135) rfl ?_
              refine j_iload_n cx 2 rfl rfl dX11_wrongOf_135 (pn := 136) rfl ?_
              refine j_iald cx 5 0 rfl rfl h.1 dX11_wrongOf_136 (pn := 137) rfl ?_
              have h := h.2
              refine j_iand cx dX11_wrongOf_137 (pn := 138) rfl ?_
              refine j_iload_n cx 0 rfl rfl dX11_wrongOf_138 (pn := 139) rfl ?_
              refine j_iconst cx (v := (-1)) (by decide) dX11_wrongOf_139 (pn := 140) rfl ?_
              refine j_ixor cx dX11_wrongOf_140 (pn := 141) rfl ?_
              refine j_iand cx dX11_wrongOf_141 (pn := 142) rfl ?_
              refine j_if_ne cx 147 dX11_wrongOf_142 (pn := 145) rfl rfl (fun c14 => ?_) (fun c14 => ?_)
              · have h := h.1 c14
                refine j_aload_n cx 1 rfl rfl dX11_wrongOf_147 (pn := 148) rfl ?_
                refine j_iload_n cx 2 rfl rfl dX11_wrongOf_148 (pn := 149) rfl ?_
                refine j_callvI0 cx q_inst_X11_isFresh q_sel_X11_isFresh (b := a_M) (As := [.int p1]) (rest := []) (c_X11_isFresh h) ⟨q_code_X11_isFresh, q_ml_X11_251, q_init_X11, hd_X11_isFresh, ⟨Nat.le_of_ble_eq_true rfl, Nat.le_of_ble_eq_true rfl⟩, Nat.le_of_ble_eq_true rfl, Nat.le_of_ble_eq_true rfl⟩ (q0 := 0) rfl rfl rfl rfl (Nat.le_of_ble_eq_true rfl) dX11_wrongOf_149 (pn := 152) rfl (fun r15 _ h => ?_)
                show J x 0 0 3 (W_Model cyI cyJ cyZ a_M a_M_square a_M_want a_M_text a_M_read a_M_row a_M_foldSet a_M_foldEdges a_M_foldNeeds a_M_foldYards a_M_least a_M_ways a_M_price a_M_rowBy a_M_columnBy a_M_rowOf a_M_wayBack a_M_slack a_M_isUsed a_M_lifted a_M_freed a_M_path M_wide M_high M_hedges M_hurdles M_wants M_rest M_frozen M_bytes M_position M_tokenAt M_token M_digits M_number M_faultAt M_readMany M_readWide M_readHigh M_nights M_why M_folds M_square M_want M_text M_read M_row M_foldSet M_foldEdges M_foldNeeds M_foldYards M_least M_ways M_price M_rowBy M_columnBy M_rowOf M_wayBack M_slack M_isUsed M_lifted M_freed M_path) [(2, .int y11), (0, .ref a_M), (1, .int p1)] 152 [.int r15]
                refine j_if_eq cx 159 dX11_wrongOf_152 (pn := 155) rfl rfl (fun c16 => ?_) (fun c16 => ?_)
                · have h := h.1 c16
                  refine j_iconst cx (v := 5) (by decide) dX11_wrongOf_159 (pn := 160) rfl ?_
                  exact hR 5 160 _ dX11_wrongOf_160 h
                · have h := h.2 c16
                  refine j_iconst cx (v := (-1)) (by decide) dX11_wrongOf_155 (pn := 156) rfl ?_
                  refine j_goto cx 160 dX11_wrongOf_156 rfl ?_
                  exact hR (-1) 160 _ dX11_wrongOf_160 h
              · have h := h.2 c14
                refine j_iconst cx (v := 4) (by decide) dX11_wrongOf_145 (pn := 146) rfl ?_
                exact hR 4 146 _ dX11_wrongOf_146 h
          · have h := h.2 c10
            refine j_aload_n cx 0 rfl rfl dX11_wrongOf_75 (pn := 76) rfl ?_
            refine j_get cx inGX11 0 rfl rfl 22 (by decide) q_fl_X11_32 rfl rfl dX11_wrongOf_76 (pn := 79) rfl ?_
            refine j_iload_n cx 1 rfl rfl dX11_wrongOf_79 (pn := 80) rfl ?_
            refine j_iald cx 5 0 rfl rfl h.1 dX11_wrongOf_80 (pn := 81) rfl ?_
            have h := h.2
            refine j_aload_n cx 0 rfl rfl dX11_wrongOf_81 (pn := 82) rfl ?_
            refine j_get cx inGX11 0 rfl rfl 22 (by decide) q_fl_X11_32 rfl rfl dX11_wrongOf_82 (pn := 85) rfl ?_
            refine j_iload_n cx 1 rfl rfl dX11_wrongOf_85 (pn := 86) rfl ?_
            refine j_iconst cx (v := 1) (by decide) dX11_wrongOf_86 (pn := 87) rfl ?_
            refine j_isub cx dX11_wrongOf_87 (pn := 88) rfl ?_
            refine j_iald cx 5 0 rfl rfl h.1 dX11_wrongOf_88 (pn := 89) rfl ?_
            have h := h.2
            refine j_icmp_ne cx 96 dX11_wrongOf_89 (pn := 92) rfl rfl (fun c17 => ?_) (fun c17 => ?_)
            · have h := h.1 c17
              refine j_iconst cx (v := 3) (by decide) dX11_wrongOf_96 (pn := 97) rfl ?_
              exact hR 3 97 _ dX11_wrongOf_97 h
            · have h := h.2 c17
              refine j_iconst cx (v := (-1)) (by decide) dX11_wrongOf_92 (pn := 93) rfl ?_
              refine j_goto cx 97 dX11_wrongOf_93 rfl ?_
              exact hR (-1) 97 _ dX11_wrongOf_97 h
        · have h := h.2 c9
          refine j_iconst cx (v := (-1)) (by decide) dX11_wrongOf_61 (pn := 62) rfl ?_
          exact hR (-1) 62 _ dX11_wrongOf_62 h
      · have h := h.2 c8
        refine j_iconst cx (v := 2) (by decide) dX11_wrongOf_55 (pn := 56) rfl ?_
        exact hR 2 56 _ dX11_wrongOf_56 h
    · have h := h.2 c5
      refine j_iconst cx (v := 1) (by decide) dX11_wrongOf_35 (pn := 36) rfl ?_
      exact hR 1 36 _ dX11_wrongOf_36 h
  · have h := h.2 c2
    refine j_iconst cx (v := 0) (by decide) dX11_wrongOf_13 (pn := 14) rfl ?_
    exact hR 0 14 _ dX11_wrongOf_14 h
theorem dX11_judged_0 : decode cX11_judged 0 = .ok (.aload_n 0, 1) := by decide +kernel
theorem dX11_judged_1 : decode cX11_judged 1 = .ok (.iconst (-1), 1) := by decide +kernel
theorem dX11_judged_2 : decode cX11_judged 2 = .ok (.putfield 254, 3) := by decide +kernel
theorem dX11_judged_5 : decode cX11_judged 5 = .ok (.iconst 0, 1) := by decide +kernel
theorem dX11_judged_6 : decode cX11_judged 6 = .ok (.istore_n 1, 1) := by decide +kernel
theorem dX11_judged_7 : decode cX11_judged 7 = .ok (.iload_n 1, 1) := by decide +kernel
theorem dX11_judged_8 : decode cX11_judged 8 = .ok (.aload_n 0, 1) := by decide +kernel
theorem dX11_judged_9 : decode cX11_judged 9 = .ok (.getfield 198, 3) := by decide +kernel
theorem dX11_judged_12 : decode cX11_judged 12 = .ok (.if_icmp .ge 28, 3) := by decide +kernel
theorem dX11_judged_15 : decode cX11_judged 15 = .ok (.aload_n 0, 1) := by decide +kernel
theorem dX11_judged_16 : decode cX11_judged 16 = .ok (.aload_n 0, 1) := by decide +kernel
theorem dX11_judged_17 : decode cX11_judged 17 = .ok (.iload_n 1, 1) := by decide +kernel
theorem dX11_judged_18 : decode cX11_judged 18 = .ok (.invokevirtual 257, 3) := by decide +kernel
theorem dX11_judged_21 : decode cX11_judged 21 = .ok (.putfield 254, 3) := by decide +kernel
theorem dX11_judged_24 : decode cX11_judged 24 = .ok (.aload_n 0, 1) := by decide +kernel
theorem dX11_judged_25 : decode cX11_judged 25 = .ok (.getfield 254, 3) := by decide +kernel
theorem dX11_judged_28 : decode cX11_judged 28 = .ok (.iconst (-1), 1) := by decide +kernel
theorem dX11_judged_29 : decode cX11_judged 29 = .ok (.if_icmp .eq 5, 3) := by decide +kernel
theorem dX11_judged_32 : decode cX11_judged 32 = .ok (.iload_n 1, 1) := by decide +kernel
theorem dX11_judged_33 : decode cX11_judged 33 = .ok (.ireturn, 1) := by decide +kernel
theorem dX11_judged_34 : decode cX11_judged 34 = .ok (.iinc 1 1, 3) := by decide +kernel
theorem dX11_judged_37 : decode cX11_judged 37 = .ok (.goto (-30), 3) := by decide +kernel
theorem dX11_judged_40 : decode cX11_judged 40 = .ok (.iconst (-1), 1) := by decide +kernel
theorem dX11_judged_41 : decode cX11_judged 41 = .ok (.ireturn, 1) := by decide +kernel
abbrev rm_X11_judged : Room := { frames := 5, cells := 0, slots := 0, locals := 116 }
theorem hd_X11_judged : yX11_judged.cls ≠ "java/lang/invoke/MethodHandle" ∧ yX11_judged.cls ≠ "java/lang/invoke/VarHandle" ∧ (parseMethodDescriptor yX11_judged.desc).map (fun d => d.parameters.length) = some 0 := by decide +kernel
def bd_X11_judged_7 (Q : Int32 → Int32 → Prop) (B7 : Int32 → Int32 → Prop) (M_wide : Int32) (M_high : Int32) (M_hedges : Int64) (M_hurdles : Int32) (M_wants : Int32) (M_rest : Int32) (M_frozen : Int32) (M_nights : Int32) (M_square : Nat → Int32) (M_want : Nat → Int32) (M_row : Nat → Int32) (M_why : Int32) (x1 : Int32) : Prop :=
((M_nights ≤ x1 → Q (-1) M_why) ∧
(¬ M_nights ≤ x1 → wp_X11_wrongOf x1 M_wide M_high M_hedges M_hurdles M_wants M_rest M_frozen M_square M_want M_row (fun (r2 : Int32) => ((r2 = (-1) → ∀ y4 : Int32, y4 = (x1 + 1) →
B7 r2 y4) ∧
(¬ r2 = (-1) → Q x1 r2)))))
def lp_X11_judged_7 (Q : Int32 → Int32 → Prop) (M_wide : Int32) (M_high : Int32) (M_hedges : Int64) (M_hurdles : Int32) (M_wants : Int32) (M_rest : Int32) (M_frozen : Int32) (M_nights : Int32) (M_square : Nat → Int32) (M_want : Nat → Int32) (M_row : Nat → Int32) (M_why : Int32) (x1 : Int32) : Prop :=
∃ I : Nat → Int32 → Int32 → Prop, (∃ n, I n M_why x1) ∧ ∀ n M_why x1, I n M_why x1 → bd_X11_judged_7 Q  (fun M_why' x1' => ∃ n', n' < n ∧ I n' M_why' x1') M_wide M_high M_hedges M_hurdles M_wants M_rest M_frozen M_nights M_square M_want M_row M_why x1
def wp_X11_judged (M_wide : Int32) (M_high : Int32) (M_hedges : Int64) (M_hurdles : Int32) (M_wants : Int32) (M_rest : Int32) (M_frozen : Int32) (M_nights : Int32) (M_square : Nat → Int32) (M_want : Nat → Int32) (M_row : Nat → Int32) (Q : Int32 → Int32 → Prop) : Prop :=
lp_X11_judged_7 Q M_wide M_high M_hedges M_hurdles M_wants M_rest M_frozen M_nights M_square M_want M_row (-1) 0
set_option maxHeartbeats 4000000 in
set_option maxRecDepth 100000 in
theorem B_X11_judged_7 {x : CX} {D : DG} {cyI cyJ cyZ : ClassId} {a_M a_M_square a_M_want a_M_text a_M_read a_M_row a_M_foldSet a_M_foldEdges a_M_foldNeeds a_M_foldYards a_M_least a_M_ways a_M_price a_M_rowBy a_M_columnBy a_M_rowOf a_M_wayBack a_M_slack a_M_isUsed a_M_lifted a_M_freed a_M_path : Nat} {M_wide : Int32} {M_high : Int32} {M_hedges : Int64} {M_hurdles : Int32} {M_wants : Int32} {M_rest : Int32} {M_frozen : Int32} {M_bytes : Int32} {M_position : Int32} {M_tokenAt : Int32} {M_token : Int64} {M_digits : Int32} {M_number : Int32} {M_faultAt : Int32} {M_readMany : Int32} {M_readWide : Int32} {M_readHigh : Int32} {M_nights : Int32} {M_why : Int32} {M_folds : Int32} {M_square : Nat → Int32} {M_want : Nat → Int32} {M_text : Nat → Int32} {M_read : Nat → Int32} {M_row : Nat → Int32} {M_foldSet : Nat → Int32} {M_foldEdges : Nat → Int64} {M_foldNeeds : Nat → Int32} {M_foldYards : Nat → Int32} {M_least : Nat → Int32} {M_ways : Nat → Int32} {M_price : Nat → Int32} {M_rowBy : Nat → Int32} {M_columnBy : Nat → Int32} {M_rowOf : Nat → Int32} {M_wayBack : Nat → Int32} {M_slack : Nat → Int32} {M_isUsed : Nat → Int32} {M_lifted : Nat → Int32} {M_freed : Nat → Int32} {M_path : Nat → Int32} {x1 : Int32} {Q : Int32 → Int32 → Prop} {B7 : Int32 → Int32 → Prop} (cx : Cx x cX11_judged 2 RX11 rm_X11_judged D [(cyI, .int), (cyJ, .long), (cyZ, .boolean)]) (hR : ∀ (v : Int32) (u : Int32) (pc : Nat) (lv : List (Nat × Value)), decode cX11_judged pc = .ok (.ireturn, 1) → Q v u → J x 0 0 2 (W_Model cyI cyJ cyZ a_M a_M_square a_M_want a_M_text a_M_read a_M_row a_M_foldSet a_M_foldEdges a_M_foldNeeds a_M_foldYards a_M_least a_M_ways a_M_price a_M_rowBy a_M_columnBy a_M_rowOf a_M_wayBack a_M_slack a_M_isUsed a_M_lifted a_M_freed a_M_path M_wide M_high M_hedges M_hurdles M_wants M_rest M_frozen M_bytes M_position M_tokenAt M_token M_digits M_number M_faultAt M_readMany M_readWide M_readHigh M_nights u M_folds M_square M_want M_text M_read M_row M_foldSet M_foldEdges M_foldNeeds M_foldYards M_least M_ways M_price M_rowBy M_columnBy M_rowOf M_wayBack M_slack M_isUsed M_lifted M_freed M_path) lv pc [.int v]) (hB7 : ∀ (M_why : Int32) (x1 : Int32), B7 M_why x1 → J x 0 0 2 (W_Model cyI cyJ cyZ a_M a_M_square a_M_want a_M_text a_M_read a_M_row a_M_foldSet a_M_foldEdges a_M_foldNeeds a_M_foldYards a_M_least a_M_ways a_M_price a_M_rowBy a_M_columnBy a_M_rowOf a_M_wayBack a_M_slack a_M_isUsed a_M_lifted a_M_freed a_M_path M_wide M_high M_hedges M_hurdles M_wants M_rest M_frozen M_bytes M_position M_tokenAt M_token M_digits M_number M_faultAt M_readMany M_readWide M_readHigh M_nights M_why M_folds M_square M_want M_text M_read M_row M_foldSet M_foldEdges M_foldNeeds M_foldYards M_least M_ways M_price M_rowBy M_columnBy M_rowOf M_wayBack M_slack M_isUsed M_lifted M_freed M_path) [(0, .ref a_M), (1, .int x1)] 7 []) (h : bd_X11_judged_7 Q B7 M_wide M_high M_hedges M_hurdles M_wants M_rest M_frozen M_nights M_square M_want M_row M_why x1) :
    J x 0 0 2 (W_Model cyI cyJ cyZ a_M a_M_square a_M_want a_M_text a_M_read a_M_row a_M_foldSet a_M_foldEdges a_M_foldNeeds a_M_foldYards a_M_least a_M_ways a_M_price a_M_rowBy a_M_columnBy a_M_rowOf a_M_wayBack a_M_slack a_M_isUsed a_M_lifted a_M_freed a_M_path M_wide M_high M_hedges M_hurdles M_wants M_rest M_frozen M_bytes M_position M_tokenAt M_token M_digits M_number M_faultAt M_readMany M_readWide M_readHigh M_nights M_why M_folds M_square M_want M_text M_read M_row M_foldSet M_foldEdges M_foldNeeds M_foldYards M_least M_ways M_price M_rowBy M_columnBy M_rowOf M_wayBack M_slack M_isUsed M_lifted M_freed M_path) [(0, .ref a_M), (1, .int x1)] 7 [] := by
  unfold bd_X11_judged_7 at h
  refine j_iload_n cx 1 rfl rfl dX11_judged_7 (pn := 8) rfl ?_
  refine j_aload_n cx 0 rfl rfl dX11_judged_8 (pn := 9) rfl ?_
  refine j_get cx inGX11 0 rfl rfl 21 (by decide) q_fl_X11_198 rfl rfl dX11_judged_9 (pn := 12) rfl ?_
  refine j_icmp_ge cx 40 dX11_judged_12 (pn := 15) rfl rfl (fun c1 => ?_) (fun c1 => ?_)
  · have h := h.1 c1
    refine j_iconst cx (v := (-1)) (by decide) dX11_judged_40 (pn := 41) rfl ?_
    exact hR (-1) M_why 41 _ dX11_judged_41 h
  · have h := h.2 c1
    refine j_aload_n cx 0 rfl rfl dX11_judged_15 (pn := 16) rfl ?_
    refine j_aload_n cx 0 rfl rfl dX11_judged_16 (pn := 17) rfl ?_
    refine j_iload_n cx 1 rfl rfl dX11_judged_17 (pn := 18) rfl ?_
    refine j_callvI0 cx q_inst_X11_wrongOf q_sel_X11_wrongOf (b := a_M) (As := [.int x1]) (rest := [.ref a_M]) (c_X11_wrongOf h) ⟨q_code_X11_wrongOf, q_ml_X11_257, q_init_X11, hd_X11_wrongOf, ⟨Nat.le_of_ble_eq_true rfl, Nat.le_of_ble_eq_true rfl⟩, Nat.le_of_ble_eq_true rfl, Nat.le_of_ble_eq_true rfl⟩ (q0 := 0) rfl rfl rfl rfl (Nat.le_of_ble_eq_true rfl) dX11_judged_18 (pn := 21) rfl (fun r2 _ h => ?_)
    show J x 0 0 2 (W_Model cyI cyJ cyZ a_M a_M_square a_M_want a_M_text a_M_read a_M_row a_M_foldSet a_M_foldEdges a_M_foldNeeds a_M_foldYards a_M_least a_M_ways a_M_price a_M_rowBy a_M_columnBy a_M_rowOf a_M_wayBack a_M_slack a_M_isUsed a_M_lifted a_M_freed a_M_path M_wide M_high M_hedges M_hurdles M_wants M_rest M_frozen M_bytes M_position M_tokenAt M_token M_digits M_number M_faultAt M_readMany M_readWide M_readHigh M_nights M_why M_folds M_square M_want M_text M_read M_row M_foldSet M_foldEdges M_foldNeeds M_foldYards M_least M_ways M_price M_rowBy M_columnBy M_rowOf M_wayBack M_slack M_isUsed M_lifted M_freed M_path) [(0, .ref a_M), (1, .int x1)] 21 [.int r2, .ref a_M]
    refine j_put cx tyX11 tyX11_ok nmX11 inGX11 0 rfl rfl 23 (by decide) q_fl_X11_254 rfl rfl rfl rfl rfl (Nat.le_of_ble_eq_true rfl) (W_Model cyI cyJ cyZ a_M a_M_square a_M_want a_M_text a_M_read a_M_row a_M_foldSet a_M_foldEdges a_M_foldNeeds a_M_foldYards a_M_least a_M_ways a_M_price a_M_rowBy a_M_columnBy a_M_rowOf a_M_wayBack a_M_slack a_M_isUsed a_M_lifted a_M_freed a_M_path M_wide M_high M_hedges M_hurdles M_wants M_rest M_frozen M_bytes M_position M_tokenAt M_token M_digits M_number M_faultAt M_readMany M_readWide M_readHigh M_nights r2 M_folds M_square M_want M_text M_read M_row M_foldSet M_foldEdges M_foldNeeds M_foldYards M_least M_ways M_price M_rowBy M_columnBy M_rowOf M_wayBack M_slack M_isUsed M_lifted M_freed M_path) rfl dX11_judged_21 (pn := 24) rfl ?_
    refine j_aload_n cx 0 rfl rfl dX11_judged_24 (pn := 25) rfl ?_
    refine j_get cx inGX11 0 rfl rfl 23 (by decide) q_fl_X11_254 rfl rfl dX11_judged_25 (pn := 28) rfl ?_
    refine j_iconst cx (v := (-1)) (by decide) dX11_judged_28 (pn := 29) rfl ?_
    refine j_icmp_eq cx 34 dX11_judged_29 (pn := 32) rfl rfl (fun c3 => ?_) (fun c3 => ?_)
    · have h := h.1 c3
      obtain ⟨y4, ey4⟩ : ∃ z : Int32, z = x1 + 1 := ⟨_, rfl⟩
      have h := h y4 ey4
      refine j_iinc cx 1 rfl (cst := 1) (by decide) ey4 [(1, .int y4), (0, .ref a_M)] (by decide) rfl dX11_judged_34 (pn := 37) rfl ?_
      refine j_goto cx 7 dX11_judged_37 rfl ?_
      refine j_sub [1, 0] [(0, .ref a_M), (1, .int y4)] rfl ?_
      exact hB7 _ _ h
    · have h := h.2 c3
      refine j_iload_n cx 1 rfl rfl dX11_judged_32 (pn := 33) rfl ?_
      exact hR x1 r2 33 _ dX11_judged_33 h
set_option maxHeartbeats 4000000 in
set_option maxRecDepth 100000 in
theorem J_X11_judged_7 {x : CX} {D : DG} {cyI cyJ cyZ : ClassId} {a_M a_M_square a_M_want a_M_text a_M_read a_M_row a_M_foldSet a_M_foldEdges a_M_foldNeeds a_M_foldYards a_M_least a_M_ways a_M_price a_M_rowBy a_M_columnBy a_M_rowOf a_M_wayBack a_M_slack a_M_isUsed a_M_lifted a_M_freed a_M_path : Nat} {M_wide : Int32} {M_high : Int32} {M_hedges : Int64} {M_hurdles : Int32} {M_wants : Int32} {M_rest : Int32} {M_frozen : Int32} {M_bytes : Int32} {M_position : Int32} {M_tokenAt : Int32} {M_token : Int64} {M_digits : Int32} {M_number : Int32} {M_faultAt : Int32} {M_readMany : Int32} {M_readWide : Int32} {M_readHigh : Int32} {M_nights : Int32} {M_why : Int32} {M_folds : Int32} {M_square : Nat → Int32} {M_want : Nat → Int32} {M_text : Nat → Int32} {M_read : Nat → Int32} {M_row : Nat → Int32} {M_foldSet : Nat → Int32} {M_foldEdges : Nat → Int64} {M_foldNeeds : Nat → Int32} {M_foldYards : Nat → Int32} {M_least : Nat → Int32} {M_ways : Nat → Int32} {M_price : Nat → Int32} {M_rowBy : Nat → Int32} {M_columnBy : Nat → Int32} {M_rowOf : Nat → Int32} {M_wayBack : Nat → Int32} {M_slack : Nat → Int32} {M_isUsed : Nat → Int32} {M_lifted : Nat → Int32} {M_freed : Nat → Int32} {M_path : Nat → Int32} {x1 : Int32} {Q : Int32 → Int32 → Prop} (cx : Cx x cX11_judged 2 RX11 rm_X11_judged D [(cyI, .int), (cyJ, .long), (cyZ, .boolean)]) (hR : ∀ (v : Int32) (u : Int32) (pc : Nat) (lv : List (Nat × Value)), decode cX11_judged pc = .ok (.ireturn, 1) → Q v u → J x 0 0 2 (W_Model cyI cyJ cyZ a_M a_M_square a_M_want a_M_text a_M_read a_M_row a_M_foldSet a_M_foldEdges a_M_foldNeeds a_M_foldYards a_M_least a_M_ways a_M_price a_M_rowBy a_M_columnBy a_M_rowOf a_M_wayBack a_M_slack a_M_isUsed a_M_lifted a_M_freed a_M_path M_wide M_high M_hedges M_hurdles M_wants M_rest M_frozen M_bytes M_position M_tokenAt M_token M_digits M_number M_faultAt M_readMany M_readWide M_readHigh M_nights u M_folds M_square M_want M_text M_read M_row M_foldSet M_foldEdges M_foldNeeds M_foldYards M_least M_ways M_price M_rowBy M_columnBy M_rowOf M_wayBack M_slack M_isUsed M_lifted M_freed M_path) lv pc [.int v]) (h : lp_X11_judged_7 Q  M_wide M_high M_hedges M_hurdles M_wants M_rest M_frozen M_nights M_square M_want M_row M_why x1) :
    J x 0 0 2 (W_Model cyI cyJ cyZ a_M a_M_square a_M_want a_M_text a_M_read a_M_row a_M_foldSet a_M_foldEdges a_M_foldNeeds a_M_foldYards a_M_least a_M_ways a_M_price a_M_rowBy a_M_columnBy a_M_rowOf a_M_wayBack a_M_slack a_M_isUsed a_M_lifted a_M_freed a_M_path M_wide M_high M_hedges M_hurdles M_wants M_rest M_frozen M_bytes M_position M_tokenAt M_token M_digits M_number M_faultAt M_readMany M_readWide M_readHigh M_nights M_why M_folds M_square M_want M_text M_read M_row M_foldSet M_foldEdges M_foldNeeds M_foldYards M_least M_ways M_price M_rowBy M_columnBy M_rowOf M_wayBack M_slack M_isUsed M_lifted M_freed M_path) [(0, .ref a_M), (1, .int x1)] 7 [] := by
  obtain ⟨I, ⟨n, h0⟩, hb⟩ := h
  revert M_why x1
  induction n using Nat.strongRecOn with
  | _ n ih =>
    intro M_why x1 h0
    exact B_X11_judged_7 cx hR (fun _ _ hz => by obtain ⟨n2, hlt, hI⟩ := hz; exact ih n2 hlt hI) (hb n M_why x1 h0)
set_option maxHeartbeats 4000000 in
set_option maxRecDepth 100000 in
theorem c_X11_judged {D : DG} {cyI cyJ cyZ : ClassId} {a_M a_M_square a_M_want a_M_text a_M_read a_M_row a_M_foldSet a_M_foldEdges a_M_foldNeeds a_M_foldYards a_M_least a_M_ways a_M_price a_M_rowBy a_M_columnBy a_M_rowOf a_M_wayBack a_M_slack a_M_isUsed a_M_lifted a_M_freed a_M_path : Nat} {M_wide : Int32} {M_high : Int32} {M_hedges : Int64} {M_hurdles : Int32} {M_wants : Int32} {M_rest : Int32} {M_frozen : Int32} {M_bytes : Int32} {M_position : Int32} {M_tokenAt : Int32} {M_token : Int64} {M_digits : Int32} {M_number : Int32} {M_faultAt : Int32} {M_readMany : Int32} {M_readWide : Int32} {M_readHigh : Int32} {M_nights : Int32} {M_why : Int32} {M_folds : Int32} {M_square : Nat → Int32} {M_want : Nat → Int32} {M_text : Nat → Int32} {M_read : Nat → Int32} {M_row : Nat → Int32} {M_foldSet : Nat → Int32} {M_foldEdges : Nat → Int64} {M_foldNeeds : Nat → Int32} {M_foldYards : Nat → Int32} {M_least : Nat → Int32} {M_ways : Nat → Int32} {M_price : Nat → Int32} {M_rowBy : Nat → Int32} {M_columnBy : Nat → Int32} {M_rowOf : Nat → Int32} {M_wayBack : Nat → Int32} {M_slack : Nat → Int32} {M_isUsed : Nat → Int32} {M_lifted : Nat → Int32} {M_freed : Nat → Int32} {M_path : Nat → Int32} {Q : Int32 → Int32 → Prop} (h : wp_X11_judged M_wide M_high M_hedges M_hurdles M_wants M_rest M_frozen M_nights M_square M_want M_row Q) :
    MetI yX11_judged cX11_judged 2 (some .int) rm_X11_judged D [(cyI, .int), (cyJ, .long), (cyZ, .boolean)] [.ref a_M] (W_Model cyI cyJ cyZ a_M a_M_square a_M_want a_M_text a_M_read a_M_row a_M_foldSet a_M_foldEdges a_M_foldNeeds a_M_foldYards a_M_least a_M_ways a_M_price a_M_rowBy a_M_columnBy a_M_rowOf a_M_wayBack a_M_slack a_M_isUsed a_M_lifted a_M_freed a_M_path M_wide M_high M_hedges M_hurdles M_wants M_rest M_frozen M_bytes M_position M_tokenAt M_token M_digits M_number M_faultAt M_readMany M_readWide M_readHigh M_nights M_why M_folds M_square M_want M_text M_read M_row M_foldSet M_foldEdges M_foldNeeds M_foldYards M_least M_ways M_price M_rowBy M_columnBy M_rowOf M_wayBack M_slack M_isUsed M_lifted M_freed M_path) (fun u : Int32 => (W_Model cyI cyJ cyZ a_M a_M_square a_M_want a_M_text a_M_read a_M_row a_M_foldSet a_M_foldEdges a_M_foldNeeds a_M_foldYards a_M_least a_M_ways a_M_price a_M_rowBy a_M_columnBy a_M_rowOf a_M_wayBack a_M_slack a_M_isUsed a_M_lifted a_M_freed a_M_path M_wide M_high M_hedges M_hurdles M_wants M_rest M_frozen M_bytes M_position M_tokenAt M_token M_digits M_number M_faultAt M_readMany M_readWide M_readHigh M_nights u M_folds M_square M_want M_text M_read M_row M_foldSet M_foldEdges M_foldNeeds M_foldYards M_least M_ways M_price M_rowBy M_columnBy M_rowOf M_wayBack M_slack M_isUsed M_lifted M_freed M_path)) (fun v u => Q v u) := by
  unfold wp_X11_judged at h
  refine metI_of (by decide) (Nat.le_of_ble_eq_true rfl) (fun x cx0 hR0 => ?_)
  have cx : Cx x cX11_judged 2 RX11 rm_X11_judged D [(cyI, .int), (cyJ, .long), (cyZ, .boolean)] := cx0
  have hR : ∀ (v : Int32) (u : Int32) (pc : Nat) (lv : List (Nat × Value)), decode cX11_judged pc = .ok (.ireturn, 1) → Q v u → J x 0 0 2 (W_Model cyI cyJ cyZ a_M a_M_square a_M_want a_M_text a_M_read a_M_row a_M_foldSet a_M_foldEdges a_M_foldNeeds a_M_foldYards a_M_least a_M_ways a_M_price a_M_rowBy a_M_columnBy a_M_rowOf a_M_wayBack a_M_slack a_M_isUsed a_M_lifted a_M_freed a_M_path M_wide M_high M_hedges M_hurdles M_wants M_rest M_frozen M_bytes M_position M_tokenAt M_token M_digits M_number M_faultAt M_readMany M_readWide M_readHigh M_nights u M_folds M_square M_want M_text M_read M_row M_foldSet M_foldEdges M_foldNeeds M_foldYards M_least M_ways M_price M_rowBy M_columnBy M_rowOf M_wayBack M_slack M_isUsed M_lifted M_freed M_path) lv pc [.int v] := (fun v u pc lv d hq => hR0 v u pc lv d hq)
  show J x 0 0 2 (W_Model cyI cyJ cyZ a_M a_M_square a_M_want a_M_text a_M_read a_M_row a_M_foldSet a_M_foldEdges a_M_foldNeeds a_M_foldYards a_M_least a_M_ways a_M_price a_M_rowBy a_M_columnBy a_M_rowOf a_M_wayBack a_M_slack a_M_isUsed a_M_lifted a_M_freed a_M_path M_wide M_high M_hedges M_hurdles M_wants M_rest M_frozen M_bytes M_position M_tokenAt M_token M_digits M_number M_faultAt M_readMany M_readWide M_readHigh M_nights M_why M_folds M_square M_want M_text M_read M_row M_foldSet M_foldEdges M_foldNeeds M_foldYards M_least M_ways M_price M_rowBy M_columnBy M_rowOf M_wayBack M_slack M_isUsed M_lifted M_freed M_path) [(0, .ref a_M)] 0 []
  refine j_aload_n cx 0 rfl rfl dX11_judged_0 (pn := 1) rfl ?_
  refine j_iconst cx (v := (-1)) (by decide) dX11_judged_1 (pn := 2) rfl ?_
  refine j_put cx tyX11 tyX11_ok nmX11 inGX11 0 rfl rfl 23 (by decide) q_fl_X11_254 rfl rfl rfl rfl rfl (Nat.le_of_ble_eq_true rfl) (W_Model cyI cyJ cyZ a_M a_M_square a_M_want a_M_text a_M_read a_M_row a_M_foldSet a_M_foldEdges a_M_foldNeeds a_M_foldYards a_M_least a_M_ways a_M_price a_M_rowBy a_M_columnBy a_M_rowOf a_M_wayBack a_M_slack a_M_isUsed a_M_lifted a_M_freed a_M_path M_wide M_high M_hedges M_hurdles M_wants M_rest M_frozen M_bytes M_position M_tokenAt M_token M_digits M_number M_faultAt M_readMany M_readWide M_readHigh M_nights (-1) M_folds M_square M_want M_text M_read M_row M_foldSet M_foldEdges M_foldNeeds M_foldYards M_least M_ways M_price M_rowBy M_columnBy M_rowOf M_wayBack M_slack M_isUsed M_lifted M_freed M_path) rfl dX11_judged_2 (pn := 5) rfl ?_
  refine j_iconst cx (v := 0) (by decide) dX11_judged_5 (pn := 6) rfl ?_
  refine j_istore_n cx rfl [(1, .int 0), (0, .ref a_M)] (by decide) rfl dX11_judged_6 (pn := 7) rfl ?_
  refine j_sub [1, 0] [(0, .ref a_M), (1, .int 0)] rfl ?_
  exact J_X11_judged_7 cx hR h
theorem dX11_judge_0 : decode cX11_judge 0 = .ok (.aload_n 0, 1) := by decide +kernel
theorem dX11_judge_1 : decode cX11_judge 1 = .ok (.invokevirtual 260, 3) := by decide +kernel
theorem dX11_judge_4 : decode cX11_judge 4 = .ok (.ireturn, 1) := by decide +kernel
abbrev rm_X11_judge : Room := { frames := 6, cells := 0, slots := 0, locals := 137 }
theorem hd_X11_judge : yX11_judge.cls ≠ "java/lang/invoke/MethodHandle" ∧ yX11_judge.cls ≠ "java/lang/invoke/VarHandle" ∧ (parseMethodDescriptor yX11_judge.desc).map (fun d => d.parameters.length) = some 0 := by decide +kernel
def wp_X11_judge (M_wide : Int32) (M_high : Int32) (M_hedges : Int64) (M_hurdles : Int32) (M_wants : Int32) (M_rest : Int32) (M_frozen : Int32) (M_nights : Int32) (M_square : Nat → Int32) (M_want : Nat → Int32) (M_row : Nat → Int32) (Q : Int32 → Int32 → Prop) : Prop :=
wp_X11_judged M_wide M_high M_hedges M_hurdles M_wants M_rest M_frozen M_nights M_square M_want M_row (fun (r1 : Int32) (u2 : Int32) => Q r1 u2)
set_option maxHeartbeats 4000000 in
set_option maxRecDepth 100000 in
theorem c_X11_judge {D : DG} {cyI cyJ cyZ : ClassId} {a_M a_M_square a_M_want a_M_text a_M_read a_M_row a_M_foldSet a_M_foldEdges a_M_foldNeeds a_M_foldYards a_M_least a_M_ways a_M_price a_M_rowBy a_M_columnBy a_M_rowOf a_M_wayBack a_M_slack a_M_isUsed a_M_lifted a_M_freed a_M_path : Nat} {M_wide : Int32} {M_high : Int32} {M_hedges : Int64} {M_hurdles : Int32} {M_wants : Int32} {M_rest : Int32} {M_frozen : Int32} {M_bytes : Int32} {M_position : Int32} {M_tokenAt : Int32} {M_token : Int64} {M_digits : Int32} {M_number : Int32} {M_faultAt : Int32} {M_readMany : Int32} {M_readWide : Int32} {M_readHigh : Int32} {M_nights : Int32} {M_why : Int32} {M_folds : Int32} {M_square : Nat → Int32} {M_want : Nat → Int32} {M_text : Nat → Int32} {M_read : Nat → Int32} {M_row : Nat → Int32} {M_foldSet : Nat → Int32} {M_foldEdges : Nat → Int64} {M_foldNeeds : Nat → Int32} {M_foldYards : Nat → Int32} {M_least : Nat → Int32} {M_ways : Nat → Int32} {M_price : Nat → Int32} {M_rowBy : Nat → Int32} {M_columnBy : Nat → Int32} {M_rowOf : Nat → Int32} {M_wayBack : Nat → Int32} {M_slack : Nat → Int32} {M_isUsed : Nat → Int32} {M_lifted : Nat → Int32} {M_freed : Nat → Int32} {M_path : Nat → Int32} {Q : Int32 → Int32 → Prop} (h : wp_X11_judge M_wide M_high M_hedges M_hurdles M_wants M_rest M_frozen M_nights M_square M_want M_row Q) :
    MetI yX11_judge cX11_judge 1 (some .int) rm_X11_judge D [(cyI, .int), (cyJ, .long), (cyZ, .boolean)] [.ref a_M] (W_Model cyI cyJ cyZ a_M a_M_square a_M_want a_M_text a_M_read a_M_row a_M_foldSet a_M_foldEdges a_M_foldNeeds a_M_foldYards a_M_least a_M_ways a_M_price a_M_rowBy a_M_columnBy a_M_rowOf a_M_wayBack a_M_slack a_M_isUsed a_M_lifted a_M_freed a_M_path M_wide M_high M_hedges M_hurdles M_wants M_rest M_frozen M_bytes M_position M_tokenAt M_token M_digits M_number M_faultAt M_readMany M_readWide M_readHigh M_nights M_why M_folds M_square M_want M_text M_read M_row M_foldSet M_foldEdges M_foldNeeds M_foldYards M_least M_ways M_price M_rowBy M_columnBy M_rowOf M_wayBack M_slack M_isUsed M_lifted M_freed M_path) (fun u : Int32 => (W_Model cyI cyJ cyZ a_M a_M_square a_M_want a_M_text a_M_read a_M_row a_M_foldSet a_M_foldEdges a_M_foldNeeds a_M_foldYards a_M_least a_M_ways a_M_price a_M_rowBy a_M_columnBy a_M_rowOf a_M_wayBack a_M_slack a_M_isUsed a_M_lifted a_M_freed a_M_path M_wide M_high M_hedges M_hurdles M_wants M_rest M_frozen M_bytes M_position M_tokenAt M_token M_digits M_number M_faultAt M_readMany M_readWide M_readHigh M_nights u M_folds M_square M_want M_text M_read M_row M_foldSet M_foldEdges M_foldNeeds M_foldYards M_least M_ways M_price M_rowBy M_columnBy M_rowOf M_wayBack M_slack M_isUsed M_lifted M_freed M_path)) (fun v u => Q v u) := by
  unfold wp_X11_judge at h
  refine metI_of (by decide) (Nat.le_of_ble_eq_true rfl) (fun x cx0 hR0 => ?_)
  have cx : Cx x cX11_judge 1 RX11 rm_X11_judge D [(cyI, .int), (cyJ, .long), (cyZ, .boolean)] := cx0
  have hR : ∀ (v : Int32) (u : Int32) (pc : Nat) (lv : List (Nat × Value)), decode cX11_judge pc = .ok (.ireturn, 1) → Q v u → J x 0 0 1 (W_Model cyI cyJ cyZ a_M a_M_square a_M_want a_M_text a_M_read a_M_row a_M_foldSet a_M_foldEdges a_M_foldNeeds a_M_foldYards a_M_least a_M_ways a_M_price a_M_rowBy a_M_columnBy a_M_rowOf a_M_wayBack a_M_slack a_M_isUsed a_M_lifted a_M_freed a_M_path M_wide M_high M_hedges M_hurdles M_wants M_rest M_frozen M_bytes M_position M_tokenAt M_token M_digits M_number M_faultAt M_readMany M_readWide M_readHigh M_nights u M_folds M_square M_want M_text M_read M_row M_foldSet M_foldEdges M_foldNeeds M_foldYards M_least M_ways M_price M_rowBy M_columnBy M_rowOf M_wayBack M_slack M_isUsed M_lifted M_freed M_path) lv pc [.int v] := (fun v u pc lv d hq => hR0 v u pc lv d hq)
  show J x 0 0 1 (W_Model cyI cyJ cyZ a_M a_M_square a_M_want a_M_text a_M_read a_M_row a_M_foldSet a_M_foldEdges a_M_foldNeeds a_M_foldYards a_M_least a_M_ways a_M_price a_M_rowBy a_M_columnBy a_M_rowOf a_M_wayBack a_M_slack a_M_isUsed a_M_lifted a_M_freed a_M_path M_wide M_high M_hedges M_hurdles M_wants M_rest M_frozen M_bytes M_position M_tokenAt M_token M_digits M_number M_faultAt M_readMany M_readWide M_readHigh M_nights M_why M_folds M_square M_want M_text M_read M_row M_foldSet M_foldEdges M_foldNeeds M_foldYards M_least M_ways M_price M_rowBy M_columnBy M_rowOf M_wayBack M_slack M_isUsed M_lifted M_freed M_path) [(0, .ref a_M)] 0 []
  refine j_aload_n cx 0 rfl rfl dX11_judge_0 (pn := 1) rfl ?_
  refine j_callvI0 cx q_inst_X11_judged q_sel_X11_judged (b := a_M) (As := []) (rest := []) (c_X11_judged h) ⟨q_code_X11_judged, q_ml_X11_260, q_init_X11, hd_X11_judged, ⟨Nat.le_of_ble_eq_true rfl, Nat.le_of_ble_eq_true rfl⟩, Nat.le_of_ble_eq_true rfl, Nat.le_of_ble_eq_true rfl⟩ (q0 := 0) rfl rfl rfl rfl (Nat.le_of_ble_eq_true rfl) dX11_judge_1 (pn := 4) rfl (fun r1 u2 h => ?_)
  show J x 0 0 1 (W_Model cyI cyJ cyZ a_M a_M_square a_M_want a_M_text a_M_read a_M_row a_M_foldSet a_M_foldEdges a_M_foldNeeds a_M_foldYards a_M_least a_M_ways a_M_price a_M_rowBy a_M_columnBy a_M_rowOf a_M_wayBack a_M_slack a_M_isUsed a_M_lifted a_M_freed a_M_path M_wide M_high M_hedges M_hurdles M_wants M_rest M_frozen M_bytes M_position M_tokenAt M_token M_digits M_number M_faultAt M_readMany M_readWide M_readHigh M_nights u2 M_folds M_square M_want M_text M_read M_row M_foldSet M_foldEdges M_foldNeeds M_foldYards M_least M_ways M_price M_rowBy M_columnBy M_rowOf M_wayBack M_slack M_isUsed M_lifted M_freed M_path) [(0, .ref a_M)] 4 [.int r1]
  exact hR r1 u2 4 _ dX11_judge_4 h
theorem dX11_why_0 : decode cX11_why 0 = .ok (.aload_n 0, 1) := by decide +kernel
theorem dX11_why_1 : decode cX11_why 1 = .ok (.invokevirtual 260, 3) := by decide +kernel
theorem dX11_why_4 : decode cX11_why 4 = .ok (.istore_n 1, 1) := by decide +kernel
theorem dX11_why_5 : decode cX11_why 5 = .ok (.iload_n 1, 1) := by decide +kernel
theorem dX11_why_6 : decode cX11_why 6 = .ok (.iconst (-1), 1) := by decide +kernel
theorem dX11_why_7 : decode cX11_why 7 = .ok (.if_icmp .ne 7, 3) := by decide +kernel
theorem dX11_why_10 : decode cX11_why 10 = .ok (.iconst (-1), 1) := by decide +kernel
theorem dX11_why_11 : decode cX11_why 11 = .ok (.goto 7, 3) := by decide +kernel
theorem dX11_why_14 : decode cX11_why 14 = .ok (.aload_n 0, 1) := by decide +kernel
theorem dX11_why_15 : decode cX11_why 15 = .ok (.getfield 254, 3) := by decide +kernel
theorem dX11_why_18 : decode cX11_why 18 = .ok (.ireturn, 1) := by decide +kernel
abbrev rm_X11_why : Room := { frames := 6, cells := 0, slots := 0, locals := 137 }
theorem hd_X11_why : yX11_why.cls ≠ "java/lang/invoke/MethodHandle" ∧ yX11_why.cls ≠ "java/lang/invoke/VarHandle" ∧ (parseMethodDescriptor yX11_why.desc).map (fun d => d.parameters.length) = some 0 := by decide +kernel
def wp_X11_why (M_wide : Int32) (M_high : Int32) (M_hedges : Int64) (M_hurdles : Int32) (M_wants : Int32) (M_rest : Int32) (M_frozen : Int32) (M_nights : Int32) (M_square : Nat → Int32) (M_want : Nat → Int32) (M_row : Nat → Int32) (Q : Int32 → Int32 → Prop) : Prop :=
wp_X11_judged M_wide M_high M_hedges M_hurdles M_wants M_rest M_frozen M_nights M_square M_want M_row (fun (r1 : Int32) (u2 : Int32) => ((¬ r1 = (-1) → Q u2 u2) ∧
(r1 = (-1) → Q (-1) u2)))
set_option maxHeartbeats 4000000 in
set_option maxRecDepth 100000 in
theorem c_X11_why {D : DG} {cyI cyJ cyZ : ClassId} {a_M a_M_square a_M_want a_M_text a_M_read a_M_row a_M_foldSet a_M_foldEdges a_M_foldNeeds a_M_foldYards a_M_least a_M_ways a_M_price a_M_rowBy a_M_columnBy a_M_rowOf a_M_wayBack a_M_slack a_M_isUsed a_M_lifted a_M_freed a_M_path : Nat} {M_wide : Int32} {M_high : Int32} {M_hedges : Int64} {M_hurdles : Int32} {M_wants : Int32} {M_rest : Int32} {M_frozen : Int32} {M_bytes : Int32} {M_position : Int32} {M_tokenAt : Int32} {M_token : Int64} {M_digits : Int32} {M_number : Int32} {M_faultAt : Int32} {M_readMany : Int32} {M_readWide : Int32} {M_readHigh : Int32} {M_nights : Int32} {M_why : Int32} {M_folds : Int32} {M_square : Nat → Int32} {M_want : Nat → Int32} {M_text : Nat → Int32} {M_read : Nat → Int32} {M_row : Nat → Int32} {M_foldSet : Nat → Int32} {M_foldEdges : Nat → Int64} {M_foldNeeds : Nat → Int32} {M_foldYards : Nat → Int32} {M_least : Nat → Int32} {M_ways : Nat → Int32} {M_price : Nat → Int32} {M_rowBy : Nat → Int32} {M_columnBy : Nat → Int32} {M_rowOf : Nat → Int32} {M_wayBack : Nat → Int32} {M_slack : Nat → Int32} {M_isUsed : Nat → Int32} {M_lifted : Nat → Int32} {M_freed : Nat → Int32} {M_path : Nat → Int32} {Q : Int32 → Int32 → Prop} (h : wp_X11_why M_wide M_high M_hedges M_hurdles M_wants M_rest M_frozen M_nights M_square M_want M_row Q) :
    MetI yX11_why cX11_why 2 (some .int) rm_X11_why D [(cyI, .int), (cyJ, .long), (cyZ, .boolean)] [.ref a_M] (W_Model cyI cyJ cyZ a_M a_M_square a_M_want a_M_text a_M_read a_M_row a_M_foldSet a_M_foldEdges a_M_foldNeeds a_M_foldYards a_M_least a_M_ways a_M_price a_M_rowBy a_M_columnBy a_M_rowOf a_M_wayBack a_M_slack a_M_isUsed a_M_lifted a_M_freed a_M_path M_wide M_high M_hedges M_hurdles M_wants M_rest M_frozen M_bytes M_position M_tokenAt M_token M_digits M_number M_faultAt M_readMany M_readWide M_readHigh M_nights M_why M_folds M_square M_want M_text M_read M_row M_foldSet M_foldEdges M_foldNeeds M_foldYards M_least M_ways M_price M_rowBy M_columnBy M_rowOf M_wayBack M_slack M_isUsed M_lifted M_freed M_path) (fun u : Int32 => (W_Model cyI cyJ cyZ a_M a_M_square a_M_want a_M_text a_M_read a_M_row a_M_foldSet a_M_foldEdges a_M_foldNeeds a_M_foldYards a_M_least a_M_ways a_M_price a_M_rowBy a_M_columnBy a_M_rowOf a_M_wayBack a_M_slack a_M_isUsed a_M_lifted a_M_freed a_M_path M_wide M_high M_hedges M_hurdles M_wants M_rest M_frozen M_bytes M_position M_tokenAt M_token M_digits M_number M_faultAt M_readMany M_readWide M_readHigh M_nights u M_folds M_square M_want M_text M_read M_row M_foldSet M_foldEdges M_foldNeeds M_foldYards M_least M_ways M_price M_rowBy M_columnBy M_rowOf M_wayBack M_slack M_isUsed M_lifted M_freed M_path)) (fun v u => Q v u) := by
  unfold wp_X11_why at h
  refine metI_of (by decide) (Nat.le_of_ble_eq_true rfl) (fun x cx0 hR0 => ?_)
  have cx : Cx x cX11_why 2 RX11 rm_X11_why D [(cyI, .int), (cyJ, .long), (cyZ, .boolean)] := cx0
  have hR : ∀ (v : Int32) (u : Int32) (pc : Nat) (lv : List (Nat × Value)), decode cX11_why pc = .ok (.ireturn, 1) → Q v u → J x 0 0 2 (W_Model cyI cyJ cyZ a_M a_M_square a_M_want a_M_text a_M_read a_M_row a_M_foldSet a_M_foldEdges a_M_foldNeeds a_M_foldYards a_M_least a_M_ways a_M_price a_M_rowBy a_M_columnBy a_M_rowOf a_M_wayBack a_M_slack a_M_isUsed a_M_lifted a_M_freed a_M_path M_wide M_high M_hedges M_hurdles M_wants M_rest M_frozen M_bytes M_position M_tokenAt M_token M_digits M_number M_faultAt M_readMany M_readWide M_readHigh M_nights u M_folds M_square M_want M_text M_read M_row M_foldSet M_foldEdges M_foldNeeds M_foldYards M_least M_ways M_price M_rowBy M_columnBy M_rowOf M_wayBack M_slack M_isUsed M_lifted M_freed M_path) lv pc [.int v] := (fun v u pc lv d hq => hR0 v u pc lv d hq)
  show J x 0 0 2 (W_Model cyI cyJ cyZ a_M a_M_square a_M_want a_M_text a_M_read a_M_row a_M_foldSet a_M_foldEdges a_M_foldNeeds a_M_foldYards a_M_least a_M_ways a_M_price a_M_rowBy a_M_columnBy a_M_rowOf a_M_wayBack a_M_slack a_M_isUsed a_M_lifted a_M_freed a_M_path M_wide M_high M_hedges M_hurdles M_wants M_rest M_frozen M_bytes M_position M_tokenAt M_token M_digits M_number M_faultAt M_readMany M_readWide M_readHigh M_nights M_why M_folds M_square M_want M_text M_read M_row M_foldSet M_foldEdges M_foldNeeds M_foldYards M_least M_ways M_price M_rowBy M_columnBy M_rowOf M_wayBack M_slack M_isUsed M_lifted M_freed M_path) [(0, .ref a_M)] 0 []
  refine j_aload_n cx 0 rfl rfl dX11_why_0 (pn := 1) rfl ?_
  refine j_callvI0 cx q_inst_X11_judged q_sel_X11_judged (b := a_M) (As := []) (rest := []) (c_X11_judged h) ⟨q_code_X11_judged, q_ml_X11_260, q_init_X11, hd_X11_judged, ⟨Nat.le_of_ble_eq_true rfl, Nat.le_of_ble_eq_true rfl⟩, Nat.le_of_ble_eq_true rfl, Nat.le_of_ble_eq_true rfl⟩ (q0 := 0) rfl rfl rfl rfl (Nat.le_of_ble_eq_true rfl) dX11_why_1 (pn := 4) rfl (fun r1 u2 h => ?_)
  show J x 0 0 2 (W_Model cyI cyJ cyZ a_M a_M_square a_M_want a_M_text a_M_read a_M_row a_M_foldSet a_M_foldEdges a_M_foldNeeds a_M_foldYards a_M_least a_M_ways a_M_price a_M_rowBy a_M_columnBy a_M_rowOf a_M_wayBack a_M_slack a_M_isUsed a_M_lifted a_M_freed a_M_path M_wide M_high M_hedges M_hurdles M_wants M_rest M_frozen M_bytes M_position M_tokenAt M_token M_digits M_number M_faultAt M_readMany M_readWide M_readHigh M_nights u2 M_folds M_square M_want M_text M_read M_row M_foldSet M_foldEdges M_foldNeeds M_foldYards M_least M_ways M_price M_rowBy M_columnBy M_rowOf M_wayBack M_slack M_isUsed M_lifted M_freed M_path) [(0, .ref a_M)] 4 [.int r1]
  refine j_istore_n cx rfl [(1, .int r1), (0, .ref a_M)] (by decide) rfl dX11_why_4 (pn := 5) rfl ?_
  refine j_iload_n cx 0 rfl rfl dX11_why_5 (pn := 6) rfl ?_
  refine j_iconst cx (v := (-1)) (by decide) dX11_why_6 (pn := 7) rfl ?_
  refine j_icmp_ne cx 14 dX11_why_7 (pn := 10) rfl rfl (fun c3 => ?_) (fun c3 => ?_)
  · have h := h.1 c3
    refine j_aload_n cx 1 rfl rfl dX11_why_14 (pn := 15) rfl ?_
    refine j_get cx inGX11 0 rfl rfl 23 (by decide) q_fl_X11_254 rfl rfl dX11_why_15 (pn := 18) rfl ?_
    exact hR u2 u2 18 _ dX11_why_18 h
  · have h := h.2 c3
    refine j_iconst cx (v := (-1)) (by decide) dX11_why_10 (pn := 11) rfl ?_
    refine j_goto cx 18 dX11_why_11 rfl ?_
    exact hR (-1) u2 18 _ dX11_why_18 h
theorem dX11_edgeX_0 : decode cX11_edgeX 0 = .ok (.aload_n 0, 1) := by decide +kernel
theorem dX11_edgeX_1 : decode cX11_edgeX 1 = .ok (.getfield 7, 3) := by decide +kernel
theorem dX11_edgeX_4 : decode cX11_edgeX 4 = .ok (.iconst 1, 1) := by decide +kernel
theorem dX11_edgeX_5 : decode cX11_edgeX 5 = .ok (.iadd, 1) := by decide +kernel
theorem dX11_edgeX_6 : decode cX11_edgeX 6 = .ok (.aload_n 0, 1) := by decide +kernel
theorem dX11_edgeX_7 : decode cX11_edgeX 7 = .ok (.getfield 13, 3) := by decide +kernel
theorem dX11_edgeX_10 : decode cX11_edgeX 10 = .ok (.imul, 1) := by decide +kernel
theorem dX11_edgeX_11 : decode cX11_edgeX 11 = .ok (.istore_n 2, 1) := by decide +kernel
theorem dX11_edgeX_12 : decode cX11_edgeX 12 = .ok (.iload_n 1, 1) := by decide +kernel
theorem dX11_edgeX_13 : decode cX11_edgeX 13 = .ok (.iload_n 2, 1) := by decide +kernel
theorem dX11_edgeX_14 : decode cX11_edgeX 14 = .ok (.if_icmp .ge 16, 3) := by decide +kernel
theorem dX11_edgeX_17 : decode cX11_edgeX 17 = .ok (.iconst 2, 1) := by decide +kernel
theorem dX11_edgeX_18 : decode cX11_edgeX 18 = .ok (.iload_n 1, 1) := by decide +kernel
theorem dX11_edgeX_19 : decode cX11_edgeX 19 = .ok (.aload_n 0, 1) := by decide +kernel
theorem dX11_edgeX_20 : decode cX11_edgeX 20 = .ok (.getfield 7, 3) := by decide +kernel
theorem dX11_edgeX_23 : decode cX11_edgeX 23 = .ok (.iconst 1, 1) := by decide +kernel
theorem dX11_edgeX_24 : decode cX11_edgeX 24 = .ok (.iadd, 1) := by decide +kernel
theorem dX11_edgeX_25 : decode cX11_edgeX 25 = .ok (.irem, 1) := by decide +kernel
theorem dX11_edgeX_26 : decode cX11_edgeX 26 = .ok (.imul, 1) := by decide +kernel
theorem dX11_edgeX_27 : decode cX11_edgeX 27 = .ok (.goto 15, 3) := by decide +kernel
theorem dX11_edgeX_30 : decode cX11_edgeX 30 = .ok (.iconst 2, 1) := by decide +kernel
theorem dX11_edgeX_31 : decode cX11_edgeX 31 = .ok (.iload_n 1, 1) := by decide +kernel
theorem dX11_edgeX_32 : decode cX11_edgeX 32 = .ok (.iload_n 2, 1) := by decide +kernel
theorem dX11_edgeX_33 : decode cX11_edgeX 33 = .ok (.isub, 1) := by decide +kernel
theorem dX11_edgeX_34 : decode cX11_edgeX 34 = .ok (.aload_n 0, 1) := by decide +kernel
theorem dX11_edgeX_35 : decode cX11_edgeX 35 = .ok (.getfield 7, 3) := by decide +kernel
theorem dX11_edgeX_38 : decode cX11_edgeX 38 = .ok (.irem, 1) := by decide +kernel
theorem dX11_edgeX_39 : decode cX11_edgeX 39 = .ok (.imul, 1) := by decide +kernel
theorem dX11_edgeX_40 : decode cX11_edgeX 40 = .ok (.iconst 1, 1) := by decide +kernel
theorem dX11_edgeX_41 : decode cX11_edgeX 41 = .ok (.iadd, 1) := by decide +kernel
theorem dX11_edgeX_42 : decode cX11_edgeX 42 = .ok (.ireturn, 1) := by decide +kernel
abbrev rm_X11_edgeX : Room := { frames := 0, cells := 0, slots := 0, locals := 0 }
theorem hd_X11_edgeX : yX11_edgeX.cls ≠ "java/lang/invoke/MethodHandle" ∧ yX11_edgeX.cls ≠ "java/lang/invoke/VarHandle" ∧ (parseMethodDescriptor yX11_edgeX.desc).map (fun d => d.parameters.length) = some 1 := by decide +kernel
def wp_X11_edgeX (p1 : Int32) (M_wide : Int32) (M_high : Int32) (Q : Int32 → Prop) : Prop :=
∀ y1 : Int32, y1 = ((M_wide + 1) * M_high) →
((y1 ≤ p1 → ¬ M_wide = 0 ∧ Q ((2 * ((p1 - y1) - (p1 - y1) / M_wide * M_wide)) + 1)) ∧
(¬ y1 ≤ p1 → ¬ (M_wide + 1) = 0 ∧ Q (2 * (p1 - p1 / (M_wide + 1) * (M_wide + 1)))))
set_option maxHeartbeats 4000000 in
set_option maxRecDepth 100000 in
theorem c_X11_edgeX {D : DG} {cyI cyJ cyZ : ClassId} {a_M a_M_square a_M_want a_M_text a_M_read a_M_row a_M_foldSet a_M_foldEdges a_M_foldNeeds a_M_foldYards a_M_least a_M_ways a_M_price a_M_rowBy a_M_columnBy a_M_rowOf a_M_wayBack a_M_slack a_M_isUsed a_M_lifted a_M_freed a_M_path : Nat} {M_wide : Int32} {M_high : Int32} {M_hedges : Int64} {M_hurdles : Int32} {M_wants : Int32} {M_rest : Int32} {M_frozen : Int32} {M_bytes : Int32} {M_position : Int32} {M_tokenAt : Int32} {M_token : Int64} {M_digits : Int32} {M_number : Int32} {M_faultAt : Int32} {M_readMany : Int32} {M_readWide : Int32} {M_readHigh : Int32} {M_nights : Int32} {M_why : Int32} {M_folds : Int32} {M_square : Nat → Int32} {M_want : Nat → Int32} {M_text : Nat → Int32} {M_read : Nat → Int32} {M_row : Nat → Int32} {M_foldSet : Nat → Int32} {M_foldEdges : Nat → Int64} {M_foldNeeds : Nat → Int32} {M_foldYards : Nat → Int32} {M_least : Nat → Int32} {M_ways : Nat → Int32} {M_price : Nat → Int32} {M_rowBy : Nat → Int32} {M_columnBy : Nat → Int32} {M_rowOf : Nat → Int32} {M_wayBack : Nat → Int32} {M_slack : Nat → Int32} {M_isUsed : Nat → Int32} {M_lifted : Nat → Int32} {M_freed : Nat → Int32} {M_path : Nat → Int32} {p1 : Int32} {Q : Int32 → Prop} (h : wp_X11_edgeX p1 M_wide M_high Q) :
    MetI yX11_edgeX cX11_edgeX 3 (some .int) rm_X11_edgeX D [(cyI, .int), (cyJ, .long), (cyZ, .boolean)] [.ref a_M, .int p1] (W_Model cyI cyJ cyZ a_M a_M_square a_M_want a_M_text a_M_read a_M_row a_M_foldSet a_M_foldEdges a_M_foldNeeds a_M_foldYards a_M_least a_M_ways a_M_price a_M_rowBy a_M_columnBy a_M_rowOf a_M_wayBack a_M_slack a_M_isUsed a_M_lifted a_M_freed a_M_path M_wide M_high M_hedges M_hurdles M_wants M_rest M_frozen M_bytes M_position M_tokenAt M_token M_digits M_number M_faultAt M_readMany M_readWide M_readHigh M_nights M_why M_folds M_square M_want M_text M_read M_row M_foldSet M_foldEdges M_foldNeeds M_foldYards M_least M_ways M_price M_rowBy M_columnBy M_rowOf M_wayBack M_slack M_isUsed M_lifted M_freed M_path) (fun _ : Unit => (W_Model cyI cyJ cyZ a_M a_M_square a_M_want a_M_text a_M_read a_M_row a_M_foldSet a_M_foldEdges a_M_foldNeeds a_M_foldYards a_M_least a_M_ways a_M_price a_M_rowBy a_M_columnBy a_M_rowOf a_M_wayBack a_M_slack a_M_isUsed a_M_lifted a_M_freed a_M_path M_wide M_high M_hedges M_hurdles M_wants M_rest M_frozen M_bytes M_position M_tokenAt M_token M_digits M_number M_faultAt M_readMany M_readWide M_readHigh M_nights M_why M_folds M_square M_want M_text M_read M_row M_foldSet M_foldEdges M_foldNeeds M_foldYards M_least M_ways M_price M_rowBy M_columnBy M_rowOf M_wayBack M_slack M_isUsed M_lifted M_freed M_path)) (fun v _ => Q v ) := by
  unfold wp_X11_edgeX at h
  refine metI_of (by decide) (Nat.le_of_ble_eq_true rfl) (fun x cx0 hR0 => ?_)
  have cx : Cx x cX11_edgeX 3 RX11 rm_X11_edgeX D [(cyI, .int), (cyJ, .long), (cyZ, .boolean)] := cx0
  have hR : ∀ (v : Int32) (pc : Nat) (lv : List (Nat × Value)), decode cX11_edgeX pc = .ok (.ireturn, 1) → Q v → J x 0 0 3 (W_Model cyI cyJ cyZ a_M a_M_square a_M_want a_M_text a_M_read a_M_row a_M_foldSet a_M_foldEdges a_M_foldNeeds a_M_foldYards a_M_least a_M_ways a_M_price a_M_rowBy a_M_columnBy a_M_rowOf a_M_wayBack a_M_slack a_M_isUsed a_M_lifted a_M_freed a_M_path M_wide M_high M_hedges M_hurdles M_wants M_rest M_frozen M_bytes M_position M_tokenAt M_token M_digits M_number M_faultAt M_readMany M_readWide M_readHigh M_nights M_why M_folds M_square M_want M_text M_read M_row M_foldSet M_foldEdges M_foldNeeds M_foldYards M_least M_ways M_price M_rowBy M_columnBy M_rowOf M_wayBack M_slack M_isUsed M_lifted M_freed M_path) lv pc [.int v] := (fun v pc lv d hq => hR0 v () pc lv d hq)
  show J x 0 0 3 (W_Model cyI cyJ cyZ a_M a_M_square a_M_want a_M_text a_M_read a_M_row a_M_foldSet a_M_foldEdges a_M_foldNeeds a_M_foldYards a_M_least a_M_ways a_M_price a_M_rowBy a_M_columnBy a_M_rowOf a_M_wayBack a_M_slack a_M_isUsed a_M_lifted a_M_freed a_M_path M_wide M_high M_hedges M_hurdles M_wants M_rest M_frozen M_bytes M_position M_tokenAt M_token M_digits M_number M_faultAt M_readMany M_readWide M_readHigh M_nights M_why M_folds M_square M_want M_text M_read M_row M_foldSet M_foldEdges M_foldNeeds M_foldYards M_least M_ways M_price M_rowBy M_columnBy M_rowOf M_wayBack M_slack M_isUsed M_lifted M_freed M_path) [(0, .ref a_M), (1, .int p1)] 0 []
  refine j_aload_n cx 0 rfl rfl dX11_edgeX_0 (pn := 1) rfl ?_
  refine j_get cx inGX11 0 rfl rfl 0 (by decide) q_fl_X11_7 rfl rfl dX11_edgeX_1 (pn := 4) rfl ?_
  refine j_iconst cx (v := 1) (by decide) dX11_edgeX_4 (pn := 5) rfl ?_
  refine j_iadd cx dX11_edgeX_5 (pn := 6) rfl ?_
  refine j_aload_n cx 0 rfl rfl dX11_edgeX_6 (pn := 7) rfl ?_
  refine j_get cx inGX11 0 rfl rfl 1 (by decide) q_fl_X11_13 rfl rfl dX11_edgeX_7 (pn := 10) rfl ?_
  refine j_imul cx dX11_edgeX_10 (pn := 11) rfl ?_
  refine j_topi (fun y1 ey1 => ?_)
  have h := h y1 ey1
  refine j_istore_n cx rfl [(2, .int y1), (0, .ref a_M), (1, .int p1)] (by decide) rfl dX11_edgeX_11 (pn := 12) rfl ?_
  refine j_iload_n cx 2 rfl rfl dX11_edgeX_12 (pn := 13) rfl ?_
  refine j_iload_n cx 0 rfl rfl dX11_edgeX_13 (pn := 14) rfl ?_
  refine j_icmp_ge cx 30 dX11_edgeX_14 (pn := 17) rfl rfl (fun c2 => ?_) (fun c2 => ?_)
  · have h := h.1 c2
    refine j_iconst cx (v := 2) (by decide) dX11_edgeX_30 (pn := 31) rfl ?_
    refine j_iload_n cx 2 rfl rfl dX11_edgeX_31 (pn := 32) rfl ?_
    refine j_iload_n cx 0 rfl rfl dX11_edgeX_32 (pn := 33) rfl ?_
    refine j_isub cx dX11_edgeX_33 (pn := 34) rfl ?_
    refine j_aload_n cx 1 rfl rfl dX11_edgeX_34 (pn := 35) rfl ?_
    refine j_get cx inGX11 0 rfl rfl 0 (by decide) q_fl_X11_7 rfl rfl dX11_edgeX_35 (pn := 38) rfl ?_
    refine j_irem cx h.1 dX11_edgeX_38 (pn := 39) rfl ?_
    have h := h.2
    refine j_imul cx dX11_edgeX_39 (pn := 40) rfl ?_
    refine j_iconst cx (v := 1) (by decide) dX11_edgeX_40 (pn := 41) rfl ?_
    refine j_iadd cx dX11_edgeX_41 (pn := 42) rfl ?_
    exact hR ((2 * ((p1 - y1) - (p1 - y1) / M_wide * M_wide)) + 1) 42 _ dX11_edgeX_42 h
  · have h := h.2 c2
    refine j_iconst cx (v := 2) (by decide) dX11_edgeX_17 (pn := 18) rfl ?_
    refine j_iload_n cx 2 rfl rfl dX11_edgeX_18 (pn := 19) rfl ?_
    refine j_aload_n cx 1 rfl rfl dX11_edgeX_19 (pn := 20) rfl ?_
    refine j_get cx inGX11 0 rfl rfl 0 (by decide) q_fl_X11_7 rfl rfl dX11_edgeX_20 (pn := 23) rfl ?_
    refine j_iconst cx (v := 1) (by decide) dX11_edgeX_23 (pn := 24) rfl ?_
    refine j_iadd cx dX11_edgeX_24 (pn := 25) rfl ?_
    refine j_irem cx h.1 dX11_edgeX_25 (pn := 26) rfl ?_
    have h := h.2
    refine j_imul cx dX11_edgeX_26 (pn := 27) rfl ?_
    refine j_goto cx 42 dX11_edgeX_27 rfl ?_
    exact hR (2 * (p1 - p1 / (M_wide + 1) * (M_wide + 1))) 42 _ dX11_edgeX_42 h
theorem dX11_edgeY_0 : decode cX11_edgeY 0 = .ok (.aload_n 0, 1) := by decide +kernel
theorem dX11_edgeY_1 : decode cX11_edgeY 1 = .ok (.getfield 7, 3) := by decide +kernel
theorem dX11_edgeY_4 : decode cX11_edgeY 4 = .ok (.iconst 1, 1) := by decide +kernel
theorem dX11_edgeY_5 : decode cX11_edgeY 5 = .ok (.iadd, 1) := by decide +kernel
theorem dX11_edgeY_6 : decode cX11_edgeY 6 = .ok (.aload_n 0, 1) := by decide +kernel
theorem dX11_edgeY_7 : decode cX11_edgeY 7 = .ok (.getfield 13, 3) := by decide +kernel
theorem dX11_edgeY_10 : decode cX11_edgeY 10 = .ok (.imul, 1) := by decide +kernel
theorem dX11_edgeY_11 : decode cX11_edgeY 11 = .ok (.istore_n 2, 1) := by decide +kernel
theorem dX11_edgeY_12 : decode cX11_edgeY 12 = .ok (.iload_n 1, 1) := by decide +kernel
theorem dX11_edgeY_13 : decode cX11_edgeY 13 = .ok (.iload_n 2, 1) := by decide +kernel
theorem dX11_edgeY_14 : decode cX11_edgeY 14 = .ok (.if_icmp .ge 18, 3) := by decide +kernel
theorem dX11_edgeY_17 : decode cX11_edgeY 17 = .ok (.iconst 2, 1) := by decide +kernel
theorem dX11_edgeY_18 : decode cX11_edgeY 18 = .ok (.iload_n 1, 1) := by decide +kernel
theorem dX11_edgeY_19 : decode cX11_edgeY 19 = .ok (.aload_n 0, 1) := by decide +kernel
theorem dX11_edgeY_20 : decode cX11_edgeY 20 = .ok (.getfield 7, 3) := by decide +kernel
theorem dX11_edgeY_23 : decode cX11_edgeY 23 = .ok (.iconst 1, 1) := by decide +kernel
theorem dX11_edgeY_24 : decode cX11_edgeY 24 = .ok (.iadd, 1) := by decide +kernel
theorem dX11_edgeY_25 : decode cX11_edgeY 25 = .ok (.idiv, 1) := by decide +kernel
theorem dX11_edgeY_26 : decode cX11_edgeY 26 = .ok (.imul, 1) := by decide +kernel
theorem dX11_edgeY_27 : decode cX11_edgeY 27 = .ok (.iconst 1, 1) := by decide +kernel
theorem dX11_edgeY_28 : decode cX11_edgeY 28 = .ok (.iadd, 1) := by decide +kernel
theorem dX11_edgeY_29 : decode cX11_edgeY 29 = .ok (.goto 13, 3) := by decide +kernel
theorem dX11_edgeY_32 : decode cX11_edgeY 32 = .ok (.iconst 2, 1) := by decide +kernel
theorem dX11_edgeY_33 : decode cX11_edgeY 33 = .ok (.iload_n 1, 1) := by decide +kernel
theorem dX11_edgeY_34 : decode cX11_edgeY 34 = .ok (.iload_n 2, 1) := by decide +kernel
theorem dX11_edgeY_35 : decode cX11_edgeY 35 = .ok (.isub, 1) := by decide +kernel
theorem dX11_edgeY_36 : decode cX11_edgeY 36 = .ok (.aload_n 0, 1) := by decide +kernel
theorem dX11_edgeY_37 : decode cX11_edgeY 37 = .ok (.getfield 7, 3) := by decide +kernel
theorem dX11_edgeY_40 : decode cX11_edgeY 40 = .ok (.idiv, 1) := by decide +kernel
theorem dX11_edgeY_41 : decode cX11_edgeY 41 = .ok (.imul, 1) := by decide +kernel
theorem dX11_edgeY_42 : decode cX11_edgeY 42 = .ok (.ireturn, 1) := by decide +kernel
abbrev rm_X11_edgeY : Room := { frames := 0, cells := 0, slots := 0, locals := 0 }
theorem hd_X11_edgeY : yX11_edgeY.cls ≠ "java/lang/invoke/MethodHandle" ∧ yX11_edgeY.cls ≠ "java/lang/invoke/VarHandle" ∧ (parseMethodDescriptor yX11_edgeY.desc).map (fun d => d.parameters.length) = some 1 := by decide +kernel
def wp_X11_edgeY (p1 : Int32) (M_wide : Int32) (M_high : Int32) (Q : Int32 → Prop) : Prop :=
∀ y1 : Int32, y1 = ((M_wide + 1) * M_high) →
((y1 ≤ p1 → ¬ M_wide = 0 ∧ Q (2 * ((p1 - y1) / M_wide))) ∧
(¬ y1 ≤ p1 → ¬ (M_wide + 1) = 0 ∧ Q ((2 * (p1 / (M_wide + 1))) + 1)))
set_option maxHeartbeats 4000000 in
set_option maxRecDepth 100000 in
theorem c_X11_edgeY {D : DG} {cyI cyJ cyZ : ClassId} {a_M a_M_square a_M_want a_M_text a_M_read a_M_row a_M_foldSet a_M_foldEdges a_M_foldNeeds a_M_foldYards a_M_least a_M_ways a_M_price a_M_rowBy a_M_columnBy a_M_rowOf a_M_wayBack a_M_slack a_M_isUsed a_M_lifted a_M_freed a_M_path : Nat} {M_wide : Int32} {M_high : Int32} {M_hedges : Int64} {M_hurdles : Int32} {M_wants : Int32} {M_rest : Int32} {M_frozen : Int32} {M_bytes : Int32} {M_position : Int32} {M_tokenAt : Int32} {M_token : Int64} {M_digits : Int32} {M_number : Int32} {M_faultAt : Int32} {M_readMany : Int32} {M_readWide : Int32} {M_readHigh : Int32} {M_nights : Int32} {M_why : Int32} {M_folds : Int32} {M_square : Nat → Int32} {M_want : Nat → Int32} {M_text : Nat → Int32} {M_read : Nat → Int32} {M_row : Nat → Int32} {M_foldSet : Nat → Int32} {M_foldEdges : Nat → Int64} {M_foldNeeds : Nat → Int32} {M_foldYards : Nat → Int32} {M_least : Nat → Int32} {M_ways : Nat → Int32} {M_price : Nat → Int32} {M_rowBy : Nat → Int32} {M_columnBy : Nat → Int32} {M_rowOf : Nat → Int32} {M_wayBack : Nat → Int32} {M_slack : Nat → Int32} {M_isUsed : Nat → Int32} {M_lifted : Nat → Int32} {M_freed : Nat → Int32} {M_path : Nat → Int32} {p1 : Int32} {Q : Int32 → Prop} (h : wp_X11_edgeY p1 M_wide M_high Q) :
    MetI yX11_edgeY cX11_edgeY 3 (some .int) rm_X11_edgeY D [(cyI, .int), (cyJ, .long), (cyZ, .boolean)] [.ref a_M, .int p1] (W_Model cyI cyJ cyZ a_M a_M_square a_M_want a_M_text a_M_read a_M_row a_M_foldSet a_M_foldEdges a_M_foldNeeds a_M_foldYards a_M_least a_M_ways a_M_price a_M_rowBy a_M_columnBy a_M_rowOf a_M_wayBack a_M_slack a_M_isUsed a_M_lifted a_M_freed a_M_path M_wide M_high M_hedges M_hurdles M_wants M_rest M_frozen M_bytes M_position M_tokenAt M_token M_digits M_number M_faultAt M_readMany M_readWide M_readHigh M_nights M_why M_folds M_square M_want M_text M_read M_row M_foldSet M_foldEdges M_foldNeeds M_foldYards M_least M_ways M_price M_rowBy M_columnBy M_rowOf M_wayBack M_slack M_isUsed M_lifted M_freed M_path) (fun _ : Unit => (W_Model cyI cyJ cyZ a_M a_M_square a_M_want a_M_text a_M_read a_M_row a_M_foldSet a_M_foldEdges a_M_foldNeeds a_M_foldYards a_M_least a_M_ways a_M_price a_M_rowBy a_M_columnBy a_M_rowOf a_M_wayBack a_M_slack a_M_isUsed a_M_lifted a_M_freed a_M_path M_wide M_high M_hedges M_hurdles M_wants M_rest M_frozen M_bytes M_position M_tokenAt M_token M_digits M_number M_faultAt M_readMany M_readWide M_readHigh M_nights M_why M_folds M_square M_want M_text M_read M_row M_foldSet M_foldEdges M_foldNeeds M_foldYards M_least M_ways M_price M_rowBy M_columnBy M_rowOf M_wayBack M_slack M_isUsed M_lifted M_freed M_path)) (fun v _ => Q v ) := by
  unfold wp_X11_edgeY at h
  refine metI_of (by decide) (Nat.le_of_ble_eq_true rfl) (fun x cx0 hR0 => ?_)
  have cx : Cx x cX11_edgeY 3 RX11 rm_X11_edgeY D [(cyI, .int), (cyJ, .long), (cyZ, .boolean)] := cx0
  have hR : ∀ (v : Int32) (pc : Nat) (lv : List (Nat × Value)), decode cX11_edgeY pc = .ok (.ireturn, 1) → Q v → J x 0 0 3 (W_Model cyI cyJ cyZ a_M a_M_square a_M_want a_M_text a_M_read a_M_row a_M_foldSet a_M_foldEdges a_M_foldNeeds a_M_foldYards a_M_least a_M_ways a_M_price a_M_rowBy a_M_columnBy a_M_rowOf a_M_wayBack a_M_slack a_M_isUsed a_M_lifted a_M_freed a_M_path M_wide M_high M_hedges M_hurdles M_wants M_rest M_frozen M_bytes M_position M_tokenAt M_token M_digits M_number M_faultAt M_readMany M_readWide M_readHigh M_nights M_why M_folds M_square M_want M_text M_read M_row M_foldSet M_foldEdges M_foldNeeds M_foldYards M_least M_ways M_price M_rowBy M_columnBy M_rowOf M_wayBack M_slack M_isUsed M_lifted M_freed M_path) lv pc [.int v] := (fun v pc lv d hq => hR0 v () pc lv d hq)
  show J x 0 0 3 (W_Model cyI cyJ cyZ a_M a_M_square a_M_want a_M_text a_M_read a_M_row a_M_foldSet a_M_foldEdges a_M_foldNeeds a_M_foldYards a_M_least a_M_ways a_M_price a_M_rowBy a_M_columnBy a_M_rowOf a_M_wayBack a_M_slack a_M_isUsed a_M_lifted a_M_freed a_M_path M_wide M_high M_hedges M_hurdles M_wants M_rest M_frozen M_bytes M_position M_tokenAt M_token M_digits M_number M_faultAt M_readMany M_readWide M_readHigh M_nights M_why M_folds M_square M_want M_text M_read M_row M_foldSet M_foldEdges M_foldNeeds M_foldYards M_least M_ways M_price M_rowBy M_columnBy M_rowOf M_wayBack M_slack M_isUsed M_lifted M_freed M_path) [(0, .ref a_M), (1, .int p1)] 0 []
  refine j_aload_n cx 0 rfl rfl dX11_edgeY_0 (pn := 1) rfl ?_
  refine j_get cx inGX11 0 rfl rfl 0 (by decide) q_fl_X11_7 rfl rfl dX11_edgeY_1 (pn := 4) rfl ?_
  refine j_iconst cx (v := 1) (by decide) dX11_edgeY_4 (pn := 5) rfl ?_
  refine j_iadd cx dX11_edgeY_5 (pn := 6) rfl ?_
  refine j_aload_n cx 0 rfl rfl dX11_edgeY_6 (pn := 7) rfl ?_
  refine j_get cx inGX11 0 rfl rfl 1 (by decide) q_fl_X11_13 rfl rfl dX11_edgeY_7 (pn := 10) rfl ?_
  refine j_imul cx dX11_edgeY_10 (pn := 11) rfl ?_
  refine j_topi (fun y1 ey1 => ?_)
  have h := h y1 ey1
  refine j_istore_n cx rfl [(2, .int y1), (0, .ref a_M), (1, .int p1)] (by decide) rfl dX11_edgeY_11 (pn := 12) rfl ?_
  refine j_iload_n cx 2 rfl rfl dX11_edgeY_12 (pn := 13) rfl ?_
  refine j_iload_n cx 0 rfl rfl dX11_edgeY_13 (pn := 14) rfl ?_
  refine j_icmp_ge cx 32 dX11_edgeY_14 (pn := 17) rfl rfl (fun c2 => ?_) (fun c2 => ?_)
  · have h := h.1 c2
    refine j_iconst cx (v := 2) (by decide) dX11_edgeY_32 (pn := 33) rfl ?_
    refine j_iload_n cx 2 rfl rfl dX11_edgeY_33 (pn := 34) rfl ?_
    refine j_iload_n cx 0 rfl rfl dX11_edgeY_34 (pn := 35) rfl ?_
    refine j_isub cx dX11_edgeY_35 (pn := 36) rfl ?_
    refine j_aload_n cx 1 rfl rfl dX11_edgeY_36 (pn := 37) rfl ?_
    refine j_get cx inGX11 0 rfl rfl 0 (by decide) q_fl_X11_7 rfl rfl dX11_edgeY_37 (pn := 40) rfl ?_
    refine j_idiv cx h.1 dX11_edgeY_40 (pn := 41) rfl ?_
    have h := h.2
    refine j_imul cx dX11_edgeY_41 (pn := 42) rfl ?_
    exact hR (2 * ((p1 - y1) / M_wide)) 42 _ dX11_edgeY_42 h
  · have h := h.2 c2
    refine j_iconst cx (v := 2) (by decide) dX11_edgeY_17 (pn := 18) rfl ?_
    refine j_iload_n cx 2 rfl rfl dX11_edgeY_18 (pn := 19) rfl ?_
    refine j_aload_n cx 1 rfl rfl dX11_edgeY_19 (pn := 20) rfl ?_
    refine j_get cx inGX11 0 rfl rfl 0 (by decide) q_fl_X11_7 rfl rfl dX11_edgeY_20 (pn := 23) rfl ?_
    refine j_iconst cx (v := 1) (by decide) dX11_edgeY_23 (pn := 24) rfl ?_
    refine j_iadd cx dX11_edgeY_24 (pn := 25) rfl ?_
    refine j_idiv cx h.1 dX11_edgeY_25 (pn := 26) rfl ?_
    have h := h.2
    refine j_imul cx dX11_edgeY_26 (pn := 27) rfl ?_
    refine j_iconst cx (v := 1) (by decide) dX11_edgeY_27 (pn := 28) rfl ?_
    refine j_iadd cx dX11_edgeY_28 (pn := 29) rfl ?_
    refine j_goto cx 42 dX11_edgeY_29 rfl ?_
    exact hR ((2 * (p1 / (M_wide + 1))) + 1) 42 _ dX11_edgeY_42 h
