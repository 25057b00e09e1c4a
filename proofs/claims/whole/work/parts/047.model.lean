theorem dX11_count_0 : decode cX11_count 0 = .ok (.iload_n 1, 1) := by decide +kernel
theorem dX11_count_1 : decode cX11_count 1 = .ok (.tableswitch 87 0 7 #[47, 52, 57, 62, 67, 72, 77, 82], 47) := by decide +kernel
theorem dX11_count_48 : decode cX11_count 48 = .ok (.aload_n 0, 1) := by decide +kernel
theorem dX11_count_49 : decode cX11_count 49 = .ok (.invokevirtual 86, 3) := by decide +kernel
theorem dX11_count_52 : decode cX11_count 52 = .ok (.ireturn, 1) := by decide +kernel
theorem dX11_count_53 : decode cX11_count 53 = .ok (.aload_n 0, 1) := by decide +kernel
theorem dX11_count_54 : decode cX11_count 54 = .ok (.getfield 7, 3) := by decide +kernel
theorem dX11_count_57 : decode cX11_count 57 = .ok (.ireturn, 1) := by decide +kernel
theorem dX11_count_58 : decode cX11_count 58 = .ok (.aload_n 0, 1) := by decide +kernel
theorem dX11_count_59 : decode cX11_count 59 = .ok (.invokevirtual 221, 3) := by decide +kernel
theorem dX11_count_62 : decode cX11_count 62 = .ok (.ireturn, 1) := by decide +kernel
theorem dX11_count_63 : decode cX11_count 63 = .ok (.aload_n 0, 1) := by decide +kernel
theorem dX11_count_64 : decode cX11_count 64 = .ok (.getfield 94, 3) := by decide +kernel
theorem dX11_count_67 : decode cX11_count 67 = .ok (.ireturn, 1) := by decide +kernel
theorem dX11_count_68 : decode cX11_count 68 = .ok (.aload_n 0, 1) := by decide +kernel
theorem dX11_count_69 : decode cX11_count 69 = .ok (.getfield 198, 3) := by decide +kernel
theorem dX11_count_72 : decode cX11_count 72 = .ok (.ireturn, 1) := by decide +kernel
theorem dX11_count_73 : decode cX11_count 73 = .ok (.aload_n 0, 1) := by decide +kernel
theorem dX11_count_74 : decode cX11_count 74 = .ok (.getfield 20, 3) := by decide +kernel
theorem dX11_count_77 : decode cX11_count 77 = .ok (.ireturn, 1) := by decide +kernel
theorem dX11_count_78 : decode cX11_count 78 = .ok (.aload_n 0, 1) := by decide +kernel
theorem dX11_count_79 : decode cX11_count 79 = .ok (.getfield 212, 3) := by decide +kernel
theorem dX11_count_82 : decode cX11_count 82 = .ok (.ireturn, 1) := by decide +kernel
theorem dX11_count_83 : decode cX11_count 83 = .ok (.aload_n 0, 1) := by decide +kernel
theorem dX11_count_84 : decode cX11_count 84 = .ok (.getfield 209, 3) := by decide +kernel
theorem dX11_count_87 : decode cX11_count 87 = .ok (.ireturn, 1) := by decide +kernel
theorem dX11_count_88 : decode cX11_count 88 = .ok (.bipush (-3), 2) := by decide +kernel
theorem dX11_count_90 : decode cX11_count 90 = .ok (.ireturn, 1) := by decide +kernel
abbrev rm_X11_count : Room := { frames := 1, cells := 0, slots := 0, locals := 20 }
theorem hd_X11_count : yX11_count.cls ≠ "java/lang/invoke/MethodHandle" ∧ yX11_count.cls ≠ "java/lang/invoke/VarHandle" ∧ (parseMethodDescriptor yX11_count.desc).map (fun d => d.parameters.length) = some 1 := by decide +kernel
def wp_X11_count (p1 : Int32) (M_wide : Int32) (M_high : Int32) (M_hurdles : Int32) (M_wants : Int32) (M_rest : Int32) (M_bytes : Int32) (M_nights : Int32) (Q : Int32 → Prop) : Prop :=
((p1 = 0 → wp_X11_squares M_wide M_high (fun (r1 : Int32) => Q r1)) ∧
(p1 = 1 → Q M_wide) ∧
(p1 = 2 → wp_X11_edgeMany M_wide M_high (fun (r2 : Int32) => Q r2)) ∧
(p1 = 3 → Q M_bytes) ∧
(p1 = 4 → Q M_nights) ∧
(p1 = 5 → Q M_hurdles) ∧
(p1 = 6 → Q M_rest) ∧
(p1 = 7 → Q M_wants) ∧
((¬ p1 = 0 ∧ ¬ p1 = 1 ∧ ¬ p1 = 2 ∧ ¬ p1 = 3 ∧ ¬ p1 = 4 ∧ ¬ p1 = 5 ∧ ¬ p1 = 6 ∧ ¬ p1 = 7) → Q (-3)))
set_option maxHeartbeats 4000000 in
set_option maxRecDepth 100000 in
theorem c_X11_count {D : DG} {cyI cyJ cyZ : ClassId} {a_M a_M_square a_M_want a_M_text a_M_read a_M_row a_M_foldSet a_M_foldEdges a_M_foldNeeds a_M_foldYards a_M_least a_M_ways a_M_price a_M_rowBy a_M_columnBy a_M_rowOf a_M_wayBack a_M_slack a_M_isUsed a_M_lifted a_M_freed a_M_path : Nat} {M_wide : Int32} {M_high : Int32} {M_hedges : Int64} {M_hurdles : Int32} {M_wants : Int32} {M_rest : Int32} {M_frozen : Int32} {M_bytes : Int32} {M_position : Int32} {M_tokenAt : Int32} {M_token : Int64} {M_digits : Int32} {M_number : Int32} {M_faultAt : Int32} {M_readMany : Int32} {M_readWide : Int32} {M_readHigh : Int32} {M_nights : Int32} {M_why : Int32} {M_folds : Int32} {M_square : Nat → Int32} {M_want : Nat → Int32} {M_text : Nat → Int32} {M_read : Nat → Int32} {M_row : Nat → Int32} {M_foldSet : Nat → Int32} {M_foldEdges : Nat → Int64} {M_foldNeeds : Nat → Int32} {M_foldYards : Nat → Int32} {M_least : Nat → Int32} {M_ways : Nat → Int32} {M_price : Nat → Int32} {M_rowBy : Nat → Int32} {M_columnBy : Nat → Int32} {M_rowOf : Nat → Int32} {M_wayBack : Nat → Int32} {M_slack : Nat → Int32} {M_isUsed : Nat → Int32} {M_lifted : Nat → Int32} {M_freed : Nat → Int32} {M_path : Nat → Int32} {p1 : Int32} {Q : Int32 → Prop} (h : wp_X11_count p1 M_wide M_high M_hurdles M_wants M_rest M_bytes M_nights Q) :
    MetI yX11_count cX11_count 2 (some .int) rm_X11_count D [(cyI, .int), (cyJ, .long), (cyZ, .boolean)] [.ref a_M, .int p1] (W_Model cyI cyJ cyZ a_M a_M_square a_M_want a_M_text a_M_read a_M_row a_M_foldSet a_M_foldEdges a_M_foldNeeds a_M_foldYards a_M_least a_M_ways a_M_price a_M_rowBy a_M_columnBy a_M_rowOf a_M_wayBack a_M_slack a_M_isUsed a_M_lifted a_M_freed a_M_path M_wide M_high M_hedges M_hurdles M_wants M_rest M_frozen M_bytes M_position M_tokenAt M_token M_digits M_number M_faultAt M_readMany M_readWide M_readHigh M_nights M_why M_folds M_square M_want M_text M_read M_row M_foldSet M_foldEdges M_foldNeeds M_foldYards M_least M_ways M_price M_rowBy M_columnBy M_rowOf M_wayBack M_slack M_isUsed M_lifted M_freed M_path) (fun _ : Unit => (W_Model cyI cyJ cyZ a_M a_M_square a_M_want a_M_text a_M_read a_M_row a_M_foldSet a_M_foldEdges a_M_foldNeeds a_M_foldYards a_M_least a_M_ways a_M_price a_M_rowBy a_M_columnBy a_M_rowOf a_M_wayBack a_M_slack a_M_isUsed a_M_lifted a_M_freed a_M_path M_wide M_high M_hedges M_hurdles M_wants M_rest M_frozen M_bytes M_position M_tokenAt M_token M_digits M_number M_faultAt M_readMany M_readWide M_readHigh M_nights M_why M_folds M_square M_want M_text M_read M_row M_foldSet M_foldEdges M_foldNeeds M_foldYards M_least M_ways M_price M_rowBy M_columnBy M_rowOf M_wayBack M_slack M_isUsed M_lifted M_freed M_path)) (fun v _ => Q v ) := by
  unfold wp_X11_count at h
  refine metI_of (by decide) (Nat.le_of_ble_eq_true rfl) (fun x cx0 hR0 => ?_)
  have cx : Cx x cX11_count 2 RX11 rm_X11_count D [(cyI, .int), (cyJ, .long), (cyZ, .boolean)] := cx0
  have hR : ∀ (v : Int32) (pc : Nat) (lv : List (Nat × Value)), decode cX11_count pc = .ok (.ireturn, 1) → Q v → J x 0 0 2 (W_Model cyI cyJ cyZ a_M a_M_square a_M_want a_M_text a_M_read a_M_row a_M_foldSet a_M_foldEdges a_M_foldNeeds a_M_foldYards a_M_least a_M_ways a_M_price a_M_rowBy a_M_columnBy a_M_rowOf a_M_wayBack a_M_slack a_M_isUsed a_M_lifted a_M_freed a_M_path M_wide M_high M_hedges M_hurdles M_wants M_rest M_frozen M_bytes M_position M_tokenAt M_token M_digits M_number M_faultAt M_readMany M_readWide M_readHigh M_nights M_why M_folds M_square M_want M_text M_read M_row M_foldSet M_foldEdges M_foldNeeds M_foldYards M_least M_ways M_price M_rowBy M_columnBy M_rowOf M_wayBack M_slack M_isUsed M_lifted M_freed M_path) lv pc [.int v] := (fun v pc lv d hq => hR0 v () pc lv d hq)
  show J x 0 0 2 (W_Model cyI cyJ cyZ a_M a_M_square a_M_want a_M_text a_M_read a_M_row a_M_foldSet a_M_foldEdges a_M_foldNeeds a_M_foldYards a_M_least a_M_ways a_M_price a_M_rowBy a_M_columnBy a_M_rowOf a_M_wayBack a_M_slack a_M_isUsed a_M_lifted a_M_freed a_M_path M_wide M_high M_hedges M_hurdles M_wants M_rest M_frozen M_bytes M_position M_tokenAt M_token M_digits M_number M_faultAt M_readMany M_readWide M_readHigh M_nights M_why M_folds M_square M_want M_text M_read M_row M_foldSet M_foldEdges M_foldNeeds M_foldYards M_least M_ways M_price M_rowBy M_columnBy M_rowOf M_wayBack M_slack M_isUsed M_lifted M_freed M_path) [(0, .ref a_M), (1, .int p1)] 0 []
  refine j_iload_n cx 1 rfl rfl dX11_count_0 (pn := 1) rfl ?_
  by_cases k0 : p1 = 0
  · refine j_tabIn cx 48 dX11_count_1 (by rw [k0]; decide) (by rw [k0]; decide) (off := 47) (by rw [k0]; rfl) rfl ?_
    have h := h.1 k0
    refine j_aload_n cx 0 rfl rfl dX11_count_48 (pn := 49) rfl ?_
    refine j_callvI0 cx q_inst_X11_squares q_sel_X11_squares (b := a_M) (As := []) (rest := []) (c_X11_squares h) ⟨q_code_X11_squares, q_ml_X11_86, q_init_X11, hd_X11_squares, ⟨Nat.le_of_ble_eq_true rfl, Nat.le_of_ble_eq_true rfl⟩, Nat.le_of_ble_eq_true rfl, Nat.le_of_ble_eq_true rfl⟩ (q0 := 0) rfl rfl rfl rfl (Nat.le_of_ble_eq_true rfl) dX11_count_49 (pn := 52) rfl (fun r1 _ h => ?_)
    show J x 0 0 2 (W_Model cyI cyJ cyZ a_M a_M_square a_M_want a_M_text a_M_read a_M_row a_M_foldSet a_M_foldEdges a_M_foldNeeds a_M_foldYards a_M_least a_M_ways a_M_price a_M_rowBy a_M_columnBy a_M_rowOf a_M_wayBack a_M_slack a_M_isUsed a_M_lifted a_M_freed a_M_path M_wide M_high M_hedges M_hurdles M_wants M_rest M_frozen M_bytes M_position M_tokenAt M_token M_digits M_number M_faultAt M_readMany M_readWide M_readHigh M_nights M_why M_folds M_square M_want M_text M_read M_row M_foldSet M_foldEdges M_foldNeeds M_foldYards M_least M_ways M_price M_rowBy M_columnBy M_rowOf M_wayBack M_slack M_isUsed M_lifted M_freed M_path) [(0, .ref a_M), (1, .int p1)] 52 [.int r1]
    exact hR r1 52 _ dX11_count_52 h
  by_cases k1 : p1 = 1
  · refine j_tabIn cx 53 dX11_count_1 (by rw [k1]; decide) (by rw [k1]; decide) (off := 52) (by rw [k1]; rfl) rfl ?_
    have h := h.2.1 k1
    refine j_aload_n cx 0 rfl rfl dX11_count_53 (pn := 54) rfl ?_
    refine j_get cx inGX11 0 rfl rfl 0 (by decide) q_fl_X11_7 rfl rfl dX11_count_54 (pn := 57) rfl ?_
    exact hR M_wide 57 _ dX11_count_57 h
  by_cases k2 : p1 = 2
  · refine j_tabIn cx 58 dX11_count_1 (by rw [k2]; decide) (by rw [k2]; decide) (off := 57) (by rw [k2]; rfl) rfl ?_
    have h := h.2.2.1 k2
    refine j_aload_n cx 0 rfl rfl dX11_count_58 (pn := 59) rfl ?_
    refine j_callvI0 cx q_inst_X11_edgeMany q_sel_X11_edgeMany (b := a_M) (As := []) (rest := []) (c_X11_edgeMany h) ⟨q_code_X11_edgeMany, q_ml_X11_221, q_init_X11, hd_X11_edgeMany, ⟨Nat.le_of_ble_eq_true rfl, Nat.le_of_ble_eq_true rfl⟩, Nat.le_of_ble_eq_true rfl, Nat.le_of_ble_eq_true rfl⟩ (q0 := 0) rfl rfl rfl rfl (Nat.le_of_ble_eq_true rfl) dX11_count_59 (pn := 62) rfl (fun r2 _ h => ?_)
    show J x 0 0 2 (W_Model cyI cyJ cyZ a_M a_M_square a_M_want a_M_text a_M_read a_M_row a_M_foldSet a_M_foldEdges a_M_foldNeeds a_M_foldYards a_M_least a_M_ways a_M_price a_M_rowBy a_M_columnBy a_M_rowOf a_M_wayBack a_M_slack a_M_isUsed a_M_lifted a_M_freed a_M_path M_wide M_high M_hedges M_hurdles M_wants M_rest M_frozen M_bytes M_position M_tokenAt M_token M_digits M_number M_faultAt M_readMany M_readWide M_readHigh M_nights M_why M_folds M_square M_want M_text M_read M_row M_foldSet M_foldEdges M_foldNeeds M_foldYards M_least M_ways M_price M_rowBy M_columnBy M_rowOf M_wayBack M_slack M_isUsed M_lifted M_freed M_path) [(0, .ref a_M), (1, .int p1)] 62 [.int r2]
    exact hR r2 62 _ dX11_count_62 h
  by_cases k3 : p1 = 3
  · refine j_tabIn cx 63 dX11_count_1 (by rw [k3]; decide) (by rw [k3]; decide) (off := 62) (by rw [k3]; rfl) rfl ?_
    have h := h.2.2.2.1 k3
    refine j_aload_n cx 0 rfl rfl dX11_count_63 (pn := 64) rfl ?_
    refine j_get cx inGX11 0 rfl rfl 9 (by decide) q_fl_X11_94 rfl rfl dX11_count_64 (pn := 67) rfl ?_
    exact hR M_bytes 67 _ dX11_count_67 h
  by_cases k4 : p1 = 4
  · refine j_tabIn cx 68 dX11_count_1 (by rw [k4]; decide) (by rw [k4]; decide) (off := 67) (by rw [k4]; rfl) rfl ?_
    have h := h.2.2.2.2.1 k4
    refine j_aload_n cx 0 rfl rfl dX11_count_68 (pn := 69) rfl ?_
    refine j_get cx inGX11 0 rfl rfl 21 (by decide) q_fl_X11_198 rfl rfl dX11_count_69 (pn := 72) rfl ?_
    exact hR M_nights 72 _ dX11_count_72 h
  by_cases k5 : p1 = 5
  · refine j_tabIn cx 73 dX11_count_1 (by rw [k5]; decide) (by rw [k5]; decide) (off := 72) (by rw [k5]; rfl) rfl ?_
    have h := h.2.2.2.2.2.1 k5
    refine j_aload_n cx 0 rfl rfl dX11_count_73 (pn := 74) rfl ?_
    refine j_get cx inGX11 0 rfl rfl 4 (by decide) q_fl_X11_20 rfl rfl dX11_count_74 (pn := 77) rfl ?_
    exact hR M_hurdles 77 _ dX11_count_77 h
  by_cases k6 : p1 = 6
  · refine j_tabIn cx 78 dX11_count_1 (by rw [k6]; decide) (by rw [k6]; decide) (off := 77) (by rw [k6]; rfl) rfl ?_
    have h := h.2.2.2.2.2.2.1 k6
    refine j_aload_n cx 0 rfl rfl dX11_count_78 (pn := 79) rfl ?_
    refine j_get cx inGX11 0 rfl rfl 7 (by decide) q_fl_X11_212 rfl rfl dX11_count_79 (pn := 82) rfl ?_
    exact hR M_rest 82 _ dX11_count_82 h
  by_cases k7 : p1 = 7
  · refine j_tabIn cx 83 dX11_count_1 (by rw [k7]; decide) (by rw [k7]; decide) (off := 82) (by rw [k7]; rfl) rfl ?_
    have h := h.2.2.2.2.2.2.2.1 k7
    refine j_aload_n cx 0 rfl rfl dX11_count_83 (pn := 84) rfl ?_
    refine j_get cx inGX11 0 rfl rfl 5 (by decide) q_fl_X11_209 rfl rfl dX11_count_84 (pn := 87) rfl ?_
    exact hR M_wants 87 _ dX11_count_87 h
  refine j_tabOut cx 88 dX11_count_1 (sw_out0_7 k0 k1 k2 k3 k4 k5 k6 k7) rfl ?_
  have h := h.2.2.2.2.2.2.2.2 ⟨k0, k1, k2, k3, k4, k5, k6, k7⟩
  refine j_bipush cx (v := (-3)) (by decide) dX11_count_88 (pn := 90) rfl ?_
  exact hR (-3) 90 _ dX11_count_90 h
