theorem dX11_in_0 : decode cX11_in 0 = .ok (.iload_n 0, 1) := by decide +kernel
theorem dX11_in_1 : decode cX11_in 1 = .ok (.iload_n 1, 1) := by decide +kernel
theorem dX11_in_2 : decode cX11_in 2 = .ok (.if_icmp .lt 12, 3) := by decide +kernel
theorem dX11_in_5 : decode cX11_in 5 = .ok (.iload_n 0, 1) := by decide +kernel
theorem dX11_in_6 : decode cX11_in 6 = .ok (.iload_n 2, 1) := by decide +kernel
theorem dX11_in_7 : decode cX11_in 7 = .ok (.if_icmp .gt 7, 3) := by decide +kernel
theorem dX11_in_10 : decode cX11_in 10 = .ok (.iconst 1, 1) := by decide +kernel
theorem dX11_in_11 : decode cX11_in 11 = .ok (.goto 4, 3) := by decide +kernel
theorem dX11_in_14 : decode cX11_in 14 = .ok (.iconst 0, 1) := by decide +kernel
theorem dX11_in_15 : decode cX11_in 15 = .ok (.ireturn, 1) := by decide +kernel
abbrev rm_X11_in : Room := { frames := 0, cells := 0, slots := 0, locals := 0 }
theorem hd_X11_in : yX11_in.cls ≠ "java/lang/invoke/MethodHandle" ∧ yX11_in.cls ≠ "java/lang/invoke/VarHandle" ∧ (parseMethodDescriptor yX11_in.desc).map (fun d => d.parameters.length) = some 3 := by decide +kernel
def wp_X11_in (p0 : Int32) (p1 : Int32) (p2 : Int32) (Q : Int32 → Prop) : Prop :=
((p0 < p1 → Q 0) ∧
(¬ p0 < p1 → ((p2 < p0 → Q 0) ∧
(¬ p2 < p0 → Q 1))))
set_option maxHeartbeats 4000000 in
set_option maxRecDepth 100000 in
theorem c_X11_in {D : DG} {cyI cyJ cyZ : ClassId} {p0 : Int32} {p1 : Int32} {p2 : Int32} {Q : Int32 → Prop} (h : wp_X11_in p0 p1 p2 Q) :
    MetI yX11_in cX11_in 3 (some .boolean) rm_X11_in D [(cyI, .int), (cyJ, .long), (cyZ, .boolean)] [.int p0, .int p1, .int p2] ([] : va_W) (fun _ : Unit => ([] : va_W)) (fun v _ => Q v ) := by
  unfold wp_X11_in at h
  refine metZ_of (by decide) (Nat.le_of_ble_eq_true rfl) (fun x cx0 hR0 => ?_)
  have cx : Cx x cX11_in 3 RX11 rm_X11_in D [(cyI, .int), (cyJ, .long), (cyZ, .boolean)] := cx0
  have hR : ∀ (v : Int32) (pc : Nat) (lv : List (Nat × Value)), decode cX11_in pc = .ok (.ireturn, 1) → (v = 0 ∨ v = 1) → Q v → J x 0 0 3 ([] : va_W) lv pc [.int v] := (fun v pc lv d hz hq => hR0 v () pc lv d hz hq)
  show J x 0 0 3 ([] : va_W) [(0, .int p0), (1, .int p1), (2, .int p2)] 0 []
  refine j_iload_n cx 0 rfl rfl dX11_in_0 (pn := 1) rfl ?_
  refine j_iload_n cx 1 rfl rfl dX11_in_1 (pn := 2) rfl ?_
  refine j_icmp_lt cx 14 dX11_in_2 (pn := 5) rfl rfl (fun c1 => ?_) (fun c1 => ?_)
  · have h := h.1 c1
    refine j_iconst cx (v := 0) (by decide) dX11_in_14 (pn := 15) rfl ?_
    exact hR 0 15 _ dX11_in_15 (Or.inl rfl) h
  · have h := h.2 c1
    refine j_iload_n cx 0 rfl rfl dX11_in_5 (pn := 6) rfl ?_
    refine j_iload_n cx 2 rfl rfl dX11_in_6 (pn := 7) rfl ?_
    refine j_icmp_gt cx 14 dX11_in_7 (pn := 10) rfl rfl (fun c2 => ?_) (fun c2 => ?_)
    · have h := h.1 c2
      refine j_iconst cx (v := 0) (by decide) dX11_in_14 (pn := 15) rfl ?_
      exact hR 0 15 _ dX11_in_15 (Or.inl rfl) h
    · have h := h.2 c2
      refine j_iconst cx (v := 1) (by decide) dX11_in_10 (pn := 11) rfl ?_
      refine j_goto cx 15 dX11_in_11 rfl ?_
      exact hR 1 15 _ dX11_in_15 (Or.inr rfl) h
theorem dX11_squares_0 : decode cX11_squares 0 = .ok (.aload_n 0, 1) := by decide +kernel
theorem dX11_squares_1 : decode cX11_squares 1 = .ok (.getfield 7, 3) := by decide +kernel
theorem dX11_squares_4 : decode cX11_squares 4 = .ok (.aload_n 0, 1) := by decide +kernel
theorem dX11_squares_5 : decode cX11_squares 5 = .ok (.getfield 13, 3) := by decide +kernel
theorem dX11_squares_8 : decode cX11_squares 8 = .ok (.imul, 1) := by decide +kernel
theorem dX11_squares_9 : decode cX11_squares 9 = .ok (.ireturn, 1) := by decide +kernel
abbrev rm_X11_squares : Room := { frames := 0, cells := 0, slots := 0, locals := 0 }
theorem hd_X11_squares : yX11_squares.cls ≠ "java/lang/invoke/MethodHandle" ∧ yX11_squares.cls ≠ "java/lang/invoke/VarHandle" ∧ (parseMethodDescriptor yX11_squares.desc).map (fun d => d.parameters.length) = some 0 := by decide +kernel
def wp_X11_squares (M_wide : Int32) (M_high : Int32) (Q : Int32 → Prop) : Prop :=
Q (M_wide * M_high)
set_option maxHeartbeats 4000000 in
set_option maxRecDepth 100000 in
theorem c_X11_squares {D : DG} {cyI cyJ cyZ : ClassId} {a_M a_M_square a_M_want a_M_text a_M_read a_M_row a_M_foldSet a_M_foldEdges a_M_foldNeeds a_M_foldYards a_M_least a_M_ways a_M_price a_M_rowBy a_M_columnBy a_M_rowOf a_M_wayBack a_M_slack a_M_isUsed a_M_lifted a_M_freed a_M_path : Nat} {M_wide : Int32} {M_high : Int32} {M_hedges : Int64} {M_hurdles : Int32} {M_wants : Int32} {M_rest : Int32} {M_frozen : Int32} {M_bytes : Int32} {M_position : Int32} {M_tokenAt : Int32} {M_token : Int64} {M_digits : Int32} {M_number : Int32} {M_faultAt : Int32} {M_readMany : Int32} {M_readWide : Int32} {M_readHigh : Int32} {M_nights : Int32} {M_why : Int32} {M_folds : Int32} {M_square : Nat → Int32} {M_want : Nat → Int32} {M_text : Nat → Int32} {M_read : Nat → Int32} {M_row : Nat → Int32} {M_foldSet : Nat → Int32} {M_foldEdges : Nat → Int64} {M_foldNeeds : Nat → Int32} {M_foldYards : Nat → Int32} {M_least : Nat → Int32} {M_ways : Nat → Int32} {M_price : Nat → Int32} {M_rowBy : Nat → Int32} {M_columnBy : Nat → Int32} {M_rowOf : Nat → Int32} {M_wayBack : Nat → Int32} {M_slack : Nat → Int32} {M_isUsed : Nat → Int32} {M_lifted : Nat → Int32} {M_freed : Nat → Int32} {M_path : Nat → Int32} {Q : Int32 → Prop} (h : wp_X11_squares M_wide M_high Q) :
    MetI yX11_squares cX11_squares 1 (some .int) rm_X11_squares D [(cyI, .int), (cyJ, .long), (cyZ, .boolean)] [.ref a_M] (W_Model cyI cyJ cyZ a_M a_M_square a_M_want a_M_text a_M_read a_M_row a_M_foldSet a_M_foldEdges a_M_foldNeeds a_M_foldYards a_M_least a_M_ways a_M_price a_M_rowBy a_M_columnBy a_M_rowOf a_M_wayBack a_M_slack a_M_isUsed a_M_lifted a_M_freed a_M_path M_wide M_high M_hedges M_hurdles M_wants M_rest M_frozen M_bytes M_position M_tokenAt M_token M_digits M_number M_faultAt M_readMany M_readWide M_readHigh M_nights M_why M_folds M_square M_want M_text M_read M_row M_foldSet M_foldEdges M_foldNeeds M_foldYards M_least M_ways M_price M_rowBy M_columnBy M_rowOf M_wayBack M_slack M_isUsed M_lifted M_freed M_path) (fun _ : Unit => (W_Model cyI cyJ cyZ a_M a_M_square a_M_want a_M_text a_M_read a_M_row a_M_foldSet a_M_foldEdges a_M_foldNeeds a_M_foldYards a_M_least a_M_ways a_M_price a_M_rowBy a_M_columnBy a_M_rowOf a_M_wayBack a_M_slack a_M_isUsed a_M_lifted a_M_freed a_M_path M_wide M_high M_hedges M_hurdles M_wants M_rest M_frozen M_bytes M_position M_tokenAt M_token M_digits M_number M_faultAt M_readMany M_readWide M_readHigh M_nights M_why M_folds M_square M_want M_text M_read M_row M_foldSet M_foldEdges M_foldNeeds M_foldYards M_least M_ways M_price M_rowBy M_columnBy M_rowOf M_wayBack M_slack M_isUsed M_lifted M_freed M_path)) (fun v _ => Q v ) := by
  unfold wp_X11_squares at h
  refine metI_of (by decide) (Nat.le_of_ble_eq_true rfl) (fun x cx0 hR0 => ?_)
  have cx : Cx x cX11_squares 1 RX11 rm_X11_squares D [(cyI, .int), (cyJ, .long), (cyZ, .boolean)] := cx0
  have hR : ∀ (v : Int32) (pc : Nat) (lv : List (Nat × Value)), decode cX11_squares pc = .ok (.ireturn, 1) → Q v → J x 0 0 1 (W_Model cyI cyJ cyZ a_M a_M_square a_M_want a_M_text a_M_read a_M_row a_M_foldSet a_M_foldEdges a_M_foldNeeds a_M_foldYards a_M_least a_M_ways a_M_price a_M_rowBy a_M_columnBy a_M_rowOf a_M_wayBack a_M_slack a_M_isUsed a_M_lifted a_M_freed a_M_path M_wide M_high M_hedges M_hurdles M_wants M_rest M_frozen M_bytes M_position M_tokenAt M_token M_digits M_number M_faultAt M_readMany M_readWide M_readHigh M_nights M_why M_folds M_square M_want M_text M_read M_row M_foldSet M_foldEdges M_foldNeeds M_foldYards M_least M_ways M_price M_rowBy M_columnBy M_rowOf M_wayBack M_slack M_isUsed M_lifted M_freed M_path) lv pc [.int v] := (fun v pc lv d hq => hR0 v () pc lv d hq)
  show J x 0 0 1 (W_Model cyI cyJ cyZ a_M a_M_square a_M_want a_M_text a_M_read a_M_row a_M_foldSet a_M_foldEdges a_M_foldNeeds a_M_foldYards a_M_least a_M_ways a_M_price a_M_rowBy a_M_columnBy a_M_rowOf a_M_wayBack a_M_slack a_M_isUsed a_M_lifted a_M_freed a_M_path M_wide M_high M_hedges M_hurdles M_wants M_rest M_frozen M_bytes M_position M_tokenAt M_token M_digits M_number M_faultAt M_readMany M_readWide M_readHigh M_nights M_why M_folds M_square M_want M_text M_read M_row M_foldSet M_foldEdges M_foldNeeds M_foldYards M_least M_ways M_price M_rowBy M_columnBy M_rowOf M_wayBack M_slack M_isUsed M_lifted M_freed M_path) [(0, .ref a_M)] 0 []
  refine j_aload_n cx 0 rfl rfl dX11_squares_0 (pn := 1) rfl ?_
  refine j_get cx inGX11 0 rfl rfl 0 (by decide) q_fl_X11_7 rfl rfl dX11_squares_1 (pn := 4) rfl ?_
  refine j_aload_n cx 0 rfl rfl dX11_squares_4 (pn := 5) rfl ?_
  refine j_get cx inGX11 0 rfl rfl 1 (by decide) q_fl_X11_13 rfl rfl dX11_squares_5 (pn := 8) rfl ?_
  refine j_imul cx dX11_squares_8 (pn := 9) rfl ?_
  exact hR (M_wide * M_high) 9 _ dX11_squares_9 h
theorem dX11_edgeMany_0 : decode cX11_edgeMany 0 = .ok (.aload_n 0, 1) := by decide +kernel
theorem dX11_edgeMany_1 : decode cX11_edgeMany 1 = .ok (.getfield 7, 3) := by decide +kernel
theorem dX11_edgeMany_4 : decode cX11_edgeMany 4 = .ok (.iconst 1, 1) := by decide +kernel
theorem dX11_edgeMany_5 : decode cX11_edgeMany 5 = .ok (.iadd, 1) := by decide +kernel
theorem dX11_edgeMany_6 : decode cX11_edgeMany 6 = .ok (.aload_n 0, 1) := by decide +kernel
theorem dX11_edgeMany_7 : decode cX11_edgeMany 7 = .ok (.getfield 13, 3) := by decide +kernel
theorem dX11_edgeMany_10 : decode cX11_edgeMany 10 = .ok (.imul, 1) := by decide +kernel
theorem dX11_edgeMany_11 : decode cX11_edgeMany 11 = .ok (.aload_n 0, 1) := by decide +kernel
theorem dX11_edgeMany_12 : decode cX11_edgeMany 12 = .ok (.getfield 7, 3) := by decide +kernel
theorem dX11_edgeMany_15 : decode cX11_edgeMany 15 = .ok (.aload_n 0, 1) := by decide +kernel
theorem dX11_edgeMany_16 : decode cX11_edgeMany 16 = .ok (.getfield 13, 3) := by decide +kernel
theorem dX11_edgeMany_19 : decode cX11_edgeMany 19 = .ok (.iconst 1, 1) := by decide +kernel
theorem dX11_edgeMany_20 : decode cX11_edgeMany 20 = .ok (.iadd, 1) := by decide +kernel
theorem dX11_edgeMany_21 : decode cX11_edgeMany 21 = .ok (.imul, 1) := by decide +kernel
theorem dX11_edgeMany_22 : decode cX11_edgeMany 22 = .ok (.iadd, 1) := by decide +kernel
theorem dX11_edgeMany_23 : decode cX11_edgeMany 23 = .ok (.ireturn, 1) := by decide +kernel
abbrev rm_X11_edgeMany : Room := { frames := 0, cells := 0, slots := 0, locals := 0 }
theorem hd_X11_edgeMany : yX11_edgeMany.cls ≠ "java/lang/invoke/MethodHandle" ∧ yX11_edgeMany.cls ≠ "java/lang/invoke/VarHandle" ∧ (parseMethodDescriptor yX11_edgeMany.desc).map (fun d => d.parameters.length) = some 0 := by decide +kernel
def wp_X11_edgeMany (M_wide : Int32) (M_high : Int32) (Q : Int32 → Prop) : Prop :=
Q (((M_wide + 1) * M_high) + (M_wide * (M_high + 1)))
set_option maxHeartbeats 4000000 in
set_option maxRecDepth 100000 in
theorem c_X11_edgeMany {D : DG} {cyI cyJ cyZ : ClassId} {a_M a_M_square a_M_want a_M_text a_M_read a_M_row a_M_foldSet a_M_foldEdges a_M_foldNeeds a_M_foldYards a_M_least a_M_ways a_M_price a_M_rowBy a_M_columnBy a_M_rowOf a_M_wayBack a_M_slack a_M_isUsed a_M_lifted a_M_freed a_M_path : Nat} {M_wide : Int32} {M_high : Int32} {M_hedges : Int64} {M_hurdles : Int32} {M_wants : Int32} {M_rest : Int32} {M_frozen : Int32} {M_bytes : Int32} {M_position : Int32} {M_tokenAt : Int32} {M_token : Int64} {M_digits : Int32} {M_number : Int32} {M_faultAt : Int32} {M_readMany : Int32} {M_readWide : Int32} {M_readHigh : Int32} {M_nights : Int32} {M_why : Int32} {M_folds : Int32} {M_square : Nat → Int32} {M_want : Nat → Int32} {M_text : Nat → Int32} {M_read : Nat → Int32} {M_row : Nat → Int32} {M_foldSet : Nat → Int32} {M_foldEdges : Nat → Int64} {M_foldNeeds : Nat → Int32} {M_foldYards : Nat → Int32} {M_least : Nat → Int32} {M_ways : Nat → Int32} {M_price : Nat → Int32} {M_rowBy : Nat → Int32} {M_columnBy : Nat → Int32} {M_rowOf : Nat → Int32} {M_wayBack : Nat → Int32} {M_slack : Nat → Int32} {M_isUsed : Nat → Int32} {M_lifted : Nat → Int32} {M_freed : Nat → Int32} {M_path : Nat → Int32} {Q : Int32 → Prop} (h : wp_X11_edgeMany M_wide M_high Q) :
    MetI yX11_edgeMany cX11_edgeMany 1 (some .int) rm_X11_edgeMany D [(cyI, .int), (cyJ, .long), (cyZ, .boolean)] [.ref a_M] (W_Model cyI cyJ cyZ a_M a_M_square a_M_want a_M_text a_M_read a_M_row a_M_foldSet a_M_foldEdges a_M_foldNeeds a_M_foldYards a_M_least a_M_ways a_M_price a_M_rowBy a_M_columnBy a_M_rowOf a_M_wayBack a_M_slack a_M_isUsed a_M_lifted a_M_freed a_M_path M_wide M_high M_hedges M_hurdles M_wants M_rest M_frozen M_bytes M_position M_tokenAt M_token M_digits M_number M_faultAt M_readMany M_readWide M_readHigh M_nights M_why M_folds M_square M_want M_text M_read M_row M_foldSet M_foldEdges M_foldNeeds M_foldYards M_least M_ways M_price M_rowBy M_columnBy M_rowOf M_wayBack M_slack M_isUsed M_lifted M_freed M_path) (fun _ : Unit => (W_Model cyI cyJ cyZ a_M a_M_square a_M_want a_M_text a_M_read a_M_row a_M_foldSet a_M_foldEdges a_M_foldNeeds a_M_foldYards a_M_least a_M_ways a_M_price a_M_rowBy a_M_columnBy a_M_rowOf a_M_wayBack a_M_slack a_M_isUsed a_M_lifted a_M_freed a_M_path M_wide M_high M_hedges M_hurdles M_wants M_rest M_frozen M_bytes M_position M_tokenAt M_token M_digits M_number M_faultAt M_readMany M_readWide M_readHigh M_nights M_why M_folds M_square M_want M_text M_read M_row M_foldSet M_foldEdges M_foldNeeds M_foldYards M_least M_ways M_price M_rowBy M_columnBy M_rowOf M_wayBack M_slack M_isUsed M_lifted M_freed M_path)) (fun v _ => Q v ) := by
  unfold wp_X11_edgeMany at h
  refine metI_of (by decide) (Nat.le_of_ble_eq_true rfl) (fun x cx0 hR0 => ?_)
  have cx : Cx x cX11_edgeMany 1 RX11 rm_X11_edgeMany D [(cyI, .int), (cyJ, .long), (cyZ, .boolean)] := cx0
  have hR : ∀ (v : Int32) (pc : Nat) (lv : List (Nat × Value)), decode cX11_edgeMany pc = .ok (.ireturn, 1) → Q v → J x 0 0 1 (W_Model cyI cyJ cyZ a_M a_M_square a_M_want a_M_text a_M_read a_M_row a_M_foldSet a_M_foldEdges a_M_foldNeeds a_M_foldYards a_M_least a_M_ways a_M_price a_M_rowBy a_M_columnBy a_M_rowOf a_M_wayBack a_M_slack a_M_isUsed a_M_lifted a_M_freed a_M_path M_wide M_high M_hedges M_hurdles M_wants M_rest M_frozen M_bytes M_position M_tokenAt M_token M_digits M_number M_faultAt M_readMany M_readWide M_readHigh M_nights M_why M_folds M_square M_want M_text M_read M_row M_foldSet M_foldEdges M_foldNeeds M_foldYards M_least M_ways M_price M_rowBy M_columnBy M_rowOf M_wayBack M_slack M_isUsed M_lifted M_freed M_path) lv pc [.int v] := (fun v pc lv d hq => hR0 v () pc lv d hq)
  show J x 0 0 1 (W_Model cyI cyJ cyZ a_M a_M_square a_M_want a_M_text a_M_read a_M_row a_M_foldSet a_M_foldEdges a_M_foldNeeds a_M_foldYards a_M_least a_M_ways a_M_price a_M_rowBy a_M_columnBy a_M_rowOf a_M_wayBack a_M_slack a_M_isUsed a_M_lifted a_M_freed a_M_path M_wide M_high M_hedges M_hurdles M_wants M_rest M_frozen M_bytes M_position M_tokenAt M_token M_digits M_number M_faultAt M_readMany M_readWide M_readHigh M_nights M_why M_folds M_square M_want M_text M_read M_row M_foldSet M_foldEdges M_foldNeeds M_foldYards M_least M_ways M_price M_rowBy M_columnBy M_rowOf M_wayBack M_slack M_isUsed M_lifted M_freed M_path) [(0, .ref a_M)] 0 []
  refine j_aload_n cx 0 rfl rfl dX11_edgeMany_0 (pn := 1) rfl ?_
  refine j_get cx inGX11 0 rfl rfl 0 (by decide) q_fl_X11_7 rfl rfl dX11_edgeMany_1 (pn := 4) rfl ?_
  refine j_iconst cx (v := 1) (by decide) dX11_edgeMany_4 (pn := 5) rfl ?_
  refine j_iadd cx dX11_edgeMany_5 (pn := 6) rfl ?_
  refine j_aload_n cx 0 rfl rfl dX11_edgeMany_6 (pn := 7) rfl ?_
  refine j_get cx inGX11 0 rfl rfl 1 (by decide) q_fl_X11_13 rfl rfl dX11_edgeMany_7 (pn := 10) rfl ?_
  refine j_imul cx dX11_edgeMany_10 (pn := 11) rfl ?_
  refine j_aload_n cx 0 rfl rfl dX11_edgeMany_11 (pn := 12) rfl ?_
  refine j_get cx inGX11 0 rfl rfl 0 (by decide) q_fl_X11_7 rfl rfl dX11_edgeMany_12 (pn := 15) rfl ?_
  refine j_aload_n cx 0 rfl rfl dX11_edgeMany_15 (pn := 16) rfl ?_
  refine j_get cx inGX11 0 rfl rfl 1 (by decide) q_fl_X11_13 rfl rfl dX11_edgeMany_16 (pn := 19) rfl ?_
  refine j_iconst cx (v := 1) (by decide) dX11_edgeMany_19 (pn := 20) rfl ?_
  refine j_iadd cx dX11_edgeMany_20 (pn := 21) rfl ?_
  refine j_imul cx dX11_edgeMany_21 (pn := 22) rfl ?_
  refine j_iadd cx dX11_edgeMany_22 (pn := 23) rfl ?_
  exact hR (((M_wide + 1) * M_high) + (M_wide * (M_high + 1))) 23 _ dX11_edgeMany_23 h
theorem dX11_isSet_0 : decode cX11_isSet 0 = .ok (.iload_n 1, 1) := by decide +kernel
theorem dX11_isSet_1 : decode cX11_isSet 1 = .ok (.iconst 0, 1) := by decide +kernel
theorem dX11_isSet_2 : decode cX11_isSet 2 = .ok (.iconst 1, 1) := by decide +kernel
theorem dX11_isSet_3 : decode cX11_isSet 3 = .ok (.aload_n 0, 1) := by decide +kernel
theorem dX11_isSet_4 : decode cX11_isSet 4 = .ok (.invokevirtual 86, 3) := by decide +kernel
theorem dX11_isSet_7 : decode cX11_isSet 7 = .ok (.ishl, 1) := by decide +kernel
theorem dX11_isSet_8 : decode cX11_isSet 8 = .ok (.iconst 1, 1) := by decide +kernel
theorem dX11_isSet_9 : decode cX11_isSet 9 = .ok (.isub, 1) := by decide +kernel
theorem dX11_isSet_10 : decode cX11_isSet 10 = .ok (.invokestatic 90, 3) := by decide +kernel
theorem dX11_isSet_13 : decode cX11_isSet 13 = .ok (.ireturn, 1) := by decide +kernel
abbrev rm_X11_isSet : Room := { frames := 1, cells := 0, slots := 0, locals := 22 }
theorem hd_X11_isSet : yX11_isSet.cls ≠ "java/lang/invoke/MethodHandle" ∧ yX11_isSet.cls ≠ "java/lang/invoke/VarHandle" ∧ (parseMethodDescriptor yX11_isSet.desc).map (fun d => d.parameters.length) = some 1 := by decide +kernel
def wp_X11_isSet (p1 : Int32) (M_wide : Int32) (M_high : Int32) (Q : Int32 → Prop) : Prop :=
wp_X11_squares M_wide M_high (fun (r1 : Int32) => wp_X11_in p1 0 ((1 <<< (r1 &&& 31)) - 1) (fun (r2 : Int32) => (r2 = 0 ∨ r2 = 1) ∧ Q r2))
set_option maxHeartbeats 4000000 in
set_option maxRecDepth 100000 in
theorem c_X11_isSet {D : DG} {cyI cyJ cyZ : ClassId} {a_M a_M_square a_M_want a_M_text a_M_read a_M_row a_M_foldSet a_M_foldEdges a_M_foldNeeds a_M_foldYards a_M_least a_M_ways a_M_price a_M_rowBy a_M_columnBy a_M_rowOf a_M_wayBack a_M_slack a_M_isUsed a_M_lifted a_M_freed a_M_path : Nat} {M_wide : Int32} {M_high : Int32} {M_hedges : Int64} {M_hurdles : Int32} {M_wants : Int32} {M_rest : Int32} {M_frozen : Int32} {M_bytes : Int32} {M_position : Int32} {M_tokenAt : Int32} {M_token : Int64} {M_digits : Int32} {M_number : Int32} {M_faultAt : Int32} {M_readMany : Int32} {M_readWide : Int32} {M_readHigh : Int32} {M_nights : Int32} {M_why : Int32} {M_folds : Int32} {M_square : Nat → Int32} {M_want : Nat → Int32} {M_text : Nat → Int32} {M_read : Nat → Int32} {M_row : Nat → Int32} {M_foldSet : Nat → Int32} {M_foldEdges : Nat → Int64} {M_foldNeeds : Nat → Int32} {M_foldYards : Nat → Int32} {M_least : Nat → Int32} {M_ways : Nat → Int32} {M_price : Nat → Int32} {M_rowBy : Nat → Int32} {M_columnBy : Nat → Int32} {M_rowOf : Nat → Int32} {M_wayBack : Nat → Int32} {M_slack : Nat → Int32} {M_isUsed : Nat → Int32} {M_lifted : Nat → Int32} {M_freed : Nat → Int32} {M_path : Nat → Int32} {p1 : Int32} {Q : Int32 → Prop} (h : wp_X11_isSet p1 M_wide M_high Q) :
    MetI yX11_isSet cX11_isSet 2 (some .boolean) rm_X11_isSet D [(cyI, .int), (cyJ, .long), (cyZ, .boolean)] [.ref a_M, .int p1] (W_Model cyI cyJ cyZ a_M a_M_square a_M_want a_M_text a_M_read a_M_row a_M_foldSet a_M_foldEdges a_M_foldNeeds a_M_foldYards a_M_least a_M_ways a_M_price a_M_rowBy a_M_columnBy a_M_rowOf a_M_wayBack a_M_slack a_M_isUsed a_M_lifted a_M_freed a_M_path M_wide M_high M_hedges M_hurdles M_wants M_rest M_frozen M_bytes M_position M_tokenAt M_token M_digits M_number M_faultAt M_readMany M_readWide M_readHigh M_nights M_why M_folds M_square M_want M_text M_read M_row M_foldSet M_foldEdges M_foldNeeds M_foldYards M_least M_ways M_price M_rowBy M_columnBy M_rowOf M_wayBack M_slack M_isUsed M_lifted M_freed M_path) (fun _ : Unit => (W_Model cyI cyJ cyZ a_M a_M_square a_M_want a_M_text a_M_read a_M_row a_M_foldSet a_M_foldEdges a_M_foldNeeds a_M_foldYards a_M_least a_M_ways a_M_price a_M_rowBy a_M_columnBy a_M_rowOf a_M_wayBack a_M_slack a_M_isUsed a_M_lifted a_M_freed a_M_path M_wide M_high M_hedges M_hurdles M_wants M_rest M_frozen M_bytes M_position M_tokenAt M_token M_digits M_number M_faultAt M_readMany M_readWide M_readHigh M_nights M_why M_folds M_square M_want M_text M_read M_row M_foldSet M_foldEdges M_foldNeeds M_foldYards M_least M_ways M_price M_rowBy M_columnBy M_rowOf M_wayBack M_slack M_isUsed M_lifted M_freed M_path)) (fun v _ => Q v ) := by
  unfold wp_X11_isSet at h
  refine metZ_of (by decide) (Nat.le_of_ble_eq_true rfl) (fun x cx0 hR0 => ?_)
  have cx : Cx x cX11_isSet 2 RX11 rm_X11_isSet D [(cyI, .int), (cyJ, .long), (cyZ, .boolean)] := cx0
  have hR : ∀ (v : Int32) (pc : Nat) (lv : List (Nat × Value)), decode cX11_isSet pc = .ok (.ireturn, 1) → (v = 0 ∨ v = 1) → Q v → J x 0 0 2 (W_Model cyI cyJ cyZ a_M a_M_square a_M_want a_M_text a_M_read a_M_row a_M_foldSet a_M_foldEdges a_M_foldNeeds a_M_foldYards a_M_least a_M_ways a_M_price a_M_rowBy a_M_columnBy a_M_rowOf a_M_wayBack a_M_slack a_M_isUsed a_M_lifted a_M_freed a_M_path M_wide M_high M_hedges M_hurdles M_wants M_rest M_frozen M_bytes M_position M_tokenAt M_token M_digits M_number M_faultAt M_readMany M_readWide M_readHigh M_nights M_why M_folds M_square M_want M_text M_read M_row M_foldSet M_foldEdges M_foldNeeds M_foldYards M_least M_ways M_price M_rowBy M_columnBy M_rowOf M_wayBack M_slack M_isUsed M_lifted M_freed M_path) lv pc [.int v] := (fun v pc lv d hz hq => hR0 v () pc lv d hz hq)
  show J x 0 0 2 (W_Model cyI cyJ cyZ a_M a_M_square a_M_want a_M_text a_M_read a_M_row a_M_foldSet a_M_foldEdges a_M_foldNeeds a_M_foldYards a_M_least a_M_ways a_M_price a_M_rowBy a_M_columnBy a_M_rowOf a_M_wayBack a_M_slack a_M_isUsed a_M_lifted a_M_freed a_M_path M_wide M_high M_hedges M_hurdles M_wants M_rest M_frozen M_bytes M_position M_tokenAt M_token M_digits M_number M_faultAt M_readMany M_readWide M_readHigh M_nights M_why M_folds M_square M_want M_text M_read M_row M_foldSet M_foldEdges M_foldNeeds M_foldYards M_least M_ways M_price M_rowBy M_columnBy M_rowOf M_wayBack M_slack M_isUsed M_lifted M_freed M_path) [(0, .ref a_M), (1, .int p1)] 0 []
  refine j_iload_n cx 1 rfl rfl dX11_isSet_0 (pn := 1) rfl ?_
  refine j_iconst cx (v := 0) (by decide) dX11_isSet_1 (pn := 2) rfl ?_
  refine j_iconst cx (v := 1) (by decide) dX11_isSet_2 (pn := 3) rfl ?_
  refine j_aload_n cx 0 rfl rfl dX11_isSet_3 (pn := 4) rfl ?_
  refine j_callvI0 cx q_inst_X11_squares q_sel_X11_squares (b := a_M) (As := []) (rest := [.int 1, .int 0, .int p1]) (c_X11_squares h) ⟨q_code_X11_squares, q_ml_X11_86, q_init_X11, hd_X11_squares, ⟨Nat.le_of_ble_eq_true rfl, Nat.le_of_ble_eq_true rfl⟩, Nat.le_of_ble_eq_true rfl, Nat.le_of_ble_eq_true rfl⟩ (q0 := 0) rfl rfl rfl rfl (Nat.le_of_ble_eq_true rfl) dX11_isSet_4 (pn := 7) rfl (fun r1 _ h => ?_)
  show J x 0 0 2 (W_Model cyI cyJ cyZ a_M a_M_square a_M_want a_M_text a_M_read a_M_row a_M_foldSet a_M_foldEdges a_M_foldNeeds a_M_foldYards a_M_least a_M_ways a_M_price a_M_rowBy a_M_columnBy a_M_rowOf a_M_wayBack a_M_slack a_M_isUsed a_M_lifted a_M_freed a_M_path M_wide M_high M_hedges M_hurdles M_wants M_rest M_frozen M_bytes M_position M_tokenAt M_token M_digits M_number M_faultAt M_readMany M_readWide M_readHigh M_nights M_why M_folds M_square M_want M_text M_read M_row M_foldSet M_foldEdges M_foldNeeds M_foldYards M_least M_ways M_price M_rowBy M_columnBy M_rowOf M_wayBack M_slack M_isUsed M_lifted M_freed M_path) [(0, .ref a_M), (1, .int p1)] 7 [.int r1, .int 1, .int 0, .int p1]
  refine j_ishl cx dX11_isSet_7 (pn := 8) rfl ?_
  refine j_iconst cx (v := 1) (by decide) dX11_isSet_8 (pn := 9) rfl ?_
  refine j_isub cx dX11_isSet_9 (pn := 10) rfl ?_
  refine j_calleI cx q_stat_X11_in (As := [.int p1, .int 0, .int ((1 <<< (r1 &&& 31)) - 1)]) (rest := []) (c_X11_in h) ⟨q_code_X11_in, q_ml_X11_90, q_init_X11, hd_X11_in, ⟨Nat.le_of_ble_eq_true rfl, Nat.le_of_ble_eq_true rfl⟩, Nat.le_of_ble_eq_true rfl, Nat.le_of_ble_eq_true rfl⟩ rfl rfl (Nat.le_of_ble_eq_true rfl) dX11_isSet_10 (pn := 13) rfl (fun r2 h => ?_)
  show J x 0 0 2 (W_Model cyI cyJ cyZ a_M a_M_square a_M_want a_M_text a_M_read a_M_row a_M_foldSet a_M_foldEdges a_M_foldNeeds a_M_foldYards a_M_least a_M_ways a_M_price a_M_rowBy a_M_columnBy a_M_rowOf a_M_wayBack a_M_slack a_M_isUsed a_M_lifted a_M_freed a_M_path M_wide M_high M_hedges M_hurdles M_wants M_rest M_frozen M_bytes M_position M_tokenAt M_token M_digits M_number M_faultAt M_readMany M_readWide M_readHigh M_nights M_why M_folds M_square M_want M_text M_read M_row M_foldSet M_foldEdges M_foldNeeds M_foldYards M_least M_ways M_price M_rowBy M_columnBy M_rowOf M_wayBack M_slack M_isUsed M_lifted M_freed M_path) [(0, .ref a_M), (1, .int p1)] 13 [.int r2]
  exact hR r2 13 _ dX11_isSet_13 h.1 h.2
theorem dX11_write_0 : decode cX11_write 0 = .ok (.iload_n 3, 1) := by decide +kernel
theorem dX11_write_1 : decode cX11_write 1 = .ok (.iconst 1, 1) := by decide +kernel
theorem dX11_write_2 : decode cX11_write 2 = .ok (.bipush 8, 2) := by decide +kernel
theorem dX11_write_4 : decode cX11_write 4 = .ok (.invokestatic 90, 3) := by decide +kernel
theorem dX11_write_7 : decode cX11_write 7 = .ok (.ifCond .ne 6, 3) := by decide +kernel
theorem dX11_write_10 : decode cX11_write 10 = .ok (.bipush (-3), 2) := by decide +kernel
theorem dX11_write_12 : decode cX11_write 12 = .ok (.ireturn, 1) := by decide +kernel
theorem dX11_write_13 : decode cX11_write 13 = .ok (.aload_n 0, 1) := by decide +kernel
theorem dX11_write_14 : decode cX11_write 14 = .ok (.getfield 94, 3) := by decide +kernel
theorem dX11_write_17 : decode cX11_write 17 = .ok (.iload_n 3, 1) := by decide +kernel
theorem dX11_write_18 : decode cX11_write 18 = .ok (.iadd, 1) := by decide +kernel
theorem dX11_write_19 : decode cX11_write 19 = .ok (.sipush 200, 3) := by decide +kernel
theorem dX11_write_22 : decode cX11_write 22 = .ok (.if_icmp .le 6, 3) := by decide +kernel
theorem dX11_write_25 : decode cX11_write 25 = .ok (.bipush (-5), 2) := by decide +kernel
theorem dX11_write_27 : decode cX11_write 27 = .ok (.ireturn, 1) := by decide +kernel
theorem dX11_write_28 : decode cX11_write 28 = .ok (.iconst 0, 1) := by decide +kernel
theorem dX11_write_29 : decode cX11_write 29 = .ok (.istore 4, 2) := by decide +kernel
theorem dX11_write_31 : decode cX11_write 31 = .ok (.iload 4, 2) := by decide +kernel
theorem dX11_write_33 : decode cX11_write 33 = .ok (.iload_n 3, 1) := by decide +kernel
theorem dX11_write_34 : decode cX11_write 34 = .ok (.if_icmp .ge 33, 3) := by decide +kernel
theorem dX11_write_37 : decode cX11_write 37 = .ok (.aload_n 0, 1) := by decide +kernel
theorem dX11_write_38 : decode cX11_write 38 = .ok (.getfield 26, 3) := by decide +kernel
theorem dX11_write_41 : decode cX11_write 41 = .ok (.aload_n 0, 1) := by decide +kernel
theorem dX11_write_42 : decode cX11_write 42 = .ok (.getfield 94, 3) := by decide +kernel
theorem dX11_write_45 : decode cX11_write 45 = .ok (.iload 4, 2) := by decide +kernel
theorem dX11_write_47 : decode cX11_write 47 = .ok (.iadd, 1) := by decide +kernel
theorem dX11_write_48 : decode cX11_write 48 = .ok (.lload_n 1, 1) := by decide +kernel
theorem dX11_write_49 : decode cX11_write 49 = .ok (.bipush 8, 2) := by decide +kernel
theorem dX11_write_51 : decode cX11_write 51 = .ok (.iload 4, 2) := by decide +kernel
theorem dX11_write_53 : decode cX11_write 53 = .ok (.imul, 1) := by decide +kernel
theorem dX11_write_54 : decode cX11_write 54 = .ok (.lshr, 1) := by decide +kernel
theorem dX11_write_55 : decode cX11_write 55 = .ok (.ldc2_w 97, 3) := by decide +kernel
theorem dX11_write_58 : decode cX11_write 58 = .ok (.land, 1) := by decide +kernel
theorem dX11_write_59 : decode cX11_write 59 = .ok (.l2i, 1) := by decide +kernel
theorem dX11_write_60 : decode cX11_write 60 = .ok (.iastore, 1) := by decide +kernel
theorem dX11_write_61 : decode cX11_write 61 = .ok (.iinc 4 1, 3) := by decide +kernel
theorem dX11_write_64 : decode cX11_write 64 = .ok (.goto (-33), 3) := by decide +kernel
theorem dX11_write_67 : decode cX11_write 67 = .ok (.aload_n 0, 1) := by decide +kernel
theorem dX11_write_68 : decode cX11_write 68 = .ok (.dup, 1) := by decide +kernel
theorem dX11_write_69 : decode cX11_write 69 = .ok (.getfield 94, 3) := by decide +kernel
theorem dX11_write_72 : decode cX11_write 72 = .ok (.iload_n 3, 1) := by decide +kernel
theorem dX11_write_73 : decode cX11_write 73 = .ok (.iadd, 1) := by decide +kernel
theorem dX11_write_74 : decode cX11_write 74 = .ok (.putfield 94, 3) := by decide +kernel
theorem dX11_write_77 : decode cX11_write 77 = .ok (.aload_n 0, 1) := by decide +kernel
theorem dX11_write_78 : decode cX11_write 78 = .ok (.getfield 94, 3) := by decide +kernel
theorem dX11_write_81 : decode cX11_write 81 = .ok (.ireturn, 1) := by decide +kernel
abbrev rm_X11_write : Room := { frames := 1, cells := 0, slots := 0, locals := 22 }
theorem hd_X11_write : yX11_write.cls ≠ "java/lang/invoke/MethodHandle" ∧ yX11_write.cls ≠ "java/lang/invoke/VarHandle" ∧ (parseMethodDescriptor yX11_write.desc).map (fun d => d.parameters.length) = some 2 := by decide +kernel
def bd_X11_write_31 (Q : Int32 → (Int32 × (Nat → Int32)) → Prop) (B31 : (Nat → Int32) → Int32 → Prop) (p1 : Int64) (p3 : Int32) (M_bytes : Int32) (M_text : Nat → Int32) (x4 : Int32) : Prop :=
((p3 ≤ x4 → ∀ y5 : Int32, y5 = (M_bytes + p3) →
Q y5 (y5, M_text)) ∧
(¬ p3 ≤ x4 → ∀ y6 : Int32, y6 = (((p1 >>> ((8 * x4).toInt64 &&& 63)) &&& 255).toInt32) →
vp_in (M_bytes + x4) 200 ∧ (∀ f7 : Nat → Int32, f7 = (upd M_text (M_bytes + x4).toNatClampNeg y6) →
∀ y8 : Int32, y8 = (x4 + 1) →
B31 f7 y8)))
def lp_X11_write_31 (Q : Int32 → (Int32 × (Nat → Int32)) → Prop) (p1 : Int64) (p3 : Int32) (M_bytes : Int32) (M_text : Nat → Int32) (x4 : Int32) : Prop :=
∃ I : Nat → (Nat → Int32) → Int32 → Prop, (∃ n, I n M_text x4) ∧ ∀ n M_text x4, I n M_text x4 → bd_X11_write_31 Q  (fun M_text' x4' => ∃ n', n' < n ∧ I n' M_text' x4') p1 p3 M_bytes M_text x4
def wp_X11_write (p1 : Int64) (p3 : Int32) (M_bytes : Int32) (M_text : Nat → Int32) (Q : Int32 → (Int32 × (Nat → Int32)) → Prop) : Prop :=
wp_X11_in p3 1 8 (fun (r1 : Int32) => ((¬ r1 = 0 → (((M_bytes + p3) ≤ 200 → lp_X11_write_31 Q p1 p3 M_bytes M_text 0) ∧
(¬ (M_bytes + p3) ≤ 200 → Q (-5) (M_bytes, M_text)))) ∧
(r1 = 0 → Q (-3) (M_bytes, M_text))))
set_option maxHeartbeats 4000000 in
set_option maxRecDepth 100000 in
theorem B_X11_write_31 {x : CX} {D : DG} {cyI cyJ cyZ : ClassId} {a_M a_M_square a_M_want a_M_text a_M_read a_M_row a_M_foldSet a_M_foldEdges a_M_foldNeeds a_M_foldYards a_M_least a_M_ways a_M_price a_M_rowBy a_M_columnBy a_M_rowOf a_M_wayBack a_M_slack a_M_isUsed a_M_lifted a_M_freed a_M_path : Nat} {M_wide : Int32} {M_high : Int32} {M_hedges : Int64} {M_hurdles : Int32} {M_wants : Int32} {M_rest : Int32} {M_frozen : Int32} {M_bytes : Int32} {M_position : Int32} {M_tokenAt : Int32} {M_token : Int64} {M_digits : Int32} {M_number : Int32} {M_faultAt : Int32} {M_readMany : Int32} {M_readWide : Int32} {M_readHigh : Int32} {M_nights : Int32} {M_why : Int32} {M_folds : Int32} {M_square : Nat → Int32} {M_want : Nat → Int32} {M_text : Nat → Int32} {M_read : Nat → Int32} {M_row : Nat → Int32} {M_foldSet : Nat → Int32} {M_foldEdges : Nat → Int64} {M_foldNeeds : Nat → Int32} {M_foldYards : Nat → Int32} {M_least : Nat → Int32} {M_ways : Nat → Int32} {M_price : Nat → Int32} {M_rowBy : Nat → Int32} {M_columnBy : Nat → Int32} {M_rowOf : Nat → Int32} {M_wayBack : Nat → Int32} {M_slack : Nat → Int32} {M_isUsed : Nat → Int32} {M_lifted : Nat → Int32} {M_freed : Nat → Int32} {M_path : Nat → Int32} {p1 : Int64} {p3 : Int32} {x4 : Int32} {Q : Int32 → (Int32 × (Nat → Int32)) → Prop} {B31 : (Nat → Int32) → Int32 → Prop} (cx : Cx x cX11_write 5 RX11 rm_X11_write D [(cyI, .int), (cyJ, .long), (cyZ, .boolean)]) (hR : ∀ (v : Int32) (u : Int32 × (Nat → Int32)) (pc : Nat) (lv : List (Nat × Value)), decode cX11_write pc = .ok (.ireturn, 1) → Q v u → J x 0 0 5 (W_Model cyI cyJ cyZ a_M a_M_square a_M_want a_M_text a_M_read a_M_row a_M_foldSet a_M_foldEdges a_M_foldNeeds a_M_foldYards a_M_least a_M_ways a_M_price a_M_rowBy a_M_columnBy a_M_rowOf a_M_wayBack a_M_slack a_M_isUsed a_M_lifted a_M_freed a_M_path M_wide M_high M_hedges M_hurdles M_wants M_rest M_frozen u.1 M_position M_tokenAt M_token M_digits M_number M_faultAt M_readMany M_readWide M_readHigh M_nights M_why M_folds M_square M_want u.2 M_read M_row M_foldSet M_foldEdges M_foldNeeds M_foldYards M_least M_ways M_price M_rowBy M_columnBy M_rowOf M_wayBack M_slack M_isUsed M_lifted M_freed M_path) lv pc [.int v]) (hB31 : ∀ (M_text : Nat → Int32) (x4 : Int32), B31 M_text x4 → J x 0 0 5 (W_Model cyI cyJ cyZ a_M a_M_square a_M_want a_M_text a_M_read a_M_row a_M_foldSet a_M_foldEdges a_M_foldNeeds a_M_foldYards a_M_least a_M_ways a_M_price a_M_rowBy a_M_columnBy a_M_rowOf a_M_wayBack a_M_slack a_M_isUsed a_M_lifted a_M_freed a_M_path M_wide M_high M_hedges M_hurdles M_wants M_rest M_frozen M_bytes M_position M_tokenAt M_token M_digits M_number M_faultAt M_readMany M_readWide M_readHigh M_nights M_why M_folds M_square M_want M_text M_read M_row M_foldSet M_foldEdges M_foldNeeds M_foldYards M_least M_ways M_price M_rowBy M_columnBy M_rowOf M_wayBack M_slack M_isUsed M_lifted M_freed M_path) [(0, .ref a_M), (1, .long p1), (3, .int p3), (4, .int x4)] 31 []) (h : bd_X11_write_31 Q B31 p1 p3 M_bytes M_text x4) :
    J x 0 0 5 (W_Model cyI cyJ cyZ a_M a_M_square a_M_want a_M_text a_M_read a_M_row a_M_foldSet a_M_foldEdges a_M_foldNeeds a_M_foldYards a_M_least a_M_ways a_M_price a_M_rowBy a_M_columnBy a_M_rowOf a_M_wayBack a_M_slack a_M_isUsed a_M_lifted a_M_freed a_M_path M_wide M_high M_hedges M_hurdles M_wants M_rest M_frozen M_bytes M_position M_tokenAt M_token M_digits M_number M_faultAt M_readMany M_readWide M_readHigh M_nights M_why M_folds M_square M_want M_text M_read M_row M_foldSet M_foldEdges M_foldNeeds M_foldYards M_least M_ways M_price M_rowBy M_columnBy M_rowOf M_wayBack M_slack M_isUsed M_lifted M_freed M_path) [(0, .ref a_M), (1, .long p1), (3, .int p3), (4, .int x4)] 31 [] := by
  unfold bd_X11_write_31 at h
  refine j_iload cx 3 rfl dX11_write_31 (pn := 33) rfl ?_
  refine j_iload_n cx 2 rfl rfl dX11_write_33 (pn := 34) rfl ?_
  refine j_icmp_ge cx 67 dX11_write_34 (pn := 37) rfl rfl (fun c4 => ?_) (fun c4 => ?_)
  · have h := h.1 c4
    refine j_aload_n cx 0 rfl rfl dX11_write_67 (pn := 68) rfl ?_
    refine j_dup cx rfl dX11_write_68 (pn := 69) rfl ?_
    refine j_get cx inGX11 0 rfl rfl 9 (by decide) q_fl_X11_94 rfl rfl dX11_write_69 (pn := 72) rfl ?_
    refine j_iload_n cx 2 rfl rfl dX11_write_72 (pn := 73) rfl ?_
    refine j_iadd cx dX11_write_73 (pn := 74) rfl ?_
    refine j_topi (fun y5 ey5 => ?_)
    have h := h y5 ey5
    refine j_put cx tyX11 tyX11_ok nmX11 inGX11 0 rfl rfl 9 (by decide) q_fl_X11_94 rfl rfl rfl rfl rfl (Nat.le_of_ble_eq_true rfl) (W_Model cyI cyJ cyZ a_M a_M_square a_M_want a_M_text a_M_read a_M_row a_M_foldSet a_M_foldEdges a_M_foldNeeds a_M_foldYards a_M_least a_M_ways a_M_price a_M_rowBy a_M_columnBy a_M_rowOf a_M_wayBack a_M_slack a_M_isUsed a_M_lifted a_M_freed a_M_path M_wide M_high M_hedges M_hurdles M_wants M_rest M_frozen y5 M_position M_tokenAt M_token M_digits M_number M_faultAt M_readMany M_readWide M_readHigh M_nights M_why M_folds M_square M_want M_text M_read M_row M_foldSet M_foldEdges M_foldNeeds M_foldYards M_least M_ways M_price M_rowBy M_columnBy M_rowOf M_wayBack M_slack M_isUsed M_lifted M_freed M_path) rfl dX11_write_74 (pn := 77) rfl ?_
    refine j_aload_n cx 0 rfl rfl dX11_write_77 (pn := 78) rfl ?_
    refine j_get cx inGX11 0 rfl rfl 9 (by decide) q_fl_X11_94 rfl rfl dX11_write_78 (pn := 81) rfl ?_
    exact hR y5 (y5, M_text) 81 _ dX11_write_81 h
  · have h := h.2 c4
    refine j_aload_n cx 0 rfl rfl dX11_write_37 (pn := 38) rfl ?_
    refine j_get cx inGX11 0 rfl rfl 10 (by decide) q_fl_X11_26 rfl rfl dX11_write_38 (pn := 41) rfl ?_
    refine j_aload_n cx 0 rfl rfl dX11_write_41 (pn := 42) rfl ?_
    refine j_get cx inGX11 0 rfl rfl 9 (by decide) q_fl_X11_94 rfl rfl dX11_write_42 (pn := 45) rfl ?_
    refine j_iload cx 3 rfl dX11_write_45 (pn := 47) rfl ?_
    refine j_iadd cx dX11_write_47 (pn := 48) rfl ?_
    refine j_lload_n cx 1 rfl rfl dX11_write_48 (pn := 49) rfl ?_
    refine j_bipush cx (v := 8) (by decide) dX11_write_49 (pn := 51) rfl ?_
    refine j_iload cx 3 rfl dX11_write_51 (pn := 53) rfl ?_
    refine j_imul cx dX11_write_53 (pn := 54) rfl ?_
    refine j_lshr cx dX11_write_54 (pn := 55) rfl ?_
    refine j_ldc2 cx q_cl_X11_97 dX11_write_55 (pn := 58) rfl ?_
    refine j_land cx dX11_write_58 (pn := 59) rfl ?_
    refine j_l2i cx dX11_write_59 (pn := 60) rfl ?_
    refine j_topi (fun y6 ey6 => ?_)
    have h := h y6 ey6
    have hin := h.1
    obtain ⟨f7, ef7⟩ : ∃ z, z = upd M_text (M_bytes + x4).toNatClampNeg y6 := ⟨_, rfl⟩
    have h := h.2 f7 ef7
    refine j_iast cx 3 0 rfl rfl hin (W_Model cyI cyJ cyZ a_M a_M_square a_M_want a_M_text a_M_read a_M_row a_M_foldSet a_M_foldEdges a_M_foldNeeds a_M_foldYards a_M_least a_M_ways a_M_price a_M_rowBy a_M_columnBy a_M_rowOf a_M_wayBack a_M_slack a_M_isUsed a_M_lifted a_M_freed a_M_path M_wide M_high M_hedges M_hurdles M_wants M_rest M_frozen M_bytes M_position M_tokenAt M_token M_digits M_number M_faultAt M_readMany M_readWide M_readHigh M_nights M_why M_folds M_square M_want f7 M_read M_row M_foldSet M_foldEdges M_foldNeeds M_foldYards M_least M_ways M_price M_rowBy M_columnBy M_rowOf M_wayBack M_slack M_isUsed M_lifted M_freed M_path) (by subst ef7; rfl) dX11_write_60 (pn := 61) rfl ?_
    obtain ⟨y8, ey8⟩ : ∃ z : Int32, z = x4 + 1 := ⟨_, rfl⟩
    have h := h y8 ey8
    refine j_iinc cx 3 rfl (cst := 1) (by decide) ey8 [(4, .int y8), (0, .ref a_M), (1, .long p1), (3, .int p3)] (by decide) rfl dX11_write_61 (pn := 64) rfl ?_
    refine j_goto cx 31 dX11_write_64 rfl ?_
    refine j_sub [1, 2, 3, 0] [(0, .ref a_M), (1, .long p1), (3, .int p3), (4, .int y8)] rfl ?_
    exact hB31 _ _ h
set_option maxHeartbeats 4000000 in
set_option maxRecDepth 100000 in
theorem J_X11_write_31 {x : CX} {D : DG} {cyI cyJ cyZ : ClassId} {a_M a_M_square a_M_want a_M_text a_M_read a_M_row a_M_foldSet a_M_foldEdges a_M_foldNeeds a_M_foldYards a_M_least a_M_ways a_M_price a_M_rowBy a_M_columnBy a_M_rowOf a_M_wayBack a_M_slack a_M_isUsed a_M_lifted a_M_freed a_M_path : Nat} {M_wide : Int32} {M_high : Int32} {M_hedges : Int64} {M_hurdles : Int32} {M_wants : Int32} {M_rest : Int32} {M_frozen : Int32} {M_bytes : Int32} {M_position : Int32} {M_tokenAt : Int32} {M_token : Int64} {M_digits : Int32} {M_number : Int32} {M_faultAt : Int32} {M_readMany : Int32} {M_readWide : Int32} {M_readHigh : Int32} {M_nights : Int32} {M_why : Int32} {M_folds : Int32} {M_square : Nat → Int32} {M_want : Nat → Int32} {M_text : Nat → Int32} {M_read : Nat → Int32} {M_row : Nat → Int32} {M_foldSet : Nat → Int32} {M_foldEdges : Nat → Int64} {M_foldNeeds : Nat → Int32} {M_foldYards : Nat → Int32} {M_least : Nat → Int32} {M_ways : Nat → Int32} {M_price : Nat → Int32} {M_rowBy : Nat → Int32} {M_columnBy : Nat → Int32} {M_rowOf : Nat → Int32} {M_wayBack : Nat → Int32} {M_slack : Nat → Int32} {M_isUsed : Nat → Int32} {M_lifted : Nat → Int32} {M_freed : Nat → Int32} {M_path : Nat → Int32} {p1 : Int64} {p3 : Int32} {x4 : Int32} {Q : Int32 → (Int32 × (Nat → Int32)) → Prop} (cx : Cx x cX11_write 5 RX11 rm_X11_write D [(cyI, .int), (cyJ, .long), (cyZ, .boolean)]) (hR : ∀ (v : Int32) (u : Int32 × (Nat → Int32)) (pc : Nat) (lv : List (Nat × Value)), decode cX11_write pc = .ok (.ireturn, 1) → Q v u → J x 0 0 5 (W_Model cyI cyJ cyZ a_M a_M_square a_M_want a_M_text a_M_read a_M_row a_M_foldSet a_M_foldEdges a_M_foldNeeds a_M_foldYards a_M_least a_M_ways a_M_price a_M_rowBy a_M_columnBy a_M_rowOf a_M_wayBack a_M_slack a_M_isUsed a_M_lifted a_M_freed a_M_path M_wide M_high M_hedges M_hurdles M_wants M_rest M_frozen u.1 M_position M_tokenAt M_token M_digits M_number M_faultAt M_readMany M_readWide M_readHigh M_nights M_why M_folds M_square M_want u.2 M_read M_row M_foldSet M_foldEdges M_foldNeeds M_foldYards M_least M_ways M_price M_rowBy M_columnBy M_rowOf M_wayBack M_slack M_isUsed M_lifted M_freed M_path) lv pc [.int v]) (h : lp_X11_write_31 Q  p1 p3 M_bytes M_text x4) :
    J x 0 0 5 (W_Model cyI cyJ cyZ a_M a_M_square a_M_want a_M_text a_M_read a_M_row a_M_foldSet a_M_foldEdges a_M_foldNeeds a_M_foldYards a_M_least a_M_ways a_M_price a_M_rowBy a_M_columnBy a_M_rowOf a_M_wayBack a_M_slack a_M_isUsed a_M_lifted a_M_freed a_M_path M_wide M_high M_hedges M_hurdles M_wants M_rest M_frozen M_bytes M_position M_tokenAt M_token M_digits M_number M_faultAt M_readMany M_readWide M_readHigh M_nights M_why M_folds M_square M_want M_text M_read M_row M_foldSet M_foldEdges M_foldNeeds M_foldYards M_least M_ways M_price M_rowBy M_columnBy M_rowOf M_wayBack M_slack M_isUsed M_lifted M_freed M_path) [(0, .ref a_M), (1, .long p1), (3, .int p3), (4, .int x4)] 31 [] := by
  obtain ⟨I, ⟨n, h0⟩, hb⟩ := h
  revert M_text x4
  induction n using Nat.strongRecOn with
  | _ n ih =>
    intro M_text x4 h0
    exact B_X11_write_31 cx hR (fun _ _ hz => by obtain ⟨n2, hlt, hI⟩ := hz; exact ih n2 hlt hI) (hb n M_text x4 h0)
set_option maxHeartbeats 4000000 in
set_option maxRecDepth 100000 in
theorem c_X11_write {D : DG} {cyI cyJ cyZ : ClassId} {a_M a_M_square a_M_want a_M_text a_M_read a_M_row a_M_foldSet a_M_foldEdges a_M_foldNeeds a_M_foldYards a_M_least a_M_ways a_M_price a_M_rowBy a_M_columnBy a_M_rowOf a_M_wayBack a_M_slack a_M_isUsed a_M_lifted a_M_freed a_M_path : Nat} {M_wide : Int32} {M_high : Int32} {M_hedges : Int64} {M_hurdles : Int32} {M_wants : Int32} {M_rest : Int32} {M_frozen : Int32} {M_bytes : Int32} {M_position : Int32} {M_tokenAt : Int32} {M_token : Int64} {M_digits : Int32} {M_number : Int32} {M_faultAt : Int32} {M_readMany : Int32} {M_readWide : Int32} {M_readHigh : Int32} {M_nights : Int32} {M_why : Int32} {M_folds : Int32} {M_square : Nat → Int32} {M_want : Nat → Int32} {M_text : Nat → Int32} {M_read : Nat → Int32} {M_row : Nat → Int32} {M_foldSet : Nat → Int32} {M_foldEdges : Nat → Int64} {M_foldNeeds : Nat → Int32} {M_foldYards : Nat → Int32} {M_least : Nat → Int32} {M_ways : Nat → Int32} {M_price : Nat → Int32} {M_rowBy : Nat → Int32} {M_columnBy : Nat → Int32} {M_rowOf : Nat → Int32} {M_wayBack : Nat → Int32} {M_slack : Nat → Int32} {M_isUsed : Nat → Int32} {M_lifted : Nat → Int32} {M_freed : Nat → Int32} {M_path : Nat → Int32} {p1 : Int64} {p3 : Int32} {Q : Int32 → (Int32 × (Nat → Int32)) → Prop} (h : wp_X11_write p1 p3 M_bytes M_text Q) :
    MetI yX11_write cX11_write 5 (some .int) rm_X11_write D [(cyI, .int), (cyJ, .long), (cyZ, .boolean)] [.ref a_M, .long p1, .int p3] (W_Model cyI cyJ cyZ a_M a_M_square a_M_want a_M_text a_M_read a_M_row a_M_foldSet a_M_foldEdges a_M_foldNeeds a_M_foldYards a_M_least a_M_ways a_M_price a_M_rowBy a_M_columnBy a_M_rowOf a_M_wayBack a_M_slack a_M_isUsed a_M_lifted a_M_freed a_M_path M_wide M_high M_hedges M_hurdles M_wants M_rest M_frozen M_bytes M_position M_tokenAt M_token M_digits M_number M_faultAt M_readMany M_readWide M_readHigh M_nights M_why M_folds M_square M_want M_text M_read M_row M_foldSet M_foldEdges M_foldNeeds M_foldYards M_least M_ways M_price M_rowBy M_columnBy M_rowOf M_wayBack M_slack M_isUsed M_lifted M_freed M_path) (fun u : Int32 × (Nat → Int32) => (W_Model cyI cyJ cyZ a_M a_M_square a_M_want a_M_text a_M_read a_M_row a_M_foldSet a_M_foldEdges a_M_foldNeeds a_M_foldYards a_M_least a_M_ways a_M_price a_M_rowBy a_M_columnBy a_M_rowOf a_M_wayBack a_M_slack a_M_isUsed a_M_lifted a_M_freed a_M_path M_wide M_high M_hedges M_hurdles M_wants M_rest M_frozen u.1 M_position M_tokenAt M_token M_digits M_number M_faultAt M_readMany M_readWide M_readHigh M_nights M_why M_folds M_square M_want u.2 M_read M_row M_foldSet M_foldEdges M_foldNeeds M_foldYards M_least M_ways M_price M_rowBy M_columnBy M_rowOf M_wayBack M_slack M_isUsed M_lifted M_freed M_path)) (fun v u => Q v u) := by
  unfold wp_X11_write at h
  refine metI_of (by decide) (Nat.le_of_ble_eq_true rfl) (fun x cx0 hR0 => ?_)
  have cx : Cx x cX11_write 5 RX11 rm_X11_write D [(cyI, .int), (cyJ, .long), (cyZ, .boolean)] := cx0
  have hR : ∀ (v : Int32) (u : Int32 × (Nat → Int32)) (pc : Nat) (lv : List (Nat × Value)), decode cX11_write pc = .ok (.ireturn, 1) → Q v u → J x 0 0 5 (W_Model cyI cyJ cyZ a_M a_M_square a_M_want a_M_text a_M_read a_M_row a_M_foldSet a_M_foldEdges a_M_foldNeeds a_M_foldYards a_M_least a_M_ways a_M_price a_M_rowBy a_M_columnBy a_M_rowOf a_M_wayBack a_M_slack a_M_isUsed a_M_lifted a_M_freed a_M_path M_wide M_high M_hedges M_hurdles M_wants M_rest M_frozen u.1 M_position M_tokenAt M_token M_digits M_number M_faultAt M_readMany M_readWide M_readHigh M_nights M_why M_folds M_square M_want u.2 M_read M_row M_foldSet M_foldEdges M_foldNeeds M_foldYards M_least M_ways M_price M_rowBy M_columnBy M_rowOf M_wayBack M_slack M_isUsed M_lifted M_freed M_path) lv pc [.int v] := (fun v u pc lv d hq => hR0 v u pc lv d hq)
  show J x 0 0 5 (W_Model cyI cyJ cyZ a_M a_M_square a_M_want a_M_text a_M_read a_M_row a_M_foldSet a_M_foldEdges a_M_foldNeeds a_M_foldYards a_M_least a_M_ways a_M_price a_M_rowBy a_M_columnBy a_M_rowOf a_M_wayBack a_M_slack a_M_isUsed a_M_lifted a_M_freed a_M_path M_wide M_high M_hedges M_hurdles M_wants M_rest M_frozen M_bytes M_position M_tokenAt M_token M_digits M_number M_faultAt M_readMany M_readWide M_readHigh M_nights M_why M_folds M_square M_want M_text M_read M_row M_foldSet M_foldEdges M_foldNeeds M_foldYards M_least M_ways M_price M_rowBy M_columnBy M_rowOf M_wayBack M_slack M_isUsed M_lifted M_freed M_path) [(0, .ref a_M), (1, .long p1), (3, .int p3)] 0 []
  refine j_iload_n cx 2 rfl rfl dX11_write_0 (pn := 1) rfl ?_
  refine j_iconst cx (v := 1) (by decide) dX11_write_1 (pn := 2) rfl ?_
  refine j_bipush cx (v := 8) (by decide) dX11_write_2 (pn := 4) rfl ?_
  refine j_calleI cx q_stat_X11_in (As := [.int p3, .int 1, .int 8]) (rest := []) (c_X11_in h) ⟨q_code_X11_in, q_ml_X11_90, q_init_X11, hd_X11_in, ⟨Nat.le_of_ble_eq_true rfl, Nat.le_of_ble_eq_true rfl⟩, Nat.le_of_ble_eq_true rfl, Nat.le_of_ble_eq_true rfl⟩ rfl rfl (Nat.le_of_ble_eq_true rfl) dX11_write_4 (pn := 7) rfl (fun r1 h => ?_)
  show J x 0 0 5 (W_Model cyI cyJ cyZ a_M a_M_square a_M_want a_M_text a_M_read a_M_row a_M_foldSet a_M_foldEdges a_M_foldNeeds a_M_foldYards a_M_least a_M_ways a_M_price a_M_rowBy a_M_columnBy a_M_rowOf a_M_wayBack a_M_slack a_M_isUsed a_M_lifted a_M_freed a_M_path M_wide M_high M_hedges M_hurdles M_wants M_rest M_frozen M_bytes M_position M_tokenAt M_token M_digits M_number M_faultAt M_readMany M_readWide M_readHigh M_nights M_why M_folds M_square M_want M_text M_read M_row M_foldSet M_foldEdges M_foldNeeds M_foldYards M_least M_ways M_price M_rowBy M_columnBy M_rowOf M_wayBack M_slack M_isUsed M_lifted M_freed M_path) [(0, .ref a_M), (1, .long p1), (3, .int p3)] 7 [.int r1]
  refine j_if_ne cx 13 dX11_write_7 (pn := 10) rfl rfl (fun c2 => ?_) (fun c2 => ?_)
  · have h := h.1 c2
    refine j_aload_n cx 0 rfl rfl dX11_write_13 (pn := 14) rfl ?_
    refine j_get cx inGX11 0 rfl rfl 9 (by decide) q_fl_X11_94 rfl rfl dX11_write_14 (pn := 17) rfl ?_
    refine j_iload_n cx 2 rfl rfl dX11_write_17 (pn := 18) rfl ?_
    refine j_iadd cx dX11_write_18 (pn := 19) rfl ?_
    refine j_sipush cx (v := 200) (by decide) dX11_write_19 (pn := 22) rfl ?_
    refine j_icmp_le cx 28 dX11_write_22 (pn := 25) rfl rfl (fun c3 => ?_) (fun c3 => ?_)
    · have h := h.1 c3
      refine j_iconst cx (v := 0) (by decide) dX11_write_28 (pn := 29) rfl ?_
      refine j_istore cx [(4, .int 0), (0, .ref a_M), (1, .long p1), (3, .int p3)] (by decide) rfl dX11_write_29 (pn := 31) rfl ?_
      refine j_sub [1, 2, 3, 0] [(0, .ref a_M), (1, .long p1), (3, .int p3), (4, .int 0)] rfl ?_
      exact J_X11_write_31 cx hR h
    · have h := h.2 c3
      refine j_bipush cx (v := (-5)) (by decide) dX11_write_25 (pn := 27) rfl ?_
      exact hR (-5) (M_bytes, M_text) 27 _ dX11_write_27 h
  · have h := h.2 c2
    refine j_bipush cx (v := (-3)) (by decide) dX11_write_10 (pn := 12) rfl ?_
    exact hR (-3) (M_bytes, M_text) 12 _ dX11_write_12 h
theorem dX11_erase_0 : decode cX11_erase 0 = .ok (.aload_n 0, 1) := by decide +kernel
theorem dX11_erase_1 : decode cX11_erase 1 = .ok (.getfield 94, 3) := by decide +kernel
theorem dX11_erase_4 : decode cX11_erase 4 = .ok (.istore_n 1, 1) := by decide +kernel
theorem dX11_erase_5 : decode cX11_erase 5 = .ok (.aload_n 0, 1) := by decide +kernel
theorem dX11_erase_6 : decode cX11_erase 6 = .ok (.iconst 0, 1) := by decide +kernel
theorem dX11_erase_7 : decode cX11_erase 7 = .ok (.putfield 94, 3) := by decide +kernel
theorem dX11_erase_10 : decode cX11_erase 10 = .ok (.iload_n 1, 1) := by decide +kernel
theorem dX11_erase_11 : decode cX11_erase 11 = .ok (.ireturn, 1) := by decide +kernel
abbrev rm_X11_erase : Room := { frames := 0, cells := 0, slots := 0, locals := 0 }
theorem hd_X11_erase : yX11_erase.cls ≠ "java/lang/invoke/MethodHandle" ∧ yX11_erase.cls ≠ "java/lang/invoke/VarHandle" ∧ (parseMethodDescriptor yX11_erase.desc).map (fun d => d.parameters.length) = some 0 := by decide +kernel
def wp_X11_erase (M_bytes : Int32) (Q : Int32 → Int32 → Prop) : Prop :=
Q M_bytes 0
set_option maxHeartbeats 4000000 in
set_option maxRecDepth 100000 in
theorem c_X11_erase {D : DG} {cyI cyJ cyZ : ClassId} {a_M a_M_square a_M_want a_M_text a_M_read a_M_row a_M_foldSet a_M_foldEdges a_M_foldNeeds a_M_foldYards a_M_least a_M_ways a_M_price a_M_rowBy a_M_columnBy a_M_rowOf a_M_wayBack a_M_slack a_M_isUsed a_M_lifted a_M_freed a_M_path : Nat} {M_wide : Int32} {M_high : Int32} {M_hedges : Int64} {M_hurdles : Int32} {M_wants : Int32} {M_rest : Int32} {M_frozen : Int32} {M_bytes : Int32} {M_position : Int32} {M_tokenAt : Int32} {M_token : Int64} {M_digits : Int32} {M_number : Int32} {M_faultAt : Int32} {M_readMany : Int32} {M_readWide : Int32} {M_readHigh : Int32} {M_nights : Int32} {M_why : Int32} {M_folds : Int32} {M_square : Nat → Int32} {M_want : Nat → Int32} {M_text : Nat → Int32} {M_read : Nat → Int32} {M_row : Nat → Int32} {M_foldSet : Nat → Int32} {M_foldEdges : Nat → Int64} {M_foldNeeds : Nat → Int32} {M_foldYards : Nat → Int32} {M_least : Nat → Int32} {M_ways : Nat → Int32} {M_price : Nat → Int32} {M_rowBy : Nat → Int32} {M_columnBy : Nat → Int32} {M_rowOf : Nat → Int32} {M_wayBack : Nat → Int32} {M_slack : Nat → Int32} {M_isUsed : Nat → Int32} {M_lifted : Nat → Int32} {M_freed : Nat → Int32} {M_path : Nat → Int32} {Q : Int32 → Int32 → Prop} (h : wp_X11_erase M_bytes Q) :
    MetI yX11_erase cX11_erase 2 (some .int) rm_X11_erase D [(cyI, .int), (cyJ, .long), (cyZ, .boolean)] [.ref a_M] (W_Model cyI cyJ cyZ a_M a_M_square a_M_want a_M_text a_M_read a_M_row a_M_foldSet a_M_foldEdges a_M_foldNeeds a_M_foldYards a_M_least a_M_ways a_M_price a_M_rowBy a_M_columnBy a_M_rowOf a_M_wayBack a_M_slack a_M_isUsed a_M_lifted a_M_freed a_M_path M_wide M_high M_hedges M_hurdles M_wants M_rest M_frozen M_bytes M_position M_tokenAt M_token M_digits M_number M_faultAt M_readMany M_readWide M_readHigh M_nights M_why M_folds M_square M_want M_text M_read M_row M_foldSet M_foldEdges M_foldNeeds M_foldYards M_least M_ways M_price M_rowBy M_columnBy M_rowOf M_wayBack M_slack M_isUsed M_lifted M_freed M_path) (fun u : Int32 => (W_Model cyI cyJ cyZ a_M a_M_square a_M_want a_M_text a_M_read a_M_row a_M_foldSet a_M_foldEdges a_M_foldNeeds a_M_foldYards a_M_least a_M_ways a_M_price a_M_rowBy a_M_columnBy a_M_rowOf a_M_wayBack a_M_slack a_M_isUsed a_M_lifted a_M_freed a_M_path M_wide M_high M_hedges M_hurdles M_wants M_rest M_frozen u M_position M_tokenAt M_token M_digits M_number M_faultAt M_readMany M_readWide M_readHigh M_nights M_why M_folds M_square M_want M_text M_read M_row M_foldSet M_foldEdges M_foldNeeds M_foldYards M_least M_ways M_price M_rowBy M_columnBy M_rowOf M_wayBack M_slack M_isUsed M_lifted M_freed M_path)) (fun v u => Q v u) := by
  unfold wp_X11_erase at h
  refine metI_of (by decide) (Nat.le_of_ble_eq_true rfl) (fun x cx0 hR0 => ?_)
  have cx : Cx x cX11_erase 2 RX11 rm_X11_erase D [(cyI, .int), (cyJ, .long), (cyZ, .boolean)] := cx0
  have hR : ∀ (v : Int32) (u : Int32) (pc : Nat) (lv : List (Nat × Value)), decode cX11_erase pc = .ok (.ireturn, 1) → Q v u → J x 0 0 2 (W_Model cyI cyJ cyZ a_M a_M_square a_M_want a_M_text a_M_read a_M_row a_M_foldSet a_M_foldEdges a_M_foldNeeds a_M_foldYards a_M_least a_M_ways a_M_price a_M_rowBy a_M_columnBy a_M_rowOf a_M_wayBack a_M_slack a_M_isUsed a_M_lifted a_M_freed a_M_path M_wide M_high M_hedges M_hurdles M_wants M_rest M_frozen u M_position M_tokenAt M_token M_digits M_number M_faultAt M_readMany M_readWide M_readHigh M_nights M_why M_folds M_square M_want M_text M_read M_row M_foldSet M_foldEdges M_foldNeeds M_foldYards M_least M_ways M_price M_rowBy M_columnBy M_rowOf M_wayBack M_slack M_isUsed M_lifted M_freed M_path) lv pc [.int v] := (fun v u pc lv d hq => hR0 v u pc lv d hq)
  show J x 0 0 2 (W_Model cyI cyJ cyZ a_M a_M_square a_M_want a_M_text a_M_read a_M_row a_M_foldSet a_M_foldEdges a_M_foldNeeds a_M_foldYards a_M_least a_M_ways a_M_price a_M_rowBy a_M_columnBy a_M_rowOf a_M_wayBack a_M_slack a_M_isUsed a_M_lifted a_M_freed a_M_path M_wide M_high M_hedges M_hurdles M_wants M_rest M_frozen M_bytes M_position M_tokenAt M_token M_digits M_number M_faultAt M_readMany M_readWide M_readHigh M_nights M_why M_folds M_square M_want M_text M_read M_row M_foldSet M_foldEdges M_foldNeeds M_foldYards M_least M_ways M_price M_rowBy M_columnBy M_rowOf M_wayBack M_slack M_isUsed M_lifted M_freed M_path) [(0, .ref a_M)] 0 []
  refine j_aload_n cx 0 rfl rfl dX11_erase_0 (pn := 1) rfl ?_
  refine j_get cx inGX11 0 rfl rfl 9 (by decide) q_fl_X11_94 rfl rfl dX11_erase_1 (pn := 4) rfl ?_
  refine j_istore_n cx rfl [(1, .int M_bytes), (0, .ref a_M)] (by decide) rfl dX11_erase_4 (pn := 5) rfl ?_
  refine j_aload_n cx 1 rfl rfl dX11_erase_5 (pn := 6) rfl ?_
  refine j_iconst cx (v := 0) (by decide) dX11_erase_6 (pn := 7) rfl ?_
  refine j_put cx tyX11 tyX11_ok nmX11 inGX11 0 rfl rfl 9 (by decide) q_fl_X11_94 rfl rfl rfl rfl rfl (Nat.le_of_ble_eq_true rfl) (W_Model cyI cyJ cyZ a_M a_M_square a_M_want a_M_text a_M_read a_M_row a_M_foldSet a_M_foldEdges a_M_foldNeeds a_M_foldYards a_M_least a_M_ways a_M_price a_M_rowBy a_M_columnBy a_M_rowOf a_M_wayBack a_M_slack a_M_isUsed a_M_lifted a_M_freed a_M_path M_wide M_high M_hedges M_hurdles M_wants M_rest M_frozen 0 M_position M_tokenAt M_token M_digits M_number M_faultAt M_readMany M_readWide M_readHigh M_nights M_why M_folds M_square M_want M_text M_read M_row M_foldSet M_foldEdges M_foldNeeds M_foldYards M_least M_ways M_price M_rowBy M_columnBy M_rowOf M_wayBack M_slack M_isUsed M_lifted M_freed M_path) rfl dX11_erase_7 (pn := 10) rfl ?_
  refine j_iload_n cx 0 rfl rfl dX11_erase_10 (pn := 11) rfl ?_
  exact hR M_bytes 0 11 _ dX11_erase_11 h
theorem dX11_nextToken_0 : decode cX11_nextToken 0 = .ok (.aload_n 0, 1) := by decide +kernel
theorem dX11_nextToken_1 : decode cX11_nextToken 1 = .ok (.getfield 99, 3) := by decide +kernel
theorem dX11_nextToken_4 : decode cX11_nextToken 4 = .ok (.aload_n 0, 1) := by decide +kernel
theorem dX11_nextToken_5 : decode cX11_nextToken 5 = .ok (.getfield 94, 3) := by decide +kernel
theorem dX11_nextToken_8 : decode cX11_nextToken 8 = .ok (.if_icmp .ge 30, 3) := by decide +kernel
theorem dX11_nextToken_11 : decode cX11_nextToken 11 = .ok (.aload_n 0, 1) := by decide +kernel
theorem dX11_nextToken_12 : decode cX11_nextToken 12 = .ok (.getfield 26, 3) := by decide +kernel
theorem dX11_nextToken_15 : decode cX11_nextToken 15 = .ok (.aload_n 0, 1) := by decide +kernel
theorem dX11_nextToken_16 : decode cX11_nextToken 16 = .ok (.getfield 99, 3) := by decide +kernel
theorem dX11_nextToken_19 : decode cX11_nextToken 19 = .ok (.iaload, 1) := by decide +kernel
theorem dX11_nextToken_20 : decode cX11_nextToken 20 = .ok (.bipush 32, 2) := by decide +kernel
theorem dX11_nextToken_22 : decode cX11_nextToken 22 = .ok (.if_icmp .ne 16, 3) := by decide +kernel
theorem dX11_nextToken_25 : decode cX11_nextToken 25 = .ok (.aload_n 0, 1) := by decide +kernel
theorem dX11_nextToken_26 : decode cX11_nextToken 26 = .ok (.dup, 1) := by decide +kernel
theorem dX11_nextToken_27 : decode cX11_nextToken 27 = .ok (.getfield 99, 3) := by decide +kernel
theorem dX11_nextToken_30 : decode cX11_nextToken 30 = .ok (.iconst 1, 1) := by decide +kernel
theorem dX11_nextToken_31 : decode cX11_nextToken 31 = .ok (.iadd, 1) := by decide +kernel
theorem dX11_nextToken_32 : decode cX11_nextToken 32 = .ok (.putfield 99, 3) := by decide +kernel
theorem dX11_nextToken_35 : decode cX11_nextToken 35 = .ok (.goto (-35), 3) := by decide +kernel
theorem dX11_nextToken_38 : decode cX11_nextToken 38 = .ok (.aload_n 0, 1) := by decide +kernel
theorem dX11_nextToken_39 : decode cX11_nextToken 39 = .ok (.aload_n 0, 1) := by decide +kernel
theorem dX11_nextToken_40 : decode cX11_nextToken 40 = .ok (.getfield 99, 3) := by decide +kernel
theorem dX11_nextToken_43 : decode cX11_nextToken 43 = .ok (.putfield 102, 3) := by decide +kernel
theorem dX11_nextToken_46 : decode cX11_nextToken 46 = .ok (.aload_n 0, 1) := by decide +kernel
theorem dX11_nextToken_47 : decode cX11_nextToken 47 = .ok (.iconst 0, 1) := by decide +kernel
theorem dX11_nextToken_48 : decode cX11_nextToken 48 = .ok (.putfield 105, 3) := by decide +kernel
theorem dX11_nextToken_51 : decode cX11_nextToken 51 = .ok (.aload_n 0, 1) := by decide +kernel
theorem dX11_nextToken_52 : decode cX11_nextToken 52 = .ok (.iconst 0, 1) := by decide +kernel
theorem dX11_nextToken_53 : decode cX11_nextToken 53 = .ok (.putfield 108, 3) := by decide +kernel
theorem dX11_nextToken_56 : decode cX11_nextToken 56 = .ok (.aload_n 0, 1) := by decide +kernel
theorem dX11_nextToken_57 : decode cX11_nextToken 57 = .ok (.getfield 99, 3) := by decide +kernel
theorem dX11_nextToken_60 : decode cX11_nextToken 60 = .ok (.aload_n 0, 1) := by decide +kernel
theorem dX11_nextToken_61 : decode cX11_nextToken 61 = .ok (.getfield 94, 3) := by decide +kernel
theorem dX11_nextToken_64 : decode cX11_nextToken 64 = .ok (.if_icmp .ne 13, 3) := by decide +kernel
theorem dX11_nextToken_67 : decode cX11_nextToken 67 = .ok (.aload_n 0, 1) := by decide +kernel
theorem dX11_nextToken_68 : decode cX11_nextToken 68 = .ok (.ldc2_w 111, 3) := by decide +kernel
theorem dX11_nextToken_71 : decode cX11_nextToken 71 = .ok (.putfield 113, 3) := by decide +kernel
theorem dX11_nextToken_74 : decode cX11_nextToken 74 = .ok (.goto 320, 3) := by decide +kernel
theorem dX11_nextToken_77 : decode cX11_nextToken 77 = .ok (.aload_n 0, 1) := by decide +kernel
theorem dX11_nextToken_78 : decode cX11_nextToken 78 = .ok (.getfield 26, 3) := by decide +kernel
theorem dX11_nextToken_81 : decode cX11_nextToken 81 = .ok (.aload_n 0, 1) := by decide +kernel
theorem dX11_nextToken_82 : decode cX11_nextToken 82 = .ok (.getfield 99, 3) := by decide +kernel
theorem dX11_nextToken_85 : decode cX11_nextToken 85 = .ok (.iaload, 1) := by decide +kernel
theorem dX11_nextToken_86 : decode cX11_nextToken 86 = .ok (.bipush 97, 2) := by decide +kernel
theorem dX11_nextToken_88 : decode cX11_nextToken 88 = .ok (.bipush 122, 2) := by decide +kernel
theorem dX11_nextToken_90 : decode cX11_nextToken 90 = .ok (.invokestatic 90, 3) := by decide +kernel
theorem dX11_nextToken_93 : decode cX11_nextToken 93 = .ok (.ifCond .eq 129, 3) := by decide +kernel
theorem dX11_nextToken_96 : decode cX11_nextToken 96 = .ok (.aload_n 0, 1) := by decide +kernel
theorem dX11_nextToken_97 : decode cX11_nextToken 97 = .ok (.lconst 0, 1) := by decide +kernel
theorem dX11_nextToken_98 : decode cX11_nextToken 98 = .ok (.putfield 113, 3) := by decide +kernel
theorem dX11_nextToken_101 : decode cX11_nextToken 101 = .ok (.aload_n 0, 1) := by decide +kernel
theorem dX11_nextToken_102 : decode cX11_nextToken 102 = .ok (.getfield 99, 3) := by decide +kernel
theorem dX11_nextToken_105 : decode cX11_nextToken 105 = .ok (.aload_n 0, 1) := by decide +kernel
theorem dX11_nextToken_106 : decode cX11_nextToken 106 = .ok (.getfield 94, 3) := by decide +kernel
theorem dX11_nextToken_109 : decode cX11_nextToken 109 = .ok (.if_icmp .ge 82, 3) := by decide +kernel
theorem dX11_nextToken_112 : decode cX11_nextToken 112 = .ok (.aload_n 0, 1) := by decide +kernel
theorem dX11_nextToken_113 : decode cX11_nextToken 113 = .ok (.getfield 26, 3) := by decide +kernel
theorem dX11_nextToken_116 : decode cX11_nextToken 116 = .ok (.aload_n 0, 1) := by decide +kernel
theorem dX11_nextToken_117 : decode cX11_nextToken 117 = .ok (.getfield 99, 3) := by decide +kernel
theorem dX11_nextToken_120 : decode cX11_nextToken 120 = .ok (.iaload, 1) := by decide +kernel
theorem dX11_nextToken_121 : decode cX11_nextToken 121 = .ok (.bipush 97, 2) := by decide +kernel
theorem dX11_nextToken_123 : decode cX11_nextToken 123 = .ok (.bipush 122, 2) := by decide +kernel
theorem dX11_nextToken_125 : decode cX11_nextToken 125 = .ok (.invokestatic 90, 3) := by decide +kernel
theorem dX11_nextToken_128 : decode cX11_nextToken 128 = .ok (.ifCond .eq 63, 3) := by decide +kernel
theorem dX11_nextToken_131 : decode cX11_nextToken 131 = .ok (.aload_n 0, 1) := by decide +kernel
theorem dX11_nextToken_132 : decode cX11_nextToken 132 = .ok (.aload_n 0, 1) := by decide +kernel
theorem dX11_nextToken_133 : decode cX11_nextToken 133 = .ok (.getfield 99, 3) := by decide +kernel
theorem dX11_nextToken_136 : decode cX11_nextToken 136 = .ok (.aload_n 0, 1) := by decide +kernel
theorem dX11_nextToken_137 : decode cX11_nextToken 137 = .ok (.getfield 102, 3) := by decide +kernel
theorem dX11_nextToken_140 : decode cX11_nextToken 140 = .ok (.isub, 1) := by decide +kernel
theorem dX11_nextToken_141 : decode cX11_nextToken 141 = .ok (.bipush 9, 2) := by decide +kernel
theorem dX11_nextToken_143 : decode cX11_nextToken 143 = .ok (.if_icmp .ge 29, 3) := by decide +kernel
theorem dX11_nextToken_146 : decode cX11_nextToken 146 = .ok (.ldc2_w 117, 3) := by decide +kernel
theorem dX11_nextToken_149 : decode cX11_nextToken 149 = .ok (.aload_n 0, 1) := by decide +kernel
theorem dX11_nextToken_150 : decode cX11_nextToken 150 = .ok (.getfield 113, 3) := by decide +kernel
theorem dX11_nextToken_153 : decode cX11_nextToken 153 = .ok (.lmul, 1) := by decide +kernel
theorem dX11_nextToken_154 : decode cX11_nextToken 154 = .ok (.aload_n 0, 1) := by decide +kernel
theorem dX11_nextToken_155 : decode cX11_nextToken 155 = .ok (.getfield 26, 3) := by decide +kernel
theorem dX11_nextToken_158 : decode cX11_nextToken 158 = .ok (.aload_n 0, 1) := by decide +kernel
theorem dX11_nextToken_159 : decode cX11_nextToken 159 = .ok (.getfield 99, 3) := by decide +kernel
theorem dX11_nextToken_162 : decode cX11_nextToken 162 = .ok (.iaload, 1) := by decide +kernel
theorem dX11_nextToken_163 : decode cX11_nextToken 163 = .ok (.i2l, 1) := by decide +kernel
theorem dX11_nextToken_164 : decode cX11_nextToken 164 = .ok (.ladd, 1) := by decide +kernel
theorem dX11_nextToken_165 : decode cX11_nextToken 165 = .ok (.ldc2_w 119, 3) := by decide +kernel
theorem dX11_nextToken_168 : decode cX11_nextToken 168 = .ok (.lsub, 1) := by decide +kernel
theorem dX11_nextToken_169 : decode cX11_nextToken 169 = .ok (.goto 6, 3) := by decide +kernel
theorem dX11_nextToken_172 : decode cX11_nextToken 172 = .ok (.ldc2_w 121, 3) := by decide +kernel
theorem dX11_nextToken_175 : decode cX11_nextToken 175 = .ok (.putfield 113, 3) := by decide +kernel
theorem dX11_nextToken_178 : decode cX11_nextToken 178 = .ok (.aload_n 0, 1) := by decide +kernel
theorem dX11_nextToken_179 : decode cX11_nextToken 179 = .ok (.dup, 1) := by decide +kernel
theorem dX11_nextToken_180 : decode cX11_nextToken 180 = .ok (.getfield 99, 3) := by decide +kernel
theorem dX11_nextToken_183 : decode cX11_nextToken 183 = .ok (.iconst 1, 1) := by decide +kernel
theorem dX11_nextToken_184 : decode cX11_nextToken 184 = .ok (.iadd, 1) := by decide +kernel
theorem dX11_nextToken_185 : decode cX11_nextToken 185 = .ok (.putfield 99, 3) := by decide +kernel
theorem dX11_nextToken_188 : decode cX11_nextToken 188 = .ok (.goto (-87), 3) := by decide +kernel
theorem dX11_nextToken_191 : decode cX11_nextToken 191 = .ok (.aload_n 0, 1) := by decide +kernel
theorem dX11_nextToken_192 : decode cX11_nextToken 192 = .ok (.aload_n 0, 1) := by decide +kernel
theorem dX11_nextToken_193 : decode cX11_nextToken 193 = .ok (.getfield 99, 3) := by decide +kernel
theorem dX11_nextToken_196 : decode cX11_nextToken 196 = .ok (.aload_n 0, 1) := by decide +kernel
theorem dX11_nextToken_197 : decode cX11_nextToken 197 = .ok (.getfield 102, 3) := by decide +kernel
theorem dX11_nextToken_200 : decode cX11_nextToken 200 = .ok (.isub, 1) := by decide +kernel
theorem dX11_nextToken_201 : decode cX11_nextToken 201 = .ok (.bipush 9, 2) := by decide +kernel
theorem dX11_nextToken_203 : decode cX11_nextToken 203 = .ok (.if_icmp .le 9, 3) := by decide +kernel
theorem dX11_nextToken_206 : decode cX11_nextToken 206 = .ok (.ldc2_w 121, 3) := by decide +kernel
theorem dX11_nextToken_209 : decode cX11_nextToken 209 = .ok (.goto 7, 3) := by decide +kernel
theorem dX11_nextToken_212 : decode cX11_nextToken 212 = .ok (.aload_n 0, 1) := by decide +kernel
theorem dX11_nextToken_213 : decode cX11_nextToken 213 = .ok (.getfield 113, 3) := by decide +kernel
theorem dX11_nextToken_216 : decode cX11_nextToken 216 = .ok (.putfield 113, 3) := by decide +kernel
theorem dX11_nextToken_219 : decode cX11_nextToken 219 = .ok (.goto 175, 3) := by decide +kernel
theorem dX11_nextToken_222 : decode cX11_nextToken 222 = .ok (.aload_n 0, 1) := by decide +kernel
theorem dX11_nextToken_223 : decode cX11_nextToken 223 = .ok (.getfield 26, 3) := by decide +kernel
theorem dX11_nextToken_226 : decode cX11_nextToken 226 = .ok (.aload_n 0, 1) := by decide +kernel
theorem dX11_nextToken_227 : decode cX11_nextToken 227 = .ok (.getfield 99, 3) := by decide +kernel
theorem dX11_nextToken_230 : decode cX11_nextToken 230 = .ok (.iaload, 1) := by decide +kernel
theorem dX11_nextToken_231 : decode cX11_nextToken 231 = .ok (.bipush 48, 2) := by decide +kernel
theorem dX11_nextToken_233 : decode cX11_nextToken 233 = .ok (.bipush 57, 2) := by decide +kernel
theorem dX11_nextToken_235 : decode cX11_nextToken 235 = .ok (.invokestatic 90, 3) := by decide +kernel
theorem dX11_nextToken_238 : decode cX11_nextToken 238 = .ok (.ifCond .eq 119, 3) := by decide +kernel
theorem dX11_nextToken_241 : decode cX11_nextToken 241 = .ok (.aload_n 0, 1) := by decide +kernel
theorem dX11_nextToken_242 : decode cX11_nextToken 242 = .ok (.getfield 99, 3) := by decide +kernel
theorem dX11_nextToken_245 : decode cX11_nextToken 245 = .ok (.aload_n 0, 1) := by decide +kernel
theorem dX11_nextToken_246 : decode cX11_nextToken 246 = .ok (.getfield 94, 3) := by decide +kernel
theorem dX11_nextToken_249 : decode cX11_nextToken 249 = .ok (.if_icmp .ge 84, 3) := by decide +kernel
theorem dX11_nextToken_252 : decode cX11_nextToken 252 = .ok (.aload_n 0, 1) := by decide +kernel
theorem dX11_nextToken_253 : decode cX11_nextToken 253 = .ok (.getfield 26, 3) := by decide +kernel
theorem dX11_nextToken_256 : decode cX11_nextToken 256 = .ok (.aload_n 0, 1) := by decide +kernel
theorem dX11_nextToken_257 : decode cX11_nextToken 257 = .ok (.getfield 99, 3) := by decide +kernel
theorem dX11_nextToken_260 : decode cX11_nextToken 260 = .ok (.iaload, 1) := by decide +kernel
theorem dX11_nextToken_261 : decode cX11_nextToken 261 = .ok (.bipush 48, 2) := by decide +kernel
theorem dX11_nextToken_263 : decode cX11_nextToken 263 = .ok (.bipush 57, 2) := by decide +kernel
theorem dX11_nextToken_265 : decode cX11_nextToken 265 = .ok (.invokestatic 90, 3) := by decide +kernel
theorem dX11_nextToken_268 : decode cX11_nextToken 268 = .ok (.ifCond .eq 65, 3) := by decide +kernel
theorem dX11_nextToken_271 : decode cX11_nextToken 271 = .ok (.aload_n 0, 1) := by decide +kernel
theorem dX11_nextToken_272 : decode cX11_nextToken 272 = .ok (.aload_n 0, 1) := by decide +kernel
theorem dX11_nextToken_273 : decode cX11_nextToken 273 = .ok (.getfield 105, 3) := by decide +kernel
theorem dX11_nextToken_276 : decode cX11_nextToken 276 = .ok (.iconst 2, 1) := by decide +kernel
theorem dX11_nextToken_277 : decode cX11_nextToken 277 = .ok (.if_icmp .ge 26, 3) := by decide +kernel
theorem dX11_nextToken_280 : decode cX11_nextToken 280 = .ok (.bipush 10, 2) := by decide +kernel
theorem dX11_nextToken_282 : decode cX11_nextToken 282 = .ok (.aload_n 0, 1) := by decide +kernel
theorem dX11_nextToken_283 : decode cX11_nextToken 283 = .ok (.getfield 108, 3) := by decide +kernel
theorem dX11_nextToken_286 : decode cX11_nextToken 286 = .ok (.imul, 1) := by decide +kernel
theorem dX11_nextToken_287 : decode cX11_nextToken 287 = .ok (.aload_n 0, 1) := by decide +kernel
theorem dX11_nextToken_288 : decode cX11_nextToken 288 = .ok (.getfield 26, 3) := by decide +kernel
theorem dX11_nextToken_291 : decode cX11_nextToken 291 = .ok (.aload_n 0, 1) := by decide +kernel
theorem dX11_nextToken_292 : decode cX11_nextToken 292 = .ok (.getfield 99, 3) := by decide +kernel
theorem dX11_nextToken_295 : decode cX11_nextToken 295 = .ok (.iaload, 1) := by decide +kernel
theorem dX11_nextToken_296 : decode cX11_nextToken 296 = .ok (.iadd, 1) := by decide +kernel
theorem dX11_nextToken_297 : decode cX11_nextToken 297 = .ok (.bipush 48, 2) := by decide +kernel
theorem dX11_nextToken_299 : decode cX11_nextToken 299 = .ok (.isub, 1) := by decide +kernel
theorem dX11_nextToken_300 : decode cX11_nextToken 300 = .ok (.goto 7, 3) := by decide +kernel
theorem dX11_nextToken_303 : decode cX11_nextToken 303 = .ok (.aload_n 0, 1) := by decide +kernel
theorem dX11_nextToken_304 : decode cX11_nextToken 304 = .ok (.getfield 108, 3) := by decide +kernel
theorem dX11_nextToken_307 : decode cX11_nextToken 307 = .ok (.putfield 108, 3) := by decide +kernel
theorem dX11_nextToken_310 : decode cX11_nextToken 310 = .ok (.aload_n 0, 1) := by decide +kernel
theorem dX11_nextToken_311 : decode cX11_nextToken 311 = .ok (.dup, 1) := by decide +kernel
theorem dX11_nextToken_312 : decode cX11_nextToken 312 = .ok (.getfield 105, 3) := by decide +kernel
theorem dX11_nextToken_315 : decode cX11_nextToken 315 = .ok (.iconst 1, 1) := by decide +kernel
theorem dX11_nextToken_316 : decode cX11_nextToken 316 = .ok (.iadd, 1) := by decide +kernel
theorem dX11_nextToken_317 : decode cX11_nextToken 317 = .ok (.putfield 105, 3) := by decide +kernel
theorem dX11_nextToken_320 : decode cX11_nextToken 320 = .ok (.aload_n 0, 1) := by decide +kernel
theorem dX11_nextToken_321 : decode cX11_nextToken 321 = .ok (.dup, 1) := by decide +kernel
theorem dX11_nextToken_322 : decode cX11_nextToken 322 = .ok (.getfield 99, 3) := by decide +kernel
theorem dX11_nextToken_325 : decode cX11_nextToken 325 = .ok (.iconst 1, 1) := by decide +kernel
theorem dX11_nextToken_326 : decode cX11_nextToken 326 = .ok (.iadd, 1) := by decide +kernel
theorem dX11_nextToken_327 : decode cX11_nextToken 327 = .ok (.putfield 99, 3) := by decide +kernel
theorem dX11_nextToken_330 : decode cX11_nextToken 330 = .ok (.goto (-89), 3) := by decide +kernel
theorem dX11_nextToken_333 : decode cX11_nextToken 333 = .ok (.aload_n 0, 1) := by decide +kernel
theorem dX11_nextToken_334 : decode cX11_nextToken 334 = .ok (.aload_n 0, 1) := by decide +kernel
theorem dX11_nextToken_335 : decode cX11_nextToken 335 = .ok (.getfield 105, 3) := by decide +kernel
theorem dX11_nextToken_338 : decode cX11_nextToken 338 = .ok (.iconst 2, 1) := by decide +kernel
theorem dX11_nextToken_339 : decode cX11_nextToken 339 = .ok (.if_icmp .le 9, 3) := by decide +kernel
theorem dX11_nextToken_342 : decode cX11_nextToken 342 = .ok (.ldc2_w 121, 3) := by decide +kernel
theorem dX11_nextToken_345 : decode cX11_nextToken 345 = .ok (.goto 6, 3) := by decide +kernel
theorem dX11_nextToken_348 : decode cX11_nextToken 348 = .ok (.ldc2_w 123, 3) := by decide +kernel
theorem dX11_nextToken_351 : decode cX11_nextToken 351 = .ok (.putfield 113, 3) := by decide +kernel
theorem dX11_nextToken_354 : decode cX11_nextToken 354 = .ok (.goto 40, 3) := by decide +kernel
theorem dX11_nextToken_357 : decode cX11_nextToken 357 = .ok (.aload_n 0, 1) := by decide +kernel
theorem dX11_nextToken_358 : decode cX11_nextToken 358 = .ok (.aload_n 0, 1) := by decide +kernel
theorem dX11_nextToken_359 : decode cX11_nextToken 359 = .ok (.getfield 26, 3) := by decide +kernel
theorem dX11_nextToken_362 : decode cX11_nextToken 362 = .ok (.aload_n 0, 1) := by decide +kernel
theorem dX11_nextToken_363 : decode cX11_nextToken 363 = .ok (.getfield 99, 3) := by decide +kernel
theorem dX11_nextToken_366 : decode cX11_nextToken 366 = .ok (.iaload, 1) := by decide +kernel
theorem dX11_nextToken_367 : decode cX11_nextToken 367 = .ok (.bipush 59, 2) := by decide +kernel
theorem dX11_nextToken_369 : decode cX11_nextToken 369 = .ok (.if_icmp .ne 9, 3) := by decide +kernel
theorem dX11_nextToken_372 : decode cX11_nextToken 372 = .ok (.ldc2_w 125, 3) := by decide +kernel
theorem dX11_nextToken_375 : decode cX11_nextToken 375 = .ok (.goto 6, 3) := by decide +kernel
theorem dX11_nextToken_378 : decode cX11_nextToken 378 = .ok (.ldc2_w 121, 3) := by decide +kernel
theorem dX11_nextToken_381 : decode cX11_nextToken 381 = .ok (.putfield 113, 3) := by decide +kernel
theorem dX11_nextToken_384 : decode cX11_nextToken 384 = .ok (.aload_n 0, 1) := by decide +kernel
theorem dX11_nextToken_385 : decode cX11_nextToken 385 = .ok (.dup, 1) := by decide +kernel
theorem dX11_nextToken_386 : decode cX11_nextToken 386 = .ok (.getfield 99, 3) := by decide +kernel
theorem dX11_nextToken_389 : decode cX11_nextToken 389 = .ok (.iconst 1, 1) := by decide +kernel
theorem dX11_nextToken_390 : decode cX11_nextToken 390 = .ok (.iadd, 1) := by decide +kernel
theorem dX11_nextToken_391 : decode cX11_nextToken 391 = .ok (.putfield 99, 3) := by decide +kernel
theorem dX11_nextToken_394 : decode cX11_nextToken 394 = .ok (.return_, 1) := by decide +kernel
abbrev rm_X11_nextToken : Room := { frames := 1, cells := 0, slots := 0, locals := 22 }
theorem hd_X11_nextToken : yX11_nextToken.cls ≠ "java/lang/invoke/MethodHandle" ∧ yX11_nextToken.cls ≠ "java/lang/invoke/VarHandle" ∧ (parseMethodDescriptor yX11_nextToken.desc).map (fun d => d.parameters.length) = some 0 := by decide +kernel
def bk_X11_nextToken_381 (Q : Int32 × Int32 × Int64 × Int32 × Int32 → Prop) (M_position : Int32) (M_tokenAt : Int32) (M_digits : Int32) (M_number : Int32) (s0 : Int64) : Prop :=
∀ y8 : Int32, y8 = (M_position + 1) →
Q (y8, M_tokenAt, s0, M_digits, M_number)
def bk_X11_nextToken_351 (Q : Int32 × Int32 × Int64 × Int32 × Int32 → Prop) (M_position : Int32) (M_tokenAt : Int32) (M_digits : Int32) (M_number : Int32) (s0 : Int64) : Prop :=
Q (M_position, M_tokenAt, s0, M_digits, M_number)
def bk_X11_nextToken_333 (Q : Int32 × Int32 × Int64 × Int32 × Int32 → Prop) (M_position : Int32) (M_tokenAt : Int32) (M_digits : Int32) (M_number : Int32) : Prop :=
((M_digits ≤ 2 → bk_X11_nextToken_351 Q M_position M_tokenAt M_digits M_number (-1)) ∧
(¬ M_digits ≤ 2 → bk_X11_nextToken_351 Q M_position M_tokenAt M_digits M_number (-4)))
def bk_X11_nextToken_307 (Q : Int32 × Int32 × Int64 × Int32 × Int32 → Prop) (B241 : Int32 → Int32 → Int32 → Prop) (M_position : Int32) (M_digits : Int32) (s0 : Int32) : Prop :=
∀ y14 : Int32, y14 = (M_digits + 1) →
∀ y15 : Int32, y15 = (M_position + 1) →
B241 y15 y14 s0
def bd_X11_nextToken_241 (Q : Int32 × Int32 × Int64 × Int32 × Int32 → Prop) (B241 : Int32 → Int32 → Int32 → Prop) (M_bytes : Int32) (M_tokenAt : Int32) (M_text : Nat → Int32) (M_position : Int32) (M_digits : Int32) (M_number : Int32) : Prop :=
((M_bytes ≤ M_position → bk_X11_nextToken_333 Q M_position M_tokenAt M_digits M_number) ∧
(¬ M_bytes ≤ M_position → vp_in M_position 200 ∧ wp_X11_in (M_text M_position.toNatClampNeg) 48 57 (fun (r11 : Int32) => ((r11 = 0 → bk_X11_nextToken_333 Q M_position M_tokenAt M_digits M_number) ∧
(¬ r11 = 0 → ((2 ≤ M_digits → bk_X11_nextToken_307 Q B241 M_position M_digits M_number) ∧
(¬ 2 ≤ M_digits → vp_in M_position 200 ∧ bk_X11_nextToken_307 Q B241 M_position M_digits (((10 * M_number) + (M_text M_position.toNatClampNeg)) - 48))))))))
def lp_X11_nextToken_241 (Q : Int32 × Int32 × Int64 × Int32 × Int32 → Prop) (M_bytes : Int32) (M_tokenAt : Int32) (M_text : Nat → Int32) (M_position : Int32) (M_digits : Int32) (M_number : Int32) : Prop :=
∃ I : Nat → Int32 → Int32 → Int32 → Prop, (∃ n, I n M_position M_digits M_number) ∧ ∀ n M_position M_digits M_number, I n M_position M_digits M_number → bd_X11_nextToken_241 Q  (fun M_position' M_digits' M_number' => ∃ n', n' < n ∧ I n' M_position' M_digits' M_number') M_bytes M_tokenAt M_text M_position M_digits M_number
def bk_X11_nextToken_216 (Q : Int32 × Int32 × Int64 × Int32 × Int32 → Prop) (M_position : Int32) (M_tokenAt : Int32) (M_digits : Int32) (M_number : Int32) (s0 : Int64) : Prop :=
Q (M_position, M_tokenAt, s0, M_digits, M_number)
def bk_X11_nextToken_191 (Q : Int32 × Int32 × Int64 × Int32 × Int32 → Prop) (M_position : Int32) (M_tokenAt : Int32) (M_token : Int64) (M_digits : Int32) (M_number : Int32) : Prop :=
(((M_position - M_tokenAt) ≤ 9 → bk_X11_nextToken_216 Q M_position M_tokenAt M_digits M_number M_token) ∧
(¬ (M_position - M_tokenAt) ≤ 9 → bk_X11_nextToken_216 Q M_position M_tokenAt M_digits M_number (-4)))
def bk_X11_nextToken_175 (Q : Int32 × Int32 × Int64 × Int32 × Int32 → Prop) (B101 : Int32 → Int64 → Prop) (M_position : Int32) (s0 : Int64) : Prop :=
∀ y21 : Int32, y21 = (M_position + 1) →
B101 y21 s0
def bd_X11_nextToken_101 (Q : Int32 × Int32 × Int64 × Int32 × Int32 → Prop) (B101 : Int32 → Int64 → Prop) (M_bytes : Int32) (M_tokenAt : Int32) (M_digits : Int32) (M_number : Int32) (M_text : Nat → Int32) (M_position : Int32) (M_token : Int64) : Prop :=
((M_bytes ≤ M_position → bk_X11_nextToken_191 Q M_position M_tokenAt M_token M_digits M_number) ∧
(¬ M_bytes ≤ M_position → vp_in M_position 200 ∧ wp_X11_in (M_text M_position.toNatClampNeg) 97 122 (fun (r18 : Int32) => ((r18 = 0 → bk_X11_nextToken_191 Q M_position M_tokenAt M_token M_digits M_number) ∧
(¬ r18 = 0 → ((9 ≤ (M_position - M_tokenAt) → bk_X11_nextToken_175 Q B101 M_position (-4)) ∧
(¬ 9 ≤ (M_position - M_tokenAt) → vp_in M_position 200 ∧ bk_X11_nextToken_175 Q B101 M_position (((27 * M_token) + ((M_text M_position.toNatClampNeg).toInt64)) - 96))))))))
def lp_X11_nextToken_101 (Q : Int32 × Int32 × Int64 × Int32 × Int32 → Prop) (M_bytes : Int32) (M_tokenAt : Int32) (M_digits : Int32) (M_number : Int32) (M_text : Nat → Int32) (M_position : Int32) (M_token : Int64) : Prop :=
∃ I : Nat → Int32 → Int64 → Prop, (∃ n, I n M_position M_token) ∧ ∀ n M_position M_token, I n M_position M_token → bd_X11_nextToken_101 Q  (fun M_position' M_token' => ∃ n', n' < n ∧ I n' M_position' M_token') M_bytes M_tokenAt M_digits M_number M_text M_position M_token
def bk_X11_nextToken_38 (Q : Int32 × Int32 × Int64 × Int32 × Int32 → Prop) (M_bytes : Int32) (M_position : Int32) (M_text : Nat → Int32) : Prop :=
((¬ M_position = M_bytes → vp_in M_position 200 ∧ wp_X11_in (M_text M_position.toNatClampNeg) 97 122 (fun (r3 : Int32) => ((r3 = 0 → vp_in M_position 200 ∧ wp_X11_in (M_text M_position.toNatClampNeg) 48 57 (fun (r5 : Int32) => ((r5 = 0 → vp_in M_position 200 ∧ ((¬ (M_text M_position.toNatClampNeg) = 59 → bk_X11_nextToken_381 Q M_position M_position 0 0 (-4)) ∧
((M_text M_position.toNatClampNeg) = 59 → bk_X11_nextToken_381 Q M_position M_position 0 0 (-3)))) ∧
(¬ r5 = 0 → lp_X11_nextToken_241 Q M_bytes M_position M_text M_position 0 0)))) ∧
(¬ r3 = 0 → lp_X11_nextToken_101 Q M_bytes M_position 0 0 M_text M_position 0)))) ∧
(M_position = M_bytes → Q (M_position, M_position, (-2), 0, 0)))
def bd_X11_nextToken_0 (Q : Int32 × Int32 × Int64 × Int32 × Int32 → Prop) (B0 : Int32 → Prop) (M_bytes : Int32) (M_text : Nat → Int32) (M_position : Int32) : Prop :=
((M_bytes ≤ M_position → bk_X11_nextToken_38 Q M_bytes M_position M_text) ∧
(¬ M_bytes ≤ M_position → vp_in M_position 200 ∧ ((¬ (M_text M_position.toNatClampNeg) = 32 → bk_X11_nextToken_38 Q M_bytes M_position M_text) ∧
((M_text M_position.toNatClampNeg) = 32 → ∀ y23 : Int32, y23 = (M_position + 1) →
B0 y23))))
def lp_X11_nextToken_0 (Q : Int32 × Int32 × Int64 × Int32 × Int32 → Prop) (M_bytes : Int32) (M_text : Nat → Int32) (M_position : Int32) : Prop :=
∃ I : Nat → Int32 → Prop, (∃ n, I n M_position) ∧ ∀ n M_position, I n M_position → bd_X11_nextToken_0 Q  (fun M_position' => ∃ n', n' < n ∧ I n' M_position') M_bytes M_text M_position
def wp_X11_nextToken (M_bytes : Int32) (M_position : Int32) (M_text : Nat → Int32) (Q : Int32 × Int32 × Int64 × Int32 × Int32 → Prop) : Prop :=
lp_X11_nextToken_0 Q M_bytes M_text M_position
set_option maxHeartbeats 4000000 in
set_option maxRecDepth 100000 in
theorem J_X11_nextToken_381 {x : CX} {D : DG} {cyI cyJ cyZ : ClassId} {a_M a_M_square a_M_want a_M_text a_M_read a_M_row a_M_foldSet a_M_foldEdges a_M_foldNeeds a_M_foldYards a_M_least a_M_ways a_M_price a_M_rowBy a_M_columnBy a_M_rowOf a_M_wayBack a_M_slack a_M_isUsed a_M_lifted a_M_freed a_M_path : Nat} {M_wide : Int32} {M_high : Int32} {M_hedges : Int64} {M_hurdles : Int32} {M_wants : Int32} {M_rest : Int32} {M_frozen : Int32} {M_bytes : Int32} {M_position : Int32} {M_tokenAt : Int32} {M_token : Int64} {M_digits : Int32} {M_number : Int32} {M_faultAt : Int32} {M_readMany : Int32} {M_readWide : Int32} {M_readHigh : Int32} {M_nights : Int32} {M_why : Int32} {M_folds : Int32} {M_square : Nat → Int32} {M_want : Nat → Int32} {M_text : Nat → Int32} {M_read : Nat → Int32} {M_row : Nat → Int32} {M_foldSet : Nat → Int32} {M_foldEdges : Nat → Int64} {M_foldNeeds : Nat → Int32} {M_foldYards : Nat → Int32} {M_least : Nat → Int32} {M_ways : Nat → Int32} {M_price : Nat → Int32} {M_rowBy : Nat → Int32} {M_columnBy : Nat → Int32} {M_rowOf : Nat → Int32} {M_wayBack : Nat → Int32} {M_slack : Nat → Int32} {M_isUsed : Nat → Int32} {M_lifted : Nat → Int32} {M_freed : Nat → Int32} {M_path : Nat → Int32} {s0 : Int64} {Q : Int32 × Int32 × Int64 × Int32 × Int32 → Prop} (cx : Cx x cX11_nextToken 1 RX11 rm_X11_nextToken D [(cyI, .int), (cyJ, .long), (cyZ, .boolean)]) (hR : ∀ (u : Int32 × Int32 × Int64 × Int32 × Int32) (pc : Nat) (lv : List (Nat × Value)), decode cX11_nextToken pc = .ok (.return_, 1) → Q u → J x 0 0 1 (W_Model cyI cyJ cyZ a_M a_M_square a_M_want a_M_text a_M_read a_M_row a_M_foldSet a_M_foldEdges a_M_foldNeeds a_M_foldYards a_M_least a_M_ways a_M_price a_M_rowBy a_M_columnBy a_M_rowOf a_M_wayBack a_M_slack a_M_isUsed a_M_lifted a_M_freed a_M_path M_wide M_high M_hedges M_hurdles M_wants M_rest M_frozen M_bytes u.1 u.2.1 u.2.2.1 u.2.2.2.1 u.2.2.2.2 M_faultAt M_readMany M_readWide M_readHigh M_nights M_why M_folds M_square M_want M_text M_read M_row M_foldSet M_foldEdges M_foldNeeds M_foldYards M_least M_ways M_price M_rowBy M_columnBy M_rowOf M_wayBack M_slack M_isUsed M_lifted M_freed M_path) lv pc []) (h : bk_X11_nextToken_381 Q  M_position M_tokenAt M_digits M_number s0) :
    J x 0 0 1 (W_Model cyI cyJ cyZ a_M a_M_square a_M_want a_M_text a_M_read a_M_row a_M_foldSet a_M_foldEdges a_M_foldNeeds a_M_foldYards a_M_least a_M_ways a_M_price a_M_rowBy a_M_columnBy a_M_rowOf a_M_wayBack a_M_slack a_M_isUsed a_M_lifted a_M_freed a_M_path M_wide M_high M_hedges M_hurdles M_wants M_rest M_frozen M_bytes M_position M_tokenAt M_token M_digits M_number M_faultAt M_readMany M_readWide M_readHigh M_nights M_why M_folds M_square M_want M_text M_read M_row M_foldSet M_foldEdges M_foldNeeds M_foldYards M_least M_ways M_price M_rowBy M_columnBy M_rowOf M_wayBack M_slack M_isUsed M_lifted M_freed M_path) [(0, .ref a_M)] 381 [.long s0, .ref a_M] := by
  unfold bk_X11_nextToken_381 at h
  refine j_put cx tyX11 tyX11_ok nmX11 inGX11 0 rfl rfl 13 (by decide) q_fl_X11_113 rfl rfl rfl rfl rfl (Nat.le_of_ble_eq_true rfl) (W_Model cyI cyJ cyZ a_M a_M_square a_M_want a_M_text a_M_read a_M_row a_M_foldSet a_M_foldEdges a_M_foldNeeds a_M_foldYards a_M_least a_M_ways a_M_price a_M_rowBy a_M_columnBy a_M_rowOf a_M_wayBack a_M_slack a_M_isUsed a_M_lifted a_M_freed a_M_path M_wide M_high M_hedges M_hurdles M_wants M_rest M_frozen M_bytes M_position M_tokenAt s0 M_digits M_number M_faultAt M_readMany M_readWide M_readHigh M_nights M_why M_folds M_square M_want M_text M_read M_row M_foldSet M_foldEdges M_foldNeeds M_foldYards M_least M_ways M_price M_rowBy M_columnBy M_rowOf M_wayBack M_slack M_isUsed M_lifted M_freed M_path) rfl dX11_nextToken_381 (pn := 384) rfl ?_
  refine j_aload_n cx 0 rfl rfl dX11_nextToken_384 (pn := 385) rfl ?_
  refine j_dup cx rfl dX11_nextToken_385 (pn := 386) rfl ?_
  refine j_get cx inGX11 0 rfl rfl 11 (by decide) q_fl_X11_99 rfl rfl dX11_nextToken_386 (pn := 389) rfl ?_
  refine j_iconst cx (v := 1) (by decide) dX11_nextToken_389 (pn := 390) rfl ?_
  refine j_iadd cx dX11_nextToken_390 (pn := 391) rfl ?_
  refine j_topi (fun y8 ey8 => ?_)
  have h := h y8 ey8
  refine j_put cx tyX11 tyX11_ok nmX11 inGX11 0 rfl rfl 11 (by decide) q_fl_X11_99 rfl rfl rfl rfl rfl (Nat.le_of_ble_eq_true rfl) (W_Model cyI cyJ cyZ a_M a_M_square a_M_want a_M_text a_M_read a_M_row a_M_foldSet a_M_foldEdges a_M_foldNeeds a_M_foldYards a_M_least a_M_ways a_M_price a_M_rowBy a_M_columnBy a_M_rowOf a_M_wayBack a_M_slack a_M_isUsed a_M_lifted a_M_freed a_M_path M_wide M_high M_hedges M_hurdles M_wants M_rest M_frozen M_bytes y8 M_tokenAt s0 M_digits M_number M_faultAt M_readMany M_readWide M_readHigh M_nights M_why M_folds M_square M_want M_text M_read M_row M_foldSet M_foldEdges M_foldNeeds M_foldYards M_least M_ways M_price M_rowBy M_columnBy M_rowOf M_wayBack M_slack M_isUsed M_lifted M_freed M_path) rfl dX11_nextToken_391 (pn := 394) rfl ?_
  exact hR (y8, M_tokenAt, s0, M_digits, M_number) 394 _ dX11_nextToken_394 h
set_option maxHeartbeats 4000000 in
set_option maxRecDepth 100000 in
theorem J_X11_nextToken_351 {x : CX} {D : DG} {cyI cyJ cyZ : ClassId} {a_M a_M_square a_M_want a_M_text a_M_read a_M_row a_M_foldSet a_M_foldEdges a_M_foldNeeds a_M_foldYards a_M_least a_M_ways a_M_price a_M_rowBy a_M_columnBy a_M_rowOf a_M_wayBack a_M_slack a_M_isUsed a_M_lifted a_M_freed a_M_path : Nat} {M_wide : Int32} {M_high : Int32} {M_hedges : Int64} {M_hurdles : Int32} {M_wants : Int32} {M_rest : Int32} {M_frozen : Int32} {M_bytes : Int32} {M_position : Int32} {M_tokenAt : Int32} {M_token : Int64} {M_digits : Int32} {M_number : Int32} {M_faultAt : Int32} {M_readMany : Int32} {M_readWide : Int32} {M_readHigh : Int32} {M_nights : Int32} {M_why : Int32} {M_folds : Int32} {M_square : Nat → Int32} {M_want : Nat → Int32} {M_text : Nat → Int32} {M_read : Nat → Int32} {M_row : Nat → Int32} {M_foldSet : Nat → Int32} {M_foldEdges : Nat → Int64} {M_foldNeeds : Nat → Int32} {M_foldYards : Nat → Int32} {M_least : Nat → Int32} {M_ways : Nat → Int32} {M_price : Nat → Int32} {M_rowBy : Nat → Int32} {M_columnBy : Nat → Int32} {M_rowOf : Nat → Int32} {M_wayBack : Nat → Int32} {M_slack : Nat → Int32} {M_isUsed : Nat → Int32} {M_lifted : Nat → Int32} {M_freed : Nat → Int32} {M_path : Nat → Int32} {s0 : Int64} {Q : Int32 × Int32 × Int64 × Int32 × Int32 → Prop} (cx : Cx x cX11_nextToken 1 RX11 rm_X11_nextToken D [(cyI, .int), (cyJ, .long), (cyZ, .boolean)]) (hR : ∀ (u : Int32 × Int32 × Int64 × Int32 × Int32) (pc : Nat) (lv : List (Nat × Value)), decode cX11_nextToken pc = .ok (.return_, 1) → Q u → J x 0 0 1 (W_Model cyI cyJ cyZ a_M a_M_square a_M_want a_M_text a_M_read a_M_row a_M_foldSet a_M_foldEdges a_M_foldNeeds a_M_foldYards a_M_least a_M_ways a_M_price a_M_rowBy a_M_columnBy a_M_rowOf a_M_wayBack a_M_slack a_M_isUsed a_M_lifted a_M_freed a_M_path M_wide M_high M_hedges M_hurdles M_wants M_rest M_frozen M_bytes u.1 u.2.1 u.2.2.1 u.2.2.2.1 u.2.2.2.2 M_faultAt M_readMany M_readWide M_readHigh M_nights M_why M_folds M_square M_want M_text M_read M_row M_foldSet M_foldEdges M_foldNeeds M_foldYards M_least M_ways M_price M_rowBy M_columnBy M_rowOf M_wayBack M_slack M_isUsed M_lifted M_freed M_path) lv pc []) (h : bk_X11_nextToken_351 Q  M_position M_tokenAt M_digits M_number s0) :
    J x 0 0 1 (W_Model cyI cyJ cyZ a_M a_M_square a_M_want a_M_text a_M_read a_M_row a_M_foldSet a_M_foldEdges a_M_foldNeeds a_M_foldYards a_M_least a_M_ways a_M_price a_M_rowBy a_M_columnBy a_M_rowOf a_M_wayBack a_M_slack a_M_isUsed a_M_lifted a_M_freed a_M_path M_wide M_high M_hedges M_hurdles M_wants M_rest M_frozen M_bytes M_position M_tokenAt M_token M_digits M_number M_faultAt M_readMany M_readWide M_readHigh M_nights M_why M_folds M_square M_want M_text M_read M_row M_foldSet M_foldEdges M_foldNeeds M_foldYards M_least M_ways M_price M_rowBy M_columnBy M_rowOf M_wayBack M_slack M_isUsed M_lifted M_freed M_path) [] 351 [.long s0, .ref a_M] := by
  unfold bk_X11_nextToken_351 at h
  refine j_put cx tyX11 tyX11_ok nmX11 inGX11 0 rfl rfl 13 (by decide) q_fl_X11_113 rfl rfl rfl rfl rfl (Nat.le_of_ble_eq_true rfl) (W_Model cyI cyJ cyZ a_M a_M_square a_M_want a_M_text a_M_read a_M_row a_M_foldSet a_M_foldEdges a_M_foldNeeds a_M_foldYards a_M_least a_M_ways a_M_price a_M_rowBy a_M_columnBy a_M_rowOf a_M_wayBack a_M_slack a_M_isUsed a_M_lifted a_M_freed a_M_path M_wide M_high M_hedges M_hurdles M_wants M_rest M_frozen M_bytes M_position M_tokenAt s0 M_digits M_number M_faultAt M_readMany M_readWide M_readHigh M_nights M_why M_folds M_square M_want M_text M_read M_row M_foldSet M_foldEdges M_foldNeeds M_foldYards M_least M_ways M_price M_rowBy M_columnBy M_rowOf M_wayBack M_slack M_isUsed M_lifted M_freed M_path) rfl dX11_nextToken_351 (pn := 354) rfl ?_
  refine j_goto cx 394 dX11_nextToken_354 rfl ?_
  exact hR (M_position, M_tokenAt, s0, M_digits, M_number) 394 _ dX11_nextToken_394 h
set_option maxHeartbeats 4000000 in
set_option maxRecDepth 100000 in
theorem J_X11_nextToken_333 {x : CX} {D : DG} {cyI cyJ cyZ : ClassId} {a_M a_M_square a_M_want a_M_text a_M_read a_M_row a_M_foldSet a_M_foldEdges a_M_foldNeeds a_M_foldYards a_M_least a_M_ways a_M_price a_M_rowBy a_M_columnBy a_M_rowOf a_M_wayBack a_M_slack a_M_isUsed a_M_lifted a_M_freed a_M_path : Nat} {M_wide : Int32} {M_high : Int32} {M_hedges : Int64} {M_hurdles : Int32} {M_wants : Int32} {M_rest : Int32} {M_frozen : Int32} {M_bytes : Int32} {M_position : Int32} {M_tokenAt : Int32} {M_token : Int64} {M_digits : Int32} {M_number : Int32} {M_faultAt : Int32} {M_readMany : Int32} {M_readWide : Int32} {M_readHigh : Int32} {M_nights : Int32} {M_why : Int32} {M_folds : Int32} {M_square : Nat → Int32} {M_want : Nat → Int32} {M_text : Nat → Int32} {M_read : Nat → Int32} {M_row : Nat → Int32} {M_foldSet : Nat → Int32} {M_foldEdges : Nat → Int64} {M_foldNeeds : Nat → Int32} {M_foldYards : Nat → Int32} {M_least : Nat → Int32} {M_ways : Nat → Int32} {M_price : Nat → Int32} {M_rowBy : Nat → Int32} {M_columnBy : Nat → Int32} {M_rowOf : Nat → Int32} {M_wayBack : Nat → Int32} {M_slack : Nat → Int32} {M_isUsed : Nat → Int32} {M_lifted : Nat → Int32} {M_freed : Nat → Int32} {M_path : Nat → Int32} {Q : Int32 × Int32 × Int64 × Int32 × Int32 → Prop} (cx : Cx x cX11_nextToken 1 RX11 rm_X11_nextToken D [(cyI, .int), (cyJ, .long), (cyZ, .boolean)]) (hR : ∀ (u : Int32 × Int32 × Int64 × Int32 × Int32) (pc : Nat) (lv : List (Nat × Value)), decode cX11_nextToken pc = .ok (.return_, 1) → Q u → J x 0 0 1 (W_Model cyI cyJ cyZ a_M a_M_square a_M_want a_M_text a_M_read a_M_row a_M_foldSet a_M_foldEdges a_M_foldNeeds a_M_foldYards a_M_least a_M_ways a_M_price a_M_rowBy a_M_columnBy a_M_rowOf a_M_wayBack a_M_slack a_M_isUsed a_M_lifted a_M_freed a_M_path M_wide M_high M_hedges M_hurdles M_wants M_rest M_frozen M_bytes u.1 u.2.1 u.2.2.1 u.2.2.2.1 u.2.2.2.2 M_faultAt M_readMany M_readWide M_readHigh M_nights M_why M_folds M_square M_want M_text M_read M_row M_foldSet M_foldEdges M_foldNeeds M_foldYards M_least M_ways M_price M_rowBy M_columnBy M_rowOf M_wayBack M_slack M_isUsed M_lifted M_freed M_path) lv pc []) (h : bk_X11_nextToken_333 Q  M_position M_tokenAt M_digits M_number) :
    J x 0 0 1 (W_Model cyI cyJ cyZ a_M a_M_square a_M_want a_M_text a_M_read a_M_row a_M_foldSet a_M_foldEdges a_M_foldNeeds a_M_foldYards a_M_least a_M_ways a_M_price a_M_rowBy a_M_columnBy a_M_rowOf a_M_wayBack a_M_slack a_M_isUsed a_M_lifted a_M_freed a_M_path M_wide M_high M_hedges M_hurdles M_wants M_rest M_frozen M_bytes M_position M_tokenAt M_token M_digits M_number M_faultAt M_readMany M_readWide M_readHigh M_nights M_why M_folds M_square M_want M_text M_read M_row M_foldSet M_foldEdges M_foldNeeds M_foldYards M_least M_ways M_price M_rowBy M_columnBy M_rowOf M_wayBack M_slack M_isUsed M_lifted M_freed M_path) [(0, .ref a_M)] 333 [] := by
  unfold bk_X11_nextToken_333 at h
  refine j_aload_n cx 0 rfl rfl dX11_nextToken_333 (pn := 334) rfl ?_
  refine j_aload_n cx 0 rfl rfl dX11_nextToken_334 (pn := 335) rfl ?_
  refine j_get cx inGX11 0 rfl rfl 14 (by decide) q_fl_X11_105 rfl rfl dX11_nextToken_335 (pn := 338) rfl ?_
  refine j_iconst cx (v := 2) (by decide) dX11_nextToken_338 (pn := 339) rfl ?_
  refine j_icmp_le cx 348 dX11_nextToken_339 (pn := 342) rfl rfl (fun c10 => ?_) (fun c10 => ?_)
  · have h := h.1 c10
    refine j_ldc2 cx q_cl_X11_123 dX11_nextToken_348 (pn := 351) rfl ?_
    refine j_sub [] [] rfl ?_
    exact J_X11_nextToken_351 cx hR h
  · have h := h.2 c10
    refine j_ldc2 cx q_cl_X11_121 dX11_nextToken_342 (pn := 345) rfl ?_
    refine j_goto cx 351 dX11_nextToken_345 rfl ?_
    refine j_sub [] [] rfl ?_
    exact J_X11_nextToken_351 cx hR h
set_option maxHeartbeats 4000000 in
set_option maxRecDepth 100000 in
theorem J_X11_nextToken_307 {x : CX} {D : DG} {cyI cyJ cyZ : ClassId} {a_M a_M_square a_M_want a_M_text a_M_read a_M_row a_M_foldSet a_M_foldEdges a_M_foldNeeds a_M_foldYards a_M_least a_M_ways a_M_price a_M_rowBy a_M_columnBy a_M_rowOf a_M_wayBack a_M_slack a_M_isUsed a_M_lifted a_M_freed a_M_path : Nat} {M_wide : Int32} {M_high : Int32} {M_hedges : Int64} {M_hurdles : Int32} {M_wants : Int32} {M_rest : Int32} {M_frozen : Int32} {M_bytes : Int32} {M_position : Int32} {M_tokenAt : Int32} {M_token : Int64} {M_digits : Int32} {M_number : Int32} {M_faultAt : Int32} {M_readMany : Int32} {M_readWide : Int32} {M_readHigh : Int32} {M_nights : Int32} {M_why : Int32} {M_folds : Int32} {M_square : Nat → Int32} {M_want : Nat → Int32} {M_text : Nat → Int32} {M_read : Nat → Int32} {M_row : Nat → Int32} {M_foldSet : Nat → Int32} {M_foldEdges : Nat → Int64} {M_foldNeeds : Nat → Int32} {M_foldYards : Nat → Int32} {M_least : Nat → Int32} {M_ways : Nat → Int32} {M_price : Nat → Int32} {M_rowBy : Nat → Int32} {M_columnBy : Nat → Int32} {M_rowOf : Nat → Int32} {M_wayBack : Nat → Int32} {M_slack : Nat → Int32} {M_isUsed : Nat → Int32} {M_lifted : Nat → Int32} {M_freed : Nat → Int32} {M_path : Nat → Int32} {s0 : Int32} {Q : Int32 × Int32 × Int64 × Int32 × Int32 → Prop} {B241 : Int32 → Int32 → Int32 → Prop} (cx : Cx x cX11_nextToken 1 RX11 rm_X11_nextToken D [(cyI, .int), (cyJ, .long), (cyZ, .boolean)]) (hR : ∀ (u : Int32 × Int32 × Int64 × Int32 × Int32) (pc : Nat) (lv : List (Nat × Value)), decode cX11_nextToken pc = .ok (.return_, 1) → Q u → J x 0 0 1 (W_Model cyI cyJ cyZ a_M a_M_square a_M_want a_M_text a_M_read a_M_row a_M_foldSet a_M_foldEdges a_M_foldNeeds a_M_foldYards a_M_least a_M_ways a_M_price a_M_rowBy a_M_columnBy a_M_rowOf a_M_wayBack a_M_slack a_M_isUsed a_M_lifted a_M_freed a_M_path M_wide M_high M_hedges M_hurdles M_wants M_rest M_frozen M_bytes u.1 u.2.1 u.2.2.1 u.2.2.2.1 u.2.2.2.2 M_faultAt M_readMany M_readWide M_readHigh M_nights M_why M_folds M_square M_want M_text M_read M_row M_foldSet M_foldEdges M_foldNeeds M_foldYards M_least M_ways M_price M_rowBy M_columnBy M_rowOf M_wayBack M_slack M_isUsed M_lifted M_freed M_path) lv pc []) (hB241 : ∀ (M_position : Int32) (M_digits : Int32) (M_number : Int32), B241 M_position M_digits M_number → J x 0 0 1 (W_Model cyI cyJ cyZ a_M a_M_square a_M_want a_M_text a_M_read a_M_row a_M_foldSet a_M_foldEdges a_M_foldNeeds a_M_foldYards a_M_least a_M_ways a_M_price a_M_rowBy a_M_columnBy a_M_rowOf a_M_wayBack a_M_slack a_M_isUsed a_M_lifted a_M_freed a_M_path M_wide M_high M_hedges M_hurdles M_wants M_rest M_frozen M_bytes M_position M_tokenAt M_token M_digits M_number M_faultAt M_readMany M_readWide M_readHigh M_nights M_why M_folds M_square M_want M_text M_read M_row M_foldSet M_foldEdges M_foldNeeds M_foldYards M_least M_ways M_price M_rowBy M_columnBy M_rowOf M_wayBack M_slack M_isUsed M_lifted M_freed M_path) [(0, .ref a_M)] 241 []) (h : bk_X11_nextToken_307 Q B241 M_position M_digits s0) :
    J x 0 0 1 (W_Model cyI cyJ cyZ a_M a_M_square a_M_want a_M_text a_M_read a_M_row a_M_foldSet a_M_foldEdges a_M_foldNeeds a_M_foldYards a_M_least a_M_ways a_M_price a_M_rowBy a_M_columnBy a_M_rowOf a_M_wayBack a_M_slack a_M_isUsed a_M_lifted a_M_freed a_M_path M_wide M_high M_hedges M_hurdles M_wants M_rest M_frozen M_bytes M_position M_tokenAt M_token M_digits M_number M_faultAt M_readMany M_readWide M_readHigh M_nights M_why M_folds M_square M_want M_text M_read M_row M_foldSet M_foldEdges M_foldNeeds M_foldYards M_least M_ways M_price M_rowBy M_columnBy M_rowOf M_wayBack M_slack M_isUsed M_lifted M_freed M_path) [(0, .ref a_M)] 307 [.int s0, .ref a_M] := by
  unfold bk_X11_nextToken_307 at h
  refine j_put cx tyX11 tyX11_ok nmX11 inGX11 0 rfl rfl 15 (by decide) q_fl_X11_108 rfl rfl rfl rfl rfl (Nat.le_of_ble_eq_true rfl) (W_Model cyI cyJ cyZ a_M a_M_square a_M_want a_M_text a_M_read a_M_row a_M_foldSet a_M_foldEdges a_M_foldNeeds a_M_foldYards a_M_least a_M_ways a_M_price a_M_rowBy a_M_columnBy a_M_rowOf a_M_wayBack a_M_slack a_M_isUsed a_M_lifted a_M_freed a_M_path M_wide M_high M_hedges M_hurdles M_wants M_rest M_frozen M_bytes M_position M_tokenAt M_token M_digits s0 M_faultAt M_readMany M_readWide M_readHigh M_nights M_why M_folds M_square M_want M_text M_read M_row M_foldSet M_foldEdges M_foldNeeds M_foldYards M_least M_ways M_price M_rowBy M_columnBy M_rowOf M_wayBack M_slack M_isUsed M_lifted M_freed M_path) rfl dX11_nextToken_307 (pn := 310) rfl ?_
  refine j_aload_n cx 0 rfl rfl dX11_nextToken_310 (pn := 311) rfl ?_
  refine j_dup cx rfl dX11_nextToken_311 (pn := 312) rfl ?_
  refine j_get cx inGX11 0 rfl rfl 14 (by decide) q_fl_X11_105 rfl rfl dX11_nextToken_312 (pn := 315) rfl ?_
  refine j_iconst cx (v := 1) (by decide) dX11_nextToken_315 (pn := 316) rfl ?_
  refine j_iadd cx dX11_nextToken_316 (pn := 317) rfl ?_
  refine j_topi (fun y14 ey14 => ?_)
  have h := h y14 ey14
  refine j_put cx tyX11 tyX11_ok nmX11 inGX11 0 rfl rfl 14 (by decide) q_fl_X11_105 rfl rfl rfl rfl rfl (Nat.le_of_ble_eq_true rfl) (W_Model cyI cyJ cyZ a_M a_M_square a_M_want a_M_text a_M_read a_M_row a_M_foldSet a_M_foldEdges a_M_foldNeeds a_M_foldYards a_M_least a_M_ways a_M_price a_M_rowBy a_M_columnBy a_M_rowOf a_M_wayBack a_M_slack a_M_isUsed a_M_lifted a_M_freed a_M_path M_wide M_high M_hedges M_hurdles M_wants M_rest M_frozen M_bytes M_position M_tokenAt M_token y14 s0 M_faultAt M_readMany M_readWide M_readHigh M_nights M_why M_folds M_square M_want M_text M_read M_row M_foldSet M_foldEdges M_foldNeeds M_foldYards M_least M_ways M_price M_rowBy M_columnBy M_rowOf M_wayBack M_slack M_isUsed M_lifted M_freed M_path) rfl dX11_nextToken_317 (pn := 320) rfl ?_
  refine j_aload_n cx 0 rfl rfl dX11_nextToken_320 (pn := 321) rfl ?_
  refine j_dup cx rfl dX11_nextToken_321 (pn := 322) rfl ?_
  refine j_get cx inGX11 0 rfl rfl 11 (by decide) q_fl_X11_99 rfl rfl dX11_nextToken_322 (pn := 325) rfl ?_
  refine j_iconst cx (v := 1) (by decide) dX11_nextToken_325 (pn := 326) rfl ?_
  refine j_iadd cx dX11_nextToken_326 (pn := 327) rfl ?_
  refine j_topi (fun y15 ey15 => ?_)
  have h := h y15 ey15
  refine j_put cx tyX11 tyX11_ok nmX11 inGX11 0 rfl rfl 11 (by decide) q_fl_X11_99 rfl rfl rfl rfl rfl (Nat.le_of_ble_eq_true rfl) (W_Model cyI cyJ cyZ a_M a_M_square a_M_want a_M_text a_M_read a_M_row a_M_foldSet a_M_foldEdges a_M_foldNeeds a_M_foldYards a_M_least a_M_ways a_M_price a_M_rowBy a_M_columnBy a_M_rowOf a_M_wayBack a_M_slack a_M_isUsed a_M_lifted a_M_freed a_M_path M_wide M_high M_hedges M_hurdles M_wants M_rest M_frozen M_bytes y15 M_tokenAt M_token y14 s0 M_faultAt M_readMany M_readWide M_readHigh M_nights M_why M_folds M_square M_want M_text M_read M_row M_foldSet M_foldEdges M_foldNeeds M_foldYards M_least M_ways M_price M_rowBy M_columnBy M_rowOf M_wayBack M_slack M_isUsed M_lifted M_freed M_path) rfl dX11_nextToken_327 (pn := 330) rfl ?_
  refine j_goto cx 241 dX11_nextToken_330 rfl ?_
  exact hB241 _ _ _ h
set_option maxHeartbeats 4000000 in
set_option maxRecDepth 100000 in
theorem B_X11_nextToken_241 {x : CX} {D : DG} {cyI cyJ cyZ : ClassId} {a_M a_M_square a_M_want a_M_text a_M_read a_M_row a_M_foldSet a_M_foldEdges a_M_foldNeeds a_M_foldYards a_M_least a_M_ways a_M_price a_M_rowBy a_M_columnBy a_M_rowOf a_M_wayBack a_M_slack a_M_isUsed a_M_lifted a_M_freed a_M_path : Nat} {M_wide : Int32} {M_high : Int32} {M_hedges : Int64} {M_hurdles : Int32} {M_wants : Int32} {M_rest : Int32} {M_frozen : Int32} {M_bytes : Int32} {M_position : Int32} {M_tokenAt : Int32} {M_token : Int64} {M_digits : Int32} {M_number : Int32} {M_faultAt : Int32} {M_readMany : Int32} {M_readWide : Int32} {M_readHigh : Int32} {M_nights : Int32} {M_why : Int32} {M_folds : Int32} {M_square : Nat → Int32} {M_want : Nat → Int32} {M_text : Nat → Int32} {M_read : Nat → Int32} {M_row : Nat → Int32} {M_foldSet : Nat → Int32} {M_foldEdges : Nat → Int64} {M_foldNeeds : Nat → Int32} {M_foldYards : Nat → Int32} {M_least : Nat → Int32} {M_ways : Nat → Int32} {M_price : Nat → Int32} {M_rowBy : Nat → Int32} {M_columnBy : Nat → Int32} {M_rowOf : Nat → Int32} {M_wayBack : Nat → Int32} {M_slack : Nat → Int32} {M_isUsed : Nat → Int32} {M_lifted : Nat → Int32} {M_freed : Nat → Int32} {M_path : Nat → Int32} {Q : Int32 × Int32 × Int64 × Int32 × Int32 → Prop} {B241 : Int32 → Int32 → Int32 → Prop} (cx : Cx x cX11_nextToken 1 RX11 rm_X11_nextToken D [(cyI, .int), (cyJ, .long), (cyZ, .boolean)]) (hR : ∀ (u : Int32 × Int32 × Int64 × Int32 × Int32) (pc : Nat) (lv : List (Nat × Value)), decode cX11_nextToken pc = .ok (.return_, 1) → Q u → J x 0 0 1 (W_Model cyI cyJ cyZ a_M a_M_square a_M_want a_M_text a_M_read a_M_row a_M_foldSet a_M_foldEdges a_M_foldNeeds a_M_foldYards a_M_least a_M_ways a_M_price a_M_rowBy a_M_columnBy a_M_rowOf a_M_wayBack a_M_slack a_M_isUsed a_M_lifted a_M_freed a_M_path M_wide M_high M_hedges M_hurdles M_wants M_rest M_frozen M_bytes u.1 u.2.1 u.2.2.1 u.2.2.2.1 u.2.2.2.2 M_faultAt M_readMany M_readWide M_readHigh M_nights M_why M_folds M_square M_want M_text M_read M_row M_foldSet M_foldEdges M_foldNeeds M_foldYards M_least M_ways M_price M_rowBy M_columnBy M_rowOf M_wayBack M_slack M_isUsed M_lifted M_freed M_path) lv pc []) (hB241 : ∀ (M_position : Int32) (M_digits : Int32) (M_number : Int32), B241 M_position M_digits M_number → J x 0 0 1 (W_Model cyI cyJ cyZ a_M a_M_square a_M_want a_M_text a_M_read a_M_row a_M_foldSet a_M_foldEdges a_M_foldNeeds a_M_foldYards a_M_least a_M_ways a_M_price a_M_rowBy a_M_columnBy a_M_rowOf a_M_wayBack a_M_slack a_M_isUsed a_M_lifted a_M_freed a_M_path M_wide M_high M_hedges M_hurdles M_wants M_rest M_frozen M_bytes M_position M_tokenAt M_token M_digits M_number M_faultAt M_readMany M_readWide M_readHigh M_nights M_why M_folds M_square M_want M_text M_read M_row M_foldSet M_foldEdges M_foldNeeds M_foldYards M_least M_ways M_price M_rowBy M_columnBy M_rowOf M_wayBack M_slack M_isUsed M_lifted M_freed M_path) [(0, .ref a_M)] 241 []) (h : bd_X11_nextToken_241 Q B241 M_bytes M_tokenAt M_text M_position M_digits M_number) :
    J x 0 0 1 (W_Model cyI cyJ cyZ a_M a_M_square a_M_want a_M_text a_M_read a_M_row a_M_foldSet a_M_foldEdges a_M_foldNeeds a_M_foldYards a_M_least a_M_ways a_M_price a_M_rowBy a_M_columnBy a_M_rowOf a_M_wayBack a_M_slack a_M_isUsed a_M_lifted a_M_freed a_M_path M_wide M_high M_hedges M_hurdles M_wants M_rest M_frozen M_bytes M_position M_tokenAt M_token M_digits M_number M_faultAt M_readMany M_readWide M_readHigh M_nights M_why M_folds M_square M_want M_text M_read M_row M_foldSet M_foldEdges M_foldNeeds M_foldYards M_least M_ways M_price M_rowBy M_columnBy M_rowOf M_wayBack M_slack M_isUsed M_lifted M_freed M_path) [(0, .ref a_M)] 241 [] := by
  unfold bd_X11_nextToken_241 at h
  refine j_aload_n cx 0 rfl rfl dX11_nextToken_241 (pn := 242) rfl ?_
  refine j_get cx inGX11 0 rfl rfl 11 (by decide) q_fl_X11_99 rfl rfl dX11_nextToken_242 (pn := 245) rfl ?_
  refine j_aload_n cx 0 rfl rfl dX11_nextToken_245 (pn := 246) rfl ?_
  refine j_get cx inGX11 0 rfl rfl 9 (by decide) q_fl_X11_94 rfl rfl dX11_nextToken_246 (pn := 249) rfl ?_
  refine j_icmp_ge cx 333 dX11_nextToken_249 (pn := 252) rfl rfl (fun c9 => ?_) (fun c9 => ?_)
  · have h := h.1 c9
    exact J_X11_nextToken_333 cx hR h
  · have h := h.2 c9
    refine j_aload_n cx 0 rfl rfl dX11_nextToken_252 (pn := 253) rfl ?_
    refine j_get cx inGX11 0 rfl rfl 10 (by decide) q_fl_X11_26 rfl rfl dX11_nextToken_253 (pn := 256) rfl ?_
    refine j_aload_n cx 0 rfl rfl dX11_nextToken_256 (pn := 257) rfl ?_
    refine j_get cx inGX11 0 rfl rfl 11 (by decide) q_fl_X11_99 rfl rfl dX11_nextToken_257 (pn := 260) rfl ?_
    refine j_iald cx 3 0 rfl rfl h.1 dX11_nextToken_260 (pn := 261) rfl ?_
    have h := h.2
    refine j_bipush cx (v := 48) (by decide) dX11_nextToken_261 (pn := 263) rfl ?_
    refine j_bipush cx (v := 57) (by decide) dX11_nextToken_263 (pn := 265) rfl ?_
    refine j_calleI cx q_stat_X11_in (As := [.int (M_text M_position.toNatClampNeg), .int 48, .int 57]) (rest := []) (c_X11_in h) ⟨q_code_X11_in, q_ml_X11_90, q_init_X11, hd_X11_in, ⟨Nat.le_of_ble_eq_true rfl, Nat.le_of_ble_eq_true rfl⟩, Nat.le_of_ble_eq_true rfl, Nat.le_of_ble_eq_true rfl⟩ rfl rfl (Nat.le_of_ble_eq_true rfl) dX11_nextToken_265 (pn := 268) rfl (fun r11 h => ?_)
    show J x 0 0 1 (W_Model cyI cyJ cyZ a_M a_M_square a_M_want a_M_text a_M_read a_M_row a_M_foldSet a_M_foldEdges a_M_foldNeeds a_M_foldYards a_M_least a_M_ways a_M_price a_M_rowBy a_M_columnBy a_M_rowOf a_M_wayBack a_M_slack a_M_isUsed a_M_lifted a_M_freed a_M_path M_wide M_high M_hedges M_hurdles M_wants M_rest M_frozen M_bytes M_position M_tokenAt M_token M_digits M_number M_faultAt M_readMany M_readWide M_readHigh M_nights M_why M_folds M_square M_want M_text M_read M_row M_foldSet M_foldEdges M_foldNeeds M_foldYards M_least M_ways M_price M_rowBy M_columnBy M_rowOf M_wayBack M_slack M_isUsed M_lifted M_freed M_path) [(0, .ref a_M)] 268 [.int r11]
    refine j_if_eq cx 333 dX11_nextToken_268 (pn := 271) rfl rfl (fun c12 => ?_) (fun c12 => ?_)
    · have h := h.1 c12
      exact J_X11_nextToken_333 cx hR h
    · have h := h.2 c12
      refine j_aload_n cx 0 rfl rfl dX11_nextToken_271 (pn := 272) rfl ?_
      refine j_aload_n cx 0 rfl rfl dX11_nextToken_272 (pn := 273) rfl ?_
      refine j_get cx inGX11 0 rfl rfl 14 (by decide) q_fl_X11_105 rfl rfl dX11_nextToken_273 (pn := 276) rfl ?_
      refine j_iconst cx (v := 2) (by decide) dX11_nextToken_276 (pn := 277) rfl ?_
      refine j_icmp_ge cx 303 dX11_nextToken_277 (pn := 280) rfl rfl (fun c13 => ?_) (fun c13 => ?_)
      · have h := h.1 c13
        refine j_aload_n cx 0 rfl rfl dX11_nextToken_303 (pn := 304) rfl ?_
        refine j_get cx inGX11 0 rfl rfl 15 (by decide) q_fl_X11_108 rfl rfl dX11_nextToken_304 (pn := 307) rfl ?_
        exact J_X11_nextToken_307 cx hR hB241 h
      · have h := h.2 c13
        refine j_bipush cx (v := 10) (by decide) dX11_nextToken_280 (pn := 282) rfl ?_
        refine j_aload_n cx 0 rfl rfl dX11_nextToken_282 (pn := 283) rfl ?_
        refine j_get cx inGX11 0 rfl rfl 15 (by decide) q_fl_X11_108 rfl rfl dX11_nextToken_283 (pn := 286) rfl ?_
        refine j_imul cx dX11_nextToken_286 (pn := 287) rfl ?_
        refine j_aload_n cx 0 rfl rfl dX11_nextToken_287 (pn := 288) rfl ?_
        refine j_get cx inGX11 0 rfl rfl 10 (by decide) q_fl_X11_26 rfl rfl dX11_nextToken_288 (pn := 291) rfl ?_
        refine j_aload_n cx 0 rfl rfl dX11_nextToken_291 (pn := 292) rfl ?_
        refine j_get cx inGX11 0 rfl rfl 11 (by decide) q_fl_X11_99 rfl rfl dX11_nextToken_292 (pn := 295) rfl ?_
        refine j_iald cx 3 0 rfl rfl h.1 dX11_nextToken_295 (pn := 296) rfl ?_
        have h := h.2
        refine j_iadd cx dX11_nextToken_296 (pn := 297) rfl ?_
        refine j_bipush cx (v := 48) (by decide) dX11_nextToken_297 (pn := 299) rfl ?_
        refine j_isub cx dX11_nextToken_299 (pn := 300) rfl ?_
        refine j_goto cx 307 dX11_nextToken_300 rfl ?_
        exact J_X11_nextToken_307 cx hR hB241 h
set_option maxHeartbeats 4000000 in
set_option maxRecDepth 100000 in
theorem J_X11_nextToken_241 {x : CX} {D : DG} {cyI cyJ cyZ : ClassId} {a_M a_M_square a_M_want a_M_text a_M_read a_M_row a_M_foldSet a_M_foldEdges a_M_foldNeeds a_M_foldYards a_M_least a_M_ways a_M_price a_M_rowBy a_M_columnBy a_M_rowOf a_M_wayBack a_M_slack a_M_isUsed a_M_lifted a_M_freed a_M_path : Nat} {M_wide : Int32} {M_high : Int32} {M_hedges : Int64} {M_hurdles : Int32} {M_wants : Int32} {M_rest : Int32} {M_frozen : Int32} {M_bytes : Int32} {M_position : Int32} {M_tokenAt : Int32} {M_token : Int64} {M_digits : Int32} {M_number : Int32} {M_faultAt : Int32} {M_readMany : Int32} {M_readWide : Int32} {M_readHigh : Int32} {M_nights : Int32} {M_why : Int32} {M_folds : Int32} {M_square : Nat → Int32} {M_want : Nat → Int32} {M_text : Nat → Int32} {M_read : Nat → Int32} {M_row : Nat → Int32} {M_foldSet : Nat → Int32} {M_foldEdges : Nat → Int64} {M_foldNeeds : Nat → Int32} {M_foldYards : Nat → Int32} {M_least : Nat → Int32} {M_ways : Nat → Int32} {M_price : Nat → Int32} {M_rowBy : Nat → Int32} {M_columnBy : Nat → Int32} {M_rowOf : Nat → Int32} {M_wayBack : Nat → Int32} {M_slack : Nat → Int32} {M_isUsed : Nat → Int32} {M_lifted : Nat → Int32} {M_freed : Nat → Int32} {M_path : Nat → Int32} {Q : Int32 × Int32 × Int64 × Int32 × Int32 → Prop} (cx : Cx x cX11_nextToken 1 RX11 rm_X11_nextToken D [(cyI, .int), (cyJ, .long), (cyZ, .boolean)]) (hR : ∀ (u : Int32 × Int32 × Int64 × Int32 × Int32) (pc : Nat) (lv : List (Nat × Value)), decode cX11_nextToken pc = .ok (.return_, 1) → Q u → J x 0 0 1 (W_Model cyI cyJ cyZ a_M a_M_square a_M_want a_M_text a_M_read a_M_row a_M_foldSet a_M_foldEdges a_M_foldNeeds a_M_foldYards a_M_least a_M_ways a_M_price a_M_rowBy a_M_columnBy a_M_rowOf a_M_wayBack a_M_slack a_M_isUsed a_M_lifted a_M_freed a_M_path M_wide M_high M_hedges M_hurdles M_wants M_rest M_frozen M_bytes u.1 u.2.1 u.2.2.1 u.2.2.2.1 u.2.2.2.2 M_faultAt M_readMany M_readWide M_readHigh M_nights M_why M_folds M_square M_want M_text M_read M_row M_foldSet M_foldEdges M_foldNeeds M_foldYards M_least M_ways M_price M_rowBy M_columnBy M_rowOf M_wayBack M_slack M_isUsed M_lifted M_freed M_path) lv pc []) (h : lp_X11_nextToken_241 Q  M_bytes M_tokenAt M_text M_position M_digits M_number) :
    J x 0 0 1 (W_Model cyI cyJ cyZ a_M a_M_square a_M_want a_M_text a_M_read a_M_row a_M_foldSet a_M_foldEdges a_M_foldNeeds a_M_foldYards a_M_least a_M_ways a_M_price a_M_rowBy a_M_columnBy a_M_rowOf a_M_wayBack a_M_slack a_M_isUsed a_M_lifted a_M_freed a_M_path M_wide M_high M_hedges M_hurdles M_wants M_rest M_frozen M_bytes M_position M_tokenAt M_token M_digits M_number M_faultAt M_readMany M_readWide M_readHigh M_nights M_why M_folds M_square M_want M_text M_read M_row M_foldSet M_foldEdges M_foldNeeds M_foldYards M_least M_ways M_price M_rowBy M_columnBy M_rowOf M_wayBack M_slack M_isUsed M_lifted M_freed M_path) [(0, .ref a_M)] 241 [] := by
  obtain ⟨I, ⟨n, h0⟩, hb⟩ := h
  revert M_position M_digits M_number
  induction n using Nat.strongRecOn with
  | _ n ih =>
    intro M_position M_digits M_number h0
    exact B_X11_nextToken_241 cx hR (fun _ _ _ hz => by obtain ⟨n2, hlt, hI⟩ := hz; exact ih n2 hlt hI) (hb n M_position M_digits M_number h0)
set_option maxHeartbeats 4000000 in
set_option maxRecDepth 100000 in
theorem J_X11_nextToken_216 {x : CX} {D : DG} {cyI cyJ cyZ : ClassId} {a_M a_M_square a_M_want a_M_text a_M_read a_M_row a_M_foldSet a_M_foldEdges a_M_foldNeeds a_M_foldYards a_M_least a_M_ways a_M_price a_M_rowBy a_M_columnBy a_M_rowOf a_M_wayBack a_M_slack a_M_isUsed a_M_lifted a_M_freed a_M_path : Nat} {M_wide : Int32} {M_high : Int32} {M_hedges : Int64} {M_hurdles : Int32} {M_wants : Int32} {M_rest : Int32} {M_frozen : Int32} {M_bytes : Int32} {M_position : Int32} {M_tokenAt : Int32} {M_token : Int64} {M_digits : Int32} {M_number : Int32} {M_faultAt : Int32} {M_readMany : Int32} {M_readWide : Int32} {M_readHigh : Int32} {M_nights : Int32} {M_why : Int32} {M_folds : Int32} {M_square : Nat → Int32} {M_want : Nat → Int32} {M_text : Nat → Int32} {M_read : Nat → Int32} {M_row : Nat → Int32} {M_foldSet : Nat → Int32} {M_foldEdges : Nat → Int64} {M_foldNeeds : Nat → Int32} {M_foldYards : Nat → Int32} {M_least : Nat → Int32} {M_ways : Nat → Int32} {M_price : Nat → Int32} {M_rowBy : Nat → Int32} {M_columnBy : Nat → Int32} {M_rowOf : Nat → Int32} {M_wayBack : Nat → Int32} {M_slack : Nat → Int32} {M_isUsed : Nat → Int32} {M_lifted : Nat → Int32} {M_freed : Nat → Int32} {M_path : Nat → Int32} {s0 : Int64} {Q : Int32 × Int32 × Int64 × Int32 × Int32 → Prop} (cx : Cx x cX11_nextToken 1 RX11 rm_X11_nextToken D [(cyI, .int), (cyJ, .long), (cyZ, .boolean)]) (hR : ∀ (u : Int32 × Int32 × Int64 × Int32 × Int32) (pc : Nat) (lv : List (Nat × Value)), decode cX11_nextToken pc = .ok (.return_, 1) → Q u → J x 0 0 1 (W_Model cyI cyJ cyZ a_M a_M_square a_M_want a_M_text a_M_read a_M_row a_M_foldSet a_M_foldEdges a_M_foldNeeds a_M_foldYards a_M_least a_M_ways a_M_price a_M_rowBy a_M_columnBy a_M_rowOf a_M_wayBack a_M_slack a_M_isUsed a_M_lifted a_M_freed a_M_path M_wide M_high M_hedges M_hurdles M_wants M_rest M_frozen M_bytes u.1 u.2.1 u.2.2.1 u.2.2.2.1 u.2.2.2.2 M_faultAt M_readMany M_readWide M_readHigh M_nights M_why M_folds M_square M_want M_text M_read M_row M_foldSet M_foldEdges M_foldNeeds M_foldYards M_least M_ways M_price M_rowBy M_columnBy M_rowOf M_wayBack M_slack M_isUsed M_lifted M_freed M_path) lv pc []) (h : bk_X11_nextToken_216 Q  M_position M_tokenAt M_digits M_number s0) :
    J x 0 0 1 (W_Model cyI cyJ cyZ a_M a_M_square a_M_want a_M_text a_M_read a_M_row a_M_foldSet a_M_foldEdges a_M_foldNeeds a_M_foldYards a_M_least a_M_ways a_M_price a_M_rowBy a_M_columnBy a_M_rowOf a_M_wayBack a_M_slack a_M_isUsed a_M_lifted a_M_freed a_M_path M_wide M_high M_hedges M_hurdles M_wants M_rest M_frozen M_bytes M_position M_tokenAt M_token M_digits M_number M_faultAt M_readMany M_readWide M_readHigh M_nights M_why M_folds M_square M_want M_text M_read M_row M_foldSet M_foldEdges M_foldNeeds M_foldYards M_least M_ways M_price M_rowBy M_columnBy M_rowOf M_wayBack M_slack M_isUsed M_lifted M_freed M_path) [] 216 [.long s0, .ref a_M] := by
  unfold bk_X11_nextToken_216 at h
  refine j_put cx tyX11 tyX11_ok nmX11 inGX11 0 rfl rfl 13 (by decide) q_fl_X11_113 rfl rfl rfl rfl rfl (Nat.le_of_ble_eq_true rfl) (W_Model cyI cyJ cyZ a_M a_M_square a_M_want a_M_text a_M_read a_M_row a_M_foldSet a_M_foldEdges a_M_foldNeeds a_M_foldYards a_M_least a_M_ways a_M_price a_M_rowBy a_M_columnBy a_M_rowOf a_M_wayBack a_M_slack a_M_isUsed a_M_lifted a_M_freed a_M_path M_wide M_high M_hedges M_hurdles M_wants M_rest M_frozen M_bytes M_position M_tokenAt s0 M_digits M_number M_faultAt M_readMany M_readWide M_readHigh M_nights M_why M_folds M_square M_want M_text M_read M_row M_foldSet M_foldEdges M_foldNeeds M_foldYards M_least M_ways M_price M_rowBy M_columnBy M_rowOf M_wayBack M_slack M_isUsed M_lifted M_freed M_path) rfl dX11_nextToken_216 (pn := 219) rfl ?_
  refine j_goto cx 394 dX11_nextToken_219 rfl ?_
  exact hR (M_position, M_tokenAt, s0, M_digits, M_number) 394 _ dX11_nextToken_394 h
set_option maxHeartbeats 4000000 in
set_option maxRecDepth 100000 in
theorem J_X11_nextToken_191 {x : CX} {D : DG} {cyI cyJ cyZ : ClassId} {a_M a_M_square a_M_want a_M_text a_M_read a_M_row a_M_foldSet a_M_foldEdges a_M_foldNeeds a_M_foldYards a_M_least a_M_ways a_M_price a_M_rowBy a_M_columnBy a_M_rowOf a_M_wayBack a_M_slack a_M_isUsed a_M_lifted a_M_freed a_M_path : Nat} {M_wide : Int32} {M_high : Int32} {M_hedges : Int64} {M_hurdles : Int32} {M_wants : Int32} {M_rest : Int32} {M_frozen : Int32} {M_bytes : Int32} {M_position : Int32} {M_tokenAt : Int32} {M_token : Int64} {M_digits : Int32} {M_number : Int32} {M_faultAt : Int32} {M_readMany : Int32} {M_readWide : Int32} {M_readHigh : Int32} {M_nights : Int32} {M_why : Int32} {M_folds : Int32} {M_square : Nat → Int32} {M_want : Nat → Int32} {M_text : Nat → Int32} {M_read : Nat → Int32} {M_row : Nat → Int32} {M_foldSet : Nat → Int32} {M_foldEdges : Nat → Int64} {M_foldNeeds : Nat → Int32} {M_foldYards : Nat → Int32} {M_least : Nat → Int32} {M_ways : Nat → Int32} {M_price : Nat → Int32} {M_rowBy : Nat → Int32} {M_columnBy : Nat → Int32} {M_rowOf : Nat → Int32} {M_wayBack : Nat → Int32} {M_slack : Nat → Int32} {M_isUsed : Nat → Int32} {M_lifted : Nat → Int32} {M_freed : Nat → Int32} {M_path : Nat → Int32} {Q : Int32 × Int32 × Int64 × Int32 × Int32 → Prop} (cx : Cx x cX11_nextToken 1 RX11 rm_X11_nextToken D [(cyI, .int), (cyJ, .long), (cyZ, .boolean)]) (hR : ∀ (u : Int32 × Int32 × Int64 × Int32 × Int32) (pc : Nat) (lv : List (Nat × Value)), decode cX11_nextToken pc = .ok (.return_, 1) → Q u → J x 0 0 1 (W_Model cyI cyJ cyZ a_M a_M_square a_M_want a_M_text a_M_read a_M_row a_M_foldSet a_M_foldEdges a_M_foldNeeds a_M_foldYards a_M_least a_M_ways a_M_price a_M_rowBy a_M_columnBy a_M_rowOf a_M_wayBack a_M_slack a_M_isUsed a_M_lifted a_M_freed a_M_path M_wide M_high M_hedges M_hurdles M_wants M_rest M_frozen M_bytes u.1 u.2.1 u.2.2.1 u.2.2.2.1 u.2.2.2.2 M_faultAt M_readMany M_readWide M_readHigh M_nights M_why M_folds M_square M_want M_text M_read M_row M_foldSet M_foldEdges M_foldNeeds M_foldYards M_least M_ways M_price M_rowBy M_columnBy M_rowOf M_wayBack M_slack M_isUsed M_lifted M_freed M_path) lv pc []) (h : bk_X11_nextToken_191 Q  M_position M_tokenAt M_token M_digits M_number) :
    J x 0 0 1 (W_Model cyI cyJ cyZ a_M a_M_square a_M_want a_M_text a_M_read a_M_row a_M_foldSet a_M_foldEdges a_M_foldNeeds a_M_foldYards a_M_least a_M_ways a_M_price a_M_rowBy a_M_columnBy a_M_rowOf a_M_wayBack a_M_slack a_M_isUsed a_M_lifted a_M_freed a_M_path M_wide M_high M_hedges M_hurdles M_wants M_rest M_frozen M_bytes M_position M_tokenAt M_token M_digits M_number M_faultAt M_readMany M_readWide M_readHigh M_nights M_why M_folds M_square M_want M_text M_read M_row M_foldSet M_foldEdges M_foldNeeds M_foldYards M_least M_ways M_price M_rowBy M_columnBy M_rowOf M_wayBack M_slack M_isUsed M_lifted M_freed M_path) [(0, .ref a_M)] 191 [] := by
  unfold bk_X11_nextToken_191 at h
  refine j_aload_n cx 0 rfl rfl dX11_nextToken_191 (pn := 192) rfl ?_
  refine j_aload_n cx 0 rfl rfl dX11_nextToken_192 (pn := 193) rfl ?_
  refine j_get cx inGX11 0 rfl rfl 11 (by decide) q_fl_X11_99 rfl rfl dX11_nextToken_193 (pn := 196) rfl ?_
  refine j_aload_n cx 0 rfl rfl dX11_nextToken_196 (pn := 197) rfl ?_
  refine j_get cx inGX11 0 rfl rfl 12 (by decide) q_fl_X11_102 rfl rfl dX11_nextToken_197 (pn := 200) rfl ?_
  refine j_isub cx dX11_nextToken_200 (pn := 201) rfl ?_
  refine j_bipush cx (v := 9) (by decide) dX11_nextToken_201 (pn := 203) rfl ?_
  refine j_icmp_le cx 212 dX11_nextToken_203 (pn := 206) rfl rfl (fun c17 => ?_) (fun c17 => ?_)
  · have h := h.1 c17
    refine j_aload_n cx 0 rfl rfl dX11_nextToken_212 (pn := 213) rfl ?_
    refine j_get cx inGX11 0 rfl rfl 13 (by decide) q_fl_X11_113 rfl rfl dX11_nextToken_213 (pn := 216) rfl ?_
    refine j_sub [] [] rfl ?_
    exact J_X11_nextToken_216 cx hR h
  · have h := h.2 c17
    refine j_ldc2 cx q_cl_X11_121 dX11_nextToken_206 (pn := 209) rfl ?_
    refine j_goto cx 216 dX11_nextToken_209 rfl ?_
    refine j_sub [] [] rfl ?_
    exact J_X11_nextToken_216 cx hR h
set_option maxHeartbeats 4000000 in
set_option maxRecDepth 100000 in
theorem J_X11_nextToken_175 {x : CX} {D : DG} {cyI cyJ cyZ : ClassId} {a_M a_M_square a_M_want a_M_text a_M_read a_M_row a_M_foldSet a_M_foldEdges a_M_foldNeeds a_M_foldYards a_M_least a_M_ways a_M_price a_M_rowBy a_M_columnBy a_M_rowOf a_M_wayBack a_M_slack a_M_isUsed a_M_lifted a_M_freed a_M_path : Nat} {M_wide : Int32} {M_high : Int32} {M_hedges : Int64} {M_hurdles : Int32} {M_wants : Int32} {M_rest : Int32} {M_frozen : Int32} {M_bytes : Int32} {M_position : Int32} {M_tokenAt : Int32} {M_token : Int64} {M_digits : Int32} {M_number : Int32} {M_faultAt : Int32} {M_readMany : Int32} {M_readWide : Int32} {M_readHigh : Int32} {M_nights : Int32} {M_why : Int32} {M_folds : Int32} {M_square : Nat → Int32} {M_want : Nat → Int32} {M_text : Nat → Int32} {M_read : Nat → Int32} {M_row : Nat → Int32} {M_foldSet : Nat → Int32} {M_foldEdges : Nat → Int64} {M_foldNeeds : Nat → Int32} {M_foldYards : Nat → Int32} {M_least : Nat → Int32} {M_ways : Nat → Int32} {M_price : Nat → Int32} {M_rowBy : Nat → Int32} {M_columnBy : Nat → Int32} {M_rowOf : Nat → Int32} {M_wayBack : Nat → Int32} {M_slack : Nat → Int32} {M_isUsed : Nat → Int32} {M_lifted : Nat → Int32} {M_freed : Nat → Int32} {M_path : Nat → Int32} {s0 : Int64} {Q : Int32 × Int32 × Int64 × Int32 × Int32 → Prop} {B101 : Int32 → Int64 → Prop} (cx : Cx x cX11_nextToken 1 RX11 rm_X11_nextToken D [(cyI, .int), (cyJ, .long), (cyZ, .boolean)]) (hR : ∀ (u : Int32 × Int32 × Int64 × Int32 × Int32) (pc : Nat) (lv : List (Nat × Value)), decode cX11_nextToken pc = .ok (.return_, 1) → Q u → J x 0 0 1 (W_Model cyI cyJ cyZ a_M a_M_square a_M_want a_M_text a_M_read a_M_row a_M_foldSet a_M_foldEdges a_M_foldNeeds a_M_foldYards a_M_least a_M_ways a_M_price a_M_rowBy a_M_columnBy a_M_rowOf a_M_wayBack a_M_slack a_M_isUsed a_M_lifted a_M_freed a_M_path M_wide M_high M_hedges M_hurdles M_wants M_rest M_frozen M_bytes u.1 u.2.1 u.2.2.1 u.2.2.2.1 u.2.2.2.2 M_faultAt M_readMany M_readWide M_readHigh M_nights M_why M_folds M_square M_want M_text M_read M_row M_foldSet M_foldEdges M_foldNeeds M_foldYards M_least M_ways M_price M_rowBy M_columnBy M_rowOf M_wayBack M_slack M_isUsed M_lifted M_freed M_path) lv pc []) (hB101 : ∀ (M_position : Int32) (M_token : Int64), B101 M_position M_token → J x 0 0 1 (W_Model cyI cyJ cyZ a_M a_M_square a_M_want a_M_text a_M_read a_M_row a_M_foldSet a_M_foldEdges a_M_foldNeeds a_M_foldYards a_M_least a_M_ways a_M_price a_M_rowBy a_M_columnBy a_M_rowOf a_M_wayBack a_M_slack a_M_isUsed a_M_lifted a_M_freed a_M_path M_wide M_high M_hedges M_hurdles M_wants M_rest M_frozen M_bytes M_position M_tokenAt M_token M_digits M_number M_faultAt M_readMany M_readWide M_readHigh M_nights M_why M_folds M_square M_want M_text M_read M_row M_foldSet M_foldEdges M_foldNeeds M_foldYards M_least M_ways M_price M_rowBy M_columnBy M_rowOf M_wayBack M_slack M_isUsed M_lifted M_freed M_path) [(0, .ref a_M)] 101 []) (h : bk_X11_nextToken_175 Q B101 M_position s0) :
    J x 0 0 1 (W_Model cyI cyJ cyZ a_M a_M_square a_M_want a_M_text a_M_read a_M_row a_M_foldSet a_M_foldEdges a_M_foldNeeds a_M_foldYards a_M_least a_M_ways a_M_price a_M_rowBy a_M_columnBy a_M_rowOf a_M_wayBack a_M_slack a_M_isUsed a_M_lifted a_M_freed a_M_path M_wide M_high M_hedges M_hurdles M_wants M_rest M_frozen M_bytes M_position M_tokenAt M_token M_digits M_number M_faultAt M_readMany M_readWide M_readHigh M_nights M_why M_folds M_square M_want M_text M_read M_row M_foldSet M_foldEdges M_foldNeeds M_foldYards M_least M_ways M_price M_rowBy M_columnBy M_rowOf M_wayBack M_slack M_isUsed M_lifted M_freed M_path) [(0, .ref a_M)] 175 [.long s0, .ref a_M] := by
  unfold bk_X11_nextToken_175 at h
  refine j_put cx tyX11 tyX11_ok nmX11 inGX11 0 rfl rfl 13 (by decide) q_fl_X11_113 rfl rfl rfl rfl rfl (Nat.le_of_ble_eq_true rfl) (W_Model cyI cyJ cyZ a_M a_M_square a_M_want a_M_text a_M_read a_M_row a_M_foldSet a_M_foldEdges a_M_foldNeeds a_M_foldYards a_M_least a_M_ways a_M_price a_M_rowBy a_M_columnBy a_M_rowOf a_M_wayBack a_M_slack a_M_isUsed a_M_lifted a_M_freed a_M_path M_wide M_high M_hedges M_hurdles M_wants M_rest M_frozen M_bytes M_position M_tokenAt s0 M_digits M_number M_faultAt M_readMany M_readWide M_readHigh M_nights M_why M_folds M_square M_want M_text M_read M_row M_foldSet M_foldEdges M_foldNeeds M_foldYards M_least M_ways M_price M_rowBy M_columnBy M_rowOf M_wayBack M_slack M_isUsed M_lifted M_freed M_path) rfl dX11_nextToken_175 (pn := 178) rfl ?_
  refine j_aload_n cx 0 rfl rfl dX11_nextToken_178 (pn := 179) rfl ?_
  refine j_dup cx rfl dX11_nextToken_179 (pn := 180) rfl ?_
  refine j_get cx inGX11 0 rfl rfl 11 (by decide) q_fl_X11_99 rfl rfl dX11_nextToken_180 (pn := 183) rfl ?_
  refine j_iconst cx (v := 1) (by decide) dX11_nextToken_183 (pn := 184) rfl ?_
  refine j_iadd cx dX11_nextToken_184 (pn := 185) rfl ?_
  refine j_topi (fun y21 ey21 => ?_)
  have h := h y21 ey21
  refine j_put cx tyX11 tyX11_ok nmX11 inGX11 0 rfl rfl 11 (by decide) q_fl_X11_99 rfl rfl rfl rfl rfl (Nat.le_of_ble_eq_true rfl) (W_Model cyI cyJ cyZ a_M a_M_square a_M_want a_M_text a_M_read a_M_row a_M_foldSet a_M_foldEdges a_M_foldNeeds a_M_foldYards a_M_least a_M_ways a_M_price a_M_rowBy a_M_columnBy a_M_rowOf a_M_wayBack a_M_slack a_M_isUsed a_M_lifted a_M_freed a_M_path M_wide M_high M_hedges M_hurdles M_wants M_rest M_frozen M_bytes y21 M_tokenAt s0 M_digits M_number M_faultAt M_readMany M_readWide M_readHigh M_nights M_why M_folds M_square M_want M_text M_read M_row M_foldSet M_foldEdges M_foldNeeds M_foldYards M_least M_ways M_price M_rowBy M_columnBy M_rowOf M_wayBack M_slack M_isUsed M_lifted M_freed M_path) rfl dX11_nextToken_185 (pn := 188) rfl ?_
  refine j_goto cx 101 dX11_nextToken_188 rfl ?_
  exact hB101 _ _ h
set_option maxHeartbeats 4000000 in
set_option maxRecDepth 100000 in
theorem B_X11_nextToken_101 {x : CX} {D : DG} {cyI cyJ cyZ : ClassId} {a_M a_M_square a_M_want a_M_text a_M_read a_M_row a_M_foldSet a_M_foldEdges a_M_foldNeeds a_M_foldYards a_M_least a_M_ways a_M_price a_M_rowBy a_M_columnBy a_M_rowOf a_M_wayBack a_M_slack a_M_isUsed a_M_lifted a_M_freed a_M_path : Nat} {M_wide : Int32} {M_high : Int32} {M_hedges : Int64} {M_hurdles : Int32} {M_wants : Int32} {M_rest : Int32} {M_frozen : Int32} {M_bytes : Int32} {M_position : Int32} {M_tokenAt : Int32} {M_token : Int64} {M_digits : Int32} {M_number : Int32} {M_faultAt : Int32} {M_readMany : Int32} {M_readWide : Int32} {M_readHigh : Int32} {M_nights : Int32} {M_why : Int32} {M_folds : Int32} {M_square : Nat → Int32} {M_want : Nat → Int32} {M_text : Nat → Int32} {M_read : Nat → Int32} {M_row : Nat → Int32} {M_foldSet : Nat → Int32} {M_foldEdges : Nat → Int64} {M_foldNeeds : Nat → Int32} {M_foldYards : Nat → Int32} {M_least : Nat → Int32} {M_ways : Nat → Int32} {M_price : Nat → Int32} {M_rowBy : Nat → Int32} {M_columnBy : Nat → Int32} {M_rowOf : Nat → Int32} {M_wayBack : Nat → Int32} {M_slack : Nat → Int32} {M_isUsed : Nat → Int32} {M_lifted : Nat → Int32} {M_freed : Nat → Int32} {M_path : Nat → Int32} {Q : Int32 × Int32 × Int64 × Int32 × Int32 → Prop} {B101 : Int32 → Int64 → Prop} (cx : Cx x cX11_nextToken 1 RX11 rm_X11_nextToken D [(cyI, .int), (cyJ, .long), (cyZ, .boolean)]) (hR : ∀ (u : Int32 × Int32 × Int64 × Int32 × Int32) (pc : Nat) (lv : List (Nat × Value)), decode cX11_nextToken pc = .ok (.return_, 1) → Q u → J x 0 0 1 (W_Model cyI cyJ cyZ a_M a_M_square a_M_want a_M_text a_M_read a_M_row a_M_foldSet a_M_foldEdges a_M_foldNeeds a_M_foldYards a_M_least a_M_ways a_M_price a_M_rowBy a_M_columnBy a_M_rowOf a_M_wayBack a_M_slack a_M_isUsed a_M_lifted a_M_freed a_M_path M_wide M_high M_hedges M_hurdles M_wants M_rest M_frozen M_bytes u.1 u.2.1 u.2.2.1 u.2.2.2.1 u.2.2.2.2 M_faultAt M_readMany M_readWide M_readHigh M_nights M_why M_folds M_square M_want M_text M_read M_row M_foldSet M_foldEdges M_foldNeeds M_foldYards M_least M_ways M_price M_rowBy M_columnBy M_rowOf M_wayBack M_slack M_isUsed M_lifted M_freed M_path) lv pc []) (hB101 : ∀ (M_position : Int32) (M_token : Int64), B101 M_position M_token → J x 0 0 1 (W_Model cyI cyJ cyZ a_M a_M_square a_M_want a_M_text a_M_read a_M_row a_M_foldSet a_M_foldEdges a_M_foldNeeds a_M_foldYards a_M_least a_M_ways a_M_price a_M_rowBy a_M_columnBy a_M_rowOf a_M_wayBack a_M_slack a_M_isUsed a_M_lifted a_M_freed a_M_path M_wide M_high M_hedges M_hurdles M_wants M_rest M_frozen M_bytes M_position M_tokenAt M_token M_digits M_number M_faultAt M_readMany M_readWide M_readHigh M_nights M_why M_folds M_square M_want M_text M_read M_row M_foldSet M_foldEdges M_foldNeeds M_foldYards M_least M_ways M_price M_rowBy M_columnBy M_rowOf M_wayBack M_slack M_isUsed M_lifted M_freed M_path) [(0, .ref a_M)] 101 []) (h : bd_X11_nextToken_101 Q B101 M_bytes M_tokenAt M_digits M_number M_text M_position M_token) :
    J x 0 0 1 (W_Model cyI cyJ cyZ a_M a_M_square a_M_want a_M_text a_M_read a_M_row a_M_foldSet a_M_foldEdges a_M_foldNeeds a_M_foldYards a_M_least a_M_ways a_M_price a_M_rowBy a_M_columnBy a_M_rowOf a_M_wayBack a_M_slack a_M_isUsed a_M_lifted a_M_freed a_M_path M_wide M_high M_hedges M_hurdles M_wants M_rest M_frozen M_bytes M_position M_tokenAt M_token M_digits M_number M_faultAt M_readMany M_readWide M_readHigh M_nights M_why M_folds M_square M_want M_text M_read M_row M_foldSet M_foldEdges M_foldNeeds M_foldYards M_least M_ways M_price M_rowBy M_columnBy M_rowOf M_wayBack M_slack M_isUsed M_lifted M_freed M_path) [(0, .ref a_M)] 101 [] := by
  unfold bd_X11_nextToken_101 at h
  refine j_aload_n cx 0 rfl rfl dX11_nextToken_101 (pn := 102) rfl ?_
  refine j_get cx inGX11 0 rfl rfl 11 (by decide) q_fl_X11_99 rfl rfl dX11_nextToken_102 (pn := 105) rfl ?_
  refine j_aload_n cx 0 rfl rfl dX11_nextToken_105 (pn := 106) rfl ?_
  refine j_get cx inGX11 0 rfl rfl 9 (by decide) q_fl_X11_94 rfl rfl dX11_nextToken_106 (pn := 109) rfl ?_
  refine j_icmp_ge cx 191 dX11_nextToken_109 (pn := 112) rfl rfl (fun c16 => ?_) (fun c16 => ?_)
  · have h := h.1 c16
    exact J_X11_nextToken_191 cx hR h
  · have h := h.2 c16
    refine j_aload_n cx 0 rfl rfl dX11_nextToken_112 (pn := 113) rfl ?_
    refine j_get cx inGX11 0 rfl rfl 10 (by decide) q_fl_X11_26 rfl rfl dX11_nextToken_113 (pn := 116) rfl ?_
    refine j_aload_n cx 0 rfl rfl dX11_nextToken_116 (pn := 117) rfl ?_
    refine j_get cx inGX11 0 rfl rfl 11 (by decide) q_fl_X11_99 rfl rfl dX11_nextToken_117 (pn := 120) rfl ?_
    refine j_iald cx 3 0 rfl rfl h.1 dX11_nextToken_120 (pn := 121) rfl ?_
    have h := h.2
    refine j_bipush cx (v := 97) (by decide) dX11_nextToken_121 (pn := 123) rfl ?_
    refine j_bipush cx (v := 122) (by decide) dX11_nextToken_123 (pn := 125) rfl ?_
    refine j_calleI cx q_stat_X11_in (As := [.int (M_text M_position.toNatClampNeg), .int 97, .int 122]) (rest := []) (c_X11_in h) ⟨q_code_X11_in, q_ml_X11_90, q_init_X11, hd_X11_in, ⟨Nat.le_of_ble_eq_true rfl, Nat.le_of_ble_eq_true rfl⟩, Nat.le_of_ble_eq_true rfl, Nat.le_of_ble_eq_true rfl⟩ rfl rfl (Nat.le_of_ble_eq_true rfl) dX11_nextToken_125 (pn := 128) rfl (fun r18 h => ?_)
    show J x 0 0 1 (W_Model cyI cyJ cyZ a_M a_M_square a_M_want a_M_text a_M_read a_M_row a_M_foldSet a_M_foldEdges a_M_foldNeeds a_M_foldYards a_M_least a_M_ways a_M_price a_M_rowBy a_M_columnBy a_M_rowOf a_M_wayBack a_M_slack a_M_isUsed a_M_lifted a_M_freed a_M_path M_wide M_high M_hedges M_hurdles M_wants M_rest M_frozen M_bytes M_position M_tokenAt M_token M_digits M_number M_faultAt M_readMany M_readWide M_readHigh M_nights M_why M_folds M_square M_want M_text M_read M_row M_foldSet M_foldEdges M_foldNeeds M_foldYards M_least M_ways M_price M_rowBy M_columnBy M_rowOf M_wayBack M_slack M_isUsed M_lifted M_freed M_path) [(0, .ref a_M)] 128 [.int r18]
    refine j_if_eq cx 191 dX11_nextToken_128 (pn := 131) rfl rfl (fun c19 => ?_) (fun c19 => ?_)
    · have h := h.1 c19
      exact J_X11_nextToken_191 cx hR h
    · have h := h.2 c19
      refine j_aload_n cx 0 rfl rfl dX11_nextToken_131 (pn := 132) rfl ?_
      refine j_aload_n cx 0 rfl rfl dX11_nextToken_132 (pn := 133) rfl ?_
      refine j_get cx inGX11 0 rfl rfl 11 (by decide) q_fl_X11_99 rfl rfl dX11_nextToken_133 (pn := 136) rfl ?_
      refine j_aload_n cx 0 rfl rfl dX11_nextToken_136 (pn := 137) rfl ?_
      refine j_get cx inGX11 0 rfl rfl 12 (by decide) q_fl_X11_102 rfl rfl dX11_nextToken_137 (pn := 140) rfl ?_
      refine j_isub cx dX11_nextToken_140 (pn := 141) rfl ?_
      refine j_bipush cx (v := 9) (by decide) dX11_nextToken_141 (pn := 143) rfl ?_
      refine j_icmp_ge cx 172 dX11_nextToken_143 (pn := 146) rfl rfl (fun c20 => ?_) (fun c20 => ?_)
      · have h := h.1 c20
        refine j_ldc2 cx q_cl_X11_121 dX11_nextToken_172 (pn := 175) rfl ?_
        exact J_X11_nextToken_175 cx hR hB101 h
      · have h := h.2 c20
        refine j_ldc2 cx q_cl_X11_117 dX11_nextToken_146 (pn := 149) rfl ?_
        refine j_aload_n cx 0 rfl rfl dX11_nextToken_149 (pn := 150) rfl ?_
        refine j_get cx inGX11 0 rfl rfl 13 (by decide) q_fl_X11_113 rfl rfl dX11_nextToken_150 (pn := 153) rfl ?_
        refine j_lmul cx dX11_nextToken_153 (pn := 154) rfl ?_
        refine j_aload_n cx 0 rfl rfl dX11_nextToken_154 (pn := 155) rfl ?_
        refine j_get cx inGX11 0 rfl rfl 10 (by decide) q_fl_X11_26 rfl rfl dX11_nextToken_155 (pn := 158) rfl ?_
        refine j_aload_n cx 0 rfl rfl dX11_nextToken_158 (pn := 159) rfl ?_
        refine j_get cx inGX11 0 rfl rfl 11 (by decide) q_fl_X11_99 rfl rfl dX11_nextToken_159 (pn := 162) rfl ?_
        refine j_iald cx 3 0 rfl rfl h.1 dX11_nextToken_162 (pn := 163) rfl ?_
        have h := h.2
        refine j_i2l cx dX11_nextToken_163 (pn := 164) rfl ?_
        refine j_ladd cx dX11_nextToken_164 (pn := 165) rfl ?_
        refine j_ldc2 cx q_cl_X11_119 dX11_nextToken_165 (pn := 168) rfl ?_
        refine j_lsub cx dX11_nextToken_168 (pn := 169) rfl ?_
        refine j_goto cx 175 dX11_nextToken_169 rfl ?_
        exact J_X11_nextToken_175 cx hR hB101 h
set_option maxHeartbeats 4000000 in
set_option maxRecDepth 100000 in
theorem J_X11_nextToken_101 {x : CX} {D : DG} {cyI cyJ cyZ : ClassId} {a_M a_M_square a_M_want a_M_text a_M_read a_M_row a_M_foldSet a_M_foldEdges a_M_foldNeeds a_M_foldYards a_M_least a_M_ways a_M_price a_M_rowBy a_M_columnBy a_M_rowOf a_M_wayBack a_M_slack a_M_isUsed a_M_lifted a_M_freed a_M_path : Nat} {M_wide : Int32} {M_high : Int32} {M_hedges : Int64} {M_hurdles : Int32} {M_wants : Int32} {M_rest : Int32} {M_frozen : Int32} {M_bytes : Int32} {M_position : Int32} {M_tokenAt : Int32} {M_token : Int64} {M_digits : Int32} {M_number : Int32} {M_faultAt : Int32} {M_readMany : Int32} {M_readWide : Int32} {M_readHigh : Int32} {M_nights : Int32} {M_why : Int32} {M_folds : Int32} {M_square : Nat → Int32} {M_want : Nat → Int32} {M_text : Nat → Int32} {M_read : Nat → Int32} {M_row : Nat → Int32} {M_foldSet : Nat → Int32} {M_foldEdges : Nat → Int64} {M_foldNeeds : Nat → Int32} {M_foldYards : Nat → Int32} {M_least : Nat → Int32} {M_ways : Nat → Int32} {M_price : Nat → Int32} {M_rowBy : Nat → Int32} {M_columnBy : Nat → Int32} {M_rowOf : Nat → Int32} {M_wayBack : Nat → Int32} {M_slack : Nat → Int32} {M_isUsed : Nat → Int32} {M_lifted : Nat → Int32} {M_freed : Nat → Int32} {M_path : Nat → Int32} {Q : Int32 × Int32 × Int64 × Int32 × Int32 → Prop} (cx : Cx x cX11_nextToken 1 RX11 rm_X11_nextToken D [(cyI, .int), (cyJ, .long), (cyZ, .boolean)]) (hR : ∀ (u : Int32 × Int32 × Int64 × Int32 × Int32) (pc : Nat) (lv : List (Nat × Value)), decode cX11_nextToken pc = .ok (.return_, 1) → Q u → J x 0 0 1 (W_Model cyI cyJ cyZ a_M a_M_square a_M_want a_M_text a_M_read a_M_row a_M_foldSet a_M_foldEdges a_M_foldNeeds a_M_foldYards a_M_least a_M_ways a_M_price a_M_rowBy a_M_columnBy a_M_rowOf a_M_wayBack a_M_slack a_M_isUsed a_M_lifted a_M_freed a_M_path M_wide M_high M_hedges M_hurdles M_wants M_rest M_frozen M_bytes u.1 u.2.1 u.2.2.1 u.2.2.2.1 u.2.2.2.2 M_faultAt M_readMany M_readWide M_readHigh M_nights M_why M_folds M_square M_want M_text M_read M_row M_foldSet M_foldEdges M_foldNeeds M_foldYards M_least M_ways M_price M_rowBy M_columnBy M_rowOf M_wayBack M_slack M_isUsed M_lifted M_freed M_path) lv pc []) (h : lp_X11_nextToken_101 Q  M_bytes M_tokenAt M_digits M_number M_text M_position M_token) :
    J x 0 0 1 (W_Model cyI cyJ cyZ a_M a_M_square a_M_want a_M_text a_M_read a_M_row a_M_foldSet a_M_foldEdges a_M_foldNeeds a_M_foldYards a_M_least a_M_ways a_M_price a_M_rowBy a_M_columnBy a_M_rowOf a_M_wayBack a_M_slack a_M_isUsed a_M_lifted a_M_freed a_M_path M_wide M_high M_hedges M_hurdles M_wants M_rest M_frozen M_bytes M_position M_tokenAt M_token M_digits M_number M_faultAt M_readMany M_readWide M_readHigh M_nights M_why M_folds M_square M_want M_text M_read M_row M_foldSet M_foldEdges M_foldNeeds M_foldYards M_least M_ways M_price M_rowBy M_columnBy M_rowOf M_wayBack M_slack M_isUsed M_lifted M_freed M_path) [(0, .ref a_M)] 101 [] := by
  obtain ⟨I, ⟨n, h0⟩, hb⟩ := h
  revert M_position M_token
  induction n using Nat.strongRecOn with
  | _ n ih =>
    intro M_position M_token h0
    exact B_X11_nextToken_101 cx hR (fun _ _ hz => by obtain ⟨n2, hlt, hI⟩ := hz; exact ih n2 hlt hI) (hb n M_position M_token h0)
set_option maxHeartbeats 4000000 in
set_option maxRecDepth 100000 in
theorem J_X11_nextToken_38 {x : CX} {D : DG} {cyI cyJ cyZ : ClassId} {a_M a_M_square a_M_want a_M_text a_M_read a_M_row a_M_foldSet a_M_foldEdges a_M_foldNeeds a_M_foldYards a_M_least a_M_ways a_M_price a_M_rowBy a_M_columnBy a_M_rowOf a_M_wayBack a_M_slack a_M_isUsed a_M_lifted a_M_freed a_M_path : Nat} {M_wide : Int32} {M_high : Int32} {M_hedges : Int64} {M_hurdles : Int32} {M_wants : Int32} {M_rest : Int32} {M_frozen : Int32} {M_bytes : Int32} {M_position : Int32} {M_tokenAt : Int32} {M_token : Int64} {M_digits : Int32} {M_number : Int32} {M_faultAt : Int32} {M_readMany : Int32} {M_readWide : Int32} {M_readHigh : Int32} {M_nights : Int32} {M_why : Int32} {M_folds : Int32} {M_square : Nat → Int32} {M_want : Nat → Int32} {M_text : Nat → Int32} {M_read : Nat → Int32} {M_row : Nat → Int32} {M_foldSet : Nat → Int32} {M_foldEdges : Nat → Int64} {M_foldNeeds : Nat → Int32} {M_foldYards : Nat → Int32} {M_least : Nat → Int32} {M_ways : Nat → Int32} {M_price : Nat → Int32} {M_rowBy : Nat → Int32} {M_columnBy : Nat → Int32} {M_rowOf : Nat → Int32} {M_wayBack : Nat → Int32} {M_slack : Nat → Int32} {M_isUsed : Nat → Int32} {M_lifted : Nat → Int32} {M_freed : Nat → Int32} {M_path : Nat → Int32} {Q : Int32 × Int32 × Int64 × Int32 × Int32 → Prop} (cx : Cx x cX11_nextToken 1 RX11 rm_X11_nextToken D [(cyI, .int), (cyJ, .long), (cyZ, .boolean)]) (hR : ∀ (u : Int32 × Int32 × Int64 × Int32 × Int32) (pc : Nat) (lv : List (Nat × Value)), decode cX11_nextToken pc = .ok (.return_, 1) → Q u → J x 0 0 1 (W_Model cyI cyJ cyZ a_M a_M_square a_M_want a_M_text a_M_read a_M_row a_M_foldSet a_M_foldEdges a_M_foldNeeds a_M_foldYards a_M_least a_M_ways a_M_price a_M_rowBy a_M_columnBy a_M_rowOf a_M_wayBack a_M_slack a_M_isUsed a_M_lifted a_M_freed a_M_path M_wide M_high M_hedges M_hurdles M_wants M_rest M_frozen M_bytes u.1 u.2.1 u.2.2.1 u.2.2.2.1 u.2.2.2.2 M_faultAt M_readMany M_readWide M_readHigh M_nights M_why M_folds M_square M_want M_text M_read M_row M_foldSet M_foldEdges M_foldNeeds M_foldYards M_least M_ways M_price M_rowBy M_columnBy M_rowOf M_wayBack M_slack M_isUsed M_lifted M_freed M_path) lv pc []) (h : bk_X11_nextToken_38 Q  M_bytes M_position M_text) :
    J x 0 0 1 (W_Model cyI cyJ cyZ a_M a_M_square a_M_want a_M_text a_M_read a_M_row a_M_foldSet a_M_foldEdges a_M_foldNeeds a_M_foldYards a_M_least a_M_ways a_M_price a_M_rowBy a_M_columnBy a_M_rowOf a_M_wayBack a_M_slack a_M_isUsed a_M_lifted a_M_freed a_M_path M_wide M_high M_hedges M_hurdles M_wants M_rest M_frozen M_bytes M_position M_tokenAt M_token M_digits M_number M_faultAt M_readMany M_readWide M_readHigh M_nights M_why M_folds M_square M_want M_text M_read M_row M_foldSet M_foldEdges M_foldNeeds M_foldYards M_least M_ways M_price M_rowBy M_columnBy M_rowOf M_wayBack M_slack M_isUsed M_lifted M_freed M_path) [(0, .ref a_M)] 38 [] := by
  unfold bk_X11_nextToken_38 at h
  refine j_aload_n cx 0 rfl rfl dX11_nextToken_38 (pn := 39) rfl ?_
  refine j_aload_n cx 0 rfl rfl dX11_nextToken_39 (pn := 40) rfl ?_
  refine j_get cx inGX11 0 rfl rfl 11 (by decide) q_fl_X11_99 rfl rfl dX11_nextToken_40 (pn := 43) rfl ?_
  refine j_put cx tyX11 tyX11_ok nmX11 inGX11 0 rfl rfl 12 (by decide) q_fl_X11_102 rfl rfl rfl rfl rfl (Nat.le_of_ble_eq_true rfl) (W_Model cyI cyJ cyZ a_M a_M_square a_M_want a_M_text a_M_read a_M_row a_M_foldSet a_M_foldEdges a_M_foldNeeds a_M_foldYards a_M_least a_M_ways a_M_price a_M_rowBy a_M_columnBy a_M_rowOf a_M_wayBack a_M_slack a_M_isUsed a_M_lifted a_M_freed a_M_path M_wide M_high M_hedges M_hurdles M_wants M_rest M_frozen M_bytes M_position M_position M_token M_digits M_number M_faultAt M_readMany M_readWide M_readHigh M_nights M_why M_folds M_square M_want M_text M_read M_row M_foldSet M_foldEdges M_foldNeeds M_foldYards M_least M_ways M_price M_rowBy M_columnBy M_rowOf M_wayBack M_slack M_isUsed M_lifted M_freed M_path) rfl dX11_nextToken_43 (pn := 46) rfl ?_
  refine j_aload_n cx 0 rfl rfl dX11_nextToken_46 (pn := 47) rfl ?_
  refine j_iconst cx (v := 0) (by decide) dX11_nextToken_47 (pn := 48) rfl ?_
  refine j_put cx tyX11 tyX11_ok nmX11 inGX11 0 rfl rfl 14 (by decide) q_fl_X11_105 rfl rfl rfl rfl rfl (Nat.le_of_ble_eq_true rfl) (W_Model cyI cyJ cyZ a_M a_M_square a_M_want a_M_text a_M_read a_M_row a_M_foldSet a_M_foldEdges a_M_foldNeeds a_M_foldYards a_M_least a_M_ways a_M_price a_M_rowBy a_M_columnBy a_M_rowOf a_M_wayBack a_M_slack a_M_isUsed a_M_lifted a_M_freed a_M_path M_wide M_high M_hedges M_hurdles M_wants M_rest M_frozen M_bytes M_position M_position M_token 0 M_number M_faultAt M_readMany M_readWide M_readHigh M_nights M_why M_folds M_square M_want M_text M_read M_row M_foldSet M_foldEdges M_foldNeeds M_foldYards M_least M_ways M_price M_rowBy M_columnBy M_rowOf M_wayBack M_slack M_isUsed M_lifted M_freed M_path) rfl dX11_nextToken_48 (pn := 51) rfl ?_
  refine j_aload_n cx 0 rfl rfl dX11_nextToken_51 (pn := 52) rfl ?_
  refine j_iconst cx (v := 0) (by decide) dX11_nextToken_52 (pn := 53) rfl ?_
  refine j_put cx tyX11 tyX11_ok nmX11 inGX11 0 rfl rfl 15 (by decide) q_fl_X11_108 rfl rfl rfl rfl rfl (Nat.le_of_ble_eq_true rfl) (W_Model cyI cyJ cyZ a_M a_M_square a_M_want a_M_text a_M_read a_M_row a_M_foldSet a_M_foldEdges a_M_foldNeeds a_M_foldYards a_M_least a_M_ways a_M_price a_M_rowBy a_M_columnBy a_M_rowOf a_M_wayBack a_M_slack a_M_isUsed a_M_lifted a_M_freed a_M_path M_wide M_high M_hedges M_hurdles M_wants M_rest M_frozen M_bytes M_position M_position M_token 0 0 M_faultAt M_readMany M_readWide M_readHigh M_nights M_why M_folds M_square M_want M_text M_read M_row M_foldSet M_foldEdges M_foldNeeds M_foldYards M_least M_ways M_price M_rowBy M_columnBy M_rowOf M_wayBack M_slack M_isUsed M_lifted M_freed M_path) rfl dX11_nextToken_53 (pn := 56) rfl ?_
  refine j_aload_n cx 0 rfl rfl dX11_nextToken_56 (pn := 57) rfl ?_
  refine j_get cx inGX11 0 rfl rfl 11 (by decide) q_fl_X11_99 rfl rfl dX11_nextToken_57 (pn := 60) rfl ?_
  refine j_aload_n cx 0 rfl rfl dX11_nextToken_60 (pn := 61) rfl ?_
  refine j_get cx inGX11 0 rfl rfl 9 (by decide) q_fl_X11_94 rfl rfl dX11_nextToken_61 (pn := 64) rfl ?_
  refine j_icmp_ne cx 77 dX11_nextToken_64 (pn := 67) rfl rfl (fun c2 => ?_) (fun c2 => ?_)
  · have h := h.1 c2
    refine j_aload_n cx 0 rfl rfl dX11_nextToken_77 (pn := 78) rfl ?_
    refine j_get cx inGX11 0 rfl rfl 10 (by decide) q_fl_X11_26 rfl rfl dX11_nextToken_78 (pn := 81) rfl ?_
    refine j_aload_n cx 0 rfl rfl dX11_nextToken_81 (pn := 82) rfl ?_
    refine j_get cx inGX11 0 rfl rfl 11 (by decide) q_fl_X11_99 rfl rfl dX11_nextToken_82 (pn := 85) rfl ?_
    refine j_iald cx 3 0 rfl rfl h.1 dX11_nextToken_85 (pn := 86) rfl ?_
    have h := h.2
    refine j_bipush cx (v := 97) (by decide) dX11_nextToken_86 (pn := 88) rfl ?_
    refine j_bipush cx (v := 122) (by decide) dX11_nextToken_88 (pn := 90) rfl ?_
    refine j_calleI cx q_stat_X11_in (As := [.int (M_text M_position.toNatClampNeg), .int 97, .int 122]) (rest := []) (c_X11_in h) ⟨q_code_X11_in, q_ml_X11_90, q_init_X11, hd_X11_in, ⟨Nat.le_of_ble_eq_true rfl, Nat.le_of_ble_eq_true rfl⟩, Nat.le_of_ble_eq_true rfl, Nat.le_of_ble_eq_true rfl⟩ rfl rfl (Nat.le_of_ble_eq_true rfl) dX11_nextToken_90 (pn := 93) rfl (fun r3 h => ?_)
    show J x 0 0 1 (W_Model cyI cyJ cyZ a_M a_M_square a_M_want a_M_text a_M_read a_M_row a_M_foldSet a_M_foldEdges a_M_foldNeeds a_M_foldYards a_M_least a_M_ways a_M_price a_M_rowBy a_M_columnBy a_M_rowOf a_M_wayBack a_M_slack a_M_isUsed a_M_lifted a_M_freed a_M_path M_wide M_high M_hedges M_hurdles M_wants M_rest M_frozen M_bytes M_position M_position M_token 0 0 M_faultAt M_readMany M_readWide M_readHigh M_nights M_why M_folds M_square M_want M_text M_read M_row M_foldSet M_foldEdges M_foldNeeds M_foldYards M_least M_ways M_price M_rowBy M_columnBy M_rowOf M_wayBack M_slack M_isUsed M_lifted M_freed M_path) [(0, .ref a_M)] 93 [.int r3]
    refine j_if_eq cx 222 dX11_nextToken_93 (pn := 96) rfl rfl (fun c4 => ?_) (fun c4 => ?_)
    · have h := h.1 c4
      refine j_aload_n cx 0 rfl rfl dX11_nextToken_222 (pn := 223) rfl ?_
      refine j_get cx inGX11 0 rfl rfl 10 (by decide) q_fl_X11_26 rfl rfl dX11_nextToken_223 (pn := 226) rfl ?_
      refine j_aload_n cx 0 rfl rfl dX11_nextToken_226 (pn := 227) rfl ?_
      refine j_get cx inGX11 0 rfl rfl 11 (by decide) q_fl_X11_99 rfl rfl dX11_nextToken_227 (pn := 230) rfl ?_
      refine j_iald cx 3 0 rfl rfl h.1 dX11_nextToken_230 (pn := 231) rfl ?_
      have h := h.2
      refine j_bipush cx (v := 48) (by decide) dX11_nextToken_231 (pn := 233) rfl ?_
      refine j_bipush cx (v := 57) (by decide) dX11_nextToken_233 (pn := 235) rfl ?_
      refine j_calleI cx q_stat_X11_in (As := [.int (M_text M_position.toNatClampNeg), .int 48, .int 57]) (rest := []) (c_X11_in h) ⟨q_code_X11_in, q_ml_X11_90, q_init_X11, hd_X11_in, ⟨Nat.le_of_ble_eq_true rfl, Nat.le_of_ble_eq_true rfl⟩, Nat.le_of_ble_eq_true rfl, Nat.le_of_ble_eq_true rfl⟩ rfl rfl (Nat.le_of_ble_eq_true rfl) dX11_nextToken_235 (pn := 238) rfl (fun r5 h => ?_)
      show J x 0 0 1 (W_Model cyI cyJ cyZ a_M a_M_square a_M_want a_M_text a_M_read a_M_row a_M_foldSet a_M_foldEdges a_M_foldNeeds a_M_foldYards a_M_least a_M_ways a_M_price a_M_rowBy a_M_columnBy a_M_rowOf a_M_wayBack a_M_slack a_M_isUsed a_M_lifted a_M_freed a_M_path M_wide M_high M_hedges M_hurdles M_wants M_rest M_frozen M_bytes M_position M_position M_token 0 0 M_faultAt M_readMany M_readWide M_readHigh M_nights M_why M_folds M_square M_want M_text M_read M_row M_foldSet M_foldEdges M_foldNeeds M_foldYards M_least M_ways M_price M_rowBy M_columnBy M_rowOf M_wayBack M_slack M_isUsed M_lifted M_freed M_path) [(0, .ref a_M)] 238 [.int r5]
      refine j_if_eq cx 357 dX11_nextToken_238 (pn := 241) rfl rfl (fun c6 => ?_) (fun c6 => ?_)
      · have h := h.1 c6
        refine j_aload_n cx 0 rfl rfl dX11_nextToken_357 (pn := 358) rfl ?_
        refine j_aload_n cx 0 rfl rfl dX11_nextToken_358 (pn := 359) rfl ?_
        refine j_get cx inGX11 0 rfl rfl 10 (by decide) q_fl_X11_26 rfl rfl dX11_nextToken_359 (pn := 362) rfl ?_
        refine j_aload_n cx 0 rfl rfl dX11_nextToken_362 (pn := 363) rfl ?_
        refine j_get cx inGX11 0 rfl rfl 11 (by decide) q_fl_X11_99 rfl rfl dX11_nextToken_363 (pn := 366) rfl ?_
        refine j_iald cx 3 0 rfl rfl h.1 dX11_nextToken_366 (pn := 367) rfl ?_
        have h := h.2
        refine j_bipush cx (v := 59) (by decide) dX11_nextToken_367 (pn := 369) rfl ?_
        refine j_icmp_ne cx 378 dX11_nextToken_369 (pn := 372) rfl rfl (fun c7 => ?_) (fun c7 => ?_)
        · have h := h.1 c7
          refine j_ldc2 cx q_cl_X11_121 dX11_nextToken_378 (pn := 381) rfl ?_
          exact J_X11_nextToken_381 cx hR h
        · have h := h.2 c7
          refine j_ldc2 cx q_cl_X11_125 dX11_nextToken_372 (pn := 375) rfl ?_
          refine j_goto cx 381 dX11_nextToken_375 rfl ?_
          exact J_X11_nextToken_381 cx hR h
      · have h := h.2 c6
        exact J_X11_nextToken_241 cx hR h
    · have h := h.2 c4
      refine j_aload_n cx 0 rfl rfl dX11_nextToken_96 (pn := 97) rfl ?_
      refine j_lconst cx (v := 0) (by decide) dX11_nextToken_97 (pn := 98) rfl ?_
      refine j_put cx tyX11 tyX11_ok nmX11 inGX11 0 rfl rfl 13 (by decide) q_fl_X11_113 rfl rfl rfl rfl rfl (Nat.le_of_ble_eq_true rfl) (W_Model cyI cyJ cyZ a_M a_M_square a_M_want a_M_text a_M_read a_M_row a_M_foldSet a_M_foldEdges a_M_foldNeeds a_M_foldYards a_M_least a_M_ways a_M_price a_M_rowBy a_M_columnBy a_M_rowOf a_M_wayBack a_M_slack a_M_isUsed a_M_lifted a_M_freed a_M_path M_wide M_high M_hedges M_hurdles M_wants M_rest M_frozen M_bytes M_position M_position 0 0 0 M_faultAt M_readMany M_readWide M_readHigh M_nights M_why M_folds M_square M_want M_text M_read M_row M_foldSet M_foldEdges M_foldNeeds M_foldYards M_least M_ways M_price M_rowBy M_columnBy M_rowOf M_wayBack M_slack M_isUsed M_lifted M_freed M_path) rfl dX11_nextToken_98 (pn := 101) rfl ?_
      exact J_X11_nextToken_101 cx hR h
  · have h := h.2 c2
    refine j_aload_n cx 0 rfl rfl dX11_nextToken_67 (pn := 68) rfl ?_
    refine j_ldc2 cx q_cl_X11_111 dX11_nextToken_68 (pn := 71) rfl ?_
    refine j_put cx tyX11 tyX11_ok nmX11 inGX11 0 rfl rfl 13 (by decide) q_fl_X11_113 rfl rfl rfl rfl rfl (Nat.le_of_ble_eq_true rfl) (W_Model cyI cyJ cyZ a_M a_M_square a_M_want a_M_text a_M_read a_M_row a_M_foldSet a_M_foldEdges a_M_foldNeeds a_M_foldYards a_M_least a_M_ways a_M_price a_M_rowBy a_M_columnBy a_M_rowOf a_M_wayBack a_M_slack a_M_isUsed a_M_lifted a_M_freed a_M_path M_wide M_high M_hedges M_hurdles M_wants M_rest M_frozen M_bytes M_position M_position (-2) 0 0 M_faultAt M_readMany M_readWide M_readHigh M_nights M_why M_folds M_square M_want M_text M_read M_row M_foldSet M_foldEdges M_foldNeeds M_foldYards M_least M_ways M_price M_rowBy M_columnBy M_rowOf M_wayBack M_slack M_isUsed M_lifted M_freed M_path) rfl dX11_nextToken_71 (pn := 74) rfl ?_
    refine j_goto cx 394 dX11_nextToken_74 rfl ?_
    exact hR (M_position, M_position, (-2), 0, 0) 394 _ dX11_nextToken_394 h
set_option maxHeartbeats 4000000 in
set_option maxRecDepth 100000 in
theorem B_X11_nextToken_0 {x : CX} {D : DG} {cyI cyJ cyZ : ClassId} {a_M a_M_square a_M_want a_M_text a_M_read a_M_row a_M_foldSet a_M_foldEdges a_M_foldNeeds a_M_foldYards a_M_least a_M_ways a_M_price a_M_rowBy a_M_columnBy a_M_rowOf a_M_wayBack a_M_slack a_M_isUsed a_M_lifted a_M_freed a_M_path : Nat} {M_wide : Int32} {M_high : Int32} {M_hedges : Int64} {M_hurdles : Int32} {M_wants : Int32} {M_rest : Int32} {M_frozen : Int32} {M_bytes : Int32} {M_position : Int32} {M_tokenAt : Int32} {M_token : Int64} {M_digits : Int32} {M_number : Int32} {M_faultAt : Int32} {M_readMany : Int32} {M_readWide : Int32} {M_readHigh : Int32} {M_nights : Int32} {M_why : Int32} {M_folds : Int32} {M_square : Nat → Int32} {M_want : Nat → Int32} {M_text : Nat → Int32} {M_read : Nat → Int32} {M_row : Nat → Int32} {M_foldSet : Nat → Int32} {M_foldEdges : Nat → Int64} {M_foldNeeds : Nat → Int32} {M_foldYards : Nat → Int32} {M_least : Nat → Int32} {M_ways : Nat → Int32} {M_price : Nat → Int32} {M_rowBy : Nat → Int32} {M_columnBy : Nat → Int32} {M_rowOf : Nat → Int32} {M_wayBack : Nat → Int32} {M_slack : Nat → Int32} {M_isUsed : Nat → Int32} {M_lifted : Nat → Int32} {M_freed : Nat → Int32} {M_path : Nat → Int32} {Q : Int32 × Int32 × Int64 × Int32 × Int32 → Prop} {B0 : Int32 → Prop} (cx : Cx x cX11_nextToken 1 RX11 rm_X11_nextToken D [(cyI, .int), (cyJ, .long), (cyZ, .boolean)]) (hR : ∀ (u : Int32 × Int32 × Int64 × Int32 × Int32) (pc : Nat) (lv : List (Nat × Value)), decode cX11_nextToken pc = .ok (.return_, 1) → Q u → J x 0 0 1 (W_Model cyI cyJ cyZ a_M a_M_square a_M_want a_M_text a_M_read a_M_row a_M_foldSet a_M_foldEdges a_M_foldNeeds a_M_foldYards a_M_least a_M_ways a_M_price a_M_rowBy a_M_columnBy a_M_rowOf a_M_wayBack a_M_slack a_M_isUsed a_M_lifted a_M_freed a_M_path M_wide M_high M_hedges M_hurdles M_wants M_rest M_frozen M_bytes u.1 u.2.1 u.2.2.1 u.2.2.2.1 u.2.2.2.2 M_faultAt M_readMany M_readWide M_readHigh M_nights M_why M_folds M_square M_want M_text M_read M_row M_foldSet M_foldEdges M_foldNeeds M_foldYards M_least M_ways M_price M_rowBy M_columnBy M_rowOf M_wayBack M_slack M_isUsed M_lifted M_freed M_path) lv pc []) (hB0 : ∀ (M_position : Int32), B0 M_position → J x 0 0 1 (W_Model cyI cyJ cyZ a_M a_M_square a_M_want a_M_text a_M_read a_M_row a_M_foldSet a_M_foldEdges a_M_foldNeeds a_M_foldYards a_M_least a_M_ways a_M_price a_M_rowBy a_M_columnBy a_M_rowOf a_M_wayBack a_M_slack a_M_isUsed a_M_lifted a_M_freed a_M_path M_wide M_high M_hedges M_hurdles M_wants M_rest M_frozen M_bytes M_position M_tokenAt M_token M_digits M_number M_faultAt M_readMany M_readWide M_readHigh M_nights M_why M_folds M_square M_want M_text M_read M_row M_foldSet M_foldEdges M_foldNeeds M_foldYards M_least M_ways M_price M_rowBy M_columnBy M_rowOf M_wayBack M_slack M_isUsed M_lifted M_freed M_path) [(0, .ref a_M)] 0 []) (h : bd_X11_nextToken_0 Q B0 M_bytes M_text M_position) :
    J x 0 0 1 (W_Model cyI cyJ cyZ a_M a_M_square a_M_want a_M_text a_M_read a_M_row a_M_foldSet a_M_foldEdges a_M_foldNeeds a_M_foldYards a_M_least a_M_ways a_M_price a_M_rowBy a_M_columnBy a_M_rowOf a_M_wayBack a_M_slack a_M_isUsed a_M_lifted a_M_freed a_M_path M_wide M_high M_hedges M_hurdles M_wants M_rest M_frozen M_bytes M_position M_tokenAt M_token M_digits M_number M_faultAt M_readMany M_readWide M_readHigh M_nights M_why M_folds M_square M_want M_text M_read M_row M_foldSet M_foldEdges M_foldNeeds M_foldYards M_least M_ways M_price M_rowBy M_columnBy M_rowOf M_wayBack M_slack M_isUsed M_lifted M_freed M_path) [(0, .ref a_M)] 0 [] := by
  unfold bd_X11_nextToken_0 at h
  refine j_aload_n cx 0 rfl rfl dX11_nextToken_0 (pn := 1) rfl ?_
  refine j_get cx inGX11 0 rfl rfl 11 (by decide) q_fl_X11_99 rfl rfl dX11_nextToken_1 (pn := 4) rfl ?_
  refine j_aload_n cx 0 rfl rfl dX11_nextToken_4 (pn := 5) rfl ?_
  refine j_get cx inGX11 0 rfl rfl 9 (by decide) q_fl_X11_94 rfl rfl dX11_nextToken_5 (pn := 8) rfl ?_
  refine j_icmp_ge cx 38 dX11_nextToken_8 (pn := 11) rfl rfl (fun c1 => ?_) (fun c1 => ?_)
  · have h := h.1 c1
    exact J_X11_nextToken_38 cx hR h
  · have h := h.2 c1
    refine j_aload_n cx 0 rfl rfl dX11_nextToken_11 (pn := 12) rfl ?_
    refine j_get cx inGX11 0 rfl rfl 10 (by decide) q_fl_X11_26 rfl rfl dX11_nextToken_12 (pn := 15) rfl ?_
    refine j_aload_n cx 0 rfl rfl dX11_nextToken_15 (pn := 16) rfl ?_
    refine j_get cx inGX11 0 rfl rfl 11 (by decide) q_fl_X11_99 rfl rfl dX11_nextToken_16 (pn := 19) rfl ?_
    refine j_iald cx 3 0 rfl rfl h.1 dX11_nextToken_19 (pn := 20) rfl ?_
    have h := h.2
    refine j_bipush cx (v := 32) (by decide) dX11_nextToken_20 (pn := 22) rfl ?_
    refine j_icmp_ne cx 38 dX11_nextToken_22 (pn := 25) rfl rfl (fun c22 => ?_) (fun c22 => ?_)
    · have h := h.1 c22
      exact J_X11_nextToken_38 cx hR h
    · have h := h.2 c22
      refine j_aload_n cx 0 rfl rfl dX11_nextToken_25 (pn := 26) rfl ?_
      refine j_dup cx rfl dX11_nextToken_26 (pn := 27) rfl ?_
      refine j_get cx inGX11 0 rfl rfl 11 (by decide) q_fl_X11_99 rfl rfl dX11_nextToken_27 (pn := 30) rfl ?_
      refine j_iconst cx (v := 1) (by decide) dX11_nextToken_30 (pn := 31) rfl ?_
      refine j_iadd cx dX11_nextToken_31 (pn := 32) rfl ?_
      refine j_topi (fun y23 ey23 => ?_)
      have h := h y23 ey23
      refine j_put cx tyX11 tyX11_ok nmX11 inGX11 0 rfl rfl 11 (by decide) q_fl_X11_99 rfl rfl rfl rfl rfl (Nat.le_of_ble_eq_true rfl) (W_Model cyI cyJ cyZ a_M a_M_square a_M_want a_M_text a_M_read a_M_row a_M_foldSet a_M_foldEdges a_M_foldNeeds a_M_foldYards a_M_least a_M_ways a_M_price a_M_rowBy a_M_columnBy a_M_rowOf a_M_wayBack a_M_slack a_M_isUsed a_M_lifted a_M_freed a_M_path M_wide M_high M_hedges M_hurdles M_wants M_rest M_frozen M_bytes y23 M_tokenAt M_token M_digits M_number M_faultAt M_readMany M_readWide M_readHigh M_nights M_why M_folds M_square M_want M_text M_read M_row M_foldSet M_foldEdges M_foldNeeds M_foldYards M_least M_ways M_price M_rowBy M_columnBy M_rowOf M_wayBack M_slack M_isUsed M_lifted M_freed M_path) rfl dX11_nextToken_32 (pn := 35) rfl ?_
      refine j_goto cx 0 dX11_nextToken_35 rfl ?_
      exact hB0 _ h
set_option maxHeartbeats 4000000 in
set_option maxRecDepth 100000 in
theorem J_X11_nextToken_0 {x : CX} {D : DG} {cyI cyJ cyZ : ClassId} {a_M a_M_square a_M_want a_M_text a_M_read a_M_row a_M_foldSet a_M_foldEdges a_M_foldNeeds a_M_foldYards a_M_least a_M_ways a_M_price a_M_rowBy a_M_columnBy a_M_rowOf a_M_wayBack a_M_slack a_M_isUsed a_M_lifted a_M_freed a_M_path : Nat} {M_wide : Int32} {M_high : Int32} {M_hedges : Int64} {M_hurdles : Int32} {M_wants : Int32} {M_rest : Int32} {M_frozen : Int32} {M_bytes : Int32} {M_position : Int32} {M_tokenAt : Int32} {M_token : Int64} {M_digits : Int32} {M_number : Int32} {M_faultAt : Int32} {M_readMany : Int32} {M_readWide : Int32} {M_readHigh : Int32} {M_nights : Int32} {M_why : Int32} {M_folds : Int32} {M_square : Nat → Int32} {M_want : Nat → Int32} {M_text : Nat → Int32} {M_read : Nat → Int32} {M_row : Nat → Int32} {M_foldSet : Nat → Int32} {M_foldEdges : Nat → Int64} {M_foldNeeds : Nat → Int32} {M_foldYards : Nat → Int32} {M_least : Nat → Int32} {M_ways : Nat → Int32} {M_price : Nat → Int32} {M_rowBy : Nat → Int32} {M_columnBy : Nat → Int32} {M_rowOf : Nat → Int32} {M_wayBack : Nat → Int32} {M_slack : Nat → Int32} {M_isUsed : Nat → Int32} {M_lifted : Nat → Int32} {M_freed : Nat → Int32} {M_path : Nat → Int32} {Q : Int32 × Int32 × Int64 × Int32 × Int32 → Prop} (cx : Cx x cX11_nextToken 1 RX11 rm_X11_nextToken D [(cyI, .int), (cyJ, .long), (cyZ, .boolean)]) (hR : ∀ (u : Int32 × Int32 × Int64 × Int32 × Int32) (pc : Nat) (lv : List (Nat × Value)), decode cX11_nextToken pc = .ok (.return_, 1) → Q u → J x 0 0 1 (W_Model cyI cyJ cyZ a_M a_M_square a_M_want a_M_text a_M_read a_M_row a_M_foldSet a_M_foldEdges a_M_foldNeeds a_M_foldYards a_M_least a_M_ways a_M_price a_M_rowBy a_M_columnBy a_M_rowOf a_M_wayBack a_M_slack a_M_isUsed a_M_lifted a_M_freed a_M_path M_wide M_high M_hedges M_hurdles M_wants M_rest M_frozen M_bytes u.1 u.2.1 u.2.2.1 u.2.2.2.1 u.2.2.2.2 M_faultAt M_readMany M_readWide M_readHigh M_nights M_why M_folds M_square M_want M_text M_read M_row M_foldSet M_foldEdges M_foldNeeds M_foldYards M_least M_ways M_price M_rowBy M_columnBy M_rowOf M_wayBack M_slack M_isUsed M_lifted M_freed M_path) lv pc []) (h : lp_X11_nextToken_0 Q  M_bytes M_text M_position) :
    J x 0 0 1 (W_Model cyI cyJ cyZ a_M a_M_square a_M_want a_M_text a_M_read a_M_row a_M_foldSet a_M_foldEdges a_M_foldNeeds a_M_foldYards a_M_least a_M_ways a_M_price a_M_rowBy a_M_columnBy a_M_rowOf a_M_wayBack a_M_slack a_M_isUsed a_M_lifted a_M_freed a_M_path M_wide M_high M_hedges M_hurdles M_wants M_rest M_frozen M_bytes M_position M_tokenAt M_token M_digits M_number M_faultAt M_readMany M_readWide M_readHigh M_nights M_why M_folds M_square M_want M_text M_read M_row M_foldSet M_foldEdges M_foldNeeds M_foldYards M_least M_ways M_price M_rowBy M_columnBy M_rowOf M_wayBack M_slack M_isUsed M_lifted M_freed M_path) [(0, .ref a_M)] 0 [] := by
  obtain ⟨I, ⟨n, h0⟩, hb⟩ := h
  revert M_position
  induction n using Nat.strongRecOn with
  | _ n ih =>
    intro M_position h0
    exact B_X11_nextToken_0 cx hR (fun _ hz => by obtain ⟨n2, hlt, hI⟩ := hz; exact ih n2 hlt hI) (hb n M_position h0)
set_option maxHeartbeats 4000000 in
set_option maxRecDepth 100000 in
theorem c_X11_nextToken {D : DG} {cyI cyJ cyZ : ClassId} {a_M a_M_square a_M_want a_M_text a_M_read a_M_row a_M_foldSet a_M_foldEdges a_M_foldNeeds a_M_foldYards a_M_least a_M_ways a_M_price a_M_rowBy a_M_columnBy a_M_rowOf a_M_wayBack a_M_slack a_M_isUsed a_M_lifted a_M_freed a_M_path : Nat} {M_wide : Int32} {M_high : Int32} {M_hedges : Int64} {M_hurdles : Int32} {M_wants : Int32} {M_rest : Int32} {M_frozen : Int32} {M_bytes : Int32} {M_position : Int32} {M_tokenAt : Int32} {M_token : Int64} {M_digits : Int32} {M_number : Int32} {M_faultAt : Int32} {M_readMany : Int32} {M_readWide : Int32} {M_readHigh : Int32} {M_nights : Int32} {M_why : Int32} {M_folds : Int32} {M_square : Nat → Int32} {M_want : Nat → Int32} {M_text : Nat → Int32} {M_read : Nat → Int32} {M_row : Nat → Int32} {M_foldSet : Nat → Int32} {M_foldEdges : Nat → Int64} {M_foldNeeds : Nat → Int32} {M_foldYards : Nat → Int32} {M_least : Nat → Int32} {M_ways : Nat → Int32} {M_price : Nat → Int32} {M_rowBy : Nat → Int32} {M_columnBy : Nat → Int32} {M_rowOf : Nat → Int32} {M_wayBack : Nat → Int32} {M_slack : Nat → Int32} {M_isUsed : Nat → Int32} {M_lifted : Nat → Int32} {M_freed : Nat → Int32} {M_path : Nat → Int32} {Q : Int32 × Int32 × Int64 × Int32 × Int32 → Prop} (h : wp_X11_nextToken M_bytes M_position M_text Q) :
    MetV yX11_nextToken cX11_nextToken 1 (none) rm_X11_nextToken D [(cyI, .int), (cyJ, .long), (cyZ, .boolean)] [.ref a_M] (W_Model cyI cyJ cyZ a_M a_M_square a_M_want a_M_text a_M_read a_M_row a_M_foldSet a_M_foldEdges a_M_foldNeeds a_M_foldYards a_M_least a_M_ways a_M_price a_M_rowBy a_M_columnBy a_M_rowOf a_M_wayBack a_M_slack a_M_isUsed a_M_lifted a_M_freed a_M_path M_wide M_high M_hedges M_hurdles M_wants M_rest M_frozen M_bytes M_position M_tokenAt M_token M_digits M_number M_faultAt M_readMany M_readWide M_readHigh M_nights M_why M_folds M_square M_want M_text M_read M_row M_foldSet M_foldEdges M_foldNeeds M_foldYards M_least M_ways M_price M_rowBy M_columnBy M_rowOf M_wayBack M_slack M_isUsed M_lifted M_freed M_path) (fun u : Int32 × Int32 × Int64 × Int32 × Int32 => (W_Model cyI cyJ cyZ a_M a_M_square a_M_want a_M_text a_M_read a_M_row a_M_foldSet a_M_foldEdges a_M_foldNeeds a_M_foldYards a_M_least a_M_ways a_M_price a_M_rowBy a_M_columnBy a_M_rowOf a_M_wayBack a_M_slack a_M_isUsed a_M_lifted a_M_freed a_M_path M_wide M_high M_hedges M_hurdles M_wants M_rest M_frozen M_bytes u.1 u.2.1 u.2.2.1 u.2.2.2.1 u.2.2.2.2 M_faultAt M_readMany M_readWide M_readHigh M_nights M_why M_folds M_square M_want M_text M_read M_row M_foldSet M_foldEdges M_foldNeeds M_foldYards M_least M_ways M_price M_rowBy M_columnBy M_rowOf M_wayBack M_slack M_isUsed M_lifted M_freed M_path)) (fun u => Q u) := by
  unfold wp_X11_nextToken at h
  refine metV_of (by decide) (Nat.le_of_ble_eq_true rfl) (fun x cx0 hR0 => ?_)
  have cx : Cx x cX11_nextToken 1 RX11 rm_X11_nextToken D [(cyI, .int), (cyJ, .long), (cyZ, .boolean)] := cx0
  have hR : ∀ (u : Int32 × Int32 × Int64 × Int32 × Int32) (pc : Nat) (lv : List (Nat × Value)), decode cX11_nextToken pc = .ok (.return_, 1) → Q u → J x 0 0 1 (W_Model cyI cyJ cyZ a_M a_M_square a_M_want a_M_text a_M_read a_M_row a_M_foldSet a_M_foldEdges a_M_foldNeeds a_M_foldYards a_M_least a_M_ways a_M_price a_M_rowBy a_M_columnBy a_M_rowOf a_M_wayBack a_M_slack a_M_isUsed a_M_lifted a_M_freed a_M_path M_wide M_high M_hedges M_hurdles M_wants M_rest M_frozen M_bytes u.1 u.2.1 u.2.2.1 u.2.2.2.1 u.2.2.2.2 M_faultAt M_readMany M_readWide M_readHigh M_nights M_why M_folds M_square M_want M_text M_read M_row M_foldSet M_foldEdges M_foldNeeds M_foldYards M_least M_ways M_price M_rowBy M_columnBy M_rowOf M_wayBack M_slack M_isUsed M_lifted M_freed M_path) lv pc [] := (fun u pc lv d hq => hR0 u pc lv d hq)
  show J x 0 0 1 (W_Model cyI cyJ cyZ a_M a_M_square a_M_want a_M_text a_M_read a_M_row a_M_foldSet a_M_foldEdges a_M_foldNeeds a_M_foldYards a_M_least a_M_ways a_M_price a_M_rowBy a_M_columnBy a_M_rowOf a_M_wayBack a_M_slack a_M_isUsed a_M_lifted a_M_freed a_M_path M_wide M_high M_hedges M_hurdles M_wants M_rest M_frozen M_bytes M_position M_tokenAt M_token M_digits M_number M_faultAt M_readMany M_readWide M_readHigh M_nights M_why M_folds M_square M_want M_text M_read M_row M_foldSet M_foldEdges M_foldNeeds M_foldYards M_least M_ways M_price M_rowBy M_columnBy M_rowOf M_wayBack M_slack M_isUsed M_lifted M_freed M_path) [(0, .ref a_M)] 0 []
  exact J_X11_nextToken_0 cx hR h
theorem dX11_fails_0 : decode cX11_fails 0 = .ok (.aload_n 0, 1) := by decide +kernel
theorem dX11_fails_1 : decode cX11_fails 1 = .ok (.aload_n 0, 1) := by decide +kernel
theorem dX11_fails_2 : decode cX11_fails 2 = .ok (.getfield 102, 3) := by decide +kernel
theorem dX11_fails_5 : decode cX11_fails 5 = .ok (.putfield 127, 3) := by decide +kernel
theorem dX11_fails_8 : decode cX11_fails 8 = .ok (.iconst 0, 1) := by decide +kernel
theorem dX11_fails_9 : decode cX11_fails 9 = .ok (.ireturn, 1) := by decide +kernel
abbrev rm_X11_fails : Room := { frames := 0, cells := 0, slots := 0, locals := 0 }
theorem hd_X11_fails : yX11_fails.cls ≠ "java/lang/invoke/MethodHandle" ∧ yX11_fails.cls ≠ "java/lang/invoke/VarHandle" ∧ (parseMethodDescriptor yX11_fails.desc).map (fun d => d.parameters.length) = some 0 := by decide +kernel
def wp_X11_fails (M_tokenAt : Int32) (Q : Int32 → Int32 → Prop) : Prop :=
Q 0 M_tokenAt
set_option maxHeartbeats 4000000 in
set_option maxRecDepth 100000 in
theorem c_X11_fails {D : DG} {cyI cyJ cyZ : ClassId} {a_M a_M_square a_M_want a_M_text a_M_read a_M_row a_M_foldSet a_M_foldEdges a_M_foldNeeds a_M_foldYards a_M_least a_M_ways a_M_price a_M_rowBy a_M_columnBy a_M_rowOf a_M_wayBack a_M_slack a_M_isUsed a_M_lifted a_M_freed a_M_path : Nat} {M_wide : Int32} {M_high : Int32} {M_hedges : Int64} {M_hurdles : Int32} {M_wants : Int32} {M_rest : Int32} {M_frozen : Int32} {M_bytes : Int32} {M_position : Int32} {M_tokenAt : Int32} {M_token : Int64} {M_digits : Int32} {M_number : Int32} {M_faultAt : Int32} {M_readMany : Int32} {M_readWide : Int32} {M_readHigh : Int32} {M_nights : Int32} {M_why : Int32} {M_folds : Int32} {M_square : Nat → Int32} {M_want : Nat → Int32} {M_text : Nat → Int32} {M_read : Nat → Int32} {M_row : Nat → Int32} {M_foldSet : Nat → Int32} {M_foldEdges : Nat → Int64} {M_foldNeeds : Nat → Int32} {M_foldYards : Nat → Int32} {M_least : Nat → Int32} {M_ways : Nat → Int32} {M_price : Nat → Int32} {M_rowBy : Nat → Int32} {M_columnBy : Nat → Int32} {M_rowOf : Nat → Int32} {M_wayBack : Nat → Int32} {M_slack : Nat → Int32} {M_isUsed : Nat → Int32} {M_lifted : Nat → Int32} {M_freed : Nat → Int32} {M_path : Nat → Int32} {Q : Int32 → Int32 → Prop} (h : wp_X11_fails M_tokenAt Q) :
    MetI yX11_fails cX11_fails 1 (some .boolean) rm_X11_fails D [(cyI, .int), (cyJ, .long), (cyZ, .boolean)] [.ref a_M] (W_Model cyI cyJ cyZ a_M a_M_square a_M_want a_M_text a_M_read a_M_row a_M_foldSet a_M_foldEdges a_M_foldNeeds a_M_foldYards a_M_least a_M_ways a_M_price a_M_rowBy a_M_columnBy a_M_rowOf a_M_wayBack a_M_slack a_M_isUsed a_M_lifted a_M_freed a_M_path M_wide M_high M_hedges M_hurdles M_wants M_rest M_frozen M_bytes M_position M_tokenAt M_token M_digits M_number M_faultAt M_readMany M_readWide M_readHigh M_nights M_why M_folds M_square M_want M_text M_read M_row M_foldSet M_foldEdges M_foldNeeds M_foldYards M_least M_ways M_price M_rowBy M_columnBy M_rowOf M_wayBack M_slack M_isUsed M_lifted M_freed M_path) (fun u : Int32 => (W_Model cyI cyJ cyZ a_M a_M_square a_M_want a_M_text a_M_read a_M_row a_M_foldSet a_M_foldEdges a_M_foldNeeds a_M_foldYards a_M_least a_M_ways a_M_price a_M_rowBy a_M_columnBy a_M_rowOf a_M_wayBack a_M_slack a_M_isUsed a_M_lifted a_M_freed a_M_path M_wide M_high M_hedges M_hurdles M_wants M_rest M_frozen M_bytes M_position M_tokenAt M_token M_digits M_number u M_readMany M_readWide M_readHigh M_nights M_why M_folds M_square M_want M_text M_read M_row M_foldSet M_foldEdges M_foldNeeds M_foldYards M_least M_ways M_price M_rowBy M_columnBy M_rowOf M_wayBack M_slack M_isUsed M_lifted M_freed M_path)) (fun v u => Q v u) := by
  unfold wp_X11_fails at h
  refine metZ_of (by decide) (Nat.le_of_ble_eq_true rfl) (fun x cx0 hR0 => ?_)
  have cx : Cx x cX11_fails 1 RX11 rm_X11_fails D [(cyI, .int), (cyJ, .long), (cyZ, .boolean)] := cx0
  have hR : ∀ (v : Int32) (u : Int32) (pc : Nat) (lv : List (Nat × Value)), decode cX11_fails pc = .ok (.ireturn, 1) → (v = 0 ∨ v = 1) → Q v u → J x 0 0 1 (W_Model cyI cyJ cyZ a_M a_M_square a_M_want a_M_text a_M_read a_M_row a_M_foldSet a_M_foldEdges a_M_foldNeeds a_M_foldYards a_M_least a_M_ways a_M_price a_M_rowBy a_M_columnBy a_M_rowOf a_M_wayBack a_M_slack a_M_isUsed a_M_lifted a_M_freed a_M_path M_wide M_high M_hedges M_hurdles M_wants M_rest M_frozen M_bytes M_position M_tokenAt M_token M_digits M_number u M_readMany M_readWide M_readHigh M_nights M_why M_folds M_square M_want M_text M_read M_row M_foldSet M_foldEdges M_foldNeeds M_foldYards M_least M_ways M_price M_rowBy M_columnBy M_rowOf M_wayBack M_slack M_isUsed M_lifted M_freed M_path) lv pc [.int v] := (fun v u pc lv d hz hq => hR0 v u pc lv d hz hq)
  show J x 0 0 1 (W_Model cyI cyJ cyZ a_M a_M_square a_M_want a_M_text a_M_read a_M_row a_M_foldSet a_M_foldEdges a_M_foldNeeds a_M_foldYards a_M_least a_M_ways a_M_price a_M_rowBy a_M_columnBy a_M_rowOf a_M_wayBack a_M_slack a_M_isUsed a_M_lifted a_M_freed a_M_path M_wide M_high M_hedges M_hurdles M_wants M_rest M_frozen M_bytes M_position M_tokenAt M_token M_digits M_number M_faultAt M_readMany M_readWide M_readHigh M_nights M_why M_folds M_square M_want M_text M_read M_row M_foldSet M_foldEdges M_foldNeeds M_foldYards M_least M_ways M_price M_rowBy M_columnBy M_rowOf M_wayBack M_slack M_isUsed M_lifted M_freed M_path) [(0, .ref a_M)] 0 []
  refine j_aload_n cx 0 rfl rfl dX11_fails_0 (pn := 1) rfl ?_
  refine j_aload_n cx 0 rfl rfl dX11_fails_1 (pn := 2) rfl ?_
  refine j_get cx inGX11 0 rfl rfl 12 (by decide) q_fl_X11_102 rfl rfl dX11_fails_2 (pn := 5) rfl ?_
  refine j_put cx tyX11 tyX11_ok nmX11 inGX11 0 rfl rfl 16 (by decide) q_fl_X11_127 rfl rfl rfl rfl rfl (Nat.le_of_ble_eq_true rfl) (W_Model cyI cyJ cyZ a_M a_M_square a_M_want a_M_text a_M_read a_M_row a_M_foldSet a_M_foldEdges a_M_foldNeeds a_M_foldYards a_M_least a_M_ways a_M_price a_M_rowBy a_M_columnBy a_M_rowOf a_M_wayBack a_M_slack a_M_isUsed a_M_lifted a_M_freed a_M_path M_wide M_high M_hedges M_hurdles M_wants M_rest M_frozen M_bytes M_position M_tokenAt M_token M_digits M_number M_tokenAt M_readMany M_readWide M_readHigh M_nights M_why M_folds M_square M_want M_text M_read M_row M_foldSet M_foldEdges M_foldNeeds M_foldYards M_least M_ways M_price M_rowBy M_columnBy M_rowOf M_wayBack M_slack M_isUsed M_lifted M_freed M_path) rfl dX11_fails_5 (pn := 8) rfl ?_
  refine j_iconst cx (v := 0) (by decide) dX11_fails_8 (pn := 9) rfl ?_
  exact hR 0 M_tokenAt 9 _ dX11_fails_9 (Or.inl rfl) h
theorem dX11_isNumber_0 : decode cX11_isNumber 0 = .ok (.aload_n 0, 1) := by decide +kernel
theorem dX11_isNumber_1 : decode cX11_isNumber 1 = .ok (.invokevirtual 130, 3) := by decide +kernel
theorem dX11_isNumber_4 : decode cX11_isNumber 4 = .ok (.aload_n 0, 1) := by decide +kernel
theorem dX11_isNumber_5 : decode cX11_isNumber 5 = .ok (.getfield 113, 3) := by decide +kernel
theorem dX11_isNumber_8 : decode cX11_isNumber 8 = .ok (.ldc2_w 123, 3) := by decide +kernel
theorem dX11_isNumber_11 : decode cX11_isNumber 11 = .ok (.lcmp, 1) := by decide +kernel
theorem dX11_isNumber_12 : decode cX11_isNumber 12 = .ok (.ifCond .ne 15, 3) := by decide +kernel
theorem dX11_isNumber_15 : decode cX11_isNumber 15 = .ok (.aload_n 0, 1) := by decide +kernel
theorem dX11_isNumber_16 : decode cX11_isNumber 16 = .ok (.getfield 108, 3) := by decide +kernel
theorem dX11_isNumber_19 : decode cX11_isNumber 19 = .ok (.iload_n 2, 1) := by decide +kernel
theorem dX11_isNumber_20 : decode cX11_isNumber 20 = .ok (.iload_n 3, 1) := by decide +kernel
theorem dX11_isNumber_21 : decode cX11_isNumber 21 = .ok (.invokestatic 90, 3) := by decide +kernel
theorem dX11_isNumber_24 : decode cX11_isNumber 24 = .ok (.ifCond .ne 8, 3) := by decide +kernel
theorem dX11_isNumber_27 : decode cX11_isNumber 27 = .ok (.aload_n 0, 1) := by decide +kernel
theorem dX11_isNumber_28 : decode cX11_isNumber 28 = .ok (.invokevirtual 133, 3) := by decide +kernel
theorem dX11_isNumber_31 : decode cX11_isNumber 31 = .ok (.ireturn, 1) := by decide +kernel
theorem dX11_isNumber_32 : decode cX11_isNumber 32 = .ok (.aload_n 0, 1) := by decide +kernel
theorem dX11_isNumber_33 : decode cX11_isNumber 33 = .ok (.getfield 29, 3) := by decide +kernel
theorem dX11_isNumber_36 : decode cX11_isNumber 36 = .ok (.iload_n 1, 1) := by decide +kernel
theorem dX11_isNumber_37 : decode cX11_isNumber 37 = .ok (.aload_n 0, 1) := by decide +kernel
theorem dX11_isNumber_38 : decode cX11_isNumber 38 = .ok (.getfield 108, 3) := by decide +kernel
theorem dX11_isNumber_41 : decode cX11_isNumber 41 = .ok (.iastore, 1) := by decide +kernel
theorem dX11_isNumber_42 : decode cX11_isNumber 42 = .ok (.iconst 1, 1) := by decide +kernel
theorem dX11_isNumber_43 : decode cX11_isNumber 43 = .ok (.ireturn, 1) := by decide +kernel
abbrev rm_X11_isNumber : Room := { frames := 2, cells := 0, slots := 0, locals := 42 }
theorem hd_X11_isNumber : yX11_isNumber.cls ≠ "java/lang/invoke/MethodHandle" ∧ yX11_isNumber.cls ≠ "java/lang/invoke/VarHandle" ∧ (parseMethodDescriptor yX11_isNumber.desc).map (fun d => d.parameters.length) = some 3 := by decide +kernel
def bk_X11_isNumber_27 (Q : Int32 → (Int32 × Int32 × Int64 × Int32 × Int32 × Int32 × (Nat → Int32)) → Prop) (M_position : Int32) (M_tokenAt : Int32) (M_token : Int64) (M_digits : Int32) (M_number : Int32) (M_read : Nat → Int32) : Prop :=
wp_X11_fails M_tokenAt (fun (r3 : Int32) (u4 : Int32) => (r3 = 0 ∨ r3 = 1) ∧ Q r3 (M_position, M_tokenAt, M_token, M_digits, M_number, u4, M_read))
def wp_X11_isNumber (p1 : Int32) (p2 : Int32) (p3 : Int32) (M_bytes : Int32) (M_position : Int32) (M_faultAt : Int32) (M_text : Nat → Int32) (M_read : Nat → Int32) (Q : Int32 → (Int32 × Int32 × Int64 × Int32 × Int32 × Int32 × (Nat → Int32)) → Prop) : Prop :=
wp_X11_nextToken M_bytes M_position M_text (fun (u1 : Int32 × Int32 × Int64 × Int32 × Int32) => ((¬ u1.2.2.1 = (-1) → bk_X11_isNumber_27 Q u1.1 u1.2.1 u1.2.2.1 u1.2.2.2.1 u1.2.2.2.2 M_read) ∧
(u1.2.2.1 = (-1) → wp_X11_in u1.2.2.2.2 p2 p3 (fun (r5 : Int32) => ((¬ r5 = 0 → vp_in p1 40 ∧ (∀ f7 : Nat → Int32, f7 = (upd M_read p1.toNatClampNeg u1.2.2.2.2) →
Q 1 (u1.1, u1.2.1, u1.2.2.1, u1.2.2.2.1, u1.2.2.2.2, M_faultAt, f7))) ∧
(r5 = 0 → bk_X11_isNumber_27 Q u1.1 u1.2.1 u1.2.2.1 u1.2.2.2.1 u1.2.2.2.2 M_read))))))
set_option maxHeartbeats 4000000 in
set_option maxRecDepth 100000 in
theorem J_X11_isNumber_27 {x : CX} {D : DG} {cyI cyJ cyZ : ClassId} {a_M a_M_square a_M_want a_M_text a_M_read a_M_row a_M_foldSet a_M_foldEdges a_M_foldNeeds a_M_foldYards a_M_least a_M_ways a_M_price a_M_rowBy a_M_columnBy a_M_rowOf a_M_wayBack a_M_slack a_M_isUsed a_M_lifted a_M_freed a_M_path : Nat} {M_wide : Int32} {M_high : Int32} {M_hedges : Int64} {M_hurdles : Int32} {M_wants : Int32} {M_rest : Int32} {M_frozen : Int32} {M_bytes : Int32} {M_position : Int32} {M_tokenAt : Int32} {M_token : Int64} {M_digits : Int32} {M_number : Int32} {M_faultAt : Int32} {M_readMany : Int32} {M_readWide : Int32} {M_readHigh : Int32} {M_nights : Int32} {M_why : Int32} {M_folds : Int32} {M_square : Nat → Int32} {M_want : Nat → Int32} {M_text : Nat → Int32} {M_read : Nat → Int32} {M_row : Nat → Int32} {M_foldSet : Nat → Int32} {M_foldEdges : Nat → Int64} {M_foldNeeds : Nat → Int32} {M_foldYards : Nat → Int32} {M_least : Nat → Int32} {M_ways : Nat → Int32} {M_price : Nat → Int32} {M_rowBy : Nat → Int32} {M_columnBy : Nat → Int32} {M_rowOf : Nat → Int32} {M_wayBack : Nat → Int32} {M_slack : Nat → Int32} {M_isUsed : Nat → Int32} {M_lifted : Nat → Int32} {M_freed : Nat → Int32} {M_path : Nat → Int32} {Q : Int32 → (Int32 × Int32 × Int64 × Int32 × Int32 × Int32 × (Nat → Int32)) → Prop} (cx : Cx x cX11_isNumber 4 RX11 rm_X11_isNumber D [(cyI, .int), (cyJ, .long), (cyZ, .boolean)]) (hR : ∀ (v : Int32) (u : Int32 × Int32 × Int64 × Int32 × Int32 × Int32 × (Nat → Int32)) (pc : Nat) (lv : List (Nat × Value)), decode cX11_isNumber pc = .ok (.ireturn, 1) → (v = 0 ∨ v = 1) → Q v u → J x 0 0 4 (W_Model cyI cyJ cyZ a_M a_M_square a_M_want a_M_text a_M_read a_M_row a_M_foldSet a_M_foldEdges a_M_foldNeeds a_M_foldYards a_M_least a_M_ways a_M_price a_M_rowBy a_M_columnBy a_M_rowOf a_M_wayBack a_M_slack a_M_isUsed a_M_lifted a_M_freed a_M_path M_wide M_high M_hedges M_hurdles M_wants M_rest M_frozen M_bytes u.1 u.2.1 u.2.2.1 u.2.2.2.1 u.2.2.2.2.1 u.2.2.2.2.2.1 M_readMany M_readWide M_readHigh M_nights M_why M_folds M_square M_want M_text u.2.2.2.2.2.2 M_row M_foldSet M_foldEdges M_foldNeeds M_foldYards M_least M_ways M_price M_rowBy M_columnBy M_rowOf M_wayBack M_slack M_isUsed M_lifted M_freed M_path) lv pc [.int v]) (h : bk_X11_isNumber_27 Q  M_position M_tokenAt M_token M_digits M_number M_read) :
    J x 0 0 4 (W_Model cyI cyJ cyZ a_M a_M_square a_M_want a_M_text a_M_read a_M_row a_M_foldSet a_M_foldEdges a_M_foldNeeds a_M_foldYards a_M_least a_M_ways a_M_price a_M_rowBy a_M_columnBy a_M_rowOf a_M_wayBack a_M_slack a_M_isUsed a_M_lifted a_M_freed a_M_path M_wide M_high M_hedges M_hurdles M_wants M_rest M_frozen M_bytes M_position M_tokenAt M_token M_digits M_number M_faultAt M_readMany M_readWide M_readHigh M_nights M_why M_folds M_square M_want M_text M_read M_row M_foldSet M_foldEdges M_foldNeeds M_foldYards M_least M_ways M_price M_rowBy M_columnBy M_rowOf M_wayBack M_slack M_isUsed M_lifted M_freed M_path) [(0, .ref a_M)] 27 [] := by
  unfold bk_X11_isNumber_27 at h
  refine j_aload_n cx 0 rfl rfl dX11_isNumber_27 (pn := 28) rfl ?_
  refine j_callvI0 cx q_inst_X11_fails q_sel_X11_fails (b := a_M) (As := []) (rest := []) (c_X11_fails h) ⟨q_code_X11_fails, q_ml_X11_133, q_init_X11, hd_X11_fails, ⟨Nat.le_of_ble_eq_true rfl, Nat.le_of_ble_eq_true rfl⟩, Nat.le_of_ble_eq_true rfl, Nat.le_of_ble_eq_true rfl⟩ (q0 := 0) rfl rfl rfl rfl (Nat.le_of_ble_eq_true rfl) dX11_isNumber_28 (pn := 31) rfl (fun r3 u4 h => ?_)
  show J x 0 0 4 (W_Model cyI cyJ cyZ a_M a_M_square a_M_want a_M_text a_M_read a_M_row a_M_foldSet a_M_foldEdges a_M_foldNeeds a_M_foldYards a_M_least a_M_ways a_M_price a_M_rowBy a_M_columnBy a_M_rowOf a_M_wayBack a_M_slack a_M_isUsed a_M_lifted a_M_freed a_M_path M_wide M_high M_hedges M_hurdles M_wants M_rest M_frozen M_bytes M_position M_tokenAt M_token M_digits M_number u4 M_readMany M_readWide M_readHigh M_nights M_why M_folds M_square M_want M_text M_read M_row M_foldSet M_foldEdges M_foldNeeds M_foldYards M_least M_ways M_price M_rowBy M_columnBy M_rowOf M_wayBack M_slack M_isUsed M_lifted M_freed M_path) [(0, .ref a_M)] 31 [.int r3]
  exact hR r3 (M_position, M_tokenAt, M_token, M_digits, M_number, u4, M_read) 31 _ dX11_isNumber_31 h.1 h.2
set_option maxHeartbeats 4000000 in
set_option maxRecDepth 100000 in
theorem c_X11_isNumber {D : DG} {cyI cyJ cyZ : ClassId} {a_M a_M_square a_M_want a_M_text a_M_read a_M_row a_M_foldSet a_M_foldEdges a_M_foldNeeds a_M_foldYards a_M_least a_M_ways a_M_price a_M_rowBy a_M_columnBy a_M_rowOf a_M_wayBack a_M_slack a_M_isUsed a_M_lifted a_M_freed a_M_path : Nat} {M_wide : Int32} {M_high : Int32} {M_hedges : Int64} {M_hurdles : Int32} {M_wants : Int32} {M_rest : Int32} {M_frozen : Int32} {M_bytes : Int32} {M_position : Int32} {M_tokenAt : Int32} {M_token : Int64} {M_digits : Int32} {M_number : Int32} {M_faultAt : Int32} {M_readMany : Int32} {M_readWide : Int32} {M_readHigh : Int32} {M_nights : Int32} {M_why : Int32} {M_folds : Int32} {M_square : Nat → Int32} {M_want : Nat → Int32} {M_text : Nat → Int32} {M_read : Nat → Int32} {M_row : Nat → Int32} {M_foldSet : Nat → Int32} {M_foldEdges : Nat → Int64} {M_foldNeeds : Nat → Int32} {M_foldYards : Nat → Int32} {M_least : Nat → Int32} {M_ways : Nat → Int32} {M_price : Nat → Int32} {M_rowBy : Nat → Int32} {M_columnBy : Nat → Int32} {M_rowOf : Nat → Int32} {M_wayBack : Nat → Int32} {M_slack : Nat → Int32} {M_isUsed : Nat → Int32} {M_lifted : Nat → Int32} {M_freed : Nat → Int32} {M_path : Nat → Int32} {p1 : Int32} {p2 : Int32} {p3 : Int32} {Q : Int32 → (Int32 × Int32 × Int64 × Int32 × Int32 × Int32 × (Nat → Int32)) → Prop} (h : wp_X11_isNumber p1 p2 p3 M_bytes M_position M_faultAt M_text M_read Q) :
    MetI yX11_isNumber cX11_isNumber 4 (some .boolean) rm_X11_isNumber D [(cyI, .int), (cyJ, .long), (cyZ, .boolean)] [.ref a_M, .int p1, .int p2, .int p3] (W_Model cyI cyJ cyZ a_M a_M_square a_M_want a_M_text a_M_read a_M_row a_M_foldSet a_M_foldEdges a_M_foldNeeds a_M_foldYards a_M_least a_M_ways a_M_price a_M_rowBy a_M_columnBy a_M_rowOf a_M_wayBack a_M_slack a_M_isUsed a_M_lifted a_M_freed a_M_path M_wide M_high M_hedges M_hurdles M_wants M_rest M_frozen M_bytes M_position M_tokenAt M_token M_digits M_number M_faultAt M_readMany M_readWide M_readHigh M_nights M_why M_folds M_square M_want M_text M_read M_row M_foldSet M_foldEdges M_foldNeeds M_foldYards M_least M_ways M_price M_rowBy M_columnBy M_rowOf M_wayBack M_slack M_isUsed M_lifted M_freed M_path) (fun u : Int32 × Int32 × Int64 × Int32 × Int32 × Int32 × (Nat → Int32) => (W_Model cyI cyJ cyZ a_M a_M_square a_M_want a_M_text a_M_read a_M_row a_M_foldSet a_M_foldEdges a_M_foldNeeds a_M_foldYards a_M_least a_M_ways a_M_price a_M_rowBy a_M_columnBy a_M_rowOf a_M_wayBack a_M_slack a_M_isUsed a_M_lifted a_M_freed a_M_path M_wide M_high M_hedges M_hurdles M_wants M_rest M_frozen M_bytes u.1 u.2.1 u.2.2.1 u.2.2.2.1 u.2.2.2.2.1 u.2.2.2.2.2.1 M_readMany M_readWide M_readHigh M_nights M_why M_folds M_square M_want M_text u.2.2.2.2.2.2 M_row M_foldSet M_foldEdges M_foldNeeds M_foldYards M_least M_ways M_price M_rowBy M_columnBy M_rowOf M_wayBack M_slack M_isUsed M_lifted M_freed M_path)) (fun v u => Q v u) := by
  unfold wp_X11_isNumber at h
  refine metZ_of (by decide) (Nat.le_of_ble_eq_true rfl) (fun x cx0 hR0 => ?_)
  have cx : Cx x cX11_isNumber 4 RX11 rm_X11_isNumber D [(cyI, .int), (cyJ, .long), (cyZ, .boolean)] := cx0
  have hR : ∀ (v : Int32) (u : Int32 × Int32 × Int64 × Int32 × Int32 × Int32 × (Nat → Int32)) (pc : Nat) (lv : List (Nat × Value)), decode cX11_isNumber pc = .ok (.ireturn, 1) → (v = 0 ∨ v = 1) → Q v u → J x 0 0 4 (W_Model cyI cyJ cyZ a_M a_M_square a_M_want a_M_text a_M_read a_M_row a_M_foldSet a_M_foldEdges a_M_foldNeeds a_M_foldYards a_M_least a_M_ways a_M_price a_M_rowBy a_M_columnBy a_M_rowOf a_M_wayBack a_M_slack a_M_isUsed a_M_lifted a_M_freed a_M_path M_wide M_high M_hedges M_hurdles M_wants M_rest M_frozen M_bytes u.1 u.2.1 u.2.2.1 u.2.2.2.1 u.2.2.2.2.1 u.2.2.2.2.2.1 M_readMany M_readWide M_readHigh M_nights M_why M_folds M_square M_want M_text u.2.2.2.2.2.2 M_row M_foldSet M_foldEdges M_foldNeeds M_foldYards M_least M_ways M_price M_rowBy M_columnBy M_rowOf M_wayBack M_slack M_isUsed M_lifted M_freed M_path) lv pc [.int v] := (fun v u pc lv d hz hq => hR0 v u pc lv d hz hq)
  show J x 0 0 4 (W_Model cyI cyJ cyZ a_M a_M_square a_M_want a_M_text a_M_read a_M_row a_M_foldSet a_M_foldEdges a_M_foldNeeds a_M_foldYards a_M_least a_M_ways a_M_price a_M_rowBy a_M_columnBy a_M_rowOf a_M_wayBack a_M_slack a_M_isUsed a_M_lifted a_M_freed a_M_path M_wide M_high M_hedges M_hurdles M_wants M_rest M_frozen M_bytes M_position M_tokenAt M_token M_digits M_number M_faultAt M_readMany M_readWide M_readHigh M_nights M_why M_folds M_square M_want M_text M_read M_row M_foldSet M_foldEdges M_foldNeeds M_foldYards M_least M_ways M_price M_rowBy M_columnBy M_rowOf M_wayBack M_slack M_isUsed M_lifted M_freed M_path) [(0, .ref a_M), (1, .int p1), (2, .int p2), (3, .int p3)] 0 []
  refine j_aload_n cx 0 rfl rfl dX11_isNumber_0 (pn := 1) rfl ?_
  refine j_callvV0 cx q_inst_X11_nextToken q_sel_X11_nextToken (b := a_M) (As := []) (rest := []) (c_X11_nextToken h) ⟨q_code_X11_nextToken, q_ml_X11_130, q_init_X11, hd_X11_nextToken, ⟨Nat.le_of_ble_eq_true rfl, Nat.le_of_ble_eq_true rfl⟩, Nat.le_of_ble_eq_true rfl, Nat.le_of_ble_eq_true rfl⟩ (q0 := 0) rfl rfl rfl rfl (Nat.le_of_ble_eq_true rfl) dX11_isNumber_1 (pn := 4) rfl (fun u1 h => ?_)
  show J x 0 0 4 (W_Model cyI cyJ cyZ a_M a_M_square a_M_want a_M_text a_M_read a_M_row a_M_foldSet a_M_foldEdges a_M_foldNeeds a_M_foldYards a_M_least a_M_ways a_M_price a_M_rowBy a_M_columnBy a_M_rowOf a_M_wayBack a_M_slack a_M_isUsed a_M_lifted a_M_freed a_M_path M_wide M_high M_hedges M_hurdles M_wants M_rest M_frozen M_bytes u1.1 u1.2.1 u1.2.2.1 u1.2.2.2.1 u1.2.2.2.2 M_faultAt M_readMany M_readWide M_readHigh M_nights M_why M_folds M_square M_want M_text M_read M_row M_foldSet M_foldEdges M_foldNeeds M_foldYards M_least M_ways M_price M_rowBy M_columnBy M_rowOf M_wayBack M_slack M_isUsed M_lifted M_freed M_path) [(0, .ref a_M), (1, .int p1), (2, .int p2), (3, .int p3)] 4 []
  refine j_aload_n cx 0 rfl rfl dX11_isNumber_4 (pn := 5) rfl ?_
  refine j_get cx inGX11 0 rfl rfl 13 (by decide) q_fl_X11_113 rfl rfl dX11_isNumber_5 (pn := 8) rfl ?_
  refine j_ldc2 cx q_cl_X11_123 dX11_isNumber_8 (pn := 11) rfl ?_
  refine j_lif_ne cx 27 dX11_isNumber_11 (pm := 12) (pn := 15) rfl dX11_isNumber_12 rfl rfl (fun c2 => ?_) (fun c2 => ?_)
  · have h := h.1 c2
    refine j_sub [0] [(0, .ref a_M)] rfl ?_
    exact J_X11_isNumber_27 cx hR h
  · have h := h.2 c2
    refine j_aload_n cx 0 rfl rfl dX11_isNumber_15 (pn := 16) rfl ?_
    refine j_get cx inGX11 0 rfl rfl 15 (by decide) q_fl_X11_108 rfl rfl dX11_isNumber_16 (pn := 19) rfl ?_
    refine j_iload_n cx 2 rfl rfl dX11_isNumber_19 (pn := 20) rfl ?_
    refine j_iload_n cx 3 rfl rfl dX11_isNumber_20 (pn := 21) rfl ?_
    refine j_calleI cx q_stat_X11_in (As := [.int u1.2.2.2.2, .int p2, .int p3]) (rest := []) (c_X11_in h) ⟨q_code_X11_in, q_ml_X11_90, q_init_X11, hd_X11_in, ⟨Nat.le_of_ble_eq_true rfl, Nat.le_of_ble_eq_true rfl⟩, Nat.le_of_ble_eq_true rfl, Nat.le_of_ble_eq_true rfl⟩ rfl rfl (Nat.le_of_ble_eq_true rfl) dX11_isNumber_21 (pn := 24) rfl (fun r5 h => ?_)
    show J x 0 0 4 (W_Model cyI cyJ cyZ a_M a_M_square a_M_want a_M_text a_M_read a_M_row a_M_foldSet a_M_foldEdges a_M_foldNeeds a_M_foldYards a_M_least a_M_ways a_M_price a_M_rowBy a_M_columnBy a_M_rowOf a_M_wayBack a_M_slack a_M_isUsed a_M_lifted a_M_freed a_M_path M_wide M_high M_hedges M_hurdles M_wants M_rest M_frozen M_bytes u1.1 u1.2.1 u1.2.2.1 u1.2.2.2.1 u1.2.2.2.2 M_faultAt M_readMany M_readWide M_readHigh M_nights M_why M_folds M_square M_want M_text M_read M_row M_foldSet M_foldEdges M_foldNeeds M_foldYards M_least M_ways M_price M_rowBy M_columnBy M_rowOf M_wayBack M_slack M_isUsed M_lifted M_freed M_path) [(0, .ref a_M), (1, .int p1), (2, .int p2), (3, .int p3)] 24 [.int r5]
    refine j_if_ne cx 32 dX11_isNumber_24 (pn := 27) rfl rfl (fun c6 => ?_) (fun c6 => ?_)
    · have h := h.1 c6
      refine j_aload_n cx 0 rfl rfl dX11_isNumber_32 (pn := 33) rfl ?_
      refine j_get cx inGX11 0 rfl rfl 18 (by decide) q_fl_X11_29 rfl rfl dX11_isNumber_33 (pn := 36) rfl ?_
      refine j_iload_n cx 1 rfl rfl dX11_isNumber_36 (pn := 37) rfl ?_
      refine j_aload_n cx 0 rfl rfl dX11_isNumber_37 (pn := 38) rfl ?_
      refine j_get cx inGX11 0 rfl rfl 15 (by decide) q_fl_X11_108 rfl rfl dX11_isNumber_38 (pn := 41) rfl ?_
      have hin := h.1
      obtain ⟨f7, ef7⟩ : ∃ z, z = upd M_read p1.toNatClampNeg u1.2.2.2.2 := ⟨_, rfl⟩
      have h := h.2 f7 ef7
      refine j_iast cx 4 0 rfl rfl hin (W_Model cyI cyJ cyZ a_M a_M_square a_M_want a_M_text a_M_read a_M_row a_M_foldSet a_M_foldEdges a_M_foldNeeds a_M_foldYards a_M_least a_M_ways a_M_price a_M_rowBy a_M_columnBy a_M_rowOf a_M_wayBack a_M_slack a_M_isUsed a_M_lifted a_M_freed a_M_path M_wide M_high M_hedges M_hurdles M_wants M_rest M_frozen M_bytes u1.1 u1.2.1 u1.2.2.1 u1.2.2.2.1 u1.2.2.2.2 M_faultAt M_readMany M_readWide M_readHigh M_nights M_why M_folds M_square M_want M_text f7 M_row M_foldSet M_foldEdges M_foldNeeds M_foldYards M_least M_ways M_price M_rowBy M_columnBy M_rowOf M_wayBack M_slack M_isUsed M_lifted M_freed M_path) (by subst ef7; rfl) dX11_isNumber_41 (pn := 42) rfl ?_
      refine j_iconst cx (v := 1) (by decide) dX11_isNumber_42 (pn := 43) rfl ?_
      exact hR 1 (u1.1, u1.2.1, u1.2.2.1, u1.2.2.2.1, u1.2.2.2.2, M_faultAt, f7) 43 _ dX11_isNumber_43 (Or.inr rfl) h
    · have h := h.2 c6
      refine j_sub [0] [(0, .ref a_M)] rfl ?_
      exact J_X11_isNumber_27 cx hR h
theorem dX11_isPlace_0 : decode cX11_isPlace 0 = .ok (.aload_n 0, 1) := by decide +kernel
theorem dX11_isPlace_1 : decode cX11_isPlace 1 = .ok (.iload_n 1, 1) := by decide +kernel
theorem dX11_isPlace_2 : decode cX11_isPlace 2 = .ok (.iconst 1, 1) := by decide +kernel
theorem dX11_isPlace_3 : decode cX11_isPlace 3 = .ok (.iadd, 1) := by decide +kernel
theorem dX11_isPlace_4 : decode cX11_isPlace 4 = .ok (.iconst 0, 1) := by decide +kernel
theorem dX11_isPlace_5 : decode cX11_isPlace 5 = .ok (.aload_n 0, 1) := by decide +kernel
theorem dX11_isPlace_6 : decode cX11_isPlace 6 = .ok (.getfield 137, 3) := by decide +kernel
theorem dX11_isPlace_9 : decode cX11_isPlace 9 = .ok (.iconst 1, 1) := by decide +kernel
theorem dX11_isPlace_10 : decode cX11_isPlace 10 = .ok (.isub, 1) := by decide +kernel
theorem dX11_isPlace_11 : decode cX11_isPlace 11 = .ok (.invokevirtual 140, 3) := by decide +kernel
theorem dX11_isPlace_14 : decode cX11_isPlace 14 = .ok (.ifCond .eq 24, 3) := by decide +kernel
theorem dX11_isPlace_17 : decode cX11_isPlace 17 = .ok (.aload_n 0, 1) := by decide +kernel
theorem dX11_isPlace_18 : decode cX11_isPlace 18 = .ok (.iload_n 1, 1) := by decide +kernel
theorem dX11_isPlace_19 : decode cX11_isPlace 19 = .ok (.iconst 2, 1) := by decide +kernel
theorem dX11_isPlace_20 : decode cX11_isPlace 20 = .ok (.iadd, 1) := by decide +kernel
theorem dX11_isPlace_21 : decode cX11_isPlace 21 = .ok (.iconst 0, 1) := by decide +kernel
theorem dX11_isPlace_22 : decode cX11_isPlace 22 = .ok (.aload_n 0, 1) := by decide +kernel
theorem dX11_isPlace_23 : decode cX11_isPlace 23 = .ok (.getfield 143, 3) := by decide +kernel
theorem dX11_isPlace_26 : decode cX11_isPlace 26 = .ok (.iconst 1, 1) := by decide +kernel
theorem dX11_isPlace_27 : decode cX11_isPlace 27 = .ok (.isub, 1) := by decide +kernel
theorem dX11_isPlace_28 : decode cX11_isPlace 28 = .ok (.invokevirtual 140, 3) := by decide +kernel
theorem dX11_isPlace_31 : decode cX11_isPlace 31 = .ok (.ifCond .eq 7, 3) := by decide +kernel
theorem dX11_isPlace_34 : decode cX11_isPlace 34 = .ok (.iconst 1, 1) := by decide +kernel
theorem dX11_isPlace_35 : decode cX11_isPlace 35 = .ok (.goto 4, 3) := by decide +kernel
theorem dX11_isPlace_38 : decode cX11_isPlace 38 = .ok (.iconst 0, 1) := by decide +kernel
theorem dX11_isPlace_39 : decode cX11_isPlace 39 = .ok (.ireturn, 1) := by decide +kernel
abbrev rm_X11_isPlace : Room := { frames := 3, cells := 0, slots := 0, locals := 65 }
theorem hd_X11_isPlace : yX11_isPlace.cls ≠ "java/lang/invoke/MethodHandle" ∧ yX11_isPlace.cls ≠ "java/lang/invoke/VarHandle" ∧ (parseMethodDescriptor yX11_isPlace.desc).map (fun d => d.parameters.length) = some 1 := by decide +kernel
def wp_X11_isPlace (p1 : Int32) (M_bytes : Int32) (M_position : Int32) (M_faultAt : Int32) (M_readWide : Int32) (M_readHigh : Int32) (M_text : Nat → Int32) (M_read : Nat → Int32) (Q : Int32 → (Int32 × Int32 × Int64 × Int32 × Int32 × Int32 × (Nat → Int32)) → Prop) : Prop :=
wp_X11_isNumber (p1 + 1) 0 (M_readWide - 1) M_bytes M_position M_faultAt M_text M_read (fun (r1 : Int32) (u2 : Int32 × Int32 × Int64 × Int32 × Int32 × Int32 × (Nat → Int32)) => ((r1 = 0 → Q 0 (u2.1, u2.2.1, u2.2.2.1, u2.2.2.2.1, u2.2.2.2.2.1, u2.2.2.2.2.2.1, u2.2.2.2.2.2.2)) ∧
(¬ r1 = 0 → wp_X11_isNumber (p1 + 2) 0 (M_readHigh - 1) M_bytes u2.1 u2.2.2.2.2.2.1 M_text u2.2.2.2.2.2.2 (fun (r4 : Int32) (u5 : Int32 × Int32 × Int64 × Int32 × Int32 × Int32 × (Nat → Int32)) => ((r4 = 0 → Q 0 (u5.1, u5.2.1, u5.2.2.1, u5.2.2.2.1, u5.2.2.2.2.1, u5.2.2.2.2.2.1, u5.2.2.2.2.2.2)) ∧
(¬ r4 = 0 → Q 1 (u5.1, u5.2.1, u5.2.2.1, u5.2.2.2.1, u5.2.2.2.2.1, u5.2.2.2.2.2.1, u5.2.2.2.2.2.2)))))))
set_option maxHeartbeats 4000000 in
set_option maxRecDepth 100000 in
theorem c_X11_isPlace {D : DG} {cyI cyJ cyZ : ClassId} {a_M a_M_square a_M_want a_M_text a_M_read a_M_row a_M_foldSet a_M_foldEdges a_M_foldNeeds a_M_foldYards a_M_least a_M_ways a_M_price a_M_rowBy a_M_columnBy a_M_rowOf a_M_wayBack a_M_slack a_M_isUsed a_M_lifted a_M_freed a_M_path : Nat} {M_wide : Int32} {M_high : Int32} {M_hedges : Int64} {M_hurdles : Int32} {M_wants : Int32} {M_rest : Int32} {M_frozen : Int32} {M_bytes : Int32} {M_position : Int32} {M_tokenAt : Int32} {M_token : Int64} {M_digits : Int32} {M_number : Int32} {M_faultAt : Int32} {M_readMany : Int32} {M_readWide : Int32} {M_readHigh : Int32} {M_nights : Int32} {M_why : Int32} {M_folds : Int32} {M_square : Nat → Int32} {M_want : Nat → Int32} {M_text : Nat → Int32} {M_read : Nat → Int32} {M_row : Nat → Int32} {M_foldSet : Nat → Int32} {M_foldEdges : Nat → Int64} {M_foldNeeds : Nat → Int32} {M_foldYards : Nat → Int32} {M_least : Nat → Int32} {M_ways : Nat → Int32} {M_price : Nat → Int32} {M_rowBy : Nat → Int32} {M_columnBy : Nat → Int32} {M_rowOf : Nat → Int32} {M_wayBack : Nat → Int32} {M_slack : Nat → Int32} {M_isUsed : Nat → Int32} {M_lifted : Nat → Int32} {M_freed : Nat → Int32} {M_path : Nat → Int32} {p1 : Int32} {Q : Int32 → (Int32 × Int32 × Int64 × Int32 × Int32 × Int32 × (Nat → Int32)) → Prop} (h : wp_X11_isPlace p1 M_bytes M_position M_faultAt M_readWide M_readHigh M_text M_read Q) :
    MetI yX11_isPlace cX11_isPlace 2 (some .boolean) rm_X11_isPlace D [(cyI, .int), (cyJ, .long), (cyZ, .boolean)] [.ref a_M, .int p1] (W_Model cyI cyJ cyZ a_M a_M_square a_M_want a_M_text a_M_read a_M_row a_M_foldSet a_M_foldEdges a_M_foldNeeds a_M_foldYards a_M_least a_M_ways a_M_price a_M_rowBy a_M_columnBy a_M_rowOf a_M_wayBack a_M_slack a_M_isUsed a_M_lifted a_M_freed a_M_path M_wide M_high M_hedges M_hurdles M_wants M_rest M_frozen M_bytes M_position M_tokenAt M_token M_digits M_number M_faultAt M_readMany M_readWide M_readHigh M_nights M_why M_folds M_square M_want M_text M_read M_row M_foldSet M_foldEdges M_foldNeeds M_foldYards M_least M_ways M_price M_rowBy M_columnBy M_rowOf M_wayBack M_slack M_isUsed M_lifted M_freed M_path) (fun u : Int32 × Int32 × Int64 × Int32 × Int32 × Int32 × (Nat → Int32) => (W_Model cyI cyJ cyZ a_M a_M_square a_M_want a_M_text a_M_read a_M_row a_M_foldSet a_M_foldEdges a_M_foldNeeds a_M_foldYards a_M_least a_M_ways a_M_price a_M_rowBy a_M_columnBy a_M_rowOf a_M_wayBack a_M_slack a_M_isUsed a_M_lifted a_M_freed a_M_path M_wide M_high M_hedges M_hurdles M_wants M_rest M_frozen M_bytes u.1 u.2.1 u.2.2.1 u.2.2.2.1 u.2.2.2.2.1 u.2.2.2.2.2.1 M_readMany M_readWide M_readHigh M_nights M_why M_folds M_square M_want M_text u.2.2.2.2.2.2 M_row M_foldSet M_foldEdges M_foldNeeds M_foldYards M_least M_ways M_price M_rowBy M_columnBy M_rowOf M_wayBack M_slack M_isUsed M_lifted M_freed M_path)) (fun v u => Q v u) := by
  unfold wp_X11_isPlace at h
  refine metZ_of (by decide) (Nat.le_of_ble_eq_true rfl) (fun x cx0 hR0 => ?_)
  have cx : Cx x cX11_isPlace 2 RX11 rm_X11_isPlace D [(cyI, .int), (cyJ, .long), (cyZ, .boolean)] := cx0
  have hR : ∀ (v : Int32) (u : Int32 × Int32 × Int64 × Int32 × Int32 × Int32 × (Nat → Int32)) (pc : Nat) (lv : List (Nat × Value)), decode cX11_isPlace pc = .ok (.ireturn, 1) → (v = 0 ∨ v = 1) → Q v u → J x 0 0 2 (W_Model cyI cyJ cyZ a_M a_M_square a_M_want a_M_text a_M_read a_M_row a_M_foldSet a_M_foldEdges a_M_foldNeeds a_M_foldYards a_M_least a_M_ways a_M_price a_M_rowBy a_M_columnBy a_M_rowOf a_M_wayBack a_M_slack a_M_isUsed a_M_lifted a_M_freed a_M_path M_wide M_high M_hedges M_hurdles M_wants M_rest M_frozen M_bytes u.1 u.2.1 u.2.2.1 u.2.2.2.1 u.2.2.2.2.1 u.2.2.2.2.2.1 M_readMany M_readWide M_readHigh M_nights M_why M_folds M_square M_want M_text u.2.2.2.2.2.2 M_row M_foldSet M_foldEdges M_foldNeeds M_foldYards M_least M_ways M_price M_rowBy M_columnBy M_rowOf M_wayBack M_slack M_isUsed M_lifted M_freed M_path) lv pc [.int v] := (fun v u pc lv d hz hq => hR0 v u pc lv d hz hq)
  show J x 0 0 2 (W_Model cyI cyJ cyZ a_M a_M_square a_M_want a_M_text a_M_read a_M_row a_M_foldSet a_M_foldEdges a_M_foldNeeds a_M_foldYards a_M_least a_M_ways a_M_price a_M_rowBy a_M_columnBy a_M_rowOf a_M_wayBack a_M_slack a_M_isUsed a_M_lifted a_M_freed a_M_path M_wide M_high M_hedges M_hurdles M_wants M_rest M_frozen M_bytes M_position M_tokenAt M_token M_digits M_number M_faultAt M_readMany M_readWide M_readHigh M_nights M_why M_folds M_square M_want M_text M_read M_row M_foldSet M_foldEdges M_foldNeeds M_foldYards M_least M_ways M_price M_rowBy M_columnBy M_rowOf M_wayBack M_slack M_isUsed M_lifted M_freed M_path) [(0, .ref a_M), (1, .int p1)] 0 []
  refine j_aload_n cx 0 rfl rfl dX11_isPlace_0 (pn := 1) rfl ?_
  refine j_iload_n cx 1 rfl rfl dX11_isPlace_1 (pn := 2) rfl ?_
  refine j_iconst cx (v := 1) (by decide) dX11_isPlace_2 (pn := 3) rfl ?_
  refine j_iadd cx dX11_isPlace_3 (pn := 4) rfl ?_
  refine j_iconst cx (v := 0) (by decide) dX11_isPlace_4 (pn := 5) rfl ?_
  refine j_aload_n cx 0 rfl rfl dX11_isPlace_5 (pn := 6) rfl ?_
  refine j_get cx inGX11 0 rfl rfl 19 (by decide) q_fl_X11_137 rfl rfl dX11_isPlace_6 (pn := 9) rfl ?_
  refine j_iconst cx (v := 1) (by decide) dX11_isPlace_9 (pn := 10) rfl ?_
  refine j_isub cx dX11_isPlace_10 (pn := 11) rfl ?_
  refine j_callvI0 cx q_inst_X11_isNumber q_sel_X11_isNumber (b := a_M) (As := [.int (p1 + 1), .int 0, .int (M_readWide - 1)]) (rest := []) (c_X11_isNumber h) ⟨q_code_X11_isNumber, q_ml_X11_140, q_init_X11, hd_X11_isNumber, ⟨Nat.le_of_ble_eq_true rfl, Nat.le_of_ble_eq_true rfl⟩, Nat.le_of_ble_eq_true rfl, Nat.le_of_ble_eq_true rfl⟩ (q0 := 0) rfl rfl rfl rfl (Nat.le_of_ble_eq_true rfl) dX11_isPlace_11 (pn := 14) rfl (fun r1 u2 h => ?_)
  show J x 0 0 2 (W_Model cyI cyJ cyZ a_M a_M_square a_M_want a_M_text a_M_read a_M_row a_M_foldSet a_M_foldEdges a_M_foldNeeds a_M_foldYards a_M_least a_M_ways a_M_price a_M_rowBy a_M_columnBy a_M_rowOf a_M_wayBack a_M_slack a_M_isUsed a_M_lifted a_M_freed a_M_path M_wide M_high M_hedges M_hurdles M_wants M_rest M_frozen M_bytes u2.1 u2.2.1 u2.2.2.1 u2.2.2.2.1 u2.2.2.2.2.1 u2.2.2.2.2.2.1 M_readMany M_readWide M_readHigh M_nights M_why M_folds M_square M_want M_text u2.2.2.2.2.2.2 M_row M_foldSet M_foldEdges M_foldNeeds M_foldYards M_least M_ways M_price M_rowBy M_columnBy M_rowOf M_wayBack M_slack M_isUsed M_lifted M_freed M_path) [(0, .ref a_M), (1, .int p1)] 14 [.int r1]
  refine j_if_eq cx 38 dX11_isPlace_14 (pn := 17) rfl rfl (fun c3 => ?_) (fun c3 => ?_)
  · have h := h.1 c3
    refine j_iconst cx (v := 0) (by decide) dX11_isPlace_38 (pn := 39) rfl ?_
    exact hR 0 (u2.1, u2.2.1, u2.2.2.1, u2.2.2.2.1, u2.2.2.2.2.1, u2.2.2.2.2.2.1, u2.2.2.2.2.2.2) 39 _ dX11_isPlace_39 (Or.inl rfl) h
  · have h := h.2 c3
    refine j_aload_n cx 0 rfl rfl dX11_isPlace_17 (pn := 18) rfl ?_
    refine j_iload_n cx 1 rfl rfl dX11_isPlace_18 (pn := 19) rfl ?_
    refine j_iconst cx (v := 2) (by decide) dX11_isPlace_19 (pn := 20) rfl ?_
    refine j_iadd cx dX11_isPlace_20 (pn := 21) rfl ?_
    refine j_iconst cx (v := 0) (by decide) dX11_isPlace_21 (pn := 22) rfl ?_
    refine j_aload_n cx 0 rfl rfl dX11_isPlace_22 (pn := 23) rfl ?_
    refine j_get cx inGX11 0 rfl rfl 20 (by decide) q_fl_X11_143 rfl rfl dX11_isPlace_23 (pn := 26) rfl ?_
    refine j_iconst cx (v := 1) (by decide) dX11_isPlace_26 (pn := 27) rfl ?_
    refine j_isub cx dX11_isPlace_27 (pn := 28) rfl ?_
    refine j_callvI0 cx q_inst_X11_isNumber q_sel_X11_isNumber (b := a_M) (As := [.int (p1 + 2), .int 0, .int (M_readHigh - 1)]) (rest := []) (c_X11_isNumber h) ⟨q_code_X11_isNumber, q_ml_X11_140, q_init_X11, hd_X11_isNumber, ⟨Nat.le_of_ble_eq_true rfl, Nat.le_of_ble_eq_true rfl⟩, Nat.le_of_ble_eq_true rfl, Nat.le_of_ble_eq_true rfl⟩ (q0 := 0) rfl rfl rfl rfl (Nat.le_of_ble_eq_true rfl) dX11_isPlace_28 (pn := 31) rfl (fun r4 u5 h => ?_)
    show J x 0 0 2 (W_Model cyI cyJ cyZ a_M a_M_square a_M_want a_M_text a_M_read a_M_row a_M_foldSet a_M_foldEdges a_M_foldNeeds a_M_foldYards a_M_least a_M_ways a_M_price a_M_rowBy a_M_columnBy a_M_rowOf a_M_wayBack a_M_slack a_M_isUsed a_M_lifted a_M_freed a_M_path M_wide M_high M_hedges M_hurdles M_wants M_rest M_frozen M_bytes u5.1 u5.2.1 u5.2.2.1 u5.2.2.2.1 u5.2.2.2.2.1 u5.2.2.2.2.2.1 M_readMany M_readWide M_readHigh M_nights M_why M_folds M_square M_want M_text u5.2.2.2.2.2.2 M_row M_foldSet M_foldEdges M_foldNeeds M_foldYards M_least M_ways M_price M_rowBy M_columnBy M_rowOf M_wayBack M_slack M_isUsed M_lifted M_freed M_path) [(0, .ref a_M), (1, .int p1)] 31 [.int r4]
    refine j_if_eq cx 38 dX11_isPlace_31 (pn := 34) rfl rfl (fun c6 => ?_) (fun c6 => ?_)
    · have h := h.1 c6
      refine j_iconst cx (v := 0) (by decide) dX11_isPlace_38 (pn := 39) rfl ?_
      exact hR 0 (u5.1, u5.2.1, u5.2.2.1, u5.2.2.2.1, u5.2.2.2.2.1, u5.2.2.2.2.2.1, u5.2.2.2.2.2.2) 39 _ dX11_isPlace_39 (Or.inl rfl) h
    · have h := h.2 c6
      refine j_iconst cx (v := 1) (by decide) dX11_isPlace_34 (pn := 35) rfl ?_
      refine j_goto cx 39 dX11_isPlace_35 rfl ?_
      exact hR 1 (u5.1, u5.2.1, u5.2.2.1, u5.2.2.2.1, u5.2.2.2.2.1, u5.2.2.2.2.2.1, u5.2.2.2.2.2.2) 39 _ dX11_isPlace_39 (Or.inr rfl) h
theorem dX11_isField_0 : decode cX11_isField 0 = .ok (.aload_n 0, 1) := by decide +kernel
theorem dX11_isField_1 : decode cX11_isField 1 = .ok (.iload_n 1, 1) := by decide +kernel
theorem dX11_isField_2 : decode cX11_isField 2 = .ok (.iconst 1, 1) := by decide +kernel
theorem dX11_isField_3 : decode cX11_isField 3 = .ok (.iadd, 1) := by decide +kernel
theorem dX11_isField_4 : decode cX11_isField 4 = .ok (.iconst 1, 1) := by decide +kernel
theorem dX11_isField_5 : decode cX11_isField 5 = .ok (.bipush 10, 2) := by decide +kernel
theorem dX11_isField_7 : decode cX11_isField 7 = .ok (.invokevirtual 140, 3) := by decide +kernel
theorem dX11_isField_10 : decode cX11_isField 10 = .ok (.ifCond .eq 25, 3) := by decide +kernel
theorem dX11_isField_13 : decode cX11_isField 13 = .ok (.aload_n 0, 1) := by decide +kernel
theorem dX11_isField_14 : decode cX11_isField 14 = .ok (.iload_n 1, 1) := by decide +kernel
theorem dX11_isField_15 : decode cX11_isField 15 = .ok (.iconst 2, 1) := by decide +kernel
theorem dX11_isField_16 : decode cX11_isField 16 = .ok (.iadd, 1) := by decide +kernel
theorem dX11_isField_17 : decode cX11_isField 17 = .ok (.iconst 1, 1) := by decide +kernel
theorem dX11_isField_18 : decode cX11_isField 18 = .ok (.bipush 10, 2) := by decide +kernel
theorem dX11_isField_20 : decode cX11_isField 20 = .ok (.aload_n 0, 1) := by decide +kernel
theorem dX11_isField_21 : decode cX11_isField 21 = .ok (.getfield 29, 3) := by decide +kernel
theorem dX11_isField_24 : decode cX11_isField 24 = .ok (.iload_n 1, 1) := by decide +kernel
theorem dX11_isField_25 : decode cX11_isField 25 = .ok (.iconst 1, 1) := by decide +kernel
theorem dX11_isField_26 : decode cX11_isField 26 = .ok (.iadd, 1) := by decide +kernel
theorem dX11_isField_27 : decode cX11_isField 27 = .ok (.iaload, 1) := by decide +kernel
theorem dX11_isField_28 : decode cX11_isField 28 = .ok (.idiv, 1) := by decide +kernel
theorem dX11_isField_29 : decode cX11_isField 29 = .ok (.invokevirtual 140, 3) := by decide +kernel
theorem dX11_isField_32 : decode cX11_isField 32 = .ok (.ifCond .ne 5, 3) := by decide +kernel
theorem dX11_isField_35 : decode cX11_isField 35 = .ok (.iconst 0, 1) := by decide +kernel
theorem dX11_isField_36 : decode cX11_isField 36 = .ok (.ireturn, 1) := by decide +kernel
theorem dX11_isField_37 : decode cX11_isField 37 = .ok (.aload_n 0, 1) := by decide +kernel
theorem dX11_isField_38 : decode cX11_isField 38 = .ok (.aload_n 0, 1) := by decide +kernel
theorem dX11_isField_39 : decode cX11_isField 39 = .ok (.getfield 29, 3) := by decide +kernel
theorem dX11_isField_42 : decode cX11_isField 42 = .ok (.iload_n 1, 1) := by decide +kernel
theorem dX11_isField_43 : decode cX11_isField 43 = .ok (.iconst 1, 1) := by decide +kernel
theorem dX11_isField_44 : decode cX11_isField 44 = .ok (.iadd, 1) := by decide +kernel
theorem dX11_isField_45 : decode cX11_isField 45 = .ok (.iaload, 1) := by decide +kernel
theorem dX11_isField_46 : decode cX11_isField 46 = .ok (.putfield 137, 3) := by decide +kernel
theorem dX11_isField_49 : decode cX11_isField 49 = .ok (.aload_n 0, 1) := by decide +kernel
theorem dX11_isField_50 : decode cX11_isField 50 = .ok (.aload_n 0, 1) := by decide +kernel
theorem dX11_isField_51 : decode cX11_isField 51 = .ok (.getfield 29, 3) := by decide +kernel
theorem dX11_isField_54 : decode cX11_isField 54 = .ok (.iload_n 1, 1) := by decide +kernel
theorem dX11_isField_55 : decode cX11_isField 55 = .ok (.iconst 2, 1) := by decide +kernel
theorem dX11_isField_56 : decode cX11_isField 56 = .ok (.iadd, 1) := by decide +kernel
theorem dX11_isField_57 : decode cX11_isField 57 = .ok (.iaload, 1) := by decide +kernel
theorem dX11_isField_58 : decode cX11_isField 58 = .ok (.putfield 143, 3) := by decide +kernel
theorem dX11_isField_61 : decode cX11_isField 61 = .ok (.iconst 1, 1) := by decide +kernel
theorem dX11_isField_62 : decode cX11_isField 62 = .ok (.ireturn, 1) := by decide +kernel
abbrev rm_X11_isField : Room := { frames := 3, cells := 0, slots := 0, locals := 65 }
theorem hd_X11_isField : yX11_isField.cls ≠ "java/lang/invoke/MethodHandle" ∧ yX11_isField.cls ≠ "java/lang/invoke/VarHandle" ∧ (parseMethodDescriptor yX11_isField.desc).map (fun d => d.parameters.length) = some 1 := by decide +kernel
def wp_X11_isField (p1 : Int32) (M_bytes : Int32) (M_position : Int32) (M_faultAt : Int32) (M_readWide : Int32) (M_readHigh : Int32) (M_text : Nat → Int32) (M_read : Nat → Int32) (Q : Int32 → (Int32 × Int32 × Int64 × Int32 × Int32 × Int32 × Int32 × Int32 × (Nat → Int32)) → Prop) : Prop :=
wp_X11_isNumber (p1 + 1) 1 10 M_bytes M_position M_faultAt M_text M_read (fun (r1 : Int32) (u2 : Int32 × Int32 × Int64 × Int32 × Int32 × Int32 × (Nat → Int32)) => ((r1 = 0 → Q 0 (u2.1, u2.2.1, u2.2.2.1, u2.2.2.2.1, u2.2.2.2.2.1, u2.2.2.2.2.2.1, M_readWide, M_readHigh, u2.2.2.2.2.2.2)) ∧
(¬ r1 = 0 → vp_in (p1 + 1) 40 ∧ ¬ (u2.2.2.2.2.2.2 (p1 + 1).toNatClampNeg) = 0 ∧ wp_X11_isNumber (p1 + 2) 1 (10 / (u2.2.2.2.2.2.2 (p1 + 1).toNatClampNeg)) M_bytes u2.1 u2.2.2.2.2.2.1 M_text u2.2.2.2.2.2.2 (fun (r4 : Int32) (u5 : Int32 × Int32 × Int64 × Int32 × Int32 × Int32 × (Nat → Int32)) => ((¬ r4 = 0 → vp_in (p1 + 1) 40 ∧ (∀ y7 : Int32, y7 = (u5.2.2.2.2.2.2 (p1 + 1).toNatClampNeg) →
vp_in (p1 + 2) 40 ∧ (∀ y8 : Int32, y8 = (u5.2.2.2.2.2.2 (p1 + 2).toNatClampNeg) →
Q 1 (u5.1, u5.2.1, u5.2.2.1, u5.2.2.2.1, u5.2.2.2.2.1, u5.2.2.2.2.2.1, y7, y8, u5.2.2.2.2.2.2)))) ∧
(r4 = 0 → Q 0 (u5.1, u5.2.1, u5.2.2.1, u5.2.2.2.1, u5.2.2.2.2.1, u5.2.2.2.2.2.1, M_readWide, M_readHigh, u5.2.2.2.2.2.2)))))))
set_option maxHeartbeats 4000000 in
set_option maxRecDepth 100000 in
theorem c_X11_isField {D : DG} {cyI cyJ cyZ : ClassId} {a_M a_M_square a_M_want a_M_text a_M_read a_M_row a_M_foldSet a_M_foldEdges a_M_foldNeeds a_M_foldYards a_M_least a_M_ways a_M_price a_M_rowBy a_M_columnBy a_M_rowOf a_M_wayBack a_M_slack a_M_isUsed a_M_lifted a_M_freed a_M_path : Nat} {M_wide : Int32} {M_high : Int32} {M_hedges : Int64} {M_hurdles : Int32} {M_wants : Int32} {M_rest : Int32} {M_frozen : Int32} {M_bytes : Int32} {M_position : Int32} {M_tokenAt : Int32} {M_token : Int64} {M_digits : Int32} {M_number : Int32} {M_faultAt : Int32} {M_readMany : Int32} {M_readWide : Int32} {M_readHigh : Int32} {M_nights : Int32} {M_why : Int32} {M_folds : Int32} {M_square : Nat → Int32} {M_want : Nat → Int32} {M_text : Nat → Int32} {M_read : Nat → Int32} {M_row : Nat → Int32} {M_foldSet : Nat → Int32} {M_foldEdges : Nat → Int64} {M_foldNeeds : Nat → Int32} {M_foldYards : Nat → Int32} {M_least : Nat → Int32} {M_ways : Nat → Int32} {M_price : Nat → Int32} {M_rowBy : Nat → Int32} {M_columnBy : Nat → Int32} {M_rowOf : Nat → Int32} {M_wayBack : Nat → Int32} {M_slack : Nat → Int32} {M_isUsed : Nat → Int32} {M_lifted : Nat → Int32} {M_freed : Nat → Int32} {M_path : Nat → Int32} {p1 : Int32} {Q : Int32 → (Int32 × Int32 × Int64 × Int32 × Int32 × Int32 × Int32 × Int32 × (Nat → Int32)) → Prop} (h : wp_X11_isField p1 M_bytes M_position M_faultAt M_readWide M_readHigh M_text M_read Q) :
    MetI yX11_isField cX11_isField 2 (some .boolean) rm_X11_isField D [(cyI, .int), (cyJ, .long), (cyZ, .boolean)] [.ref a_M, .int p1] (W_Model cyI cyJ cyZ a_M a_M_square a_M_want a_M_text a_M_read a_M_row a_M_foldSet a_M_foldEdges a_M_foldNeeds a_M_foldYards a_M_least a_M_ways a_M_price a_M_rowBy a_M_columnBy a_M_rowOf a_M_wayBack a_M_slack a_M_isUsed a_M_lifted a_M_freed a_M_path M_wide M_high M_hedges M_hurdles M_wants M_rest M_frozen M_bytes M_position M_tokenAt M_token M_digits M_number M_faultAt M_readMany M_readWide M_readHigh M_nights M_why M_folds M_square M_want M_text M_read M_row M_foldSet M_foldEdges M_foldNeeds M_foldYards M_least M_ways M_price M_rowBy M_columnBy M_rowOf M_wayBack M_slack M_isUsed M_lifted M_freed M_path) (fun u : Int32 × Int32 × Int64 × Int32 × Int32 × Int32 × Int32 × Int32 × (Nat → Int32) => (W_Model cyI cyJ cyZ a_M a_M_square a_M_want a_M_text a_M_read a_M_row a_M_foldSet a_M_foldEdges a_M_foldNeeds a_M_foldYards a_M_least a_M_ways a_M_price a_M_rowBy a_M_columnBy a_M_rowOf a_M_wayBack a_M_slack a_M_isUsed a_M_lifted a_M_freed a_M_path M_wide M_high M_hedges M_hurdles M_wants M_rest M_frozen M_bytes u.1 u.2.1 u.2.2.1 u.2.2.2.1 u.2.2.2.2.1 u.2.2.2.2.2.1 M_readMany u.2.2.2.2.2.2.1 u.2.2.2.2.2.2.2.1 M_nights M_why M_folds M_square M_want M_text u.2.2.2.2.2.2.2.2 M_row M_foldSet M_foldEdges M_foldNeeds M_foldYards M_least M_ways M_price M_rowBy M_columnBy M_rowOf M_wayBack M_slack M_isUsed M_lifted M_freed M_path)) (fun v u => Q v u) := by
  unfold wp_X11_isField at h
  refine metZ_of (by decide) (Nat.le_of_ble_eq_true rfl) (fun x cx0 hR0 => ?_)
  have cx : Cx x cX11_isField 2 RX11 rm_X11_isField D [(cyI, .int), (cyJ, .long), (cyZ, .boolean)] := cx0
  have hR : ∀ (v : Int32) (u : Int32 × Int32 × Int64 × Int32 × Int32 × Int32 × Int32 × Int32 × (Nat → Int32)) (pc : Nat) (lv : List (Nat × Value)), decode cX11_isField pc = .ok (.ireturn, 1) → (v = 0 ∨ v = 1) → Q v u → J x 0 0 2 (W_Model cyI cyJ cyZ a_M a_M_square a_M_want a_M_text a_M_read a_M_row a_M_foldSet a_M_foldEdges a_M_foldNeeds a_M_foldYards a_M_least a_M_ways a_M_price a_M_rowBy a_M_columnBy a_M_rowOf a_M_wayBack a_M_slack a_M_isUsed a_M_lifted a_M_freed a_M_path M_wide M_high M_hedges M_hurdles M_wants M_rest M_frozen M_bytes u.1 u.2.1 u.2.2.1 u.2.2.2.1 u.2.2.2.2.1 u.2.2.2.2.2.1 M_readMany u.2.2.2.2.2.2.1 u.2.2.2.2.2.2.2.1 M_nights M_why M_folds M_square M_want M_text u.2.2.2.2.2.2.2.2 M_row M_foldSet M_foldEdges M_foldNeeds M_foldYards M_least M_ways M_price M_rowBy M_columnBy M_rowOf M_wayBack M_slack M_isUsed M_lifted M_freed M_path) lv pc [.int v] := (fun v u pc lv d hz hq => hR0 v u pc lv d hz hq)
  show J x 0 0 2 (W_Model cyI cyJ cyZ a_M a_M_square a_M_want a_M_text a_M_read a_M_row a_M_foldSet a_M_foldEdges a_M_foldNeeds a_M_foldYards a_M_least a_M_ways a_M_price a_M_rowBy a_M_columnBy a_M_rowOf a_M_wayBack a_M_slack a_M_isUsed a_M_lifted a_M_freed a_M_path M_wide M_high M_hedges M_hurdles M_wants M_rest M_frozen M_bytes M_position M_tokenAt M_token M_digits M_number M_faultAt M_readMany M_readWide M_readHigh M_nights M_why M_folds M_square M_want M_text M_read M_row M_foldSet M_foldEdges M_foldNeeds M_foldYards M_least M_ways M_price M_rowBy M_columnBy M_rowOf M_wayBack M_slack M_isUsed M_lifted M_freed M_path) [(0, .ref a_M), (1, .int p1)] 0 []
  refine j_aload_n cx 0 rfl rfl dX11_isField_0 (pn := 1) rfl ?_
  refine j_iload_n cx 1 rfl rfl dX11_isField_1 (pn := 2) rfl ?_
  refine j_iconst cx (v := 1) (by decide) dX11_isField_2 (pn := 3) rfl ?_
  refine j_iadd cx dX11_isField_3 (pn := 4) rfl ?_
  refine j_iconst cx (v := 1) (by decide) dX11_isField_4 (pn := 5) rfl ?_
  refine j_bipush cx (v := 10) (by decide) dX11_isField_5 (pn := 7) rfl ?_
  refine j_callvI0 cx q_inst_X11_isNumber q_sel_X11_isNumber (b := a_M) (As := [.int (p1 + 1), .int 1, .int 10]) (rest := []) (c_X11_isNumber h) ⟨q_code_X11_isNumber, q_ml_X11_140, q_init_X11, hd_X11_isNumber, ⟨Nat.le_of_ble_eq_true rfl, Nat.le_of_ble_eq_true rfl⟩, Nat.le_of_ble_eq_true rfl, Nat.le_of_ble_eq_true rfl⟩ (q0 := 0) rfl rfl rfl rfl (Nat.le_of_ble_eq_true rfl) dX11_isField_7 (pn := 10) rfl (fun r1 u2 h => ?_)
  show J x 0 0 2 (W_Model cyI cyJ cyZ a_M a_M_square a_M_want a_M_text a_M_read a_M_row a_M_foldSet a_M_foldEdges a_M_foldNeeds a_M_foldYards a_M_least a_M_ways a_M_price a_M_rowBy a_M_columnBy a_M_rowOf a_M_wayBack a_M_slack a_M_isUsed a_M_lifted a_M_freed a_M_path M_wide M_high M_hedges M_hurdles M_wants M_rest M_frozen M_bytes u2.1 u2.2.1 u2.2.2.1 u2.2.2.2.1 u2.2.2.2.2.1 u2.2.2.2.2.2.1 M_readMany M_readWide M_readHigh M_nights M_why M_folds M_square M_want M_text u2.2.2.2.2.2.2 M_row M_foldSet M_foldEdges M_foldNeeds M_foldYards M_least M_ways M_price M_rowBy M_columnBy M_rowOf M_wayBack M_slack M_isUsed M_lifted M_freed M_path) [(0, .ref a_M), (1, .int p1)] 10 [.int r1]
  refine j_if_eq cx 35 dX11_isField_10 (pn := 13) rfl rfl (fun c3 => ?_) (fun c3 => ?_)
  · have h := h.1 c3
    refine j_iconst cx (v := 0) (by decide) dX11_isField_35 (pn := 36) rfl ?_
    exact hR 0 (u2.1, u2.2.1, u2.2.2.1, u2.2.2.2.1, u2.2.2.2.2.1, u2.2.2.2.2.2.1, M_readWide, M_readHigh, u2.2.2.2.2.2.2) 36 _ dX11_isField_36 (Or.inl rfl) h
  · have h := h.2 c3
    refine j_aload_n cx 0 rfl rfl dX11_isField_13 (pn := 14) rfl ?_
    refine j_iload_n cx 1 rfl rfl dX11_isField_14 (pn := 15) rfl ?_
    refine j_iconst cx (v := 2) (by decide) dX11_isField_15 (pn := 16) rfl ?_
    refine j_iadd cx dX11_isField_16 (pn := 17) rfl ?_
    refine j_iconst cx (v := 1) (by decide) dX11_isField_17 (pn := 18) rfl ?_
    refine j_bipush cx (v := 10) (by decide) dX11_isField_18 (pn := 20) rfl ?_
    refine j_aload_n cx 0 rfl rfl dX11_isField_20 (pn := 21) rfl ?_
    refine j_get cx inGX11 0 rfl rfl 18 (by decide) q_fl_X11_29 rfl rfl dX11_isField_21 (pn := 24) rfl ?_
    refine j_iload_n cx 1 rfl rfl dX11_isField_24 (pn := 25) rfl ?_
    refine j_iconst cx (v := 1) (by decide) dX11_isField_25 (pn := 26) rfl ?_
    refine j_iadd cx dX11_isField_26 (pn := 27) rfl ?_
    refine j_iald cx 4 0 rfl rfl h.1 dX11_isField_27 (pn := 28) rfl ?_
    have h := h.2
    refine j_idiv cx h.1 dX11_isField_28 (pn := 29) rfl ?_
    have h := h.2
    refine j_callvI0 cx q_inst_X11_isNumber q_sel_X11_isNumber (b := a_M) (As := [.int (p1 + 2), .int 1, .int (10 / (u2.2.2.2.2.2.2 (p1 + 1).toNatClampNeg))]) (rest := []) (c_X11_isNumber h) ⟨q_code_X11_isNumber, q_ml_X11_140, q_init_X11, hd_X11_isNumber, ⟨Nat.le_of_ble_eq_true rfl, Nat.le_of_ble_eq_true rfl⟩, Nat.le_of_ble_eq_true rfl, Nat.le_of_ble_eq_true rfl⟩ (q0 := 0) rfl rfl rfl rfl (Nat.le_of_ble_eq_true rfl) dX11_isField_29 (pn := 32) rfl (fun r4 u5 h => ?_)
    show J x 0 0 2 (W_Model cyI cyJ cyZ a_M a_M_square a_M_want a_M_text a_M_read a_M_row a_M_foldSet a_M_foldEdges a_M_foldNeeds a_M_foldYards a_M_least a_M_ways a_M_price a_M_rowBy a_M_columnBy a_M_rowOf a_M_wayBack a_M_slack a_M_isUsed a_M_lifted a_M_freed a_M_path M_wide M_high M_hedges M_hurdles M_wants M_rest M_frozen M_bytes u5.1 u5.2.1 u5.2.2.1 u5.2.2.2.1 u5.2.2.2.2.1 u5.2.2.2.2.2.1 M_readMany M_readWide M_readHigh M_nights M_why M_folds M_square M_want M_text u5.2.2.2.2.2.2 M_row M_foldSet M_foldEdges M_foldNeeds M_foldYards M_least M_ways M_price M_rowBy M_columnBy M_rowOf M_wayBack M_slack M_isUsed M_lifted M_freed M_path) [(0, .ref a_M), (1, .int p1)] 32 [.int r4]
    refine j_if_ne cx 37 dX11_isField_32 (pn := 35) rfl rfl (fun c6 => ?_) (fun c6 => ?_)
    · have h := h.1 c6
      refine j_aload_n cx 0 rfl rfl dX11_isField_37 (pn := 38) rfl ?_
      refine j_aload_n cx 0 rfl rfl dX11_isField_38 (pn := 39) rfl ?_
      refine j_get cx inGX11 0 rfl rfl 18 (by decide) q_fl_X11_29 rfl rfl dX11_isField_39 (pn := 42) rfl ?_
      refine j_iload_n cx 1 rfl rfl dX11_isField_42 (pn := 43) rfl ?_
      refine j_iconst cx (v := 1) (by decide) dX11_isField_43 (pn := 44) rfl ?_
      refine j_iadd cx dX11_isField_44 (pn := 45) rfl ?_
      refine j_iald cx 4 0 rfl rfl h.1 dX11_isField_45 (pn := 46) rfl ?_
      have h := h.2
      refine j_topi (fun y7 ey7 => ?_)
      have h := h y7 ey7
      refine j_put cx tyX11 tyX11_ok nmX11 inGX11 0 rfl rfl 19 (by decide) q_fl_X11_137 rfl rfl rfl rfl rfl (Nat.le_of_ble_eq_true rfl) (W_Model cyI cyJ cyZ a_M a_M_square a_M_want a_M_text a_M_read a_M_row a_M_foldSet a_M_foldEdges a_M_foldNeeds a_M_foldYards a_M_least a_M_ways a_M_price a_M_rowBy a_M_columnBy a_M_rowOf a_M_wayBack a_M_slack a_M_isUsed a_M_lifted a_M_freed a_M_path M_wide M_high M_hedges M_hurdles M_wants M_rest M_frozen M_bytes u5.1 u5.2.1 u5.2.2.1 u5.2.2.2.1 u5.2.2.2.2.1 u5.2.2.2.2.2.1 M_readMany y7 M_readHigh M_nights M_why M_folds M_square M_want M_text u5.2.2.2.2.2.2 M_row M_foldSet M_foldEdges M_foldNeeds M_foldYards M_least M_ways M_price M_rowBy M_columnBy M_rowOf M_wayBack M_slack M_isUsed M_lifted M_freed M_path) rfl dX11_isField_46 (pn := 49) rfl ?_
      refine j_aload_n cx 0 rfl rfl dX11_isField_49 (pn := 50) rfl ?_
      refine j_aload_n cx 0 rfl rfl dX11_isField_50 (pn := 51) rfl ?_
      refine j_get cx inGX11 0 rfl rfl 18 (by decide) q_fl_X11_29 rfl rfl dX11_isField_51 (pn := 54) rfl ?_
      refine j_iload_n cx 1 rfl rfl dX11_isField_54 (pn := 55) rfl ?_
      refine j_iconst cx (v := 2) (by decide) dX11_isField_55 (pn := 56) rfl ?_
      refine j_iadd cx dX11_isField_56 (pn := 57) rfl ?_
      refine j_iald cx 4 0 rfl rfl h.1 dX11_isField_57 (pn := 58) rfl ?_
      have h := h.2
      refine j_topi (fun y8 ey8 => ?_)
      have h := h y8 ey8
      refine j_put cx tyX11 tyX11_ok nmX11 inGX11 0 rfl rfl 20 (by decide) q_fl_X11_143 rfl rfl rfl rfl rfl (Nat.le_of_ble_eq_true rfl) (W_Model cyI cyJ cyZ a_M a_M_square a_M_want a_M_text a_M_read a_M_row a_M_foldSet a_M_foldEdges a_M_foldNeeds a_M_foldYards a_M_least a_M_ways a_M_price a_M_rowBy a_M_columnBy a_M_rowOf a_M_wayBack a_M_slack a_M_isUsed a_M_lifted a_M_freed a_M_path M_wide M_high M_hedges M_hurdles M_wants M_rest M_frozen M_bytes u5.1 u5.2.1 u5.2.2.1 u5.2.2.2.1 u5.2.2.2.2.1 u5.2.2.2.2.2.1 M_readMany y7 y8 M_nights M_why M_folds M_square M_want M_text u5.2.2.2.2.2.2 M_row M_foldSet M_foldEdges M_foldNeeds M_foldYards M_least M_ways M_price M_rowBy M_columnBy M_rowOf M_wayBack M_slack M_isUsed M_lifted M_freed M_path) rfl dX11_isField_58 (pn := 61) rfl ?_
      refine j_iconst cx (v := 1) (by decide) dX11_isField_61 (pn := 62) rfl ?_
      exact hR 1 (u5.1, u5.2.1, u5.2.2.1, u5.2.2.2.1, u5.2.2.2.2.1, u5.2.2.2.2.2.1, y7, y8, u5.2.2.2.2.2.2) 62 _ dX11_isField_62 (Or.inr rfl) h
    · have h := h.2 c6
      refine j_iconst cx (v := 0) (by decide) dX11_isField_35 (pn := 36) rfl ?_
      exact hR 0 (u5.1, u5.2.1, u5.2.2.1, u5.2.2.2.1, u5.2.2.2.2.1, u5.2.2.2.2.2.1, M_readWide, M_readHigh, u5.2.2.2.2.2.2) 36 _ dX11_isField_36 (Or.inl rfl) h
theorem dX11_isHedge_0 : decode cX11_isHedge 0 = .ok (.aload_n 0, 1) := by decide +kernel
theorem dX11_isHedge_1 : decode cX11_isHedge 1 = .ok (.iload_n 1, 1) := by decide +kernel
theorem dX11_isHedge_2 : decode cX11_isHedge 2 = .ok (.invokevirtual 146, 3) := by decide +kernel
theorem dX11_isHedge_5 : decode cX11_isHedge 5 = .ok (.ifCond .ne 5, 3) := by decide +kernel
theorem dX11_isHedge_8 : decode cX11_isHedge 8 = .ok (.iconst 0, 1) := by decide +kernel
theorem dX11_isHedge_9 : decode cX11_isHedge 9 = .ok (.ireturn, 1) := by decide +kernel
theorem dX11_isHedge_10 : decode cX11_isHedge 10 = .ok (.aload_n 0, 1) := by decide +kernel
theorem dX11_isHedge_11 : decode cX11_isHedge 11 = .ok (.invokevirtual 130, 3) := by decide +kernel
theorem dX11_isHedge_14 : decode cX11_isHedge 14 = .ok (.aload_n 0, 1) := by decide +kernel
theorem dX11_isHedge_15 : decode cX11_isHedge 15 = .ok (.getfield 29, 3) := by decide +kernel
theorem dX11_isHedge_18 : decode cX11_isHedge 18 = .ok (.iload_n 1, 1) := by decide +kernel
theorem dX11_isHedge_19 : decode cX11_isHedge 19 = .ok (.iconst 3, 1) := by decide +kernel
theorem dX11_isHedge_20 : decode cX11_isHedge 20 = .ok (.iadd, 1) := by decide +kernel
theorem dX11_isHedge_21 : decode cX11_isHedge 21 = .ok (.aload_n 0, 1) := by decide +kernel
theorem dX11_isHedge_22 : decode cX11_isHedge 22 = .ok (.getfield 113, 3) := by decide +kernel
theorem dX11_isHedge_25 : decode cX11_isHedge 25 = .ok (.ldc2_w 150, 3) := by decide +kernel
theorem dX11_isHedge_28 : decode cX11_isHedge 28 = .ok (.lcmp, 1) := by decide +kernel
theorem dX11_isHedge_29 : decode cX11_isHedge 29 = .ok (.ifCond .ne 7, 3) := by decide +kernel
theorem dX11_isHedge_32 : decode cX11_isHedge 32 = .ok (.iconst 0, 1) := by decide +kernel
theorem dX11_isHedge_33 : decode cX11_isHedge 33 = .ok (.goto 49, 3) := by decide +kernel
theorem dX11_isHedge_36 : decode cX11_isHedge 36 = .ok (.aload_n 0, 1) := by decide +kernel
theorem dX11_isHedge_37 : decode cX11_isHedge 37 = .ok (.getfield 113, 3) := by decide +kernel
theorem dX11_isHedge_40 : decode cX11_isHedge 40 = .ok (.ldc2_w 152, 3) := by decide +kernel
theorem dX11_isHedge_43 : decode cX11_isHedge 43 = .ok (.lcmp, 1) := by decide +kernel
theorem dX11_isHedge_44 : decode cX11_isHedge 44 = .ok (.ifCond .ne 7, 3) := by decide +kernel
theorem dX11_isHedge_47 : decode cX11_isHedge 47 = .ok (.iconst 1, 1) := by decide +kernel
theorem dX11_isHedge_48 : decode cX11_isHedge 48 = .ok (.goto 34, 3) := by decide +kernel
theorem dX11_isHedge_51 : decode cX11_isHedge 51 = .ok (.aload_n 0, 1) := by decide +kernel
theorem dX11_isHedge_52 : decode cX11_isHedge 52 = .ok (.getfield 113, 3) := by decide +kernel
theorem dX11_isHedge_55 : decode cX11_isHedge 55 = .ok (.ldc2_w 154, 3) := by decide +kernel
theorem dX11_isHedge_58 : decode cX11_isHedge 58 = .ok (.lcmp, 1) := by decide +kernel
theorem dX11_isHedge_59 : decode cX11_isHedge 59 = .ok (.ifCond .ne 7, 3) := by decide +kernel
theorem dX11_isHedge_62 : decode cX11_isHedge 62 = .ok (.iconst 2, 1) := by decide +kernel
theorem dX11_isHedge_63 : decode cX11_isHedge 63 = .ok (.goto 19, 3) := by decide +kernel
theorem dX11_isHedge_66 : decode cX11_isHedge 66 = .ok (.aload_n 0, 1) := by decide +kernel
theorem dX11_isHedge_67 : decode cX11_isHedge 67 = .ok (.getfield 113, 3) := by decide +kernel
theorem dX11_isHedge_70 : decode cX11_isHedge 70 = .ok (.ldc2_w 156, 3) := by decide +kernel
theorem dX11_isHedge_73 : decode cX11_isHedge 73 = .ok (.lcmp, 1) := by decide +kernel
theorem dX11_isHedge_74 : decode cX11_isHedge 74 = .ok (.ifCond .ne 7, 3) := by decide +kernel
theorem dX11_isHedge_77 : decode cX11_isHedge 77 = .ok (.iconst 3, 1) := by decide +kernel
theorem dX11_isHedge_78 : decode cX11_isHedge 78 = .ok (.goto 4, 3) := by decide +kernel
theorem dX11_isHedge_81 : decode cX11_isHedge 81 = .ok (.iconst (-1), 1) := by decide +kernel
theorem dX11_isHedge_82 : decode cX11_isHedge 82 = .ok (.iastore, 1) := by decide +kernel
theorem dX11_isHedge_83 : decode cX11_isHedge 83 = .ok (.aload_n 0, 1) := by decide +kernel
theorem dX11_isHedge_84 : decode cX11_isHedge 84 = .ok (.getfield 29, 3) := by decide +kernel
theorem dX11_isHedge_87 : decode cX11_isHedge 87 = .ok (.iload_n 1, 1) := by decide +kernel
theorem dX11_isHedge_88 : decode cX11_isHedge 88 = .ok (.iconst 3, 1) := by decide +kernel
theorem dX11_isHedge_89 : decode cX11_isHedge 89 = .ok (.iadd, 1) := by decide +kernel
theorem dX11_isHedge_90 : decode cX11_isHedge 90 = .ok (.iaload, 1) := by decide +kernel
theorem dX11_isHedge_91 : decode cX11_isHedge 91 = .ok (.iconst (-1), 1) := by decide +kernel
theorem dX11_isHedge_92 : decode cX11_isHedge 92 = .ok (.if_icmp .ne 10, 3) := by decide +kernel
theorem dX11_isHedge_95 : decode cX11_isHedge 95 = .ok (.aload_n 0, 1) := by decide +kernel
theorem dX11_isHedge_96 : decode cX11_isHedge 96 = .ok (.invokevirtual 133, 3) := by decide +kernel
theorem dX11_isHedge_99 : decode cX11_isHedge 99 = .ok (.ifCond .eq 7, 3) := by decide +kernel
theorem dX11_isHedge_102 : decode cX11_isHedge 102 = .ok (.iconst 1, 1) := by decide +kernel
theorem dX11_isHedge_103 : decode cX11_isHedge 103 = .ok (.goto 4, 3) := by decide +kernel
theorem dX11_isHedge_106 : decode cX11_isHedge 106 = .ok (.iconst 0, 1) := by decide +kernel
theorem dX11_isHedge_107 : decode cX11_isHedge 107 = .ok (.ireturn, 1) := by decide +kernel
abbrev rm_X11_isHedge : Room := { frames := 4, cells := 0, slots := 0, locals := 86 }
theorem hd_X11_isHedge : yX11_isHedge.cls ≠ "java/lang/invoke/MethodHandle" ∧ yX11_isHedge.cls ≠ "java/lang/invoke/VarHandle" ∧ (parseMethodDescriptor yX11_isHedge.desc).map (fun d => d.parameters.length) = some 1 := by decide +kernel
def bk_X11_isHedge_102 (Q : Int32 → (Int32 × Int32 × Int64 × Int32 × Int32 × Int32 × (Nat → Int32)) → Prop) (M_position : Int32) (M_tokenAt : Int32) (M_token : Int64) (M_digits : Int32) (M_number : Int32) (M_faultAt : Int32) (M_read : Nat → Int32) : Prop :=
Q 1 (M_position, M_tokenAt, M_token, M_digits, M_number, M_faultAt, M_read)
def bk_X11_isHedge_82 (Q : Int32 → (Int32 × Int32 × Int64 × Int32 × Int32 × Int32 × (Nat → Int32)) → Prop) (p1 : Int32) (M_position : Int32) (M_tokenAt : Int32) (M_token : Int64) (M_digits : Int32) (M_number : Int32) (M_faultAt : Int32) (M_read : Nat → Int32) (s0 : Int32) (s1 : Int32) : Prop :=
vp_in s1 40 ∧ (∀ f9 : Nat → Int32, f9 = (upd M_read s1.toNatClampNeg s0) →
vp_in (p1 + 3) 40 ∧ ((¬ (f9 (p1 + 3).toNatClampNeg) = (-1) → bk_X11_isHedge_102 Q M_position M_tokenAt M_token M_digits M_number M_faultAt f9) ∧
((f9 (p1 + 3).toNatClampNeg) = (-1) → wp_X11_fails M_tokenAt (fun (r11 : Int32) (u12 : Int32) => ((r11 = 0 → Q 0 (M_position, M_tokenAt, M_token, M_digits, M_number, u12, f9)) ∧
(¬ r11 = 0 → bk_X11_isHedge_102 Q M_position M_tokenAt M_token M_digits M_number u12 f9))))))
def wp_X11_isHedge (p1 : Int32) (M_bytes : Int32) (M_position : Int32) (M_faultAt : Int32) (M_readWide : Int32) (M_readHigh : Int32) (M_text : Nat → Int32) (M_read : Nat → Int32) (Q : Int32 → (Int32 × Int32 × Int64 × Int32 × Int32 × Int32 × (Nat → Int32)) → Prop) : Prop :=
wp_X11_isPlace p1 M_bytes M_position M_faultAt M_readWide M_readHigh M_text M_read (fun (r1 : Int32) (u2 : Int32 × Int32 × Int64 × Int32 × Int32 × Int32 × (Nat → Int32)) => ((¬ r1 = 0 → wp_X11_nextToken M_bytes u2.1 M_text (fun (u4 : Int32 × Int32 × Int64 × Int32 × Int32) => ((¬ u4.2.2.1 = 240023 → ((¬ u4.2.2.1 = 9748424 → ((¬ u4.2.2.1 = 583 → ((¬ u4.2.2.1 = 90302 → bk_X11_isHedge_82 Q p1 u4.1 u4.2.1 u4.2.2.1 u4.2.2.2.1 u4.2.2.2.2 u2.2.2.2.2.2.1 u2.2.2.2.2.2.2 (-1) (p1 + 3)) ∧
(u4.2.2.1 = 90302 → bk_X11_isHedge_82 Q p1 u4.1 u4.2.1 u4.2.2.1 u4.2.2.2.1 u4.2.2.2.2 u2.2.2.2.2.2.1 u2.2.2.2.2.2.2 3 (p1 + 3)))) ∧
(u4.2.2.1 = 583 → bk_X11_isHedge_82 Q p1 u4.1 u4.2.1 u4.2.2.1 u4.2.2.2.1 u4.2.2.2.2 u2.2.2.2.2.2.1 u2.2.2.2.2.2.2 2 (p1 + 3)))) ∧
(u4.2.2.1 = 9748424 → bk_X11_isHedge_82 Q p1 u4.1 u4.2.1 u4.2.2.1 u4.2.2.2.1 u4.2.2.2.2 u2.2.2.2.2.2.1 u2.2.2.2.2.2.2 1 (p1 + 3)))) ∧
(u4.2.2.1 = 240023 → bk_X11_isHedge_82 Q p1 u4.1 u4.2.1 u4.2.2.1 u4.2.2.2.1 u4.2.2.2.2 u2.2.2.2.2.2.1 u2.2.2.2.2.2.2 0 (p1 + 3))))) ∧
(r1 = 0 → Q 0 (u2.1, u2.2.1, u2.2.2.1, u2.2.2.2.1, u2.2.2.2.2.1, u2.2.2.2.2.2.1, u2.2.2.2.2.2.2))))
set_option maxHeartbeats 4000000 in
set_option maxRecDepth 100000 in
theorem J_X11_isHedge_102 {x : CX} {D : DG} {cyI cyJ cyZ : ClassId} {a_M a_M_square a_M_want a_M_text a_M_read a_M_row a_M_foldSet a_M_foldEdges a_M_foldNeeds a_M_foldYards a_M_least a_M_ways a_M_price a_M_rowBy a_M_columnBy a_M_rowOf a_M_wayBack a_M_slack a_M_isUsed a_M_lifted a_M_freed a_M_path : Nat} {M_wide : Int32} {M_high : Int32} {M_hedges : Int64} {M_hurdles : Int32} {M_wants : Int32} {M_rest : Int32} {M_frozen : Int32} {M_bytes : Int32} {M_position : Int32} {M_tokenAt : Int32} {M_token : Int64} {M_digits : Int32} {M_number : Int32} {M_faultAt : Int32} {M_readMany : Int32} {M_readWide : Int32} {M_readHigh : Int32} {M_nights : Int32} {M_why : Int32} {M_folds : Int32} {M_square : Nat → Int32} {M_want : Nat → Int32} {M_text : Nat → Int32} {M_read : Nat → Int32} {M_row : Nat → Int32} {M_foldSet : Nat → Int32} {M_foldEdges : Nat → Int64} {M_foldNeeds : Nat → Int32} {M_foldYards : Nat → Int32} {M_least : Nat → Int32} {M_ways : Nat → Int32} {M_price : Nat → Int32} {M_rowBy : Nat → Int32} {M_columnBy : Nat → Int32} {M_rowOf : Nat → Int32} {M_wayBack : Nat → Int32} {M_slack : Nat → Int32} {M_isUsed : Nat → Int32} {M_lifted : Nat → Int32} {M_freed : Nat → Int32} {M_path : Nat → Int32} {Q : Int32 → (Int32 × Int32 × Int64 × Int32 × Int32 × Int32 × (Nat → Int32)) → Prop} (cx : Cx x cX11_isHedge 2 RX11 rm_X11_isHedge D [(cyI, .int), (cyJ, .long), (cyZ, .boolean)]) (hR : ∀ (v : Int32) (u : Int32 × Int32 × Int64 × Int32 × Int32 × Int32 × (Nat → Int32)) (pc : Nat) (lv : List (Nat × Value)), decode cX11_isHedge pc = .ok (.ireturn, 1) → (v = 0 ∨ v = 1) → Q v u → J x 0 0 2 (W_Model cyI cyJ cyZ a_M a_M_square a_M_want a_M_text a_M_read a_M_row a_M_foldSet a_M_foldEdges a_M_foldNeeds a_M_foldYards a_M_least a_M_ways a_M_price a_M_rowBy a_M_columnBy a_M_rowOf a_M_wayBack a_M_slack a_M_isUsed a_M_lifted a_M_freed a_M_path M_wide M_high M_hedges M_hurdles M_wants M_rest M_frozen M_bytes u.1 u.2.1 u.2.2.1 u.2.2.2.1 u.2.2.2.2.1 u.2.2.2.2.2.1 M_readMany M_readWide M_readHigh M_nights M_why M_folds M_square M_want M_text u.2.2.2.2.2.2 M_row M_foldSet M_foldEdges M_foldNeeds M_foldYards M_least M_ways M_price M_rowBy M_columnBy M_rowOf M_wayBack M_slack M_isUsed M_lifted M_freed M_path) lv pc [.int v]) (h : bk_X11_isHedge_102 Q  M_position M_tokenAt M_token M_digits M_number M_faultAt M_read) :
    J x 0 0 2 (W_Model cyI cyJ cyZ a_M a_M_square a_M_want a_M_text a_M_read a_M_row a_M_foldSet a_M_foldEdges a_M_foldNeeds a_M_foldYards a_M_least a_M_ways a_M_price a_M_rowBy a_M_columnBy a_M_rowOf a_M_wayBack a_M_slack a_M_isUsed a_M_lifted a_M_freed a_M_path M_wide M_high M_hedges M_hurdles M_wants M_rest M_frozen M_bytes M_position M_tokenAt M_token M_digits M_number M_faultAt M_readMany M_readWide M_readHigh M_nights M_why M_folds M_square M_want M_text M_read M_row M_foldSet M_foldEdges M_foldNeeds M_foldYards M_least M_ways M_price M_rowBy M_columnBy M_rowOf M_wayBack M_slack M_isUsed M_lifted M_freed M_path) [] 102 [] := by
  unfold bk_X11_isHedge_102 at h
  refine j_iconst cx (v := 1) (by decide) dX11_isHedge_102 (pn := 103) rfl ?_
  refine j_goto cx 107 dX11_isHedge_103 rfl ?_
  exact hR 1 (M_position, M_tokenAt, M_token, M_digits, M_number, M_faultAt, M_read) 107 _ dX11_isHedge_107 (Or.inr rfl) h
set_option maxHeartbeats 4000000 in
set_option maxRecDepth 100000 in
theorem J_X11_isHedge_82 {x : CX} {D : DG} {cyI cyJ cyZ : ClassId} {a_M a_M_square a_M_want a_M_text a_M_read a_M_row a_M_foldSet a_M_foldEdges a_M_foldNeeds a_M_foldYards a_M_least a_M_ways a_M_price a_M_rowBy a_M_columnBy a_M_rowOf a_M_wayBack a_M_slack a_M_isUsed a_M_lifted a_M_freed a_M_path : Nat} {M_wide : Int32} {M_high : Int32} {M_hedges : Int64} {M_hurdles : Int32} {M_wants : Int32} {M_rest : Int32} {M_frozen : Int32} {M_bytes : Int32} {M_position : Int32} {M_tokenAt : Int32} {M_token : Int64} {M_digits : Int32} {M_number : Int32} {M_faultAt : Int32} {M_readMany : Int32} {M_readWide : Int32} {M_readHigh : Int32} {M_nights : Int32} {M_why : Int32} {M_folds : Int32} {M_square : Nat → Int32} {M_want : Nat → Int32} {M_text : Nat → Int32} {M_read : Nat → Int32} {M_row : Nat → Int32} {M_foldSet : Nat → Int32} {M_foldEdges : Nat → Int64} {M_foldNeeds : Nat → Int32} {M_foldYards : Nat → Int32} {M_least : Nat → Int32} {M_ways : Nat → Int32} {M_price : Nat → Int32} {M_rowBy : Nat → Int32} {M_columnBy : Nat → Int32} {M_rowOf : Nat → Int32} {M_wayBack : Nat → Int32} {M_slack : Nat → Int32} {M_isUsed : Nat → Int32} {M_lifted : Nat → Int32} {M_freed : Nat → Int32} {M_path : Nat → Int32} {p1 : Int32} {s0 : Int32} {s1 : Int32} {Q : Int32 → (Int32 × Int32 × Int64 × Int32 × Int32 × Int32 × (Nat → Int32)) → Prop} (cx : Cx x cX11_isHedge 2 RX11 rm_X11_isHedge D [(cyI, .int), (cyJ, .long), (cyZ, .boolean)]) (hR : ∀ (v : Int32) (u : Int32 × Int32 × Int64 × Int32 × Int32 × Int32 × (Nat → Int32)) (pc : Nat) (lv : List (Nat × Value)), decode cX11_isHedge pc = .ok (.ireturn, 1) → (v = 0 ∨ v = 1) → Q v u → J x 0 0 2 (W_Model cyI cyJ cyZ a_M a_M_square a_M_want a_M_text a_M_read a_M_row a_M_foldSet a_M_foldEdges a_M_foldNeeds a_M_foldYards a_M_least a_M_ways a_M_price a_M_rowBy a_M_columnBy a_M_rowOf a_M_wayBack a_M_slack a_M_isUsed a_M_lifted a_M_freed a_M_path M_wide M_high M_hedges M_hurdles M_wants M_rest M_frozen M_bytes u.1 u.2.1 u.2.2.1 u.2.2.2.1 u.2.2.2.2.1 u.2.2.2.2.2.1 M_readMany M_readWide M_readHigh M_nights M_why M_folds M_square M_want M_text u.2.2.2.2.2.2 M_row M_foldSet M_foldEdges M_foldNeeds M_foldYards M_least M_ways M_price M_rowBy M_columnBy M_rowOf M_wayBack M_slack M_isUsed M_lifted M_freed M_path) lv pc [.int v]) (h : bk_X11_isHedge_82 Q  p1 M_position M_tokenAt M_token M_digits M_number M_faultAt M_read s0 s1) :
    J x 0 0 2 (W_Model cyI cyJ cyZ a_M a_M_square a_M_want a_M_text a_M_read a_M_row a_M_foldSet a_M_foldEdges a_M_foldNeeds a_M_foldYards a_M_least a_M_ways a_M_price a_M_rowBy a_M_columnBy a_M_rowOf a_M_wayBack a_M_slack a_M_isUsed a_M_lifted a_M_freed a_M_path M_wide M_high M_hedges M_hurdles M_wants M_rest M_frozen M_bytes M_position M_tokenAt M_token M_digits M_number M_faultAt M_readMany M_readWide M_readHigh M_nights M_why M_folds M_square M_want M_text M_read M_row M_foldSet M_foldEdges M_foldNeeds M_foldYards M_least M_ways M_price M_rowBy M_columnBy M_rowOf M_wayBack M_slack M_isUsed M_lifted M_freed M_path) [(0, .ref a_M), (1, .int p1)] 82 [.int s0, .int s1, .ref a_M_read] := by
  unfold bk_X11_isHedge_82 at h
  have hin := h.1
  obtain ⟨f9, ef9⟩ : ∃ z, z = upd M_read s1.toNatClampNeg s0 := ⟨_, rfl⟩
  have h := h.2 f9 ef9
  refine j_iast cx 4 0 rfl rfl hin (W_Model cyI cyJ cyZ a_M a_M_square a_M_want a_M_text a_M_read a_M_row a_M_foldSet a_M_foldEdges a_M_foldNeeds a_M_foldYards a_M_least a_M_ways a_M_price a_M_rowBy a_M_columnBy a_M_rowOf a_M_wayBack a_M_slack a_M_isUsed a_M_lifted a_M_freed a_M_path M_wide M_high M_hedges M_hurdles M_wants M_rest M_frozen M_bytes M_position M_tokenAt M_token M_digits M_number M_faultAt M_readMany M_readWide M_readHigh M_nights M_why M_folds M_square M_want M_text f9 M_row M_foldSet M_foldEdges M_foldNeeds M_foldYards M_least M_ways M_price M_rowBy M_columnBy M_rowOf M_wayBack M_slack M_isUsed M_lifted M_freed M_path) (by subst ef9; rfl) dX11_isHedge_82 (pn := 83) rfl ?_
  refine j_aload_n cx 0 rfl rfl dX11_isHedge_83 (pn := 84) rfl ?_
  refine j_get cx inGX11 0 rfl rfl 18 (by decide) q_fl_X11_29 rfl rfl dX11_isHedge_84 (pn := 87) rfl ?_
  refine j_iload_n cx 1 rfl rfl dX11_isHedge_87 (pn := 88) rfl ?_
  refine j_iconst cx (v := 3) (by decide) dX11_isHedge_88 (pn := 89) rfl ?_
  refine j_iadd cx dX11_isHedge_89 (pn := 90) rfl ?_
  refine j_iald cx 4 0 rfl rfl h.1 dX11_isHedge_90 (pn := 91) rfl ?_
  have h := h.2
  refine j_iconst cx (v := (-1)) (by decide) dX11_isHedge_91 (pn := 92) rfl ?_
  refine j_icmp_ne cx 102 dX11_isHedge_92 (pn := 95) rfl rfl (fun c10 => ?_) (fun c10 => ?_)
  · have h := h.1 c10
    refine j_sub [] [] rfl ?_
    exact J_X11_isHedge_102 cx hR h
  · have h := h.2 c10
    refine j_aload_n cx 0 rfl rfl dX11_isHedge_95 (pn := 96) rfl ?_
    refine j_callvI0 cx q_inst_X11_fails q_sel_X11_fails (b := a_M) (As := []) (rest := []) (c_X11_fails h) ⟨q_code_X11_fails, q_ml_X11_133, q_init_X11, hd_X11_fails, ⟨Nat.le_of_ble_eq_true rfl, Nat.le_of_ble_eq_true rfl⟩, Nat.le_of_ble_eq_true rfl, Nat.le_of_ble_eq_true rfl⟩ (q0 := 0) rfl rfl rfl rfl (Nat.le_of_ble_eq_true rfl) dX11_isHedge_96 (pn := 99) rfl (fun r11 u12 h => ?_)
    show J x 0 0 2 (W_Model cyI cyJ cyZ a_M a_M_square a_M_want a_M_text a_M_read a_M_row a_M_foldSet a_M_foldEdges a_M_foldNeeds a_M_foldYards a_M_least a_M_ways a_M_price a_M_rowBy a_M_columnBy a_M_rowOf a_M_wayBack a_M_slack a_M_isUsed a_M_lifted a_M_freed a_M_path M_wide M_high M_hedges M_hurdles M_wants M_rest M_frozen M_bytes M_position M_tokenAt M_token M_digits M_number u12 M_readMany M_readWide M_readHigh M_nights M_why M_folds M_square M_want M_text f9 M_row M_foldSet M_foldEdges M_foldNeeds M_foldYards M_least M_ways M_price M_rowBy M_columnBy M_rowOf M_wayBack M_slack M_isUsed M_lifted M_freed M_path) [(0, .ref a_M), (1, .int p1)] 99 [.int r11]
    refine j_if_eq cx 106 dX11_isHedge_99 (pn := 102) rfl rfl (fun c13 => ?_) (fun c13 => ?_)
    · have h := h.1 c13
      refine j_iconst cx (v := 0) (by decide) dX11_isHedge_106 (pn := 107) rfl ?_
      exact hR 0 (M_position, M_tokenAt, M_token, M_digits, M_number, u12, f9) 107 _ dX11_isHedge_107 (Or.inl rfl) h
    · have h := h.2 c13
      refine j_sub [] [] rfl ?_
      exact J_X11_isHedge_102 cx hR h
set_option maxHeartbeats 4000000 in
set_option maxRecDepth 100000 in
theorem c_X11_isHedge {D : DG} {cyI cyJ cyZ : ClassId} {a_M a_M_square a_M_want a_M_text a_M_read a_M_row a_M_foldSet a_M_foldEdges a_M_foldNeeds a_M_foldYards a_M_least a_M_ways a_M_price a_M_rowBy a_M_columnBy a_M_rowOf a_M_wayBack a_M_slack a_M_isUsed a_M_lifted a_M_freed a_M_path : Nat} {M_wide : Int32} {M_high : Int32} {M_hedges : Int64} {M_hurdles : Int32} {M_wants : Int32} {M_rest : Int32} {M_frozen : Int32} {M_bytes : Int32} {M_position : Int32} {M_tokenAt : Int32} {M_token : Int64} {M_digits : Int32} {M_number : Int32} {M_faultAt : Int32} {M_readMany : Int32} {M_readWide : Int32} {M_readHigh : Int32} {M_nights : Int32} {M_why : Int32} {M_folds : Int32} {M_square : Nat → Int32} {M_want : Nat → Int32} {M_text : Nat → Int32} {M_read : Nat → Int32} {M_row : Nat → Int32} {M_foldSet : Nat → Int32} {M_foldEdges : Nat → Int64} {M_foldNeeds : Nat → Int32} {M_foldYards : Nat → Int32} {M_least : Nat → Int32} {M_ways : Nat → Int32} {M_price : Nat → Int32} {M_rowBy : Nat → Int32} {M_columnBy : Nat → Int32} {M_rowOf : Nat → Int32} {M_wayBack : Nat → Int32} {M_slack : Nat → Int32} {M_isUsed : Nat → Int32} {M_lifted : Nat → Int32} {M_freed : Nat → Int32} {M_path : Nat → Int32} {p1 : Int32} {Q : Int32 → (Int32 × Int32 × Int64 × Int32 × Int32 × Int32 × (Nat → Int32)) → Prop} (h : wp_X11_isHedge p1 M_bytes M_position M_faultAt M_readWide M_readHigh M_text M_read Q) :
    MetI yX11_isHedge cX11_isHedge 2 (some .boolean) rm_X11_isHedge D [(cyI, .int), (cyJ, .long), (cyZ, .boolean)] [.ref a_M, .int p1] (W_Model cyI cyJ cyZ a_M a_M_square a_M_want a_M_text a_M_read a_M_row a_M_foldSet a_M_foldEdges a_M_foldNeeds a_M_foldYards a_M_least a_M_ways a_M_price a_M_rowBy a_M_columnBy a_M_rowOf a_M_wayBack a_M_slack a_M_isUsed a_M_lifted a_M_freed a_M_path M_wide M_high M_hedges M_hurdles M_wants M_rest M_frozen M_bytes M_position M_tokenAt M_token M_digits M_number M_faultAt M_readMany M_readWide M_readHigh M_nights M_why M_folds M_square M_want M_text M_read M_row M_foldSet M_foldEdges M_foldNeeds M_foldYards M_least M_ways M_price M_rowBy M_columnBy M_rowOf M_wayBack M_slack M_isUsed M_lifted M_freed M_path) (fun u : Int32 × Int32 × Int64 × Int32 × Int32 × Int32 × (Nat → Int32) => (W_Model cyI cyJ cyZ a_M a_M_square a_M_want a_M_text a_M_read a_M_row a_M_foldSet a_M_foldEdges a_M_foldNeeds a_M_foldYards a_M_least a_M_ways a_M_price a_M_rowBy a_M_columnBy a_M_rowOf a_M_wayBack a_M_slack a_M_isUsed a_M_lifted a_M_freed a_M_path M_wide M_high M_hedges M_hurdles M_wants M_rest M_frozen M_bytes u.1 u.2.1 u.2.2.1 u.2.2.2.1 u.2.2.2.2.1 u.2.2.2.2.2.1 M_readMany M_readWide M_readHigh M_nights M_why M_folds M_square M_want M_text u.2.2.2.2.2.2 M_row M_foldSet M_foldEdges M_foldNeeds M_foldYards M_least M_ways M_price M_rowBy M_columnBy M_rowOf M_wayBack M_slack M_isUsed M_lifted M_freed M_path)) (fun v u => Q v u) := by
  unfold wp_X11_isHedge at h
  refine metZ_of (by decide) (Nat.le_of_ble_eq_true rfl) (fun x cx0 hR0 => ?_)
  have cx : Cx x cX11_isHedge 2 RX11 rm_X11_isHedge D [(cyI, .int), (cyJ, .long), (cyZ, .boolean)] := cx0
  have hR : ∀ (v : Int32) (u : Int32 × Int32 × Int64 × Int32 × Int32 × Int32 × (Nat → Int32)) (pc : Nat) (lv : List (Nat × Value)), decode cX11_isHedge pc = .ok (.ireturn, 1) → (v = 0 ∨ v = 1) → Q v u → J x 0 0 2 (W_Model cyI cyJ cyZ a_M a_M_square a_M_want a_M_text a_M_read a_M_row a_M_foldSet a_M_foldEdges a_M_foldNeeds a_M_foldYards a_M_least a_M_ways a_M_price a_M_rowBy a_M_columnBy a_M_rowOf a_M_wayBack a_M_slack a_M_isUsed a_M_lifted a_M_freed a_M_path M_wide M_high M_hedges M_hurdles M_wants M_rest M_frozen M_bytes u.1 u.2.1 u.2.2.1 u.2.2.2.1 u.2.2.2.2.1 u.2.2.2.2.2.1 M_readMany M_readWide M_readHigh M_nights M_why M_folds M_square M_want M_text u.2.2.2.2.2.2 M_row M_foldSet M_foldEdges M_foldNeeds M_foldYards M_least M_ways M_price M_rowBy M_columnBy M_rowOf M_wayBack M_slack M_isUsed M_lifted M_freed M_path) lv pc [.int v] := (fun v u pc lv d hz hq => hR0 v u pc lv d hz hq)
  show J x 0 0 2 (W_Model cyI cyJ cyZ a_M a_M_square a_M_want a_M_text a_M_read a_M_row a_M_foldSet a_M_foldEdges a_M_foldNeeds a_M_foldYards a_M_least a_M_ways a_M_price a_M_rowBy a_M_columnBy a_M_rowOf a_M_wayBack a_M_slack a_M_isUsed a_M_lifted a_M_freed a_M_path M_wide M_high M_hedges M_hurdles M_wants M_rest M_frozen M_bytes M_position M_tokenAt M_token M_digits M_number M_faultAt M_readMany M_readWide M_readHigh M_nights M_why M_folds M_square M_want M_text M_read M_row M_foldSet M_foldEdges M_foldNeeds M_foldYards M_least M_ways M_price M_rowBy M_columnBy M_rowOf M_wayBack M_slack M_isUsed M_lifted M_freed M_path) [(0, .ref a_M), (1, .int p1)] 0 []
  refine j_aload_n cx 0 rfl rfl dX11_isHedge_0 (pn := 1) rfl ?_
  refine j_iload_n cx 1 rfl rfl dX11_isHedge_1 (pn := 2) rfl ?_
  refine j_callvI0 cx q_inst_X11_isPlace q_sel_X11_isPlace (b := a_M) (As := [.int p1]) (rest := []) (c_X11_isPlace h) ⟨q_code_X11_isPlace, q_ml_X11_146, q_init_X11, hd_X11_isPlace, ⟨Nat.le_of_ble_eq_true rfl, Nat.le_of_ble_eq_true rfl⟩, Nat.le_of_ble_eq_true rfl, Nat.le_of_ble_eq_true rfl⟩ (q0 := 0) rfl rfl rfl rfl (Nat.le_of_ble_eq_true rfl) dX11_isHedge_2 (pn := 5) rfl (fun r1 u2 h => ?_)
  show J x 0 0 2 (W_Model cyI cyJ cyZ a_M a_M_square a_M_want a_M_text a_M_read a_M_row a_M_foldSet a_M_foldEdges a_M_foldNeeds a_M_foldYards a_M_least a_M_ways a_M_price a_M_rowBy a_M_columnBy a_M_rowOf a_M_wayBack a_M_slack a_M_isUsed a_M_lifted a_M_freed a_M_path M_wide M_high M_hedges M_hurdles M_wants M_rest M_frozen M_bytes u2.1 u2.2.1 u2.2.2.1 u2.2.2.2.1 u2.2.2.2.2.1 u2.2.2.2.2.2.1 M_readMany M_readWide M_readHigh M_nights M_why M_folds M_square M_want M_text u2.2.2.2.2.2.2 M_row M_foldSet M_foldEdges M_foldNeeds M_foldYards M_least M_ways M_price M_rowBy M_columnBy M_rowOf M_wayBack M_slack M_isUsed M_lifted M_freed M_path) [(0, .ref a_M), (1, .int p1)] 5 [.int r1]
  refine j_if_ne cx 10 dX11_isHedge_5 (pn := 8) rfl rfl (fun c3 => ?_) (fun c3 => ?_)
  · have h := h.1 c3
    refine j_aload_n cx 0 rfl rfl dX11_isHedge_10 (pn := 11) rfl ?_
    refine j_callvV0 cx q_inst_X11_nextToken q_sel_X11_nextToken (b := a_M) (As := []) (rest := []) (c_X11_nextToken h) ⟨q_code_X11_nextToken, q_ml_X11_130, q_init_X11, hd_X11_nextToken, ⟨Nat.le_of_ble_eq_true rfl, Nat.le_of_ble_eq_true rfl⟩, Nat.le_of_ble_eq_true rfl, Nat.le_of_ble_eq_true rfl⟩ (q0 := 0) rfl rfl rfl rfl (Nat.le_of_ble_eq_true rfl) dX11_isHedge_11 (pn := 14) rfl (fun u4 h => ?_)
    show J x 0 0 2 (W_Model cyI cyJ cyZ a_M a_M_square a_M_want a_M_text a_M_read a_M_row a_M_foldSet a_M_foldEdges a_M_foldNeeds a_M_foldYards a_M_least a_M_ways a_M_price a_M_rowBy a_M_columnBy a_M_rowOf a_M_wayBack a_M_slack a_M_isUsed a_M_lifted a_M_freed a_M_path M_wide M_high M_hedges M_hurdles M_wants M_rest M_frozen M_bytes u4.1 u4.2.1 u4.2.2.1 u4.2.2.2.1 u4.2.2.2.2 u2.2.2.2.2.2.1 M_readMany M_readWide M_readHigh M_nights M_why M_folds M_square M_want M_text u2.2.2.2.2.2.2 M_row M_foldSet M_foldEdges M_foldNeeds M_foldYards M_least M_ways M_price M_rowBy M_columnBy M_rowOf M_wayBack M_slack M_isUsed M_lifted M_freed M_path) [(0, .ref a_M), (1, .int p1)] 14 []
    refine j_aload_n cx 0 rfl rfl dX11_isHedge_14 (pn := 15) rfl ?_
    refine j_get cx inGX11 0 rfl rfl 18 (by decide) q_fl_X11_29 rfl rfl dX11_isHedge_15 (pn := 18) rfl ?_
    refine j_iload_n cx 1 rfl rfl dX11_isHedge_18 (pn := 19) rfl ?_
    refine j_iconst cx (v := 3) (by decide) dX11_isHedge_19 (pn := 20) rfl ?_
    refine j_iadd cx dX11_isHedge_20 (pn := 21) rfl ?_
    refine j_aload_n cx 0 rfl rfl dX11_isHedge_21 (pn := 22) rfl ?_
    refine j_get cx inGX11 0 rfl rfl 13 (by decide) q_fl_X11_113 rfl rfl dX11_isHedge_22 (pn := 25) rfl ?_
    refine j_ldc2 cx q_cl_X11_150 dX11_isHedge_25 (pn := 28) rfl ?_
    refine j_lif_ne cx 36 dX11_isHedge_28 (pm := 29) (pn := 32) rfl dX11_isHedge_29 rfl rfl (fun c5 => ?_) (fun c5 => ?_)
    · have h := h.1 c5
      refine j_aload_n cx 0 rfl rfl dX11_isHedge_36 (pn := 37) rfl ?_
      refine j_get cx inGX11 0 rfl rfl 13 (by decide) q_fl_X11_113 rfl rfl dX11_isHedge_37 (pn := 40) rfl ?_
      refine j_ldc2 cx q_cl_X11_152 dX11_isHedge_40 (pn := 43) rfl ?_
      refine j_lif_ne cx 51 dX11_isHedge_43 (pm := 44) (pn := 47) rfl dX11_isHedge_44 rfl rfl (fun c6 => ?_) (fun c6 => ?_)
      · have h := h.1 c6
        refine j_aload_n cx 0 rfl rfl dX11_isHedge_51 (pn := 52) rfl ?_
        refine j_get cx inGX11 0 rfl rfl 13 (by decide) q_fl_X11_113 rfl rfl dX11_isHedge_52 (pn := 55) rfl ?_
        refine j_ldc2 cx q_cl_X11_154 dX11_isHedge_55 (pn := 58) rfl ?_
        refine j_lif_ne cx 66 dX11_isHedge_58 (pm := 59) (pn := 62) rfl dX11_isHedge_59 rfl rfl (fun c7 => ?_) (fun c7 => ?_)
        · have h := h.1 c7
          refine j_aload_n cx 0 rfl rfl dX11_isHedge_66 (pn := 67) rfl ?_
          refine j_get cx inGX11 0 rfl rfl 13 (by decide) q_fl_X11_113 rfl rfl dX11_isHedge_67 (pn := 70) rfl ?_
          refine j_ldc2 cx q_cl_X11_156 dX11_isHedge_70 (pn := 73) rfl ?_
          refine j_lif_ne cx 81 dX11_isHedge_73 (pm := 74) (pn := 77) rfl dX11_isHedge_74 rfl rfl (fun c8 => ?_) (fun c8 => ?_)
          · have h := h.1 c8
            refine j_iconst cx (v := (-1)) (by decide) dX11_isHedge_81 (pn := 82) rfl ?_
            exact J_X11_isHedge_82 cx hR h
          · have h := h.2 c8
            refine j_iconst cx (v := 3) (by decide) dX11_isHedge_77 (pn := 78) rfl ?_
            refine j_goto cx 82 dX11_isHedge_78 rfl ?_
            exact J_X11_isHedge_82 cx hR h
        · have h := h.2 c7
          refine j_iconst cx (v := 2) (by decide) dX11_isHedge_62 (pn := 63) rfl ?_
          refine j_goto cx 82 dX11_isHedge_63 rfl ?_
          exact J_X11_isHedge_82 cx hR h
      · have h := h.2 c6
        refine j_iconst cx (v := 1) (by decide) dX11_isHedge_47 (pn := 48) rfl ?_
        refine j_goto cx 82 dX11_isHedge_48 rfl ?_
        exact J_X11_isHedge_82 cx hR h
    · have h := h.2 c5
      refine j_iconst cx (v := 0) (by decide) dX11_isHedge_32 (pn := 33) rfl ?_
      refine j_goto cx 82 dX11_isHedge_33 rfl ?_
      exact J_X11_isHedge_82 cx hR h
  · have h := h.2 c3
    refine j_iconst cx (v := 0) (by decide) dX11_isHedge_8 (pn := 9) rfl ?_
    exact hR 0 (u2.1, u2.2.1, u2.2.2.1, u2.2.2.2.1, u2.2.2.2.2.1, u2.2.2.2.2.2.1, u2.2.2.2.2.2.2) 9 _ dX11_isHedge_9 (Or.inl rfl) h
theorem dX11_isLine_0 : decode cX11_isLine 0 = .ok (.aload_n 0, 1) := by decide +kernel
theorem dX11_isLine_1 : decode cX11_isLine 1 = .ok (.invokevirtual 130, 3) := by decide +kernel
theorem dX11_isLine_4 : decode cX11_isLine 4 = .ok (.aload_n 0, 1) := by decide +kernel
theorem dX11_isLine_5 : decode cX11_isLine 5 = .ok (.getfield 113, 3) := by decide +kernel
theorem dX11_isLine_8 : decode cX11_isLine 8 = .ok (.ldc2_w 158, 3) := by decide +kernel
theorem dX11_isLine_11 : decode cX11_isLine 11 = .ok (.lcmp, 1) := by decide +kernel
theorem dX11_isLine_12 : decode cX11_isLine 12 = .ok (.ifCond .ne 7, 3) := by decide +kernel
theorem dX11_isLine_15 : decode cX11_isLine 15 = .ok (.iconst 0, 1) := by decide +kernel
theorem dX11_isLine_16 : decode cX11_isLine 16 = .ok (.goto 79, 3) := by decide +kernel
theorem dX11_isLine_19 : decode cX11_isLine 19 = .ok (.aload_n 0, 1) := by decide +kernel
theorem dX11_isLine_20 : decode cX11_isLine 20 = .ok (.getfield 113, 3) := by decide +kernel
theorem dX11_isLine_23 : decode cX11_isLine 23 = .ok (.ldc2_w 160, 3) := by decide +kernel
theorem dX11_isLine_26 : decode cX11_isLine 26 = .ok (.lcmp, 1) := by decide +kernel
theorem dX11_isLine_27 : decode cX11_isLine 27 = .ok (.ifCond .ne 7, 3) := by decide +kernel
theorem dX11_isLine_30 : decode cX11_isLine 30 = .ok (.iconst 1, 1) := by decide +kernel
theorem dX11_isLine_31 : decode cX11_isLine 31 = .ok (.goto 64, 3) := by decide +kernel
theorem dX11_isLine_34 : decode cX11_isLine 34 = .ok (.aload_n 0, 1) := by decide +kernel
theorem dX11_isLine_35 : decode cX11_isLine 35 = .ok (.getfield 113, 3) := by decide +kernel
theorem dX11_isLine_38 : decode cX11_isLine 38 = .ok (.ldc2_w 162, 3) := by decide +kernel
theorem dX11_isLine_41 : decode cX11_isLine 41 = .ok (.lcmp, 1) := by decide +kernel
theorem dX11_isLine_42 : decode cX11_isLine 42 = .ok (.ifCond .ne 7, 3) := by decide +kernel
theorem dX11_isLine_45 : decode cX11_isLine 45 = .ok (.iconst 2, 1) := by decide +kernel
theorem dX11_isLine_46 : decode cX11_isLine 46 = .ok (.goto 49, 3) := by decide +kernel
theorem dX11_isLine_49 : decode cX11_isLine 49 = .ok (.aload_n 0, 1) := by decide +kernel
theorem dX11_isLine_50 : decode cX11_isLine 50 = .ok (.getfield 113, 3) := by decide +kernel
theorem dX11_isLine_53 : decode cX11_isLine 53 = .ok (.ldc2_w 164, 3) := by decide +kernel
theorem dX11_isLine_56 : decode cX11_isLine 56 = .ok (.lcmp, 1) := by decide +kernel
theorem dX11_isLine_57 : decode cX11_isLine 57 = .ok (.ifCond .ne 7, 3) := by decide +kernel
theorem dX11_isLine_60 : decode cX11_isLine 60 = .ok (.iconst 3, 1) := by decide +kernel
theorem dX11_isLine_61 : decode cX11_isLine 61 = .ok (.goto 34, 3) := by decide +kernel
theorem dX11_isLine_64 : decode cX11_isLine 64 = .ok (.aload_n 0, 1) := by decide +kernel
theorem dX11_isLine_65 : decode cX11_isLine 65 = .ok (.getfield 113, 3) := by decide +kernel
theorem dX11_isLine_68 : decode cX11_isLine 68 = .ok (.ldc2_w 166, 3) := by decide +kernel
theorem dX11_isLine_71 : decode cX11_isLine 71 = .ok (.lcmp, 1) := by decide +kernel
theorem dX11_isLine_72 : decode cX11_isLine 72 = .ok (.ifCond .ne 7, 3) := by decide +kernel
theorem dX11_isLine_75 : decode cX11_isLine 75 = .ok (.iconst 4, 1) := by decide +kernel
theorem dX11_isLine_76 : decode cX11_isLine 76 = .ok (.goto 19, 3) := by decide +kernel
theorem dX11_isLine_79 : decode cX11_isLine 79 = .ok (.aload_n 0, 1) := by decide +kernel
theorem dX11_isLine_80 : decode cX11_isLine 80 = .ok (.getfield 113, 3) := by decide +kernel
theorem dX11_isLine_83 : decode cX11_isLine 83 = .ok (.ldc2_w 168, 3) := by decide +kernel
theorem dX11_isLine_86 : decode cX11_isLine 86 = .ok (.lcmp, 1) := by decide +kernel
theorem dX11_isLine_87 : decode cX11_isLine 87 = .ok (.ifCond .ne 7, 3) := by decide +kernel
theorem dX11_isLine_90 : decode cX11_isLine 90 = .ok (.iconst 5, 1) := by decide +kernel
theorem dX11_isLine_91 : decode cX11_isLine 91 = .ok (.goto 4, 3) := by decide +kernel
theorem dX11_isLine_94 : decode cX11_isLine 94 = .ok (.iconst (-1), 1) := by decide +kernel
theorem dX11_isLine_95 : decode cX11_isLine 95 = .ok (.istore_n 2, 1) := by decide +kernel
theorem dX11_isLine_96 : decode cX11_isLine 96 = .ok (.aload_n 0, 1) := by decide +kernel
theorem dX11_isLine_97 : decode cX11_isLine 97 = .ok (.getfield 113, 3) := by decide +kernel
theorem dX11_isLine_100 : decode cX11_isLine 100 = .ok (.ldc2_w 170, 3) := by decide +kernel
theorem dX11_isLine_103 : decode cX11_isLine 103 = .ok (.lcmp, 1) := by decide +kernel
theorem dX11_isLine_104 : decode cX11_isLine 104 = .ok (.ifCond .ne 8, 3) := by decide +kernel
theorem dX11_isLine_107 : decode cX11_isLine 107 = .ok (.bipush 6, 2) := by decide +kernel
theorem dX11_isLine_109 : decode cX11_isLine 109 = .ok (.goto 68, 3) := by decide +kernel
theorem dX11_isLine_112 : decode cX11_isLine 112 = .ok (.aload_n 0, 1) := by decide +kernel
theorem dX11_isLine_113 : decode cX11_isLine 113 = .ok (.getfield 113, 3) := by decide +kernel
theorem dX11_isLine_116 : decode cX11_isLine 116 = .ok (.ldc2_w 172, 3) := by decide +kernel
theorem dX11_isLine_119 : decode cX11_isLine 119 = .ok (.lcmp, 1) := by decide +kernel
theorem dX11_isLine_120 : decode cX11_isLine 120 = .ok (.ifCond .ne 8, 3) := by decide +kernel
theorem dX11_isLine_123 : decode cX11_isLine 123 = .ok (.bipush 7, 2) := by decide +kernel
theorem dX11_isLine_125 : decode cX11_isLine 125 = .ok (.goto 52, 3) := by decide +kernel
theorem dX11_isLine_128 : decode cX11_isLine 128 = .ok (.aload_n 0, 1) := by decide +kernel
theorem dX11_isLine_129 : decode cX11_isLine 129 = .ok (.getfield 113, 3) := by decide +kernel
theorem dX11_isLine_132 : decode cX11_isLine 132 = .ok (.ldc2_w 174, 3) := by decide +kernel
theorem dX11_isLine_135 : decode cX11_isLine 135 = .ok (.lcmp, 1) := by decide +kernel
theorem dX11_isLine_136 : decode cX11_isLine 136 = .ok (.ifCond .ne 8, 3) := by decide +kernel
theorem dX11_isLine_139 : decode cX11_isLine 139 = .ok (.bipush 8, 2) := by decide +kernel
theorem dX11_isLine_141 : decode cX11_isLine 141 = .ok (.goto 36, 3) := by decide +kernel
theorem dX11_isLine_144 : decode cX11_isLine 144 = .ok (.aload_n 0, 1) := by decide +kernel
theorem dX11_isLine_145 : decode cX11_isLine 145 = .ok (.getfield 113, 3) := by decide +kernel
theorem dX11_isLine_148 : decode cX11_isLine 148 = .ok (.ldc2_w 176, 3) := by decide +kernel
theorem dX11_isLine_151 : decode cX11_isLine 151 = .ok (.lcmp, 1) := by decide +kernel
theorem dX11_isLine_152 : decode cX11_isLine 152 = .ok (.ifCond .ne 8, 3) := by decide +kernel
theorem dX11_isLine_155 : decode cX11_isLine 155 = .ok (.bipush 9, 2) := by decide +kernel
theorem dX11_isLine_157 : decode cX11_isLine 157 = .ok (.goto 20, 3) := by decide +kernel
theorem dX11_isLine_160 : decode cX11_isLine 160 = .ok (.aload_n 0, 1) := by decide +kernel
theorem dX11_isLine_161 : decode cX11_isLine 161 = .ok (.getfield 113, 3) := by decide +kernel
theorem dX11_isLine_164 : decode cX11_isLine 164 = .ok (.ldc2_w 178, 3) := by decide +kernel
theorem dX11_isLine_167 : decode cX11_isLine 167 = .ok (.lcmp, 1) := by decide +kernel
theorem dX11_isLine_168 : decode cX11_isLine 168 = .ok (.ifCond .ne 8, 3) := by decide +kernel
theorem dX11_isLine_171 : decode cX11_isLine 171 = .ok (.bipush 10, 2) := by decide +kernel
theorem dX11_isLine_173 : decode cX11_isLine 173 = .ok (.goto 4, 3) := by decide +kernel
theorem dX11_isLine_176 : decode cX11_isLine 176 = .ok (.iconst (-1), 1) := by decide +kernel
theorem dX11_isLine_177 : decode cX11_isLine 177 = .ok (.istore_n 3, 1) := by decide +kernel
theorem dX11_isLine_178 : decode cX11_isLine 178 = .ok (.aload_n 0, 1) := by decide +kernel
theorem dX11_isLine_179 : decode cX11_isLine 179 = .ok (.getfield 29, 3) := by decide +kernel
theorem dX11_isLine_182 : decode cX11_isLine 182 = .ok (.iload_n 1, 1) := by decide +kernel
theorem dX11_isLine_183 : decode cX11_isLine 183 = .ok (.iload_n 2, 1) := by decide +kernel
theorem dX11_isLine_184 : decode cX11_isLine 184 = .ok (.iconst (-1), 1) := by decide +kernel
theorem dX11_isLine_185 : decode cX11_isLine 185 = .ok (.if_icmp .ne 7, 3) := by decide +kernel
theorem dX11_isLine_188 : decode cX11_isLine 188 = .ok (.iload_n 3, 1) := by decide +kernel
theorem dX11_isLine_189 : decode cX11_isLine 189 = .ok (.goto 4, 3) := by decide +kernel
theorem dX11_isLine_192 : decode cX11_isLine 192 = .ok (.iload_n 2, 1) := by decide +kernel
theorem dX11_isLine_193 : decode cX11_isLine 193 = .ok (.iastore, 1) := by decide +kernel
theorem dX11_isLine_194 : decode cX11_isLine 194 = .ok (.aload_n 0, 1) := by decide +kernel
theorem dX11_isLine_195 : decode cX11_isLine 195 = .ok (.getfield 29, 3) := by decide +kernel
theorem dX11_isLine_198 : decode cX11_isLine 198 = .ok (.iload_n 1, 1) := by decide +kernel
theorem dX11_isLine_199 : decode cX11_isLine 199 = .ok (.iaload, 1) := by decide +kernel
theorem dX11_isLine_200 : decode cX11_isLine 200 = .ok (.tableswitch 151 0 10 #[60, 66, 93, 93, 99, 99, 105, 116, 127, 138, 149], 60) := by decide +kernel
theorem dX11_isLine_260 : decode cX11_isLine 260 = .ok (.aload_n 0, 1) := by decide +kernel
theorem dX11_isLine_261 : decode cX11_isLine 261 = .ok (.iload_n 1, 1) := by decide +kernel
theorem dX11_isLine_262 : decode cX11_isLine 262 = .ok (.invokevirtual 180, 3) := by decide +kernel
theorem dX11_isLine_265 : decode cX11_isLine 265 = .ok (.ireturn, 1) := by decide +kernel
theorem dX11_isLine_266 : decode cX11_isLine 266 = .ok (.aload_n 0, 1) := by decide +kernel
theorem dX11_isLine_267 : decode cX11_isLine 267 = .ok (.iload_n 1, 1) := by decide +kernel
theorem dX11_isLine_268 : decode cX11_isLine 268 = .ok (.invokevirtual 146, 3) := by decide +kernel
theorem dX11_isLine_271 : decode cX11_isLine 271 = .ok (.ifCond .eq 20, 3) := by decide +kernel
theorem dX11_isLine_274 : decode cX11_isLine 274 = .ok (.aload_n 0, 1) := by decide +kernel
theorem dX11_isLine_275 : decode cX11_isLine 275 = .ok (.iload_n 1, 1) := by decide +kernel
theorem dX11_isLine_276 : decode cX11_isLine 276 = .ok (.iconst 3, 1) := by decide +kernel
theorem dX11_isLine_277 : decode cX11_isLine 277 = .ok (.iadd, 1) := by decide +kernel
theorem dX11_isLine_278 : decode cX11_isLine 278 = .ok (.iconst 0, 1) := by decide +kernel
theorem dX11_isLine_279 : decode cX11_isLine 279 = .ok (.bipush 9, 2) := by decide +kernel
theorem dX11_isLine_281 : decode cX11_isLine 281 = .ok (.invokevirtual 140, 3) := by decide +kernel
theorem dX11_isLine_284 : decode cX11_isLine 284 = .ok (.ifCond .eq 7, 3) := by decide +kernel
theorem dX11_isLine_287 : decode cX11_isLine 287 = .ok (.iconst 1, 1) := by decide +kernel
theorem dX11_isLine_288 : decode cX11_isLine 288 = .ok (.goto 4, 3) := by decide +kernel
theorem dX11_isLine_291 : decode cX11_isLine 291 = .ok (.iconst 0, 1) := by decide +kernel
theorem dX11_isLine_292 : decode cX11_isLine 292 = .ok (.ireturn, 1) := by decide +kernel
theorem dX11_isLine_293 : decode cX11_isLine 293 = .ok (.aload_n 0, 1) := by decide +kernel
theorem dX11_isLine_294 : decode cX11_isLine 294 = .ok (.iload_n 1, 1) := by decide +kernel
theorem dX11_isLine_295 : decode cX11_isLine 295 = .ok (.invokevirtual 146, 3) := by decide +kernel
theorem dX11_isLine_298 : decode cX11_isLine 298 = .ok (.ireturn, 1) := by decide +kernel
theorem dX11_isLine_299 : decode cX11_isLine 299 = .ok (.aload_n 0, 1) := by decide +kernel
theorem dX11_isLine_300 : decode cX11_isLine 300 = .ok (.iload_n 1, 1) := by decide +kernel
theorem dX11_isLine_301 : decode cX11_isLine 301 = .ok (.invokevirtual 183, 3) := by decide +kernel
theorem dX11_isLine_304 : decode cX11_isLine 304 = .ok (.ireturn, 1) := by decide +kernel
theorem dX11_isLine_305 : decode cX11_isLine 305 = .ok (.aload_n 0, 1) := by decide +kernel
theorem dX11_isLine_306 : decode cX11_isLine 306 = .ok (.iload_n 1, 1) := by decide +kernel
theorem dX11_isLine_307 : decode cX11_isLine 307 = .ok (.iconst 1, 1) := by decide +kernel
theorem dX11_isLine_308 : decode cX11_isLine 308 = .ok (.iadd, 1) := by decide +kernel
theorem dX11_isLine_309 : decode cX11_isLine 309 = .ok (.iconst 0, 1) := by decide +kernel
theorem dX11_isLine_310 : decode cX11_isLine 310 = .ok (.bipush 60, 2) := by decide +kernel
theorem dX11_isLine_312 : decode cX11_isLine 312 = .ok (.invokevirtual 140, 3) := by decide +kernel
theorem dX11_isLine_315 : decode cX11_isLine 315 = .ok (.ireturn, 1) := by decide +kernel
theorem dX11_isLine_316 : decode cX11_isLine 316 = .ok (.aload_n 0, 1) := by decide +kernel
theorem dX11_isLine_317 : decode cX11_isLine 317 = .ok (.iload_n 1, 1) := by decide +kernel
theorem dX11_isLine_318 : decode cX11_isLine 318 = .ok (.iconst 1, 1) := by decide +kernel
theorem dX11_isLine_319 : decode cX11_isLine 319 = .ok (.iadd, 1) := by decide +kernel
theorem dX11_isLine_320 : decode cX11_isLine 320 = .ok (.iconst 0, 1) := by decide +kernel
theorem dX11_isLine_321 : decode cX11_isLine 321 = .ok (.bipush 90, 2) := by decide +kernel
theorem dX11_isLine_323 : decode cX11_isLine 323 = .ok (.invokevirtual 140, 3) := by decide +kernel
theorem dX11_isLine_326 : decode cX11_isLine 326 = .ok (.ireturn, 1) := by decide +kernel
theorem dX11_isLine_327 : decode cX11_isLine 327 = .ok (.aload_n 0, 1) := by decide +kernel
theorem dX11_isLine_328 : decode cX11_isLine 328 = .ok (.iload_n 1, 1) := by decide +kernel
theorem dX11_isLine_329 : decode cX11_isLine 329 = .ok (.iconst 1, 1) := by decide +kernel
theorem dX11_isLine_330 : decode cX11_isLine 330 = .ok (.iadd, 1) := by decide +kernel
theorem dX11_isLine_331 : decode cX11_isLine 331 = .ok (.iconst 0, 1) := by decide +kernel
theorem dX11_isLine_332 : decode cX11_isLine 332 = .ok (.bipush 99, 2) := by decide +kernel
theorem dX11_isLine_334 : decode cX11_isLine 334 = .ok (.invokevirtual 140, 3) := by decide +kernel
theorem dX11_isLine_337 : decode cX11_isLine 337 = .ok (.ireturn, 1) := by decide +kernel
theorem dX11_isLine_338 : decode cX11_isLine 338 = .ok (.aload_n 0, 1) := by decide +kernel
theorem dX11_isLine_339 : decode cX11_isLine 339 = .ok (.iload_n 1, 1) := by decide +kernel
theorem dX11_isLine_340 : decode cX11_isLine 340 = .ok (.iconst 1, 1) := by decide +kernel
theorem dX11_isLine_341 : decode cX11_isLine 341 = .ok (.iadd, 1) := by decide +kernel
theorem dX11_isLine_342 : decode cX11_isLine 342 = .ok (.iconst 0, 1) := by decide +kernel
theorem dX11_isLine_343 : decode cX11_isLine 343 = .ok (.bipush 19, 2) := by decide +kernel
theorem dX11_isLine_345 : decode cX11_isLine 345 = .ok (.invokevirtual 140, 3) := by decide +kernel
theorem dX11_isLine_348 : decode cX11_isLine 348 = .ok (.ireturn, 1) := by decide +kernel
theorem dX11_isLine_349 : decode cX11_isLine 349 = .ok (.iconst 1, 1) := by decide +kernel
theorem dX11_isLine_350 : decode cX11_isLine 350 = .ok (.ireturn, 1) := by decide +kernel
theorem dX11_isLine_351 : decode cX11_isLine 351 = .ok (.aload_n 0, 1) := by decide +kernel
theorem dX11_isLine_352 : decode cX11_isLine 352 = .ok (.invokevirtual 133, 3) := by decide +kernel
theorem dX11_isLine_355 : decode cX11_isLine 355 = .ok (.ireturn, 1) := by decide +kernel
abbrev rm_X11_isLine : Room := { frames := 5, cells := 0, slots := 0, locals := 107 }
theorem hd_X11_isLine : yX11_isLine.cls ≠ "java/lang/invoke/MethodHandle" ∧ yX11_isLine.cls ≠ "java/lang/invoke/VarHandle" ∧ (parseMethodDescriptor yX11_isLine.desc).map (fun d => d.parameters.length) = some 1 := by decide +kernel
def bk_X11_isLine_193 (Q : Int32 → (Int32 × Int32 × Int64 × Int32 × Int32 × Int32 × Int32 × Int32 × (Nat → Int32)) → Prop) (p1 : Int32) (M_bytes : Int32) (M_position : Int32) (M_tokenAt : Int32) (M_token : Int64) (M_digits : Int32) (M_number : Int32) (M_faultAt : Int32) (M_readWide : Int32) (M_readHigh : Int32) (M_text : Nat → Int32) (M_read : Nat → Int32) (s0 : Int32) (s1 : Int32) : Prop :=
vp_in s1 40 ∧ (∀ f14 : Nat → Int32, f14 = (upd M_read s1.toNatClampNeg s0) →
vp_in p1 40 ∧ (((f14 p1.toNatClampNeg) = 0 → wp_X11_isField p1 M_bytes M_position M_faultAt M_readWide M_readHigh M_text f14 (fun (r15 : Int32) (u16 : Int32 × Int32 × Int64 × Int32 × Int32 × Int32 × Int32 × Int32 × (Nat → Int32)) => (r15 = 0 ∨ r15 = 1) ∧ Q r15 (u16.1, u16.2.1, u16.2.2.1, u16.2.2.2.1, u16.2.2.2.2.1, u16.2.2.2.2.2.1, u16.2.2.2.2.2.2.1, u16.2.2.2.2.2.2.2.1, u16.2.2.2.2.2.2.2.2))) ∧
((f14 p1.toNatClampNeg) = 1 → wp_X11_isPlace p1 M_bytes M_position M_faultAt M_readWide M_readHigh M_text f14 (fun (r17 : Int32) (u18 : Int32 × Int32 × Int64 × Int32 × Int32 × Int32 × (Nat → Int32)) => ((r17 = 0 → Q 0 (u18.1, u18.2.1, u18.2.2.1, u18.2.2.2.1, u18.2.2.2.2.1, u18.2.2.2.2.2.1, M_readWide, M_readHigh, u18.2.2.2.2.2.2)) ∧
(¬ r17 = 0 → wp_X11_isNumber (p1 + 3) 0 9 M_bytes u18.1 u18.2.2.2.2.2.1 M_text u18.2.2.2.2.2.2 (fun (r20 : Int32) (u21 : Int32 × Int32 × Int64 × Int32 × Int32 × Int32 × (Nat → Int32)) => ((r20 = 0 → Q 0 (u21.1, u21.2.1, u21.2.2.1, u21.2.2.2.1, u21.2.2.2.2.1, u21.2.2.2.2.2.1, M_readWide, M_readHigh, u21.2.2.2.2.2.2)) ∧
(¬ r20 = 0 → Q 1 (u21.1, u21.2.1, u21.2.2.1, u21.2.2.2.1, u21.2.2.2.2.1, u21.2.2.2.2.2.1, M_readWide, M_readHigh, u21.2.2.2.2.2.2)))))))) ∧
((f14 p1.toNatClampNeg) = 2 → wp_X11_isPlace p1 M_bytes M_position M_faultAt M_readWide M_readHigh M_text f14 (fun (r23 : Int32) (u24 : Int32 × Int32 × Int64 × Int32 × Int32 × Int32 × (Nat → Int32)) => (r23 = 0 ∨ r23 = 1) ∧ Q r23 (u24.1, u24.2.1, u24.2.2.1, u24.2.2.2.1, u24.2.2.2.2.1, u24.2.2.2.2.2.1, M_readWide, M_readHigh, u24.2.2.2.2.2.2))) ∧
((f14 p1.toNatClampNeg) = 3 → wp_X11_isPlace p1 M_bytes M_position M_faultAt M_readWide M_readHigh M_text f14 (fun (r25 : Int32) (u26 : Int32 × Int32 × Int64 × Int32 × Int32 × Int32 × (Nat → Int32)) => (r25 = 0 ∨ r25 = 1) ∧ Q r25 (u26.1, u26.2.1, u26.2.2.1, u26.2.2.2.1, u26.2.2.2.2.1, u26.2.2.2.2.2.1, M_readWide, M_readHigh, u26.2.2.2.2.2.2))) ∧
((f14 p1.toNatClampNeg) = 4 → wp_X11_isHedge p1 M_bytes M_position M_faultAt M_readWide M_readHigh M_text f14 (fun (r27 : Int32) (u28 : Int32 × Int32 × Int64 × Int32 × Int32 × Int32 × (Nat → Int32)) => (r27 = 0 ∨ r27 = 1) ∧ Q r27 (u28.1, u28.2.1, u28.2.2.1, u28.2.2.2.1, u28.2.2.2.2.1, u28.2.2.2.2.2.1, M_readWide, M_readHigh, u28.2.2.2.2.2.2))) ∧
((f14 p1.toNatClampNeg) = 5 → wp_X11_isHedge p1 M_bytes M_position M_faultAt M_readWide M_readHigh M_text f14 (fun (r29 : Int32) (u30 : Int32 × Int32 × Int64 × Int32 × Int32 × Int32 × (Nat → Int32)) => (r29 = 0 ∨ r29 = 1) ∧ Q r29 (u30.1, u30.2.1, u30.2.2.1, u30.2.2.2.1, u30.2.2.2.2.1, u30.2.2.2.2.2.1, M_readWide, M_readHigh, u30.2.2.2.2.2.2))) ∧
((f14 p1.toNatClampNeg) = 6 → wp_X11_isNumber (p1 + 1) 0 60 M_bytes M_position M_faultAt M_text f14 (fun (r31 : Int32) (u32 : Int32 × Int32 × Int64 × Int32 × Int32 × Int32 × (Nat → Int32)) => (r31 = 0 ∨ r31 = 1) ∧ Q r31 (u32.1, u32.2.1, u32.2.2.1, u32.2.2.2.1, u32.2.2.2.2.1, u32.2.2.2.2.2.1, M_readWide, M_readHigh, u32.2.2.2.2.2.2))) ∧
((f14 p1.toNatClampNeg) = 7 → wp_X11_isNumber (p1 + 1) 0 90 M_bytes M_position M_faultAt M_text f14 (fun (r33 : Int32) (u34 : Int32 × Int32 × Int64 × Int32 × Int32 × Int32 × (Nat → Int32)) => (r33 = 0 ∨ r33 = 1) ∧ Q r33 (u34.1, u34.2.1, u34.2.2.1, u34.2.2.2.1, u34.2.2.2.2.1, u34.2.2.2.2.2.1, M_readWide, M_readHigh, u34.2.2.2.2.2.2))) ∧
((f14 p1.toNatClampNeg) = 8 → wp_X11_isNumber (p1 + 1) 0 99 M_bytes M_position M_faultAt M_text f14 (fun (r35 : Int32) (u36 : Int32 × Int32 × Int64 × Int32 × Int32 × Int32 × (Nat → Int32)) => (r35 = 0 ∨ r35 = 1) ∧ Q r35 (u36.1, u36.2.1, u36.2.2.1, u36.2.2.2.1, u36.2.2.2.2.1, u36.2.2.2.2.2.1, M_readWide, M_readHigh, u36.2.2.2.2.2.2))) ∧
((f14 p1.toNatClampNeg) = 9 → wp_X11_isNumber (p1 + 1) 0 19 M_bytes M_position M_faultAt M_text f14 (fun (r37 : Int32) (u38 : Int32 × Int32 × Int64 × Int32 × Int32 × Int32 × (Nat → Int32)) => (r37 = 0 ∨ r37 = 1) ∧ Q r37 (u38.1, u38.2.1, u38.2.2.1, u38.2.2.2.1, u38.2.2.2.2.1, u38.2.2.2.2.2.1, M_readWide, M_readHigh, u38.2.2.2.2.2.2))) ∧
((f14 p1.toNatClampNeg) = 10 → Q 1 (M_position, M_tokenAt, M_token, M_digits, M_number, M_faultAt, M_readWide, M_readHigh, f14)) ∧
((¬ (f14 p1.toNatClampNeg) = 0 ∧ ¬ (f14 p1.toNatClampNeg) = 1 ∧ ¬ (f14 p1.toNatClampNeg) = 2 ∧ ¬ (f14 p1.toNatClampNeg) = 3 ∧ ¬ (f14 p1.toNatClampNeg) = 4 ∧ ¬ (f14 p1.toNatClampNeg) = 5 ∧ ¬ (f14 p1.toNatClampNeg) = 6 ∧ ¬ (f14 p1.toNatClampNeg) = 7 ∧ ¬ (f14 p1.toNatClampNeg) = 8 ∧ ¬ (f14 p1.toNatClampNeg) = 9 ∧ ¬ (f14 p1.toNatClampNeg) = 10) → wp_X11_fails M_tokenAt (fun (r39 : Int32) (u40 : Int32) => (r39 = 0 ∨ r39 = 1) ∧ Q r39 (M_position, M_tokenAt, M_token, M_digits, M_number, u40, M_readWide, M_readHigh, f14)))))
def bk_X11_isLine_177 (Q : Int32 → (Int32 × Int32 × Int64 × Int32 × Int32 × Int32 × Int32 × Int32 × (Nat → Int32)) → Prop) (p1 : Int32) (x2 : Int32) (M_bytes : Int32) (M_position : Int32) (M_tokenAt : Int32) (M_token : Int64) (M_digits : Int32) (M_number : Int32) (M_faultAt : Int32) (M_readWide : Int32) (M_readHigh : Int32) (M_text : Nat → Int32) (M_read : Nat → Int32) (s0 : Int32) : Prop :=
((¬ x2 = (-1) → bk_X11_isLine_193 Q p1 M_bytes M_position M_tokenAt M_token M_digits M_number M_faultAt M_readWide M_readHigh M_text M_read x2 p1) ∧
(x2 = (-1) → bk_X11_isLine_193 Q p1 M_bytes M_position M_tokenAt M_token M_digits M_number M_faultAt M_readWide M_readHigh M_text M_read s0 p1))
def bk_X11_isLine_95 (Q : Int32 → (Int32 × Int32 × Int64 × Int32 × Int32 × Int32 × Int32 × Int32 × (Nat → Int32)) → Prop) (p1 : Int32) (M_bytes : Int32) (M_position : Int32) (M_tokenAt : Int32) (M_token : Int64) (M_digits : Int32) (M_number : Int32) (M_faultAt : Int32) (M_readWide : Int32) (M_readHigh : Int32) (M_text : Nat → Int32) (M_read : Nat → Int32) (s0 : Int32) : Prop :=
((¬ M_token = 3410344531 → ((¬ M_token = 453836 → ((¬ M_token = 358472 → ((¬ M_token = 95973728 → ((¬ M_token = 399542 → bk_X11_isLine_177 Q p1 s0 M_bytes M_position M_tokenAt M_token M_digits M_number M_faultAt M_readWide M_readHigh M_text M_read (-1)) ∧
(M_token = 399542 → bk_X11_isLine_177 Q p1 s0 M_bytes M_position M_tokenAt M_token M_digits M_number M_faultAt M_readWide M_readHigh M_text M_read 10))) ∧
(M_token = 95973728 → bk_X11_isLine_177 Q p1 s0 M_bytes M_position M_tokenAt M_token M_digits M_number M_faultAt M_readWide M_readHigh M_text M_read 9))) ∧
(M_token = 358472 → bk_X11_isLine_177 Q p1 s0 M_bytes M_position M_tokenAt M_token M_digits M_number M_faultAt M_readWide M_readHigh M_text M_read 8))) ∧
(M_token = 453836 → bk_X11_isLine_177 Q p1 s0 M_bytes M_position M_tokenAt M_token M_digits M_number M_faultAt M_readWide M_readHigh M_text M_read 7))) ∧
(M_token = 3410344531 → bk_X11_isLine_177 Q p1 s0 M_bytes M_position M_tokenAt M_token M_digits M_number M_faultAt M_readWide M_readHigh M_text M_read 6))
def wp_X11_isLine (p1 : Int32) (M_bytes : Int32) (M_position : Int32) (M_faultAt : Int32) (M_readWide : Int32) (M_readHigh : Int32) (M_text : Nat → Int32) (M_read : Nat → Int32) (Q : Int32 → (Int32 × Int32 × Int64 × Int32 × Int32 × Int32 × Int32 × Int32 × (Nat → Int32)) → Prop) : Prop :=
wp_X11_nextToken M_bytes M_position M_text (fun (u1 : Int32 × Int32 × Int64 × Int32 × Int32) => ((¬ u1.2.2.1 = 3369766 → ((¬ u1.2.2.1 = 13318957 → ((¬ u1.2.2.1 = 326245 → ((¬ u1.2.2.1 = 237308 → ((¬ u1.2.2.1 = 4353053 → ((¬ u1.2.2.1 = 307058 → bk_X11_isLine_95 Q p1 M_bytes u1.1 u1.2.1 u1.2.2.1 u1.2.2.2.1 u1.2.2.2.2 M_faultAt M_readWide M_readHigh M_text M_read (-1)) ∧
(u1.2.2.1 = 307058 → bk_X11_isLine_95 Q p1 M_bytes u1.1 u1.2.1 u1.2.2.1 u1.2.2.2.1 u1.2.2.2.2 M_faultAt M_readWide M_readHigh M_text M_read 5))) ∧
(u1.2.2.1 = 4353053 → bk_X11_isLine_95 Q p1 M_bytes u1.1 u1.2.1 u1.2.2.1 u1.2.2.2.1 u1.2.2.2.2 M_faultAt M_readWide M_readHigh M_text M_read 4))) ∧
(u1.2.2.1 = 237308 → bk_X11_isLine_95 Q p1 M_bytes u1.1 u1.2.1 u1.2.2.1 u1.2.2.2.1 u1.2.2.2.2 M_faultAt M_readWide M_readHigh M_text M_read 3))) ∧
(u1.2.2.1 = 326245 → bk_X11_isLine_95 Q p1 M_bytes u1.1 u1.2.1 u1.2.2.1 u1.2.2.2.1 u1.2.2.2.2 M_faultAt M_readWide M_readHigh M_text M_read 2))) ∧
(u1.2.2.1 = 13318957 → bk_X11_isLine_95 Q p1 M_bytes u1.1 u1.2.1 u1.2.2.1 u1.2.2.2.1 u1.2.2.2.2 M_faultAt M_readWide M_readHigh M_text M_read 1))) ∧
(u1.2.2.1 = 3369766 → bk_X11_isLine_95 Q p1 M_bytes u1.1 u1.2.1 u1.2.2.1 u1.2.2.2.1 u1.2.2.2.2 M_faultAt M_readWide M_readHigh M_text M_read 0)))
set_option maxHeartbeats 4000000 in
set_option maxRecDepth 100000 in
theorem J_X11_isLine_193 {x : CX} {D : DG} {cyI cyJ cyZ : ClassId} {a_M a_M_square a_M_want a_M_text a_M_read a_M_row a_M_foldSet a_M_foldEdges a_M_foldNeeds a_M_foldYards a_M_least a_M_ways a_M_price a_M_rowBy a_M_columnBy a_M_rowOf a_M_wayBack a_M_slack a_M_isUsed a_M_lifted a_M_freed a_M_path : Nat} {M_wide : Int32} {M_high : Int32} {M_hedges : Int64} {M_hurdles : Int32} {M_wants : Int32} {M_rest : Int32} {M_frozen : Int32} {M_bytes : Int32} {M_position : Int32} {M_tokenAt : Int32} {M_token : Int64} {M_digits : Int32} {M_number : Int32} {M_faultAt : Int32} {M_readMany : Int32} {M_readWide : Int32} {M_readHigh : Int32} {M_nights : Int32} {M_why : Int32} {M_folds : Int32} {M_square : Nat → Int32} {M_want : Nat → Int32} {M_text : Nat → Int32} {M_read : Nat → Int32} {M_row : Nat → Int32} {M_foldSet : Nat → Int32} {M_foldEdges : Nat → Int64} {M_foldNeeds : Nat → Int32} {M_foldYards : Nat → Int32} {M_least : Nat → Int32} {M_ways : Nat → Int32} {M_price : Nat → Int32} {M_rowBy : Nat → Int32} {M_columnBy : Nat → Int32} {M_rowOf : Nat → Int32} {M_wayBack : Nat → Int32} {M_slack : Nat → Int32} {M_isUsed : Nat → Int32} {M_lifted : Nat → Int32} {M_freed : Nat → Int32} {M_path : Nat → Int32} {p1 : Int32} {s0 : Int32} {s1 : Int32} {Q : Int32 → (Int32 × Int32 × Int64 × Int32 × Int32 × Int32 × Int32 × Int32 × (Nat → Int32)) → Prop} (cx : Cx x cX11_isLine 4 RX11 rm_X11_isLine D [(cyI, .int), (cyJ, .long), (cyZ, .boolean)]) (hR : ∀ (v : Int32) (u : Int32 × Int32 × Int64 × Int32 × Int32 × Int32 × Int32 × Int32 × (Nat → Int32)) (pc : Nat) (lv : List (Nat × Value)), decode cX11_isLine pc = .ok (.ireturn, 1) → (v = 0 ∨ v = 1) → Q v u → J x 0 0 4 (W_Model cyI cyJ cyZ a_M a_M_square a_M_want a_M_text a_M_read a_M_row a_M_foldSet a_M_foldEdges a_M_foldNeeds a_M_foldYards a_M_least a_M_ways a_M_price a_M_rowBy a_M_columnBy a_M_rowOf a_M_wayBack a_M_slack a_M_isUsed a_M_lifted a_M_freed a_M_path M_wide M_high M_hedges M_hurdles M_wants M_rest M_frozen M_bytes u.1 u.2.1 u.2.2.1 u.2.2.2.1 u.2.2.2.2.1 u.2.2.2.2.2.1 M_readMany u.2.2.2.2.2.2.1 u.2.2.2.2.2.2.2.1 M_nights M_why M_folds M_square M_want M_text u.2.2.2.2.2.2.2.2 M_row M_foldSet M_foldEdges M_foldNeeds M_foldYards M_least M_ways M_price M_rowBy M_columnBy M_rowOf M_wayBack M_slack M_isUsed M_lifted M_freed M_path) lv pc [.int v]) (h : bk_X11_isLine_193 Q  p1 M_bytes M_position M_tokenAt M_token M_digits M_number M_faultAt M_readWide M_readHigh M_text M_read s0 s1) :
    J x 0 0 4 (W_Model cyI cyJ cyZ a_M a_M_square a_M_want a_M_text a_M_read a_M_row a_M_foldSet a_M_foldEdges a_M_foldNeeds a_M_foldYards a_M_least a_M_ways a_M_price a_M_rowBy a_M_columnBy a_M_rowOf a_M_wayBack a_M_slack a_M_isUsed a_M_lifted a_M_freed a_M_path M_wide M_high M_hedges M_hurdles M_wants M_rest M_frozen M_bytes M_position M_tokenAt M_token M_digits M_number M_faultAt M_readMany M_readWide M_readHigh M_nights M_why M_folds M_square M_want M_text M_read M_row M_foldSet M_foldEdges M_foldNeeds M_foldYards M_least M_ways M_price M_rowBy M_columnBy M_rowOf M_wayBack M_slack M_isUsed M_lifted M_freed M_path) [(0, .ref a_M), (1, .int p1)] 193 [.int s0, .int s1, .ref a_M_read] := by
  unfold bk_X11_isLine_193 at h
  have hin := h.1
  obtain ⟨f14, ef14⟩ : ∃ z, z = upd M_read s1.toNatClampNeg s0 := ⟨_, rfl⟩
  have h := h.2 f14 ef14
  refine j_iast cx 4 0 rfl rfl hin (W_Model cyI cyJ cyZ a_M a_M_square a_M_want a_M_text a_M_read a_M_row a_M_foldSet a_M_foldEdges a_M_foldNeeds a_M_foldYards a_M_least a_M_ways a_M_price a_M_rowBy a_M_columnBy a_M_rowOf a_M_wayBack a_M_slack a_M_isUsed a_M_lifted a_M_freed a_M_path M_wide M_high M_hedges M_hurdles M_wants M_rest M_frozen M_bytes M_position M_tokenAt M_token M_digits M_number M_faultAt M_readMany M_readWide M_readHigh M_nights M_why M_folds M_square M_want M_text f14 M_row M_foldSet M_foldEdges M_foldNeeds M_foldYards M_least M_ways M_price M_rowBy M_columnBy M_rowOf M_wayBack M_slack M_isUsed M_lifted M_freed M_path) (by subst ef14; rfl) dX11_isLine_193 (pn := 194) rfl ?_
  refine j_aload_n cx 0 rfl rfl dX11_isLine_194 (pn := 195) rfl ?_
  refine j_get cx inGX11 0 rfl rfl 18 (by decide) q_fl_X11_29 rfl rfl dX11_isLine_195 (pn := 198) rfl ?_
  refine j_iload_n cx 1 rfl rfl dX11_isLine_198 (pn := 199) rfl ?_
  refine j_iald cx 4 0 rfl rfl h.1 dX11_isLine_199 (pn := 200) rfl ?_
  have h := h.2
  by_cases k0 : (f14 p1.toNatClampNeg) = 0
  · refine j_tabIn cx 260 dX11_isLine_200 (by rw [k0]; decide) (by rw [k0]; decide) (off := 60) (by rw [k0]; rfl) rfl ?_
    have h := h.1 k0
    refine j_aload_n cx 0 rfl rfl dX11_isLine_260 (pn := 261) rfl ?_
    refine j_iload_n cx 1 rfl rfl dX11_isLine_261 (pn := 262) rfl ?_
    refine j_callvI0 cx q_inst_X11_isField q_sel_X11_isField (b := a_M) (As := [.int p1]) (rest := []) (c_X11_isField h) ⟨q_code_X11_isField, q_ml_X11_180, q_init_X11, hd_X11_isField, ⟨Nat.le_of_ble_eq_true rfl, Nat.le_of_ble_eq_true rfl⟩, Nat.le_of_ble_eq_true rfl, Nat.le_of_ble_eq_true rfl⟩ (q0 := 0) rfl rfl rfl rfl (Nat.le_of_ble_eq_true rfl) dX11_isLine_262 (pn := 265) rfl (fun r15 u16 h => ?_)
    show J x 0 0 4 (W_Model cyI cyJ cyZ a_M a_M_square a_M_want a_M_text a_M_read a_M_row a_M_foldSet a_M_foldEdges a_M_foldNeeds a_M_foldYards a_M_least a_M_ways a_M_price a_M_rowBy a_M_columnBy a_M_rowOf a_M_wayBack a_M_slack a_M_isUsed a_M_lifted a_M_freed a_M_path M_wide M_high M_hedges M_hurdles M_wants M_rest M_frozen M_bytes u16.1 u16.2.1 u16.2.2.1 u16.2.2.2.1 u16.2.2.2.2.1 u16.2.2.2.2.2.1 M_readMany u16.2.2.2.2.2.2.1 u16.2.2.2.2.2.2.2.1 M_nights M_why M_folds M_square M_want M_text u16.2.2.2.2.2.2.2.2 M_row M_foldSet M_foldEdges M_foldNeeds M_foldYards M_least M_ways M_price M_rowBy M_columnBy M_rowOf M_wayBack M_slack M_isUsed M_lifted M_freed M_path) [(0, .ref a_M), (1, .int p1)] 265 [.int r15]
    exact hR r15 (u16.1, u16.2.1, u16.2.2.1, u16.2.2.2.1, u16.2.2.2.2.1, u16.2.2.2.2.2.1, u16.2.2.2.2.2.2.1, u16.2.2.2.2.2.2.2.1, u16.2.2.2.2.2.2.2.2) 265 _ dX11_isLine_265 h.1 h.2
  by_cases k1 : (f14 p1.toNatClampNeg) = 1
  · refine j_tabIn cx 266 dX11_isLine_200 (by rw [k1]; decide) (by rw [k1]; decide) (off := 66) (by rw [k1]; rfl) rfl ?_
    have h := h.2.1 k1
    refine j_aload_n cx 0 rfl rfl dX11_isLine_266 (pn := 267) rfl ?_
    refine j_iload_n cx 1 rfl rfl dX11_isLine_267 (pn := 268) rfl ?_
    refine j_callvI0 cx q_inst_X11_isPlace q_sel_X11_isPlace (b := a_M) (As := [.int p1]) (rest := []) (c_X11_isPlace h) ⟨q_code_X11_isPlace, q_ml_X11_146, q_init_X11, hd_X11_isPlace, ⟨Nat.le_of_ble_eq_true rfl, Nat.le_of_ble_eq_true rfl⟩, Nat.le_of_ble_eq_true rfl, Nat.le_of_ble_eq_true rfl⟩ (q0 := 0) rfl rfl rfl rfl (Nat.le_of_ble_eq_true rfl) dX11_isLine_268 (pn := 271) rfl (fun r17 u18 h => ?_)
    show J x 0 0 4 (W_Model cyI cyJ cyZ a_M a_M_square a_M_want a_M_text a_M_read a_M_row a_M_foldSet a_M_foldEdges a_M_foldNeeds a_M_foldYards a_M_least a_M_ways a_M_price a_M_rowBy a_M_columnBy a_M_rowOf a_M_wayBack a_M_slack a_M_isUsed a_M_lifted a_M_freed a_M_path M_wide M_high M_hedges M_hurdles M_wants M_rest M_frozen M_bytes u18.1 u18.2.1 u18.2.2.1 u18.2.2.2.1 u18.2.2.2.2.1 u18.2.2.2.2.2.1 M_readMany M_readWide M_readHigh M_nights M_why M_folds M_square M_want M_text u18.2.2.2.2.2.2 M_row M_foldSet M_foldEdges M_foldNeeds M_foldYards M_least M_ways M_price M_rowBy M_columnBy M_rowOf M_wayBack M_slack M_isUsed M_lifted M_freed M_path) [(0, .ref a_M), (1, .int p1)] 271 [.int r17]
    refine j_if_eq cx 291 dX11_isLine_271 (pn := 274) rfl rfl (fun c19 => ?_) (fun c19 => ?_)
    · have h := h.1 c19
      refine j_iconst cx (v := 0) (by decide) dX11_isLine_291 (pn := 292) rfl ?_
      exact hR 0 (u18.1, u18.2.1, u18.2.2.1, u18.2.2.2.1, u18.2.2.2.2.1, u18.2.2.2.2.2.1, M_readWide, M_readHigh, u18.2.2.2.2.2.2) 292 _ dX11_isLine_292 (Or.inl rfl) h
    · have h := h.2 c19
      refine j_aload_n cx 0 rfl rfl dX11_isLine_274 (pn := 275) rfl ?_
      refine j_iload_n cx 1 rfl rfl dX11_isLine_275 (pn := 276) rfl ?_
      refine j_iconst cx (v := 3) (by decide) dX11_isLine_276 (pn := 277) rfl ?_
      refine j_iadd cx dX11_isLine_277 (pn := 278) rfl ?_
      refine j_iconst cx (v := 0) (by decide) dX11_isLine_278 (pn := 279) rfl ?_
      refine j_bipush cx (v := 9) (by decide) dX11_isLine_279 (pn := 281) rfl ?_
      refine j_callvI0 cx q_inst_X11_isNumber q_sel_X11_isNumber (b := a_M) (As := [.int (p1 + 3), .int 0, .int 9]) (rest := []) (c_X11_isNumber h) ⟨q_code_X11_isNumber, q_ml_X11_140, q_init_X11, hd_X11_isNumber, ⟨Nat.le_of_ble_eq_true rfl, Nat.le_of_ble_eq_true rfl⟩, Nat.le_of_ble_eq_true rfl, Nat.le_of_ble_eq_true rfl⟩ (q0 := 0) rfl rfl rfl rfl (Nat.le_of_ble_eq_true rfl) dX11_isLine_281 (pn := 284) rfl (fun r20 u21 h => ?_)
      show J x 0 0 4 (W_Model cyI cyJ cyZ a_M a_M_square a_M_want a_M_text a_M_read a_M_row a_M_foldSet a_M_foldEdges a_M_foldNeeds a_M_foldYards a_M_least a_M_ways a_M_price a_M_rowBy a_M_columnBy a_M_rowOf a_M_wayBack a_M_slack a_M_isUsed a_M_lifted a_M_freed a_M_path M_wide M_high M_hedges M_hurdles M_wants M_rest M_frozen M_bytes u21.1 u21.2.1 u21.2.2.1 u21.2.2.2.1 u21.2.2.2.2.1 u21.2.2.2.2.2.1 M_readMany M_readWide M_readHigh M_nights M_why M_folds M_square M_want M_text u21.2.2.2.2.2.2 M_row M_foldSet M_foldEdges M_foldNeeds M_foldYards M_least M_ways M_price M_rowBy M_columnBy M_rowOf M_wayBack M_slack M_isUsed M_lifted M_freed M_path) [(0, .ref a_M), (1, .int p1)] 284 [.int r20]
      refine j_if_eq cx 291 dX11_isLine_284 (pn := 287) rfl rfl (fun c22 => ?_) (fun c22 => ?_)
      · have h := h.1 c22
        refine j_iconst cx (v := 0) (by decide) dX11_isLine_291 (pn := 292) rfl ?_
        exact hR 0 (u21.1, u21.2.1, u21.2.2.1, u21.2.2.2.1, u21.2.2.2.2.1, u21.2.2.2.2.2.1, M_readWide, M_readHigh, u21.2.2.2.2.2.2) 292 _ dX11_isLine_292 (Or.inl rfl) h
      · have h := h.2 c22
        refine j_iconst cx (v := 1) (by decide) dX11_isLine_287 (pn := 288) rfl ?_
        refine j_goto cx 292 dX11_isLine_288 rfl ?_
        exact hR 1 (u21.1, u21.2.1, u21.2.2.1, u21.2.2.2.1, u21.2.2.2.2.1, u21.2.2.2.2.2.1, M_readWide, M_readHigh, u21.2.2.2.2.2.2) 292 _ dX11_isLine_292 (Or.inr rfl) h
  by_cases k2 : (f14 p1.toNatClampNeg) = 2
  · refine j_tabIn cx 293 dX11_isLine_200 (by rw [k2]; decide) (by rw [k2]; decide) (off := 93) (by rw [k2]; rfl) rfl ?_
    have h := h.2.2.1 k2
    refine j_aload_n cx 0 rfl rfl dX11_isLine_293 (pn := 294) rfl ?_
    refine j_iload_n cx 1 rfl rfl dX11_isLine_294 (pn := 295) rfl ?_
    refine j_callvI0 cx q_inst_X11_isPlace q_sel_X11_isPlace (b := a_M) (As := [.int p1]) (rest := []) (c_X11_isPlace h) ⟨q_code_X11_isPlace, q_ml_X11_146, q_init_X11, hd_X11_isPlace, ⟨Nat.le_of_ble_eq_true rfl, Nat.le_of_ble_eq_true rfl⟩, Nat.le_of_ble_eq_true rfl, Nat.le_of_ble_eq_true rfl⟩ (q0 := 0) rfl rfl rfl rfl (Nat.le_of_ble_eq_true rfl) dX11_isLine_295 (pn := 298) rfl (fun r23 u24 h => ?_)
    show J x 0 0 4 (W_Model cyI cyJ cyZ a_M a_M_square a_M_want a_M_text a_M_read a_M_row a_M_foldSet a_M_foldEdges a_M_foldNeeds a_M_foldYards a_M_least a_M_ways a_M_price a_M_rowBy a_M_columnBy a_M_rowOf a_M_wayBack a_M_slack a_M_isUsed a_M_lifted a_M_freed a_M_path M_wide M_high M_hedges M_hurdles M_wants M_rest M_frozen M_bytes u24.1 u24.2.1 u24.2.2.1 u24.2.2.2.1 u24.2.2.2.2.1 u24.2.2.2.2.2.1 M_readMany M_readWide M_readHigh M_nights M_why M_folds M_square M_want M_text u24.2.2.2.2.2.2 M_row M_foldSet M_foldEdges M_foldNeeds M_foldYards M_least M_ways M_price M_rowBy M_columnBy M_rowOf M_wayBack M_slack M_isUsed M_lifted M_freed M_path) [(0, .ref a_M), (1, .int p1)] 298 [.int r23]
    exact hR r23 (u24.1, u24.2.1, u24.2.2.1, u24.2.2.2.1, u24.2.2.2.2.1, u24.2.2.2.2.2.1, M_readWide, M_readHigh, u24.2.2.2.2.2.2) 298 _ dX11_isLine_298 h.1 h.2
  by_cases k3 : (f14 p1.toNatClampNeg) = 3
  · refine j_tabIn cx 293 dX11_isLine_200 (by rw [k3]; decide) (by rw [k3]; decide) (off := 93) (by rw [k3]; rfl) rfl ?_
    have h := h.2.2.2.1 k3
    refine j_aload_n cx 0 rfl rfl dX11_isLine_293 (pn := 294) rfl ?_
    refine j_iload_n cx 1 rfl rfl dX11_isLine_294 (pn := 295) rfl ?_
    refine j_callvI0 cx q_inst_X11_isPlace q_sel_X11_isPlace (b := a_M) (As := [.int p1]) (rest := []) (c_X11_isPlace h) ⟨q_code_X11_isPlace, q_ml_X11_146, q_init_X11, hd_X11_isPlace, ⟨Nat.le_of_ble_eq_true rfl, Nat.le_of_ble_eq_true rfl⟩, Nat.le_of_ble_eq_true rfl, Nat.le_of_ble_eq_true rfl⟩ (q0 := 0) rfl rfl rfl rfl (Nat.le_of_ble_eq_true rfl) dX11_isLine_295 (pn := 298) rfl (fun r25 u26 h => ?_)
    show J x 0 0 4 (W_Model cyI cyJ cyZ a_M a_M_square a_M_want a_M_text a_M_read a_M_row a_M_foldSet a_M_foldEdges a_M_foldNeeds a_M_foldYards a_M_least a_M_ways a_M_price a_M_rowBy a_M_columnBy a_M_rowOf a_M_wayBack a_M_slack a_M_isUsed a_M_lifted a_M_freed a_M_path M_wide M_high M_hedges M_hurdles M_wants M_rest M_frozen M_bytes u26.1 u26.2.1 u26.2.2.1 u26.2.2.2.1 u26.2.2.2.2.1 u26.2.2.2.2.2.1 M_readMany M_readWide M_readHigh M_nights M_why M_folds M_square M_want M_text u26.2.2.2.2.2.2 M_row M_foldSet M_foldEdges M_foldNeeds M_foldYards M_least M_ways M_price M_rowBy M_columnBy M_rowOf M_wayBack M_slack M_isUsed M_lifted M_freed M_path) [(0, .ref a_M), (1, .int p1)] 298 [.int r25]
    exact hR r25 (u26.1, u26.2.1, u26.2.2.1, u26.2.2.2.1, u26.2.2.2.2.1, u26.2.2.2.2.2.1, M_readWide, M_readHigh, u26.2.2.2.2.2.2) 298 _ dX11_isLine_298 h.1 h.2
  by_cases k4 : (f14 p1.toNatClampNeg) = 4
  · refine j_tabIn cx 299 dX11_isLine_200 (by rw [k4]; decide) (by rw [k4]; decide) (off := 99) (by rw [k4]; rfl) rfl ?_
    have h := h.2.2.2.2.1 k4
    refine j_aload_n cx 0 rfl rfl dX11_isLine_299 (pn := 300) rfl ?_
    refine j_iload_n cx 1 rfl rfl dX11_isLine_300 (pn := 301) rfl ?_
    refine j_callvI0 cx q_inst_X11_isHedge q_sel_X11_isHedge (b := a_M) (As := [.int p1]) (rest := []) (c_X11_isHedge h) ⟨q_code_X11_isHedge, q_ml_X11_183, q_init_X11, hd_X11_isHedge, ⟨Nat.le_of_ble_eq_true rfl, Nat.le_of_ble_eq_true rfl⟩, Nat.le_of_ble_eq_true rfl, Nat.le_of_ble_eq_true rfl⟩ (q0 := 0) rfl rfl rfl rfl (Nat.le_of_ble_eq_true rfl) dX11_isLine_301 (pn := 304) rfl (fun r27 u28 h => ?_)
    show J x 0 0 4 (W_Model cyI cyJ cyZ a_M a_M_square a_M_want a_M_text a_M_read a_M_row a_M_foldSet a_M_foldEdges a_M_foldNeeds a_M_foldYards a_M_least a_M_ways a_M_price a_M_rowBy a_M_columnBy a_M_rowOf a_M_wayBack a_M_slack a_M_isUsed a_M_lifted a_M_freed a_M_path M_wide M_high M_hedges M_hurdles M_wants M_rest M_frozen M_bytes u28.1 u28.2.1 u28.2.2.1 u28.2.2.2.1 u28.2.2.2.2.1 u28.2.2.2.2.2.1 M_readMany M_readWide M_readHigh M_nights M_why M_folds M_square M_want M_text u28.2.2.2.2.2.2 M_row M_foldSet M_foldEdges M_foldNeeds M_foldYards M_least M_ways M_price M_rowBy M_columnBy M_rowOf M_wayBack M_slack M_isUsed M_lifted M_freed M_path) [(0, .ref a_M), (1, .int p1)] 304 [.int r27]
    exact hR r27 (u28.1, u28.2.1, u28.2.2.1, u28.2.2.2.1, u28.2.2.2.2.1, u28.2.2.2.2.2.1, M_readWide, M_readHigh, u28.2.2.2.2.2.2) 304 _ dX11_isLine_304 h.1 h.2
  by_cases k5 : (f14 p1.toNatClampNeg) = 5
  · refine j_tabIn cx 299 dX11_isLine_200 (by rw [k5]; decide) (by rw [k5]; decide) (off := 99) (by rw [k5]; rfl) rfl ?_
    have h := h.2.2.2.2.2.1 k5
    refine j_aload_n cx 0 rfl rfl dX11_isLine_299 (pn := 300) rfl ?_
    refine j_iload_n cx 1 rfl rfl dX11_isLine_300 (pn := 301) rfl ?_
    refine j_callvI0 cx q_inst_X11_isHedge q_sel_X11_isHedge (b := a_M) (As := [.int p1]) (rest := []) (c_X11_isHedge h) ⟨q_code_X11_isHedge, q_ml_X11_183, q_init_X11, hd_X11_isHedge, ⟨Nat.le_of_ble_eq_true rfl, Nat.le_of_ble_eq_true rfl⟩, Nat.le_of_ble_eq_true rfl, Nat.le_of_ble_eq_true rfl⟩ (q0 := 0) rfl rfl rfl rfl (Nat.le_of_ble_eq_true rfl) dX11_isLine_301 (pn := 304) rfl (fun r29 u30 h => ?_)
    show J x 0 0 4 (W_Model cyI cyJ cyZ a_M a_M_square a_M_want a_M_text a_M_read a_M_row a_M_foldSet a_M_foldEdges a_M_foldNeeds a_M_foldYards a_M_least a_M_ways a_M_price a_M_rowBy a_M_columnBy a_M_rowOf a_M_wayBack a_M_slack a_M_isUsed a_M_lifted a_M_freed a_M_path M_wide M_high M_hedges M_hurdles M_wants M_rest M_frozen M_bytes u30.1 u30.2.1 u30.2.2.1 u30.2.2.2.1 u30.2.2.2.2.1 u30.2.2.2.2.2.1 M_readMany M_readWide M_readHigh M_nights M_why M_folds M_square M_want M_text u30.2.2.2.2.2.2 M_row M_foldSet M_foldEdges M_foldNeeds M_foldYards M_least M_ways M_price M_rowBy M_columnBy M_rowOf M_wayBack M_slack M_isUsed M_lifted M_freed M_path) [(0, .ref a_M), (1, .int p1)] 304 [.int r29]
    exact hR r29 (u30.1, u30.2.1, u30.2.2.1, u30.2.2.2.1, u30.2.2.2.2.1, u30.2.2.2.2.2.1, M_readWide, M_readHigh, u30.2.2.2.2.2.2) 304 _ dX11_isLine_304 h.1 h.2
  by_cases k6 : (f14 p1.toNatClampNeg) = 6
  · refine j_tabIn cx 305 dX11_isLine_200 (by rw [k6]; decide) (by rw [k6]; decide) (off := 105) (by rw [k6]; rfl) rfl ?_
    have h := h.2.2.2.2.2.2.1 k6
    refine j_aload_n cx 0 rfl rfl dX11_isLine_305 (pn := 306) rfl ?_
    refine j_iload_n cx 1 rfl rfl dX11_isLine_306 (pn := 307) rfl ?_
    refine j_iconst cx (v := 1) (by decide) dX11_isLine_307 (pn := 308) rfl ?_
    refine j_iadd cx dX11_isLine_308 (pn := 309) rfl ?_
    refine j_iconst cx (v := 0) (by decide) dX11_isLine_309 (pn := 310) rfl ?_
    refine j_bipush cx (v := 60) (by decide) dX11_isLine_310 (pn := 312) rfl ?_
    refine j_callvI0 cx q_inst_X11_isNumber q_sel_X11_isNumber (b := a_M) (As := [.int (p1 + 1), .int 0, .int 60]) (rest := []) (c_X11_isNumber h) ⟨q_code_X11_isNumber, q_ml_X11_140, q_init_X11, hd_X11_isNumber, ⟨Nat.le_of_ble_eq_true rfl, Nat.le_of_ble_eq_true rfl⟩, Nat.le_of_ble_eq_true rfl, Nat.le_of_ble_eq_true rfl⟩ (q0 := 0) rfl rfl rfl rfl (Nat.le_of_ble_eq_true rfl) dX11_isLine_312 (pn := 315) rfl (fun r31 u32 h => ?_)
    show J x 0 0 4 (W_Model cyI cyJ cyZ a_M a_M_square a_M_want a_M_text a_M_read a_M_row a_M_foldSet a_M_foldEdges a_M_foldNeeds a_M_foldYards a_M_least a_M_ways a_M_price a_M_rowBy a_M_columnBy a_M_rowOf a_M_wayBack a_M_slack a_M_isUsed a_M_lifted a_M_freed a_M_path M_wide M_high M_hedges M_hurdles M_wants M_rest M_frozen M_bytes u32.1 u32.2.1 u32.2.2.1 u32.2.2.2.1 u32.2.2.2.2.1 u32.2.2.2.2.2.1 M_readMany M_readWide M_readHigh M_nights M_why M_folds M_square M_want M_text u32.2.2.2.2.2.2 M_row M_foldSet M_foldEdges M_foldNeeds M_foldYards M_least M_ways M_price M_rowBy M_columnBy M_rowOf M_wayBack M_slack M_isUsed M_lifted M_freed M_path) [(0, .ref a_M), (1, .int p1)] 315 [.int r31]
    exact hR r31 (u32.1, u32.2.1, u32.2.2.1, u32.2.2.2.1, u32.2.2.2.2.1, u32.2.2.2.2.2.1, M_readWide, M_readHigh, u32.2.2.2.2.2.2) 315 _ dX11_isLine_315 h.1 h.2
  by_cases k7 : (f14 p1.toNatClampNeg) = 7
  · refine j_tabIn cx 316 dX11_isLine_200 (by rw [k7]; decide) (by rw [k7]; decide) (off := 116) (by rw [k7]; rfl) rfl ?_
    have h := h.2.2.2.2.2.2.2.1 k7
    refine j_aload_n cx 0 rfl rfl dX11_isLine_316 (pn := 317) rfl ?_
    refine j_iload_n cx 1 rfl rfl dX11_isLine_317 (pn := 318) rfl ?_
    refine j_iconst cx (v := 1) (by decide) dX11_isLine_318 (pn := 319) rfl ?_
    refine j_iadd cx dX11_isLine_319 (pn := 320) rfl ?_
    refine j_iconst cx (v := 0) (by decide) dX11_isLine_320 (pn := 321) rfl ?_
    refine j_bipush cx (v := 90) (by decide) dX11_isLine_321 (pn := 323) rfl ?_
    refine j_callvI0 cx q_inst_X11_isNumber q_sel_X11_isNumber (b := a_M) (As := [.int (p1 + 1), .int 0, .int 90]) (rest := []) (c_X11_isNumber h) ⟨q_code_X11_isNumber, q_ml_X11_140, q_init_X11, hd_X11_isNumber, ⟨Nat.le_of_ble_eq_true rfl, Nat.le_of_ble_eq_true rfl⟩, Nat.le_of_ble_eq_true rfl, Nat.le_of_ble_eq_true rfl⟩ (q0 := 0) rfl rfl rfl rfl (Nat.le_of_ble_eq_true rfl) dX11_isLine_323 (pn := 326) rfl (fun r33 u34 h => ?_)
    show J x 0 0 4 (W_Model cyI cyJ cyZ a_M a_M_square a_M_want a_M_text a_M_read a_M_row a_M_foldSet a_M_foldEdges a_M_foldNeeds a_M_foldYards a_M_least a_M_ways a_M_price a_M_rowBy a_M_columnBy a_M_rowOf a_M_wayBack a_M_slack a_M_isUsed a_M_lifted a_M_freed a_M_path M_wide M_high M_hedges M_hurdles M_wants M_rest M_frozen M_bytes u34.1 u34.2.1 u34.2.2.1 u34.2.2.2.1 u34.2.2.2.2.1 u34.2.2.2.2.2.1 M_readMany M_readWide M_readHigh M_nights M_why M_folds M_square M_want M_text u34.2.2.2.2.2.2 M_row M_foldSet M_foldEdges M_foldNeeds M_foldYards M_least M_ways M_price M_rowBy M_columnBy M_rowOf M_wayBack M_slack M_isUsed M_lifted M_freed M_path) [(0, .ref a_M), (1, .int p1)] 326 [.int r33]
    exact hR r33 (u34.1, u34.2.1, u34.2.2.1, u34.2.2.2.1, u34.2.2.2.2.1, u34.2.2.2.2.2.1, M_readWide, M_readHigh, u34.2.2.2.2.2.2) 326 _ dX11_isLine_326 h.1 h.2
  by_cases k8 : (f14 p1.toNatClampNeg) = 8
  · refine j_tabIn cx 327 dX11_isLine_200 (by rw [k8]; decide) (by rw [k8]; decide) (off := 127) (by rw [k8]; rfl) rfl ?_
    have h := h.2.2.2.2.2.2.2.2.1 k8
    refine j_aload_n cx 0 rfl rfl dX11_isLine_327 (pn := 328) rfl ?_
    refine j_iload_n cx 1 rfl rfl dX11_isLine_328 (pn := 329) rfl ?_
    refine j_iconst cx (v := 1) (by decide) dX11_isLine_329 (pn := 330) rfl ?_
    refine j_iadd cx dX11_isLine_330 (pn := 331) rfl ?_
    refine j_iconst cx (v := 0) (by decide) dX11_isLine_331 (pn := 332) rfl ?_
    refine j_bipush cx (v := 99) (by decide) dX11_isLine_332 (pn := 334) rfl ?_
    refine j_callvI0 cx q_inst_X11_isNumber q_sel_X11_isNumber (b := a_M) (As := [.int (p1 + 1), .int 0, .int 99]) (rest := []) (c_X11_isNumber h) ⟨q_code_X11_isNumber, q_ml_X11_140, q_init_X11, hd_X11_isNumber, ⟨Nat.le_of_ble_eq_true rfl, Nat.le_of_ble_eq_true rfl⟩, Nat.le_of_ble_eq_true rfl, Nat.le_of_ble_eq_true rfl⟩ (q0 := 0) rfl rfl rfl rfl (Nat.le_of_ble_eq_true rfl) dX11_isLine_334 (pn := 337) rfl (fun r35 u36 h => ?_)
    show J x 0 0 4 (W_Model cyI cyJ cyZ a_M a_M_square a_M_want a_M_text a_M_read a_M_row a_M_foldSet a_M_foldEdges a_M_foldNeeds a_M_foldYards a_M_least a_M_ways a_M_price a_M_rowBy a_M_columnBy a_M_rowOf a_M_wayBack a_M_slack a_M_isUsed a_M_lifted a_M_freed a_M_path M_wide M_high M_hedges M_hurdles M_wants M_rest M_frozen M_bytes u36.1 u36.2.1 u36.2.2.1 u36.2.2.2.1 u36.2.2.2.2.1 u36.2.2.2.2.2.1 M_readMany M_readWide M_readHigh M_nights M_why M_folds M_square M_want M_text u36.2.2.2.2.2.2 M_row M_foldSet M_foldEdges M_foldNeeds M_foldYards M_least M_ways M_price M_rowBy M_columnBy M_rowOf M_wayBack M_slack M_isUsed M_lifted M_freed M_path) [(0, .ref a_M), (1, .int p1)] 337 [.int r35]
    exact hR r35 (u36.1, u36.2.1, u36.2.2.1, u36.2.2.2.1, u36.2.2.2.2.1, u36.2.2.2.2.2.1, M_readWide, M_readHigh, u36.2.2.2.2.2.2) 337 _ dX11_isLine_337 h.1 h.2
  by_cases k9 : (f14 p1.toNatClampNeg) = 9
  · refine j_tabIn cx 338 dX11_isLine_200 (by rw [k9]; decide) (by rw [k9]; decide) (off := 138) (by rw [k9]; rfl) rfl ?_
    have h := h.2.2.2.2.2.2.2.2.2.1 k9
    refine j_aload_n cx 0 rfl rfl dX11_isLine_338 (pn := 339) rfl ?_
    refine j_iload_n cx 1 rfl rfl dX11_isLine_339 (pn := 340) rfl ?_
    refine j_iconst cx (v := 1) (by decide) dX11_isLine_340 (pn := 341) rfl ?_
    refine j_iadd cx dX11_isLine_341 (pn := 342) rfl ?_
    refine j_iconst cx (v := 0) (by decide) dX11_isLine_342 (pn := 343) rfl ?_
    refine j_bipush cx (v := 19) (by decide) dX11_isLine_343 (pn := 345) rfl ?_
    refine j_callvI0 cx q_inst_X11_isNumber q_sel_X11_isNumber (b := a_M) (As := [.int (p1 + 1), .int 0, .int 19]) (rest := []) (c_X11_isNumber h) ⟨q_code_X11_isNumber, q_ml_X11_140, q_init_X11, hd_X11_isNumber, ⟨Nat.le_of_ble_eq_true rfl, Nat.le_of_ble_eq_true rfl⟩, Nat.le_of_ble_eq_true rfl, Nat.le_of_ble_eq_true rfl⟩ (q0 := 0) rfl rfl rfl rfl (Nat.le_of_ble_eq_true rfl) dX11_isLine_345 (pn := 348) rfl (fun r37 u38 h => ?_)
    show J x 0 0 4 (W_Model cyI cyJ cyZ a_M a_M_square a_M_want a_M_text a_M_read a_M_row a_M_foldSet a_M_foldEdges a_M_foldNeeds a_M_foldYards a_M_least a_M_ways a_M_price a_M_rowBy a_M_columnBy a_M_rowOf a_M_wayBack a_M_slack a_M_isUsed a_M_lifted a_M_freed a_M_path M_wide M_high M_hedges M_hurdles M_wants M_rest M_frozen M_bytes u38.1 u38.2.1 u38.2.2.1 u38.2.2.2.1 u38.2.2.2.2.1 u38.2.2.2.2.2.1 M_readMany M_readWide M_readHigh M_nights M_why M_folds M_square M_want M_text u38.2.2.2.2.2.2 M_row M_foldSet M_foldEdges M_foldNeeds M_foldYards M_least M_ways M_price M_rowBy M_columnBy M_rowOf M_wayBack M_slack M_isUsed M_lifted M_freed M_path) [(0, .ref a_M), (1, .int p1)] 348 [.int r37]
    exact hR r37 (u38.1, u38.2.1, u38.2.2.1, u38.2.2.2.1, u38.2.2.2.2.1, u38.2.2.2.2.2.1, M_readWide, M_readHigh, u38.2.2.2.2.2.2) 348 _ dX11_isLine_348 h.1 h.2
  by_cases k10 : (f14 p1.toNatClampNeg) = 10
  · refine j_tabIn cx 349 dX11_isLine_200 (by rw [k10]; decide) (by rw [k10]; decide) (off := 149) (by rw [k10]; rfl) rfl ?_
    have h := h.2.2.2.2.2.2.2.2.2.2.1 k10
    refine j_iconst cx (v := 1) (by decide) dX11_isLine_349 (pn := 350) rfl ?_
    exact hR 1 (M_position, M_tokenAt, M_token, M_digits, M_number, M_faultAt, M_readWide, M_readHigh, f14) 350 _ dX11_isLine_350 (Or.inr rfl) h
  refine j_tabOut cx 351 dX11_isLine_200 (sw_out0_10 k0 k1 k2 k3 k4 k5 k6 k7 k8 k9 k10) rfl ?_
  have h := h.2.2.2.2.2.2.2.2.2.2.2 ⟨k0, k1, k2, k3, k4, k5, k6, k7, k8, k9, k10⟩
  refine j_aload_n cx 0 rfl rfl dX11_isLine_351 (pn := 352) rfl ?_
  refine j_callvI0 cx q_inst_X11_fails q_sel_X11_fails (b := a_M) (As := []) (rest := []) (c_X11_fails h) ⟨q_code_X11_fails, q_ml_X11_133, q_init_X11, hd_X11_fails, ⟨Nat.le_of_ble_eq_true rfl, Nat.le_of_ble_eq_true rfl⟩, Nat.le_of_ble_eq_true rfl, Nat.le_of_ble_eq_true rfl⟩ (q0 := 0) rfl rfl rfl rfl (Nat.le_of_ble_eq_true rfl) dX11_isLine_352 (pn := 355) rfl (fun r39 u40 h => ?_)
  show J x 0 0 4 (W_Model cyI cyJ cyZ a_M a_M_square a_M_want a_M_text a_M_read a_M_row a_M_foldSet a_M_foldEdges a_M_foldNeeds a_M_foldYards a_M_least a_M_ways a_M_price a_M_rowBy a_M_columnBy a_M_rowOf a_M_wayBack a_M_slack a_M_isUsed a_M_lifted a_M_freed a_M_path M_wide M_high M_hedges M_hurdles M_wants M_rest M_frozen M_bytes M_position M_tokenAt M_token M_digits M_number u40 M_readMany M_readWide M_readHigh M_nights M_why M_folds M_square M_want M_text f14 M_row M_foldSet M_foldEdges M_foldNeeds M_foldYards M_least M_ways M_price M_rowBy M_columnBy M_rowOf M_wayBack M_slack M_isUsed M_lifted M_freed M_path) [(0, .ref a_M), (1, .int p1)] 355 [.int r39]
  exact hR r39 (M_position, M_tokenAt, M_token, M_digits, M_number, u40, M_readWide, M_readHigh, f14) 355 _ dX11_isLine_355 h.1 h.2
set_option maxHeartbeats 4000000 in
set_option maxRecDepth 100000 in
theorem J_X11_isLine_177 {x : CX} {D : DG} {cyI cyJ cyZ : ClassId} {a_M a_M_square a_M_want a_M_text a_M_read a_M_row a_M_foldSet a_M_foldEdges a_M_foldNeeds a_M_foldYards a_M_least a_M_ways a_M_price a_M_rowBy a_M_columnBy a_M_rowOf a_M_wayBack a_M_slack a_M_isUsed a_M_lifted a_M_freed a_M_path : Nat} {M_wide : Int32} {M_high : Int32} {M_hedges : Int64} {M_hurdles : Int32} {M_wants : Int32} {M_rest : Int32} {M_frozen : Int32} {M_bytes : Int32} {M_position : Int32} {M_tokenAt : Int32} {M_token : Int64} {M_digits : Int32} {M_number : Int32} {M_faultAt : Int32} {M_readMany : Int32} {M_readWide : Int32} {M_readHigh : Int32} {M_nights : Int32} {M_why : Int32} {M_folds : Int32} {M_square : Nat → Int32} {M_want : Nat → Int32} {M_text : Nat → Int32} {M_read : Nat → Int32} {M_row : Nat → Int32} {M_foldSet : Nat → Int32} {M_foldEdges : Nat → Int64} {M_foldNeeds : Nat → Int32} {M_foldYards : Nat → Int32} {M_least : Nat → Int32} {M_ways : Nat → Int32} {M_price : Nat → Int32} {M_rowBy : Nat → Int32} {M_columnBy : Nat → Int32} {M_rowOf : Nat → Int32} {M_wayBack : Nat → Int32} {M_slack : Nat → Int32} {M_isUsed : Nat → Int32} {M_lifted : Nat → Int32} {M_freed : Nat → Int32} {M_path : Nat → Int32} {p1 : Int32} {x2 : Int32} {s0 : Int32} {Q : Int32 → (Int32 × Int32 × Int64 × Int32 × Int32 × Int32 × Int32 × Int32 × (Nat → Int32)) → Prop} (cx : Cx x cX11_isLine 4 RX11 rm_X11_isLine D [(cyI, .int), (cyJ, .long), (cyZ, .boolean)]) (hR : ∀ (v : Int32) (u : Int32 × Int32 × Int64 × Int32 × Int32 × Int32 × Int32 × Int32 × (Nat → Int32)) (pc : Nat) (lv : List (Nat × Value)), decode cX11_isLine pc = .ok (.ireturn, 1) → (v = 0 ∨ v = 1) → Q v u → J x 0 0 4 (W_Model cyI cyJ cyZ a_M a_M_square a_M_want a_M_text a_M_read a_M_row a_M_foldSet a_M_foldEdges a_M_foldNeeds a_M_foldYards a_M_least a_M_ways a_M_price a_M_rowBy a_M_columnBy a_M_rowOf a_M_wayBack a_M_slack a_M_isUsed a_M_lifted a_M_freed a_M_path M_wide M_high M_hedges M_hurdles M_wants M_rest M_frozen M_bytes u.1 u.2.1 u.2.2.1 u.2.2.2.1 u.2.2.2.2.1 u.2.2.2.2.2.1 M_readMany u.2.2.2.2.2.2.1 u.2.2.2.2.2.2.2.1 M_nights M_why M_folds M_square M_want M_text u.2.2.2.2.2.2.2.2 M_row M_foldSet M_foldEdges M_foldNeeds M_foldYards M_least M_ways M_price M_rowBy M_columnBy M_rowOf M_wayBack M_slack M_isUsed M_lifted M_freed M_path) lv pc [.int v]) (h : bk_X11_isLine_177 Q  p1 x2 M_bytes M_position M_tokenAt M_token M_digits M_number M_faultAt M_readWide M_readHigh M_text M_read s0) :
    J x 0 0 4 (W_Model cyI cyJ cyZ a_M a_M_square a_M_want a_M_text a_M_read a_M_row a_M_foldSet a_M_foldEdges a_M_foldNeeds a_M_foldYards a_M_least a_M_ways a_M_price a_M_rowBy a_M_columnBy a_M_rowOf a_M_wayBack a_M_slack a_M_isUsed a_M_lifted a_M_freed a_M_path M_wide M_high M_hedges M_hurdles M_wants M_rest M_frozen M_bytes M_position M_tokenAt M_token M_digits M_number M_faultAt M_readMany M_readWide M_readHigh M_nights M_why M_folds M_square M_want M_text M_read M_row M_foldSet M_foldEdges M_foldNeeds M_foldYards M_least M_ways M_price M_rowBy M_columnBy M_rowOf M_wayBack M_slack M_isUsed M_lifted M_freed M_path) [(0, .ref a_M), (1, .int p1), (2, .int x2)] 177 [.int s0] := by
  unfold bk_X11_isLine_177 at h
  refine j_istore_n cx rfl [(3, .int s0), (0, .ref a_M), (1, .int p1), (2, .int x2)] (by decide) rfl dX11_isLine_177 (pn := 178) rfl ?_
  refine j_aload_n cx 1 rfl rfl dX11_isLine_178 (pn := 179) rfl ?_
  refine j_get cx inGX11 0 rfl rfl 18 (by decide) q_fl_X11_29 rfl rfl dX11_isLine_179 (pn := 182) rfl ?_
  refine j_iload_n cx 2 rfl rfl dX11_isLine_182 (pn := 183) rfl ?_
  refine j_iload_n cx 3 rfl rfl dX11_isLine_183 (pn := 184) rfl ?_
  refine j_iconst cx (v := (-1)) (by decide) dX11_isLine_184 (pn := 185) rfl ?_
  refine j_icmp_ne cx 192 dX11_isLine_185 (pn := 188) rfl rfl (fun c13 => ?_) (fun c13 => ?_)
  · have h := h.1 c13
    refine j_iload_n cx 3 rfl rfl dX11_isLine_192 (pn := 193) rfl ?_
    refine j_sub [1, 2] [(0, .ref a_M), (1, .int p1)] rfl ?_
    exact J_X11_isLine_193 cx hR h
  · have h := h.2 c13
    refine j_iload_n cx 0 rfl rfl dX11_isLine_188 (pn := 189) rfl ?_
    refine j_goto cx 193 dX11_isLine_189 rfl ?_
    refine j_sub [1, 2] [(0, .ref a_M), (1, .int p1)] rfl ?_
    exact J_X11_isLine_193 cx hR h
set_option maxHeartbeats 4000000 in
set_option maxRecDepth 100000 in
theorem J_X11_isLine_95 {x : CX} {D : DG} {cyI cyJ cyZ : ClassId} {a_M a_M_square a_M_want a_M_text a_M_read a_M_row a_M_foldSet a_M_foldEdges a_M_foldNeeds a_M_foldYards a_M_least a_M_ways a_M_price a_M_rowBy a_M_columnBy a_M_rowOf a_M_wayBack a_M_slack a_M_isUsed a_M_lifted a_M_freed a_M_path : Nat} {M_wide : Int32} {M_high : Int32} {M_hedges : Int64} {M_hurdles : Int32} {M_wants : Int32} {M_rest : Int32} {M_frozen : Int32} {M_bytes : Int32} {M_position : Int32} {M_tokenAt : Int32} {M_token : Int64} {M_digits : Int32} {M_number : Int32} {M_faultAt : Int32} {M_readMany : Int32} {M_readWide : Int32} {M_readHigh : Int32} {M_nights : Int32} {M_why : Int32} {M_folds : Int32} {M_square : Nat → Int32} {M_want : Nat → Int32} {M_text : Nat → Int32} {M_read : Nat → Int32} {M_row : Nat → Int32} {M_foldSet : Nat → Int32} {M_foldEdges : Nat → Int64} {M_foldNeeds : Nat → Int32} {M_foldYards : Nat → Int32} {M_least : Nat → Int32} {M_ways : Nat → Int32} {M_price : Nat → Int32} {M_rowBy : Nat → Int32} {M_columnBy : Nat → Int32} {M_rowOf : Nat → Int32} {M_wayBack : Nat → Int32} {M_slack : Nat → Int32} {M_isUsed : Nat → Int32} {M_lifted : Nat → Int32} {M_freed : Nat → Int32} {M_path : Nat → Int32} {p1 : Int32} {s0 : Int32} {Q : Int32 → (Int32 × Int32 × Int64 × Int32 × Int32 × Int32 × Int32 × Int32 × (Nat → Int32)) → Prop} (cx : Cx x cX11_isLine 4 RX11 rm_X11_isLine D [(cyI, .int), (cyJ, .long), (cyZ, .boolean)]) (hR : ∀ (v : Int32) (u : Int32 × Int32 × Int64 × Int32 × Int32 × Int32 × Int32 × Int32 × (Nat → Int32)) (pc : Nat) (lv : List (Nat × Value)), decode cX11_isLine pc = .ok (.ireturn, 1) → (v = 0 ∨ v = 1) → Q v u → J x 0 0 4 (W_Model cyI cyJ cyZ a_M a_M_square a_M_want a_M_text a_M_read a_M_row a_M_foldSet a_M_foldEdges a_M_foldNeeds a_M_foldYards a_M_least a_M_ways a_M_price a_M_rowBy a_M_columnBy a_M_rowOf a_M_wayBack a_M_slack a_M_isUsed a_M_lifted a_M_freed a_M_path M_wide M_high M_hedges M_hurdles M_wants M_rest M_frozen M_bytes u.1 u.2.1 u.2.2.1 u.2.2.2.1 u.2.2.2.2.1 u.2.2.2.2.2.1 M_readMany u.2.2.2.2.2.2.1 u.2.2.2.2.2.2.2.1 M_nights M_why M_folds M_square M_want M_text u.2.2.2.2.2.2.2.2 M_row M_foldSet M_foldEdges M_foldNeeds M_foldYards M_least M_ways M_price M_rowBy M_columnBy M_rowOf M_wayBack M_slack M_isUsed M_lifted M_freed M_path) lv pc [.int v]) (h : bk_X11_isLine_95 Q  p1 M_bytes M_position M_tokenAt M_token M_digits M_number M_faultAt M_readWide M_readHigh M_text M_read s0) :
    J x 0 0 4 (W_Model cyI cyJ cyZ a_M a_M_square a_M_want a_M_text a_M_read a_M_row a_M_foldSet a_M_foldEdges a_M_foldNeeds a_M_foldYards a_M_least a_M_ways a_M_price a_M_rowBy a_M_columnBy a_M_rowOf a_M_wayBack a_M_slack a_M_isUsed a_M_lifted a_M_freed a_M_path M_wide M_high M_hedges M_hurdles M_wants M_rest M_frozen M_bytes M_position M_tokenAt M_token M_digits M_number M_faultAt M_readMany M_readWide M_readHigh M_nights M_why M_folds M_square M_want M_text M_read M_row M_foldSet M_foldEdges M_foldNeeds M_foldYards M_least M_ways M_price M_rowBy M_columnBy M_rowOf M_wayBack M_slack M_isUsed M_lifted M_freed M_path) [(0, .ref a_M), (1, .int p1)] 95 [.int s0] := by
  unfold bk_X11_isLine_95 at h
  refine j_istore_n cx rfl [(2, .int s0), (0, .ref a_M), (1, .int p1)] (by decide) rfl dX11_isLine_95 (pn := 96) rfl ?_
  refine j_aload_n cx 1 rfl rfl dX11_isLine_96 (pn := 97) rfl ?_
  refine j_get cx inGX11 0 rfl rfl 13 (by decide) q_fl_X11_113 rfl rfl dX11_isLine_97 (pn := 100) rfl ?_
  refine j_ldc2 cx q_cl_X11_170 dX11_isLine_100 (pn := 103) rfl ?_
  refine j_lif_ne cx 112 dX11_isLine_103 (pm := 104) (pn := 107) rfl dX11_isLine_104 rfl rfl (fun c8 => ?_) (fun c8 => ?_)
  · have h := h.1 c8
    refine j_aload_n cx 1 rfl rfl dX11_isLine_112 (pn := 113) rfl ?_
    refine j_get cx inGX11 0 rfl rfl 13 (by decide) q_fl_X11_113 rfl rfl dX11_isLine_113 (pn := 116) rfl ?_
    refine j_ldc2 cx q_cl_X11_172 dX11_isLine_116 (pn := 119) rfl ?_
    refine j_lif_ne cx 128 dX11_isLine_119 (pm := 120) (pn := 123) rfl dX11_isLine_120 rfl rfl (fun c9 => ?_) (fun c9 => ?_)
    · have h := h.1 c9
      refine j_aload_n cx 1 rfl rfl dX11_isLine_128 (pn := 129) rfl ?_
      refine j_get cx inGX11 0 rfl rfl 13 (by decide) q_fl_X11_113 rfl rfl dX11_isLine_129 (pn := 132) rfl ?_
      refine j_ldc2 cx q_cl_X11_174 dX11_isLine_132 (pn := 135) rfl ?_
      refine j_lif_ne cx 144 dX11_isLine_135 (pm := 136) (pn := 139) rfl dX11_isLine_136 rfl rfl (fun c10 => ?_) (fun c10 => ?_)
      · have h := h.1 c10
        refine j_aload_n cx 1 rfl rfl dX11_isLine_144 (pn := 145) rfl ?_
        refine j_get cx inGX11 0 rfl rfl 13 (by decide) q_fl_X11_113 rfl rfl dX11_isLine_145 (pn := 148) rfl ?_
        refine j_ldc2 cx q_cl_X11_176 dX11_isLine_148 (pn := 151) rfl ?_
        refine j_lif_ne cx 160 dX11_isLine_151 (pm := 152) (pn := 155) rfl dX11_isLine_152 rfl rfl (fun c11 => ?_) (fun c11 => ?_)
        · have h := h.1 c11
          refine j_aload_n cx 1 rfl rfl dX11_isLine_160 (pn := 161) rfl ?_
          refine j_get cx inGX11 0 rfl rfl 13 (by decide) q_fl_X11_113 rfl rfl dX11_isLine_161 (pn := 164) rfl ?_
          refine j_ldc2 cx q_cl_X11_178 dX11_isLine_164 (pn := 167) rfl ?_
          refine j_lif_ne cx 176 dX11_isLine_167 (pm := 168) (pn := 171) rfl dX11_isLine_168 rfl rfl (fun c12 => ?_) (fun c12 => ?_)
          · have h := h.1 c12
            refine j_iconst cx (v := (-1)) (by decide) dX11_isLine_176 (pn := 177) rfl ?_
            refine j_sub [1, 2, 0] [(0, .ref a_M), (1, .int p1), (2, .int s0)] rfl ?_
            exact J_X11_isLine_177 cx hR h
          · have h := h.2 c12
            refine j_bipush cx (v := 10) (by decide) dX11_isLine_171 (pn := 173) rfl ?_
            refine j_goto cx 177 dX11_isLine_173 rfl ?_
            refine j_sub [1, 2, 0] [(0, .ref a_M), (1, .int p1), (2, .int s0)] rfl ?_
            exact J_X11_isLine_177 cx hR h
        · have h := h.2 c11
          refine j_bipush cx (v := 9) (by decide) dX11_isLine_155 (pn := 157) rfl ?_
          refine j_goto cx 177 dX11_isLine_157 rfl ?_
          refine j_sub [1, 2, 0] [(0, .ref a_M), (1, .int p1), (2, .int s0)] rfl ?_
          exact J_X11_isLine_177 cx hR h
      · have h := h.2 c10
        refine j_bipush cx (v := 8) (by decide) dX11_isLine_139 (pn := 141) rfl ?_
        refine j_goto cx 177 dX11_isLine_141 rfl ?_
        refine j_sub [1, 2, 0] [(0, .ref a_M), (1, .int p1), (2, .int s0)] rfl ?_
        exact J_X11_isLine_177 cx hR h
    · have h := h.2 c9
      refine j_bipush cx (v := 7) (by decide) dX11_isLine_123 (pn := 125) rfl ?_
      refine j_goto cx 177 dX11_isLine_125 rfl ?_
      refine j_sub [1, 2, 0] [(0, .ref a_M), (1, .int p1), (2, .int s0)] rfl ?_
      exact J_X11_isLine_177 cx hR h
  · have h := h.2 c8
    refine j_bipush cx (v := 6) (by decide) dX11_isLine_107 (pn := 109) rfl ?_
    refine j_goto cx 177 dX11_isLine_109 rfl ?_
    refine j_sub [1, 2, 0] [(0, .ref a_M), (1, .int p1), (2, .int s0)] rfl ?_
    exact J_X11_isLine_177 cx hR h
set_option maxHeartbeats 4000000 in
set_option maxRecDepth 100000 in
theorem c_X11_isLine {D : DG} {cyI cyJ cyZ : ClassId} {a_M a_M_square a_M_want a_M_text a_M_read a_M_row a_M_foldSet a_M_foldEdges a_M_foldNeeds a_M_foldYards a_M_least a_M_ways a_M_price a_M_rowBy a_M_columnBy a_M_rowOf a_M_wayBack a_M_slack a_M_isUsed a_M_lifted a_M_freed a_M_path : Nat} {M_wide : Int32} {M_high : Int32} {M_hedges : Int64} {M_hurdles : Int32} {M_wants : Int32} {M_rest : Int32} {M_frozen : Int32} {M_bytes : Int32} {M_position : Int32} {M_tokenAt : Int32} {M_token : Int64} {M_digits : Int32} {M_number : Int32} {M_faultAt : Int32} {M_readMany : Int32} {M_readWide : Int32} {M_readHigh : Int32} {M_nights : Int32} {M_why : Int32} {M_folds : Int32} {M_square : Nat → Int32} {M_want : Nat → Int32} {M_text : Nat → Int32} {M_read : Nat → Int32} {M_row : Nat → Int32} {M_foldSet : Nat → Int32} {M_foldEdges : Nat → Int64} {M_foldNeeds : Nat → Int32} {M_foldYards : Nat → Int32} {M_least : Nat → Int32} {M_ways : Nat → Int32} {M_price : Nat → Int32} {M_rowBy : Nat → Int32} {M_columnBy : Nat → Int32} {M_rowOf : Nat → Int32} {M_wayBack : Nat → Int32} {M_slack : Nat → Int32} {M_isUsed : Nat → Int32} {M_lifted : Nat → Int32} {M_freed : Nat → Int32} {M_path : Nat → Int32} {p1 : Int32} {Q : Int32 → (Int32 × Int32 × Int64 × Int32 × Int32 × Int32 × Int32 × Int32 × (Nat → Int32)) → Prop} (h : wp_X11_isLine p1 M_bytes M_position M_faultAt M_readWide M_readHigh M_text M_read Q) :
    MetI yX11_isLine cX11_isLine 4 (some .boolean) rm_X11_isLine D [(cyI, .int), (cyJ, .long), (cyZ, .boolean)] [.ref a_M, .int p1] (W_Model cyI cyJ cyZ a_M a_M_square a_M_want a_M_text a_M_read a_M_row a_M_foldSet a_M_foldEdges a_M_foldNeeds a_M_foldYards a_M_least a_M_ways a_M_price a_M_rowBy a_M_columnBy a_M_rowOf a_M_wayBack a_M_slack a_M_isUsed a_M_lifted a_M_freed a_M_path M_wide M_high M_hedges M_hurdles M_wants M_rest M_frozen M_bytes M_position M_tokenAt M_token M_digits M_number M_faultAt M_readMany M_readWide M_readHigh M_nights M_why M_folds M_square M_want M_text M_read M_row M_foldSet M_foldEdges M_foldNeeds M_foldYards M_least M_ways M_price M_rowBy M_columnBy M_rowOf M_wayBack M_slack M_isUsed M_lifted M_freed M_path) (fun u : Int32 × Int32 × Int64 × Int32 × Int32 × Int32 × Int32 × Int32 × (Nat → Int32) => (W_Model cyI cyJ cyZ a_M a_M_square a_M_want a_M_text a_M_read a_M_row a_M_foldSet a_M_foldEdges a_M_foldNeeds a_M_foldYards a_M_least a_M_ways a_M_price a_M_rowBy a_M_columnBy a_M_rowOf a_M_wayBack a_M_slack a_M_isUsed a_M_lifted a_M_freed a_M_path M_wide M_high M_hedges M_hurdles M_wants M_rest M_frozen M_bytes u.1 u.2.1 u.2.2.1 u.2.2.2.1 u.2.2.2.2.1 u.2.2.2.2.2.1 M_readMany u.2.2.2.2.2.2.1 u.2.2.2.2.2.2.2.1 M_nights M_why M_folds M_square M_want M_text u.2.2.2.2.2.2.2.2 M_row M_foldSet M_foldEdges M_foldNeeds M_foldYards M_least M_ways M_price M_rowBy M_columnBy M_rowOf M_wayBack M_slack M_isUsed M_lifted M_freed M_path)) (fun v u => Q v u) := by
  unfold wp_X11_isLine at h
  refine metZ_of (by decide) (Nat.le_of_ble_eq_true rfl) (fun x cx0 hR0 => ?_)
  have cx : Cx x cX11_isLine 4 RX11 rm_X11_isLine D [(cyI, .int), (cyJ, .long), (cyZ, .boolean)] := cx0
  have hR : ∀ (v : Int32) (u : Int32 × Int32 × Int64 × Int32 × Int32 × Int32 × Int32 × Int32 × (Nat → Int32)) (pc : Nat) (lv : List (Nat × Value)), decode cX11_isLine pc = .ok (.ireturn, 1) → (v = 0 ∨ v = 1) → Q v u → J x 0 0 4 (W_Model cyI cyJ cyZ a_M a_M_square a_M_want a_M_text a_M_read a_M_row a_M_foldSet a_M_foldEdges a_M_foldNeeds a_M_foldYards a_M_least a_M_ways a_M_price a_M_rowBy a_M_columnBy a_M_rowOf a_M_wayBack a_M_slack a_M_isUsed a_M_lifted a_M_freed a_M_path M_wide M_high M_hedges M_hurdles M_wants M_rest M_frozen M_bytes u.1 u.2.1 u.2.2.1 u.2.2.2.1 u.2.2.2.2.1 u.2.2.2.2.2.1 M_readMany u.2.2.2.2.2.2.1 u.2.2.2.2.2.2.2.1 M_nights M_why M_folds M_square M_want M_text u.2.2.2.2.2.2.2.2 M_row M_foldSet M_foldEdges M_foldNeeds M_foldYards M_least M_ways M_price M_rowBy M_columnBy M_rowOf M_wayBack M_slack M_isUsed M_lifted M_freed M_path) lv pc [.int v] := (fun v u pc lv d hz hq => hR0 v u pc lv d hz hq)
  show J x 0 0 4 (W_Model cyI cyJ cyZ a_M a_M_square a_M_want a_M_text a_M_read a_M_row a_M_foldSet a_M_foldEdges a_M_foldNeeds a_M_foldYards a_M_least a_M_ways a_M_price a_M_rowBy a_M_columnBy a_M_rowOf a_M_wayBack a_M_slack a_M_isUsed a_M_lifted a_M_freed a_M_path M_wide M_high M_hedges M_hurdles M_wants M_rest M_frozen M_bytes M_position M_tokenAt M_token M_digits M_number M_faultAt M_readMany M_readWide M_readHigh M_nights M_why M_folds M_square M_want M_text M_read M_row M_foldSet M_foldEdges M_foldNeeds M_foldYards M_least M_ways M_price M_rowBy M_columnBy M_rowOf M_wayBack M_slack M_isUsed M_lifted M_freed M_path) [(0, .ref a_M), (1, .int p1)] 0 []
  refine j_aload_n cx 0 rfl rfl dX11_isLine_0 (pn := 1) rfl ?_
  refine j_callvV0 cx q_inst_X11_nextToken q_sel_X11_nextToken (b := a_M) (As := []) (rest := []) (c_X11_nextToken h) ⟨q_code_X11_nextToken, q_ml_X11_130, q_init_X11, hd_X11_nextToken, ⟨Nat.le_of_ble_eq_true rfl, Nat.le_of_ble_eq_true rfl⟩, Nat.le_of_ble_eq_true rfl, Nat.le_of_ble_eq_true rfl⟩ (q0 := 0) rfl rfl rfl rfl (Nat.le_of_ble_eq_true rfl) dX11_isLine_1 (pn := 4) rfl (fun u1 h => ?_)
  show J x 0 0 4 (W_Model cyI cyJ cyZ a_M a_M_square a_M_want a_M_text a_M_read a_M_row a_M_foldSet a_M_foldEdges a_M_foldNeeds a_M_foldYards a_M_least a_M_ways a_M_price a_M_rowBy a_M_columnBy a_M_rowOf a_M_wayBack a_M_slack a_M_isUsed a_M_lifted a_M_freed a_M_path M_wide M_high M_hedges M_hurdles M_wants M_rest M_frozen M_bytes u1.1 u1.2.1 u1.2.2.1 u1.2.2.2.1 u1.2.2.2.2 M_faultAt M_readMany M_readWide M_readHigh M_nights M_why M_folds M_square M_want M_text M_read M_row M_foldSet M_foldEdges M_foldNeeds M_foldYards M_least M_ways M_price M_rowBy M_columnBy M_rowOf M_wayBack M_slack M_isUsed M_lifted M_freed M_path) [(0, .ref a_M), (1, .int p1)] 4 []
  refine j_aload_n cx 0 rfl rfl dX11_isLine_4 (pn := 5) rfl ?_
  refine j_get cx inGX11 0 rfl rfl 13 (by decide) q_fl_X11_113 rfl rfl dX11_isLine_5 (pn := 8) rfl ?_
  refine j_ldc2 cx q_cl_X11_158 dX11_isLine_8 (pn := 11) rfl ?_
  refine j_lif_ne cx 19 dX11_isLine_11 (pm := 12) (pn := 15) rfl dX11_isLine_12 rfl rfl (fun c2 => ?_) (fun c2 => ?_)
  · have h := h.1 c2
    refine j_aload_n cx 0 rfl rfl dX11_isLine_19 (pn := 20) rfl ?_
    refine j_get cx inGX11 0 rfl rfl 13 (by decide) q_fl_X11_113 rfl rfl dX11_isLine_20 (pn := 23) rfl ?_
    refine j_ldc2 cx q_cl_X11_160 dX11_isLine_23 (pn := 26) rfl ?_
    refine j_lif_ne cx 34 dX11_isLine_26 (pm := 27) (pn := 30) rfl dX11_isLine_27 rfl rfl (fun c3 => ?_) (fun c3 => ?_)
    · have h := h.1 c3
      refine j_aload_n cx 0 rfl rfl dX11_isLine_34 (pn := 35) rfl ?_
      refine j_get cx inGX11 0 rfl rfl 13 (by decide) q_fl_X11_113 rfl rfl dX11_isLine_35 (pn := 38) rfl ?_
      refine j_ldc2 cx q_cl_X11_162 dX11_isLine_38 (pn := 41) rfl ?_
      refine j_lif_ne cx 49 dX11_isLine_41 (pm := 42) (pn := 45) rfl dX11_isLine_42 rfl rfl (fun c4 => ?_) (fun c4 => ?_)
      · have h := h.1 c4
        refine j_aload_n cx 0 rfl rfl dX11_isLine_49 (pn := 50) rfl ?_
        refine j_get cx inGX11 0 rfl rfl 13 (by decide) q_fl_X11_113 rfl rfl dX11_isLine_50 (pn := 53) rfl ?_
        refine j_ldc2 cx q_cl_X11_164 dX11_isLine_53 (pn := 56) rfl ?_
        refine j_lif_ne cx 64 dX11_isLine_56 (pm := 57) (pn := 60) rfl dX11_isLine_57 rfl rfl (fun c5 => ?_) (fun c5 => ?_)
        · have h := h.1 c5
          refine j_aload_n cx 0 rfl rfl dX11_isLine_64 (pn := 65) rfl ?_
          refine j_get cx inGX11 0 rfl rfl 13 (by decide) q_fl_X11_113 rfl rfl dX11_isLine_65 (pn := 68) rfl ?_
          refine j_ldc2 cx q_cl_X11_166 dX11_isLine_68 (pn := 71) rfl ?_
          refine j_lif_ne cx 79 dX11_isLine_71 (pm := 72) (pn := 75) rfl dX11_isLine_72 rfl rfl (fun c6 => ?_) (fun c6 => ?_)
          · have h := h.1 c6
            refine j_aload_n cx 0 rfl rfl dX11_isLine_79 (pn := 80) rfl ?_
            refine j_get cx inGX11 0 rfl rfl 13 (by decide) q_fl_X11_113 rfl rfl dX11_isLine_80 (pn := 83) rfl ?_
            refine j_ldc2 cx q_cl_X11_168 dX11_isLine_83 (pn := 86) rfl ?_
            refine j_lif_ne cx 94 dX11_isLine_86 (pm := 87) (pn := 90) rfl dX11_isLine_87 rfl rfl (fun c7 => ?_) (fun c7 => ?_)
            · have h := h.1 c7
              refine j_iconst cx (v := (-1)) (by decide) dX11_isLine_94 (pn := 95) rfl ?_
              exact J_X11_isLine_95 cx hR h
            · have h := h.2 c7
              refine j_iconst cx (v := 5) (by decide) dX11_isLine_90 (pn := 91) rfl ?_
              refine j_goto cx 95 dX11_isLine_91 rfl ?_
              exact J_X11_isLine_95 cx hR h
          · have h := h.2 c6
            refine j_iconst cx (v := 4) (by decide) dX11_isLine_75 (pn := 76) rfl ?_
            refine j_goto cx 95 dX11_isLine_76 rfl ?_
            exact J_X11_isLine_95 cx hR h
        · have h := h.2 c5
          refine j_iconst cx (v := 3) (by decide) dX11_isLine_60 (pn := 61) rfl ?_
          refine j_goto cx 95 dX11_isLine_61 rfl ?_
          exact J_X11_isLine_95 cx hR h
      · have h := h.2 c4
        refine j_iconst cx (v := 2) (by decide) dX11_isLine_45 (pn := 46) rfl ?_
        refine j_goto cx 95 dX11_isLine_46 rfl ?_
        exact J_X11_isLine_95 cx hR h
    · have h := h.2 c3
      refine j_iconst cx (v := 1) (by decide) dX11_isLine_30 (pn := 31) rfl ?_
      refine j_goto cx 95 dX11_isLine_31 rfl ?_
      exact J_X11_isLine_95 cx hR h
  · have h := h.2 c2
    refine j_iconst cx (v := 0) (by decide) dX11_isLine_15 (pn := 16) rfl ?_
    refine j_goto cx 95 dX11_isLine_16 rfl ?_
    exact J_X11_isLine_95 cx hR h
