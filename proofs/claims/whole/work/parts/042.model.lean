theorem dX11_isRead_0 : decode cX11_isRead 0 = .ok (.aload_n 0, 1) := by decide +kernel
theorem dX11_isRead_1 : decode cX11_isRead 1 = .ok (.iconst 0, 1) := by decide +kernel
theorem dX11_isRead_2 : decode cX11_isRead 2 = .ok (.putfield 99, 3) := by decide +kernel
theorem dX11_isRead_5 : decode cX11_isRead 5 = .ok (.aload_n 0, 1) := by decide +kernel
theorem dX11_isRead_6 : decode cX11_isRead 6 = .ok (.iconst 0, 1) := by decide +kernel
theorem dX11_isRead_7 : decode cX11_isRead 7 = .ok (.putfield 186, 3) := by decide +kernel
theorem dX11_isRead_10 : decode cX11_isRead 10 = .ok (.aload_n 0, 1) := by decide +kernel
theorem dX11_isRead_11 : decode cX11_isRead 11 = .ok (.aload_n 0, 1) := by decide +kernel
theorem dX11_isRead_12 : decode cX11_isRead 12 = .ok (.getfield 7, 3) := by decide +kernel
theorem dX11_isRead_15 : decode cX11_isRead 15 = .ok (.putfield 137, 3) := by decide +kernel
theorem dX11_isRead_18 : decode cX11_isRead 18 = .ok (.aload_n 0, 1) := by decide +kernel
theorem dX11_isRead_19 : decode cX11_isRead 19 = .ok (.aload_n 0, 1) := by decide +kernel
theorem dX11_isRead_20 : decode cX11_isRead 20 = .ok (.getfield 13, 3) := by decide +kernel
theorem dX11_isRead_23 : decode cX11_isRead 23 = .ok (.putfield 143, 3) := by decide +kernel
theorem dX11_isRead_26 : decode cX11_isRead 26 = .ok (.iconst 1, 1) := by decide +kernel
theorem dX11_isRead_27 : decode cX11_isRead 27 = .ok (.istore_n 1, 1) := by decide +kernel
theorem dX11_isRead_28 : decode cX11_isRead 28 = .ok (.iload_n 1, 1) := by decide +kernel
theorem dX11_isRead_29 : decode cX11_isRead 29 = .ok (.ifCond .eq 61, 3) := by decide +kernel
theorem dX11_isRead_32 : decode cX11_isRead 32 = .ok (.aload_n 0, 1) := by decide +kernel
theorem dX11_isRead_33 : decode cX11_isRead 33 = .ok (.iconst 4, 1) := by decide +kernel
theorem dX11_isRead_34 : decode cX11_isRead 34 = .ok (.aload_n 0, 1) := by decide +kernel
theorem dX11_isRead_35 : decode cX11_isRead 35 = .ok (.getfield 186, 3) := by decide +kernel
theorem dX11_isRead_38 : decode cX11_isRead 38 = .ok (.imul, 1) := by decide +kernel
theorem dX11_isRead_39 : decode cX11_isRead 39 = .ok (.invokevirtual 189, 3) := by decide +kernel
theorem dX11_isRead_42 : decode cX11_isRead 42 = .ok (.ifCond .ne 5, 3) := by decide +kernel
theorem dX11_isRead_45 : decode cX11_isRead 45 = .ok (.iconst 0, 1) := by decide +kernel
theorem dX11_isRead_46 : decode cX11_isRead 46 = .ok (.ireturn, 1) := by decide +kernel
theorem dX11_isRead_47 : decode cX11_isRead 47 = .ok (.aload_n 0, 1) := by decide +kernel
theorem dX11_isRead_48 : decode cX11_isRead 48 = .ok (.dup, 1) := by decide +kernel
theorem dX11_isRead_49 : decode cX11_isRead 49 = .ok (.getfield 186, 3) := by decide +kernel
theorem dX11_isRead_52 : decode cX11_isRead 52 = .ok (.iconst 1, 1) := by decide +kernel
theorem dX11_isRead_53 : decode cX11_isRead 53 = .ok (.iadd, 1) := by decide +kernel
theorem dX11_isRead_54 : decode cX11_isRead 54 = .ok (.putfield 186, 3) := by decide +kernel
theorem dX11_isRead_57 : decode cX11_isRead 57 = .ok (.aload_n 0, 1) := by decide +kernel
theorem dX11_isRead_58 : decode cX11_isRead 58 = .ok (.invokevirtual 130, 3) := by decide +kernel
theorem dX11_isRead_61 : decode cX11_isRead 61 = .ok (.aload_n 0, 1) := by decide +kernel
theorem dX11_isRead_62 : decode cX11_isRead 62 = .ok (.getfield 113, 3) := by decide +kernel
theorem dX11_isRead_65 : decode cX11_isRead 65 = .ok (.ldc2_w 125, 3) := by decide +kernel
theorem dX11_isRead_68 : decode cX11_isRead 68 = .ok (.lcmp, 1) := by decide +kernel
theorem dX11_isRead_69 : decode cX11_isRead 69 = .ok (.ifCond .ne 16, 3) := by decide +kernel
theorem dX11_isRead_72 : decode cX11_isRead 72 = .ok (.aload_n 0, 1) := by decide +kernel
theorem dX11_isRead_73 : decode cX11_isRead 73 = .ok (.getfield 186, 3) := by decide +kernel
theorem dX11_isRead_76 : decode cX11_isRead 76 = .ok (.bipush 10, 2) := by decide +kernel
theorem dX11_isRead_78 : decode cX11_isRead 78 = .ok (.if_icmp .ge 7, 3) := by decide +kernel
theorem dX11_isRead_81 : decode cX11_isRead 81 = .ok (.iconst 1, 1) := by decide +kernel
theorem dX11_isRead_82 : decode cX11_isRead 82 = .ok (.goto 4, 3) := by decide +kernel
theorem dX11_isRead_85 : decode cX11_isRead 85 = .ok (.iconst 0, 1) := by decide +kernel
theorem dX11_isRead_86 : decode cX11_isRead 86 = .ok (.istore_n 1, 1) := by decide +kernel
theorem dX11_isRead_87 : decode cX11_isRead 87 = .ok (.goto (-59), 3) := by decide +kernel
theorem dX11_isRead_90 : decode cX11_isRead 90 = .ok (.aload_n 0, 1) := by decide +kernel
theorem dX11_isRead_91 : decode cX11_isRead 91 = .ok (.getfield 113, 3) := by decide +kernel
theorem dX11_isRead_94 : decode cX11_isRead 94 = .ok (.ldc2_w 111, 3) := by decide +kernel
theorem dX11_isRead_97 : decode cX11_isRead 97 = .ok (.lcmp, 1) := by decide +kernel
theorem dX11_isRead_98 : decode cX11_isRead 98 = .ok (.ifCond .eq 10, 3) := by decide +kernel
theorem dX11_isRead_101 : decode cX11_isRead 101 = .ok (.aload_n 0, 1) := by decide +kernel
theorem dX11_isRead_102 : decode cX11_isRead 102 = .ok (.invokevirtual 133, 3) := by decide +kernel
theorem dX11_isRead_105 : decode cX11_isRead 105 = .ok (.ifCond .eq 7, 3) := by decide +kernel
theorem dX11_isRead_108 : decode cX11_isRead 108 = .ok (.iconst 1, 1) := by decide +kernel
theorem dX11_isRead_109 : decode cX11_isRead 109 = .ok (.goto 4, 3) := by decide +kernel
theorem dX11_isRead_112 : decode cX11_isRead 112 = .ok (.iconst 0, 1) := by decide +kernel
theorem dX11_isRead_113 : decode cX11_isRead 113 = .ok (.ireturn, 1) := by decide +kernel
abbrev rm_X11_isRead : Room := { frames := 6, cells := 0, slots := 0, locals := 130 }
theorem hd_X11_isRead : yX11_isRead.cls ≠ "java/lang/invoke/MethodHandle" ∧ yX11_isRead.cls ≠ "java/lang/invoke/VarHandle" ∧ (parseMethodDescriptor yX11_isRead.desc).map (fun d => d.parameters.length) = some 0 := by decide +kernel
def bk_X11_isRead_108 (Q : Int32 → (Int32 × Int32 × Int64 × Int32 × Int32 × Int32 × Int32 × Int32 × Int32 × (Nat → Int32)) → Prop) (M_position : Int32) (M_tokenAt : Int32) (M_token : Int64) (M_digits : Int32) (M_number : Int32) (M_faultAt : Int32) (M_readMany : Int32) (M_readWide : Int32) (M_readHigh : Int32) (M_read : Nat → Int32) : Prop :=
Q 1 (M_position, M_tokenAt, M_token, M_digits, M_number, M_faultAt, M_readMany, M_readWide, M_readHigh, M_read)
def bk_X11_isRead_86 (Q : Int32 → (Int32 × Int32 × Int64 × Int32 × Int32 × Int32 × Int32 × Int32 × Int32 × (Nat → Int32)) → Prop) (B28 : Int32 → Int32 → Int64 → Int32 → Int32 → Int32 → Int32 → Int32 → Int32 → (Nat → Int32) → Int32 → Prop) (M_position : Int32) (M_tokenAt : Int32) (M_token : Int64) (M_digits : Int32) (M_number : Int32) (M_faultAt : Int32) (M_readMany : Int32) (M_readWide : Int32) (M_readHigh : Int32) (M_read : Nat → Int32) (s0 : Int32) : Prop :=
B28 M_position M_tokenAt M_token M_digits M_number M_faultAt M_readMany M_readWide M_readHigh M_read s0
def bk_X11_isRead_85 (Q : Int32 → (Int32 × Int32 × Int64 × Int32 × Int32 × Int32 × Int32 × Int32 × Int32 × (Nat → Int32)) → Prop) (B28 : Int32 → Int32 → Int64 → Int32 → Int32 → Int32 → Int32 → Int32 → Int32 → (Nat → Int32) → Int32 → Prop) (M_position : Int32) (M_tokenAt : Int32) (M_token : Int64) (M_digits : Int32) (M_number : Int32) (M_faultAt : Int32) (M_readMany : Int32) (M_readWide : Int32) (M_readHigh : Int32) (M_read : Nat → Int32) : Prop :=
bk_X11_isRead_86 Q B28 M_position M_tokenAt M_token M_digits M_number M_faultAt M_readMany M_readWide M_readHigh M_read 0
def bd_X11_isRead_28 (Q : Int32 → (Int32 × Int32 × Int64 × Int32 × Int32 × Int32 × Int32 × Int32 × Int32 × (Nat → Int32)) → Prop) (B28 : Int32 → Int32 → Int64 → Int32 → Int32 → Int32 → Int32 → Int32 → Int32 → (Nat → Int32) → Int32 → Prop) (M_bytes : Int32) (M_text : Nat → Int32) (M_position : Int32) (M_tokenAt : Int32) (M_token : Int64) (M_digits : Int32) (M_number : Int32) (M_faultAt : Int32) (M_readMany : Int32) (M_readWide : Int32) (M_readHigh : Int32) (M_read : Nat → Int32) (x1 : Int32) : Prop :=
((x1 = 0 → ((M_token = (-2) → bk_X11_isRead_108 Q M_position M_tokenAt M_token M_digits M_number M_faultAt M_readMany M_readWide M_readHigh M_read) ∧
(¬ M_token = (-2) → wp_X11_fails M_tokenAt (fun (r3 : Int32) (u4 : Int32) => ((r3 = 0 → Q 0 (M_position, M_tokenAt, M_token, M_digits, M_number, u4, M_readMany, M_readWide, M_readHigh, M_read)) ∧
(¬ r3 = 0 → bk_X11_isRead_108 Q M_position M_tokenAt M_token M_digits M_number u4 M_readMany M_readWide M_readHigh M_read)))))) ∧
(¬ x1 = 0 → wp_X11_isLine (4 * M_readMany) M_bytes M_position M_faultAt M_readWide M_readHigh M_text M_read (fun (r6 : Int32) (u7 : Int32 × Int32 × Int64 × Int32 × Int32 × Int32 × Int32 × Int32 × (Nat → Int32)) => ((¬ r6 = 0 → ∀ y9 : Int32, y9 = (M_readMany + 1) →
wp_X11_nextToken M_bytes u7.1 M_text (fun (u10 : Int32 × Int32 × Int64 × Int32 × Int32) => ((¬ u10.2.2.1 = (-3) → bk_X11_isRead_85 Q B28 u10.1 u10.2.1 u10.2.2.1 u10.2.2.2.1 u10.2.2.2.2 u7.2.2.2.2.2.1 y9 u7.2.2.2.2.2.2.1 u7.2.2.2.2.2.2.2.1 u7.2.2.2.2.2.2.2.2) ∧
(u10.2.2.1 = (-3) → ((10 ≤ y9 → bk_X11_isRead_85 Q B28 u10.1 u10.2.1 u10.2.2.1 u10.2.2.2.1 u10.2.2.2.2 u7.2.2.2.2.2.1 y9 u7.2.2.2.2.2.2.1 u7.2.2.2.2.2.2.2.1 u7.2.2.2.2.2.2.2.2) ∧
(¬ 10 ≤ y9 → bk_X11_isRead_86 Q B28 u10.1 u10.2.1 u10.2.2.1 u10.2.2.2.1 u10.2.2.2.2 u7.2.2.2.2.2.1 y9 u7.2.2.2.2.2.2.1 u7.2.2.2.2.2.2.2.1 u7.2.2.2.2.2.2.2.2 1)))))) ∧
(r6 = 0 → Q 0 (u7.1, u7.2.1, u7.2.2.1, u7.2.2.2.1, u7.2.2.2.2.1, u7.2.2.2.2.2.1, M_readMany, u7.2.2.2.2.2.2.1, u7.2.2.2.2.2.2.2.1, u7.2.2.2.2.2.2.2.2))))))
def lp_X11_isRead_28 (Q : Int32 → (Int32 × Int32 × Int64 × Int32 × Int32 × Int32 × Int32 × Int32 × Int32 × (Nat → Int32)) → Prop) (M_bytes : Int32) (M_text : Nat → Int32) (M_position : Int32) (M_tokenAt : Int32) (M_token : Int64) (M_digits : Int32) (M_number : Int32) (M_faultAt : Int32) (M_readMany : Int32) (M_readWide : Int32) (M_readHigh : Int32) (M_read : Nat → Int32) (x1 : Int32) : Prop :=
∃ I : Nat → Int32 → Int32 → Int64 → Int32 → Int32 → Int32 → Int32 → Int32 → Int32 → (Nat → Int32) → Int32 → Prop, (∃ n, I n M_position M_tokenAt M_token M_digits M_number M_faultAt M_readMany M_readWide M_readHigh M_read x1) ∧ ∀ n M_position M_tokenAt M_token M_digits M_number M_faultAt M_readMany M_readWide M_readHigh M_read x1, I n M_position M_tokenAt M_token M_digits M_number M_faultAt M_readMany M_readWide M_readHigh M_read x1 → bd_X11_isRead_28 Q  (fun M_position' M_tokenAt' M_token' M_digits' M_number' M_faultAt' M_readMany' M_readWide' M_readHigh' M_read' x1' => ∃ n', n' < n ∧ I n' M_position' M_tokenAt' M_token' M_digits' M_number' M_faultAt' M_readMany' M_readWide' M_readHigh' M_read' x1') M_bytes M_text M_position M_tokenAt M_token M_digits M_number M_faultAt M_readMany M_readWide M_readHigh M_read x1
def wp_X11_isRead (M_wide : Int32) (M_high : Int32) (M_bytes : Int32) (M_tokenAt : Int32) (M_token : Int64) (M_digits : Int32) (M_number : Int32) (M_faultAt : Int32) (M_text : Nat → Int32) (M_read : Nat → Int32) (Q : Int32 → (Int32 × Int32 × Int64 × Int32 × Int32 × Int32 × Int32 × Int32 × Int32 × (Nat → Int32)) → Prop) : Prop :=
lp_X11_isRead_28 Q M_bytes M_text 0 M_tokenAt M_token M_digits M_number M_faultAt 0 M_wide M_high M_read 1
set_option maxHeartbeats 4000000 in
set_option maxRecDepth 100000 in
theorem J_X11_isRead_108 {x : CX} {D : DG} {cyI cyJ cyZ : ClassId} {a_M a_M_square a_M_want a_M_text a_M_read a_M_row a_M_foldSet a_M_foldEdges a_M_foldNeeds a_M_foldYards a_M_least a_M_ways a_M_price a_M_rowBy a_M_columnBy a_M_rowOf a_M_wayBack a_M_slack a_M_isUsed a_M_lifted a_M_freed a_M_path : Nat} {M_wide : Int32} {M_high : Int32} {M_hedges : Int64} {M_hurdles : Int32} {M_wants : Int32} {M_rest : Int32} {M_frozen : Int32} {M_bytes : Int32} {M_position : Int32} {M_tokenAt : Int32} {M_token : Int64} {M_digits : Int32} {M_number : Int32} {M_faultAt : Int32} {M_readMany : Int32} {M_readWide : Int32} {M_readHigh : Int32} {M_nights : Int32} {M_why : Int32} {M_folds : Int32} {M_square : Nat → Int32} {M_want : Nat → Int32} {M_text : Nat → Int32} {M_read : Nat → Int32} {M_row : Nat → Int32} {M_foldSet : Nat → Int32} {M_foldEdges : Nat → Int64} {M_foldNeeds : Nat → Int32} {M_foldYards : Nat → Int32} {M_least : Nat → Int32} {M_ways : Nat → Int32} {M_price : Nat → Int32} {M_rowBy : Nat → Int32} {M_columnBy : Nat → Int32} {M_rowOf : Nat → Int32} {M_wayBack : Nat → Int32} {M_slack : Nat → Int32} {M_isUsed : Nat → Int32} {M_lifted : Nat → Int32} {M_freed : Nat → Int32} {M_path : Nat → Int32} {Q : Int32 → (Int32 × Int32 × Int64 × Int32 × Int32 × Int32 × Int32 × Int32 × Int32 × (Nat → Int32)) → Prop} (cx : Cx x cX11_isRead 2 RX11 rm_X11_isRead D [(cyI, .int), (cyJ, .long), (cyZ, .boolean)]) (hR : ∀ (v : Int32) (u : Int32 × Int32 × Int64 × Int32 × Int32 × Int32 × Int32 × Int32 × Int32 × (Nat → Int32)) (pc : Nat) (lv : List (Nat × Value)), decode cX11_isRead pc = .ok (.ireturn, 1) → (v = 0 ∨ v = 1) → Q v u → J x 0 0 2 (W_Model cyI cyJ cyZ a_M a_M_square a_M_want a_M_text a_M_read a_M_row a_M_foldSet a_M_foldEdges a_M_foldNeeds a_M_foldYards a_M_least a_M_ways a_M_price a_M_rowBy a_M_columnBy a_M_rowOf a_M_wayBack a_M_slack a_M_isUsed a_M_lifted a_M_freed a_M_path M_wide M_high M_hedges M_hurdles M_wants M_rest M_frozen M_bytes u.1 u.2.1 u.2.2.1 u.2.2.2.1 u.2.2.2.2.1 u.2.2.2.2.2.1 u.2.2.2.2.2.2.1 u.2.2.2.2.2.2.2.1 u.2.2.2.2.2.2.2.2.1 M_nights M_why M_folds M_square M_want M_text u.2.2.2.2.2.2.2.2.2 M_row M_foldSet M_foldEdges M_foldNeeds M_foldYards M_least M_ways M_price M_rowBy M_columnBy M_rowOf M_wayBack M_slack M_isUsed M_lifted M_freed M_path) lv pc [.int v]) (h : bk_X11_isRead_108 Q  M_position M_tokenAt M_token M_digits M_number M_faultAt M_readMany M_readWide M_readHigh M_read) :
    J x 0 0 2 (W_Model cyI cyJ cyZ a_M a_M_square a_M_want a_M_text a_M_read a_M_row a_M_foldSet a_M_foldEdges a_M_foldNeeds a_M_foldYards a_M_least a_M_ways a_M_price a_M_rowBy a_M_columnBy a_M_rowOf a_M_wayBack a_M_slack a_M_isUsed a_M_lifted a_M_freed a_M_path M_wide M_high M_hedges M_hurdles M_wants M_rest M_frozen M_bytes M_position M_tokenAt M_token M_digits M_number M_faultAt M_readMany M_readWide M_readHigh M_nights M_why M_folds M_square M_want M_text M_read M_row M_foldSet M_foldEdges M_foldNeeds M_foldYards M_least M_ways M_price M_rowBy M_columnBy M_rowOf M_wayBack M_slack M_isUsed M_lifted M_freed M_path) [] 108 [] := by
  unfold bk_X11_isRead_108 at h
  refine j_iconst cx (v := 1) (by decide) dX11_isRead_108 (pn := 109) rfl ?_
  refine j_goto cx 113 dX11_isRead_109 rfl ?_
  exact hR 1 (M_position, M_tokenAt, M_token, M_digits, M_number, M_faultAt, M_readMany, M_readWide, M_readHigh, M_read) 113 _ dX11_isRead_113 (Or.inr rfl) h
set_option maxHeartbeats 4000000 in
set_option maxRecDepth 100000 in
theorem J_X11_isRead_86 {x : CX} {D : DG} {cyI cyJ cyZ : ClassId} {a_M a_M_square a_M_want a_M_text a_M_read a_M_row a_M_foldSet a_M_foldEdges a_M_foldNeeds a_M_foldYards a_M_least a_M_ways a_M_price a_M_rowBy a_M_columnBy a_M_rowOf a_M_wayBack a_M_slack a_M_isUsed a_M_lifted a_M_freed a_M_path : Nat} {M_wide : Int32} {M_high : Int32} {M_hedges : Int64} {M_hurdles : Int32} {M_wants : Int32} {M_rest : Int32} {M_frozen : Int32} {M_bytes : Int32} {M_position : Int32} {M_tokenAt : Int32} {M_token : Int64} {M_digits : Int32} {M_number : Int32} {M_faultAt : Int32} {M_readMany : Int32} {M_readWide : Int32} {M_readHigh : Int32} {M_nights : Int32} {M_why : Int32} {M_folds : Int32} {M_square : Nat → Int32} {M_want : Nat → Int32} {M_text : Nat → Int32} {M_read : Nat → Int32} {M_row : Nat → Int32} {M_foldSet : Nat → Int32} {M_foldEdges : Nat → Int64} {M_foldNeeds : Nat → Int32} {M_foldYards : Nat → Int32} {M_least : Nat → Int32} {M_ways : Nat → Int32} {M_price : Nat → Int32} {M_rowBy : Nat → Int32} {M_columnBy : Nat → Int32} {M_rowOf : Nat → Int32} {M_wayBack : Nat → Int32} {M_slack : Nat → Int32} {M_isUsed : Nat → Int32} {M_lifted : Nat → Int32} {M_freed : Nat → Int32} {M_path : Nat → Int32} {s0 : Int32} {Q : Int32 → (Int32 × Int32 × Int64 × Int32 × Int32 × Int32 × Int32 × Int32 × Int32 × (Nat → Int32)) → Prop} {B28 : Int32 → Int32 → Int64 → Int32 → Int32 → Int32 → Int32 → Int32 → Int32 → (Nat → Int32) → Int32 → Prop} (cx : Cx x cX11_isRead 2 RX11 rm_X11_isRead D [(cyI, .int), (cyJ, .long), (cyZ, .boolean)]) (hR : ∀ (v : Int32) (u : Int32 × Int32 × Int64 × Int32 × Int32 × Int32 × Int32 × Int32 × Int32 × (Nat → Int32)) (pc : Nat) (lv : List (Nat × Value)), decode cX11_isRead pc = .ok (.ireturn, 1) → (v = 0 ∨ v = 1) → Q v u → J x 0 0 2 (W_Model cyI cyJ cyZ a_M a_M_square a_M_want a_M_text a_M_read a_M_row a_M_foldSet a_M_foldEdges a_M_foldNeeds a_M_foldYards a_M_least a_M_ways a_M_price a_M_rowBy a_M_columnBy a_M_rowOf a_M_wayBack a_M_slack a_M_isUsed a_M_lifted a_M_freed a_M_path M_wide M_high M_hedges M_hurdles M_wants M_rest M_frozen M_bytes u.1 u.2.1 u.2.2.1 u.2.2.2.1 u.2.2.2.2.1 u.2.2.2.2.2.1 u.2.2.2.2.2.2.1 u.2.2.2.2.2.2.2.1 u.2.2.2.2.2.2.2.2.1 M_nights M_why M_folds M_square M_want M_text u.2.2.2.2.2.2.2.2.2 M_row M_foldSet M_foldEdges M_foldNeeds M_foldYards M_least M_ways M_price M_rowBy M_columnBy M_rowOf M_wayBack M_slack M_isUsed M_lifted M_freed M_path) lv pc [.int v]) (hB28 : ∀ (M_position : Int32) (M_tokenAt : Int32) (M_token : Int64) (M_digits : Int32) (M_number : Int32) (M_faultAt : Int32) (M_readMany : Int32) (M_readWide : Int32) (M_readHigh : Int32) (M_read : Nat → Int32) (x1 : Int32), B28 M_position M_tokenAt M_token M_digits M_number M_faultAt M_readMany M_readWide M_readHigh M_read x1 → J x 0 0 2 (W_Model cyI cyJ cyZ a_M a_M_square a_M_want a_M_text a_M_read a_M_row a_M_foldSet a_M_foldEdges a_M_foldNeeds a_M_foldYards a_M_least a_M_ways a_M_price a_M_rowBy a_M_columnBy a_M_rowOf a_M_wayBack a_M_slack a_M_isUsed a_M_lifted a_M_freed a_M_path M_wide M_high M_hedges M_hurdles M_wants M_rest M_frozen M_bytes M_position M_tokenAt M_token M_digits M_number M_faultAt M_readMany M_readWide M_readHigh M_nights M_why M_folds M_square M_want M_text M_read M_row M_foldSet M_foldEdges M_foldNeeds M_foldYards M_least M_ways M_price M_rowBy M_columnBy M_rowOf M_wayBack M_slack M_isUsed M_lifted M_freed M_path) [(0, .ref a_M), (1, .int x1)] 28 []) (h : bk_X11_isRead_86 Q B28 M_position M_tokenAt M_token M_digits M_number M_faultAt M_readMany M_readWide M_readHigh M_read s0) :
    J x 0 0 2 (W_Model cyI cyJ cyZ a_M a_M_square a_M_want a_M_text a_M_read a_M_row a_M_foldSet a_M_foldEdges a_M_foldNeeds a_M_foldYards a_M_least a_M_ways a_M_price a_M_rowBy a_M_columnBy a_M_rowOf a_M_wayBack a_M_slack a_M_isUsed a_M_lifted a_M_freed a_M_path M_wide M_high M_hedges M_hurdles M_wants M_rest M_frozen M_bytes M_position M_tokenAt M_token M_digits M_number M_faultAt M_readMany M_readWide M_readHigh M_nights M_why M_folds M_square M_want M_text M_read M_row M_foldSet M_foldEdges M_foldNeeds M_foldYards M_least M_ways M_price M_rowBy M_columnBy M_rowOf M_wayBack M_slack M_isUsed M_lifted M_freed M_path) [(0, .ref a_M)] 86 [.int s0] := by
  unfold bk_X11_isRead_86 at h
  refine j_istore_n cx rfl [(1, .int s0), (0, .ref a_M)] (by decide) rfl dX11_isRead_86 (pn := 87) rfl ?_
  refine j_goto cx 28 dX11_isRead_87 rfl ?_
  refine j_sub [1, 0] [(0, .ref a_M), (1, .int s0)] rfl ?_
  exact hB28 _ _ _ _ _ _ _ _ _ _ _ h
set_option maxHeartbeats 4000000 in
set_option maxRecDepth 100000 in
theorem J_X11_isRead_85 {x : CX} {D : DG} {cyI cyJ cyZ : ClassId} {a_M a_M_square a_M_want a_M_text a_M_read a_M_row a_M_foldSet a_M_foldEdges a_M_foldNeeds a_M_foldYards a_M_least a_M_ways a_M_price a_M_rowBy a_M_columnBy a_M_rowOf a_M_wayBack a_M_slack a_M_isUsed a_M_lifted a_M_freed a_M_path : Nat} {M_wide : Int32} {M_high : Int32} {M_hedges : Int64} {M_hurdles : Int32} {M_wants : Int32} {M_rest : Int32} {M_frozen : Int32} {M_bytes : Int32} {M_position : Int32} {M_tokenAt : Int32} {M_token : Int64} {M_digits : Int32} {M_number : Int32} {M_faultAt : Int32} {M_readMany : Int32} {M_readWide : Int32} {M_readHigh : Int32} {M_nights : Int32} {M_why : Int32} {M_folds : Int32} {M_square : Nat → Int32} {M_want : Nat → Int32} {M_text : Nat → Int32} {M_read : Nat → Int32} {M_row : Nat → Int32} {M_foldSet : Nat → Int32} {M_foldEdges : Nat → Int64} {M_foldNeeds : Nat → Int32} {M_foldYards : Nat → Int32} {M_least : Nat → Int32} {M_ways : Nat → Int32} {M_price : Nat → Int32} {M_rowBy : Nat → Int32} {M_columnBy : Nat → Int32} {M_rowOf : Nat → Int32} {M_wayBack : Nat → Int32} {M_slack : Nat → Int32} {M_isUsed : Nat → Int32} {M_lifted : Nat → Int32} {M_freed : Nat → Int32} {M_path : Nat → Int32} {Q : Int32 → (Int32 × Int32 × Int64 × Int32 × Int32 × Int32 × Int32 × Int32 × Int32 × (Nat → Int32)) → Prop} {B28 : Int32 → Int32 → Int64 → Int32 → Int32 → Int32 → Int32 → Int32 → Int32 → (Nat → Int32) → Int32 → Prop} (cx : Cx x cX11_isRead 2 RX11 rm_X11_isRead D [(cyI, .int), (cyJ, .long), (cyZ, .boolean)]) (hR : ∀ (v : Int32) (u : Int32 × Int32 × Int64 × Int32 × Int32 × Int32 × Int32 × Int32 × Int32 × (Nat → Int32)) (pc : Nat) (lv : List (Nat × Value)), decode cX11_isRead pc = .ok (.ireturn, 1) → (v = 0 ∨ v = 1) → Q v u → J x 0 0 2 (W_Model cyI cyJ cyZ a_M a_M_square a_M_want a_M_text a_M_read a_M_row a_M_foldSet a_M_foldEdges a_M_foldNeeds a_M_foldYards a_M_least a_M_ways a_M_price a_M_rowBy a_M_columnBy a_M_rowOf a_M_wayBack a_M_slack a_M_isUsed a_M_lifted a_M_freed a_M_path M_wide M_high M_hedges M_hurdles M_wants M_rest M_frozen M_bytes u.1 u.2.1 u.2.2.1 u.2.2.2.1 u.2.2.2.2.1 u.2.2.2.2.2.1 u.2.2.2.2.2.2.1 u.2.2.2.2.2.2.2.1 u.2.2.2.2.2.2.2.2.1 M_nights M_why M_folds M_square M_want M_text u.2.2.2.2.2.2.2.2.2 M_row M_foldSet M_foldEdges M_foldNeeds M_foldYards M_least M_ways M_price M_rowBy M_columnBy M_rowOf M_wayBack M_slack M_isUsed M_lifted M_freed M_path) lv pc [.int v]) (hB28 : ∀ (M_position : Int32) (M_tokenAt : Int32) (M_token : Int64) (M_digits : Int32) (M_number : Int32) (M_faultAt : Int32) (M_readMany : Int32) (M_readWide : Int32) (M_readHigh : Int32) (M_read : Nat → Int32) (x1 : Int32), B28 M_position M_tokenAt M_token M_digits M_number M_faultAt M_readMany M_readWide M_readHigh M_read x1 → J x 0 0 2 (W_Model cyI cyJ cyZ a_M a_M_square a_M_want a_M_text a_M_read a_M_row a_M_foldSet a_M_foldEdges a_M_foldNeeds a_M_foldYards a_M_least a_M_ways a_M_price a_M_rowBy a_M_columnBy a_M_rowOf a_M_wayBack a_M_slack a_M_isUsed a_M_lifted a_M_freed a_M_path M_wide M_high M_hedges M_hurdles M_wants M_rest M_frozen M_bytes M_position M_tokenAt M_token M_digits M_number M_faultAt M_readMany M_readWide M_readHigh M_nights M_why M_folds M_square M_want M_text M_read M_row M_foldSet M_foldEdges M_foldNeeds M_foldYards M_least M_ways M_price M_rowBy M_columnBy M_rowOf M_wayBack M_slack M_isUsed M_lifted M_freed M_path) [(0, .ref a_M), (1, .int x1)] 28 []) (h : bk_X11_isRead_85 Q B28 M_position M_tokenAt M_token M_digits M_number M_faultAt M_readMany M_readWide M_readHigh M_read) :
    J x 0 0 2 (W_Model cyI cyJ cyZ a_M a_M_square a_M_want a_M_text a_M_read a_M_row a_M_foldSet a_M_foldEdges a_M_foldNeeds a_M_foldYards a_M_least a_M_ways a_M_price a_M_rowBy a_M_columnBy a_M_rowOf a_M_wayBack a_M_slack a_M_isUsed a_M_lifted a_M_freed a_M_path M_wide M_high M_hedges M_hurdles M_wants M_rest M_frozen M_bytes M_position M_tokenAt M_token M_digits M_number M_faultAt M_readMany M_readWide M_readHigh M_nights M_why M_folds M_square M_want M_text M_read M_row M_foldSet M_foldEdges M_foldNeeds M_foldYards M_least M_ways M_price M_rowBy M_columnBy M_rowOf M_wayBack M_slack M_isUsed M_lifted M_freed M_path) [(0, .ref a_M)] 85 [] := by
  unfold bk_X11_isRead_85 at h
  refine j_iconst cx (v := 0) (by decide) dX11_isRead_85 (pn := 86) rfl ?_
  exact J_X11_isRead_86 cx hR hB28 h
set_option maxHeartbeats 4000000 in
set_option maxRecDepth 100000 in
theorem B_X11_isRead_28 {x : CX} {D : DG} {cyI cyJ cyZ : ClassId} {a_M a_M_square a_M_want a_M_text a_M_read a_M_row a_M_foldSet a_M_foldEdges a_M_foldNeeds a_M_foldYards a_M_least a_M_ways a_M_price a_M_rowBy a_M_columnBy a_M_rowOf a_M_wayBack a_M_slack a_M_isUsed a_M_lifted a_M_freed a_M_path : Nat} {M_wide : Int32} {M_high : Int32} {M_hedges : Int64} {M_hurdles : Int32} {M_wants : Int32} {M_rest : Int32} {M_frozen : Int32} {M_bytes : Int32} {M_position : Int32} {M_tokenAt : Int32} {M_token : Int64} {M_digits : Int32} {M_number : Int32} {M_faultAt : Int32} {M_readMany : Int32} {M_readWide : Int32} {M_readHigh : Int32} {M_nights : Int32} {M_why : Int32} {M_folds : Int32} {M_square : Nat → Int32} {M_want : Nat → Int32} {M_text : Nat → Int32} {M_read : Nat → Int32} {M_row : Nat → Int32} {M_foldSet : Nat → Int32} {M_foldEdges : Nat → Int64} {M_foldNeeds : Nat → Int32} {M_foldYards : Nat → Int32} {M_least : Nat → Int32} {M_ways : Nat → Int32} {M_price : Nat → Int32} {M_rowBy : Nat → Int32} {M_columnBy : Nat → Int32} {M_rowOf : Nat → Int32} {M_wayBack : Nat → Int32} {M_slack : Nat → Int32} {M_isUsed : Nat → Int32} {M_lifted : Nat → Int32} {M_freed : Nat → Int32} {M_path : Nat → Int32} {x1 : Int32} {Q : Int32 → (Int32 × Int32 × Int64 × Int32 × Int32 × Int32 × Int32 × Int32 × Int32 × (Nat → Int32)) → Prop} {B28 : Int32 → Int32 → Int64 → Int32 → Int32 → Int32 → Int32 → Int32 → Int32 → (Nat → Int32) → Int32 → Prop} (cx : Cx x cX11_isRead 2 RX11 rm_X11_isRead D [(cyI, .int), (cyJ, .long), (cyZ, .boolean)]) (hR : ∀ (v : Int32) (u : Int32 × Int32 × Int64 × Int32 × Int32 × Int32 × Int32 × Int32 × Int32 × (Nat → Int32)) (pc : Nat) (lv : List (Nat × Value)), decode cX11_isRead pc = .ok (.ireturn, 1) → (v = 0 ∨ v = 1) → Q v u → J x 0 0 2 (W_Model cyI cyJ cyZ a_M a_M_square a_M_want a_M_text a_M_read a_M_row a_M_foldSet a_M_foldEdges a_M_foldNeeds a_M_foldYards a_M_least a_M_ways a_M_price a_M_rowBy a_M_columnBy a_M_rowOf a_M_wayBack a_M_slack a_M_isUsed a_M_lifted a_M_freed a_M_path M_wide M_high M_hedges M_hurdles M_wants M_rest M_frozen M_bytes u.1 u.2.1 u.2.2.1 u.2.2.2.1 u.2.2.2.2.1 u.2.2.2.2.2.1 u.2.2.2.2.2.2.1 u.2.2.2.2.2.2.2.1 u.2.2.2.2.2.2.2.2.1 M_nights M_why M_folds M_square M_want M_text u.2.2.2.2.2.2.2.2.2 M_row M_foldSet M_foldEdges M_foldNeeds M_foldYards M_least M_ways M_price M_rowBy M_columnBy M_rowOf M_wayBack M_slack M_isUsed M_lifted M_freed M_path) lv pc [.int v]) (hB28 : ∀ (M_position : Int32) (M_tokenAt : Int32) (M_token : Int64) (M_digits : Int32) (M_number : Int32) (M_faultAt : Int32) (M_readMany : Int32) (M_readWide : Int32) (M_readHigh : Int32) (M_read : Nat → Int32) (x1 : Int32), B28 M_position M_tokenAt M_token M_digits M_number M_faultAt M_readMany M_readWide M_readHigh M_read x1 → J x 0 0 2 (W_Model cyI cyJ cyZ a_M a_M_square a_M_want a_M_text a_M_read a_M_row a_M_foldSet a_M_foldEdges a_M_foldNeeds a_M_foldYards a_M_least a_M_ways a_M_price a_M_rowBy a_M_columnBy a_M_rowOf a_M_wayBack a_M_slack a_M_isUsed a_M_lifted a_M_freed a_M_path M_wide M_high M_hedges M_hurdles M_wants M_rest M_frozen M_bytes M_position M_tokenAt M_token M_digits M_number M_faultAt M_readMany M_readWide M_readHigh M_nights M_why M_folds M_square M_want M_text M_read M_row M_foldSet M_foldEdges M_foldNeeds M_foldYards M_least M_ways M_price M_rowBy M_columnBy M_rowOf M_wayBack M_slack M_isUsed M_lifted M_freed M_path) [(0, .ref a_M), (1, .int x1)] 28 []) (h : bd_X11_isRead_28 Q B28 M_bytes M_text M_position M_tokenAt M_token M_digits M_number M_faultAt M_readMany M_readWide M_readHigh M_read x1) :
    J x 0 0 2 (W_Model cyI cyJ cyZ a_M a_M_square a_M_want a_M_text a_M_read a_M_row a_M_foldSet a_M_foldEdges a_M_foldNeeds a_M_foldYards a_M_least a_M_ways a_M_price a_M_rowBy a_M_columnBy a_M_rowOf a_M_wayBack a_M_slack a_M_isUsed a_M_lifted a_M_freed a_M_path M_wide M_high M_hedges M_hurdles M_wants M_rest M_frozen M_bytes M_position M_tokenAt M_token M_digits M_number M_faultAt M_readMany M_readWide M_readHigh M_nights M_why M_folds M_square M_want M_text M_read M_row M_foldSet M_foldEdges M_foldNeeds M_foldYards M_least M_ways M_price M_rowBy M_columnBy M_rowOf M_wayBack M_slack M_isUsed M_lifted M_freed M_path) [(0, .ref a_M), (1, .int x1)] 28 [] := by
  unfold bd_X11_isRead_28 at h
  refine j_iload_n cx 1 rfl rfl dX11_isRead_28 (pn := 29) rfl ?_
  refine j_if_eq cx 90 dX11_isRead_29 (pn := 32) rfl rfl (fun c1 => ?_) (fun c1 => ?_)
  · have h := h.1 c1
    refine j_aload_n cx 0 rfl rfl dX11_isRead_90 (pn := 91) rfl ?_
    refine j_get cx inGX11 0 rfl rfl 13 (by decide) q_fl_X11_113 rfl rfl dX11_isRead_91 (pn := 94) rfl ?_
    refine j_ldc2 cx q_cl_X11_111 dX11_isRead_94 (pn := 97) rfl ?_
    refine j_lif_eq cx 108 dX11_isRead_97 (pm := 98) (pn := 101) rfl dX11_isRead_98 rfl rfl (fun c2 => ?_) (fun c2 => ?_)
    · have h := h.1 c2
      refine j_sub [] [] rfl ?_
      exact J_X11_isRead_108 cx hR h
    · have h := h.2 c2
      refine j_aload_n cx 0 rfl rfl dX11_isRead_101 (pn := 102) rfl ?_
      refine j_callvI0 cx q_inst_X11_fails q_sel_X11_fails (b := a_M) (As := []) (rest := []) (c_X11_fails h) ⟨q_code_X11_fails, q_ml_X11_133, q_init_X11, hd_X11_fails, ⟨Nat.le_of_ble_eq_true rfl, Nat.le_of_ble_eq_true rfl⟩, Nat.le_of_ble_eq_true rfl, Nat.le_of_ble_eq_true rfl⟩ (q0 := 0) rfl rfl rfl rfl (Nat.le_of_ble_eq_true rfl) dX11_isRead_102 (pn := 105) rfl (fun r3 u4 h => ?_)
      show J x 0 0 2 (W_Model cyI cyJ cyZ a_M a_M_square a_M_want a_M_text a_M_read a_M_row a_M_foldSet a_M_foldEdges a_M_foldNeeds a_M_foldYards a_M_least a_M_ways a_M_price a_M_rowBy a_M_columnBy a_M_rowOf a_M_wayBack a_M_slack a_M_isUsed a_M_lifted a_M_freed a_M_path M_wide M_high M_hedges M_hurdles M_wants M_rest M_frozen M_bytes M_position M_tokenAt M_token M_digits M_number u4 M_readMany M_readWide M_readHigh M_nights M_why M_folds M_square M_want M_text M_read M_row M_foldSet M_foldEdges M_foldNeeds M_foldYards M_least M_ways M_price M_rowBy M_columnBy M_rowOf M_wayBack M_slack M_isUsed M_lifted M_freed M_path) [(0, .ref a_M), (1, .int x1)] 105 [.int r3]
      refine j_if_eq cx 112 dX11_isRead_105 (pn := 108) rfl rfl (fun c5 => ?_) (fun c5 => ?_)
      · have h := h.1 c5
        refine j_iconst cx (v := 0) (by decide) dX11_isRead_112 (pn := 113) rfl ?_
        exact hR 0 (M_position, M_tokenAt, M_token, M_digits, M_number, u4, M_readMany, M_readWide, M_readHigh, M_read) 113 _ dX11_isRead_113 (Or.inl rfl) h
      · have h := h.2 c5
        refine j_sub [] [] rfl ?_
        exact J_X11_isRead_108 cx hR h
  · have h := h.2 c1
    refine j_aload_n cx 0 rfl rfl dX11_isRead_32 (pn := 33) rfl ?_
    refine j_iconst cx (v := 4) (by decide) dX11_isRead_33 (pn := 34) rfl ?_
    refine j_aload_n cx 0 rfl rfl dX11_isRead_34 (pn := 35) rfl ?_
    refine j_get cx inGX11 0 rfl rfl 17 (by decide) q_fl_X11_186 rfl rfl dX11_isRead_35 (pn := 38) rfl ?_
    refine j_imul cx dX11_isRead_38 (pn := 39) rfl ?_
    refine j_callvI0 cx q_inst_X11_isLine q_sel_X11_isLine (b := a_M) (As := [.int (4 * M_readMany)]) (rest := []) (c_X11_isLine h) ⟨q_code_X11_isLine, q_ml_X11_189, q_init_X11, hd_X11_isLine, ⟨Nat.le_of_ble_eq_true rfl, Nat.le_of_ble_eq_true rfl⟩, Nat.le_of_ble_eq_true rfl, Nat.le_of_ble_eq_true rfl⟩ (q0 := 0) rfl rfl rfl rfl (Nat.le_of_ble_eq_true rfl) dX11_isRead_39 (pn := 42) rfl (fun r6 u7 h => ?_)
    show J x 0 0 2 (W_Model cyI cyJ cyZ a_M a_M_square a_M_want a_M_text a_M_read a_M_row a_M_foldSet a_M_foldEdges a_M_foldNeeds a_M_foldYards a_M_least a_M_ways a_M_price a_M_rowBy a_M_columnBy a_M_rowOf a_M_wayBack a_M_slack a_M_isUsed a_M_lifted a_M_freed a_M_path M_wide M_high M_hedges M_hurdles M_wants M_rest M_frozen M_bytes u7.1 u7.2.1 u7.2.2.1 u7.2.2.2.1 u7.2.2.2.2.1 u7.2.2.2.2.2.1 M_readMany u7.2.2.2.2.2.2.1 u7.2.2.2.2.2.2.2.1 M_nights M_why M_folds M_square M_want M_text u7.2.2.2.2.2.2.2.2 M_row M_foldSet M_foldEdges M_foldNeeds M_foldYards M_least M_ways M_price M_rowBy M_columnBy M_rowOf M_wayBack M_slack M_isUsed M_lifted M_freed M_path) [(0, .ref a_M), (1, .int x1)] 42 [.int r6]
    refine j_if_ne cx 47 dX11_isRead_42 (pn := 45) rfl rfl (fun c8 => ?_) (fun c8 => ?_)
    · have h := h.1 c8
      refine j_aload_n cx 0 rfl rfl dX11_isRead_47 (pn := 48) rfl ?_
      refine j_dup cx rfl dX11_isRead_48 (pn := 49) rfl ?_
      refine j_get cx inGX11 0 rfl rfl 17 (by decide) q_fl_X11_186 rfl rfl dX11_isRead_49 (pn := 52) rfl ?_
      refine j_iconst cx (v := 1) (by decide) dX11_isRead_52 (pn := 53) rfl ?_
      refine j_iadd cx dX11_isRead_53 (pn := 54) rfl ?_
      refine j_topi (fun y9 ey9 => ?_)
      have h := h y9 ey9
      refine j_put cx tyX11 tyX11_ok nmX11 inGX11 0 rfl rfl 17 (by decide) q_fl_X11_186 rfl rfl rfl rfl rfl (Nat.le_of_ble_eq_true rfl) (W_Model cyI cyJ cyZ a_M a_M_square a_M_want a_M_text a_M_read a_M_row a_M_foldSet a_M_foldEdges a_M_foldNeeds a_M_foldYards a_M_least a_M_ways a_M_price a_M_rowBy a_M_columnBy a_M_rowOf a_M_wayBack a_M_slack a_M_isUsed a_M_lifted a_M_freed a_M_path M_wide M_high M_hedges M_hurdles M_wants M_rest M_frozen M_bytes u7.1 u7.2.1 u7.2.2.1 u7.2.2.2.1 u7.2.2.2.2.1 u7.2.2.2.2.2.1 y9 u7.2.2.2.2.2.2.1 u7.2.2.2.2.2.2.2.1 M_nights M_why M_folds M_square M_want M_text u7.2.2.2.2.2.2.2.2 M_row M_foldSet M_foldEdges M_foldNeeds M_foldYards M_least M_ways M_price M_rowBy M_columnBy M_rowOf M_wayBack M_slack M_isUsed M_lifted M_freed M_path) rfl dX11_isRead_54 (pn := 57) rfl ?_
      refine j_aload_n cx 0 rfl rfl dX11_isRead_57 (pn := 58) rfl ?_
      refine j_callvV0 cx q_inst_X11_nextToken q_sel_X11_nextToken (b := a_M) (As := []) (rest := []) (c_X11_nextToken h) ⟨q_code_X11_nextToken, q_ml_X11_130, q_init_X11, hd_X11_nextToken, ⟨Nat.le_of_ble_eq_true rfl, Nat.le_of_ble_eq_true rfl⟩, Nat.le_of_ble_eq_true rfl, Nat.le_of_ble_eq_true rfl⟩ (q0 := 0) rfl rfl rfl rfl (Nat.le_of_ble_eq_true rfl) dX11_isRead_58 (pn := 61) rfl (fun u10 h => ?_)
      show J x 0 0 2 (W_Model cyI cyJ cyZ a_M a_M_square a_M_want a_M_text a_M_read a_M_row a_M_foldSet a_M_foldEdges a_M_foldNeeds a_M_foldYards a_M_least a_M_ways a_M_price a_M_rowBy a_M_columnBy a_M_rowOf a_M_wayBack a_M_slack a_M_isUsed a_M_lifted a_M_freed a_M_path M_wide M_high M_hedges M_hurdles M_wants M_rest M_frozen M_bytes u10.1 u10.2.1 u10.2.2.1 u10.2.2.2.1 u10.2.2.2.2 u7.2.2.2.2.2.1 y9 u7.2.2.2.2.2.2.1 u7.2.2.2.2.2.2.2.1 M_nights M_why M_folds M_square M_want M_text u7.2.2.2.2.2.2.2.2 M_row M_foldSet M_foldEdges M_foldNeeds M_foldYards M_least M_ways M_price M_rowBy M_columnBy M_rowOf M_wayBack M_slack M_isUsed M_lifted M_freed M_path) [(0, .ref a_M), (1, .int x1)] 61 []
      refine j_aload_n cx 0 rfl rfl dX11_isRead_61 (pn := 62) rfl ?_
      refine j_get cx inGX11 0 rfl rfl 13 (by decide) q_fl_X11_113 rfl rfl dX11_isRead_62 (pn := 65) rfl ?_
      refine j_ldc2 cx q_cl_X11_125 dX11_isRead_65 (pn := 68) rfl ?_
      refine j_lif_ne cx 85 dX11_isRead_68 (pm := 69) (pn := 72) rfl dX11_isRead_69 rfl rfl (fun c11 => ?_) (fun c11 => ?_)
      · have h := h.1 c11
        refine j_sub [0] [(0, .ref a_M)] rfl ?_
        exact J_X11_isRead_85 cx hR hB28 h
      · have h := h.2 c11
        refine j_aload_n cx 0 rfl rfl dX11_isRead_72 (pn := 73) rfl ?_
        refine j_get cx inGX11 0 rfl rfl 17 (by decide) q_fl_X11_186 rfl rfl dX11_isRead_73 (pn := 76) rfl ?_
        refine j_bipush cx (v := 10) (by decide) dX11_isRead_76 (pn := 78) rfl ?_
        refine j_icmp_ge cx 85 dX11_isRead_78 (pn := 81) rfl rfl (fun c12 => ?_) (fun c12 => ?_)
        · have h := h.1 c12
          refine j_sub [0] [(0, .ref a_M)] rfl ?_
          exact J_X11_isRead_85 cx hR hB28 h
        · have h := h.2 c12
          refine j_iconst cx (v := 1) (by decide) dX11_isRead_81 (pn := 82) rfl ?_
          refine j_goto cx 86 dX11_isRead_82 rfl ?_
          refine j_sub [0] [(0, .ref a_M)] rfl ?_
          exact J_X11_isRead_86 cx hR hB28 h
    · have h := h.2 c8
      refine j_iconst cx (v := 0) (by decide) dX11_isRead_45 (pn := 46) rfl ?_
      exact hR 0 (u7.1, u7.2.1, u7.2.2.1, u7.2.2.2.1, u7.2.2.2.2.1, u7.2.2.2.2.2.1, M_readMany, u7.2.2.2.2.2.2.1, u7.2.2.2.2.2.2.2.1, u7.2.2.2.2.2.2.2.2) 46 _ dX11_isRead_46 (Or.inl rfl) h
set_option maxHeartbeats 4000000 in
set_option maxRecDepth 100000 in
theorem J_X11_isRead_28 {x : CX} {D : DG} {cyI cyJ cyZ : ClassId} {a_M a_M_square a_M_want a_M_text a_M_read a_M_row a_M_foldSet a_M_foldEdges a_M_foldNeeds a_M_foldYards a_M_least a_M_ways a_M_price a_M_rowBy a_M_columnBy a_M_rowOf a_M_wayBack a_M_slack a_M_isUsed a_M_lifted a_M_freed a_M_path : Nat} {M_wide : Int32} {M_high : Int32} {M_hedges : Int64} {M_hurdles : Int32} {M_wants : Int32} {M_rest : Int32} {M_frozen : Int32} {M_bytes : Int32} {M_position : Int32} {M_tokenAt : Int32} {M_token : Int64} {M_digits : Int32} {M_number : Int32} {M_faultAt : Int32} {M_readMany : Int32} {M_readWide : Int32} {M_readHigh : Int32} {M_nights : Int32} {M_why : Int32} {M_folds : Int32} {M_square : Nat → Int32} {M_want : Nat → Int32} {M_text : Nat → Int32} {M_read : Nat → Int32} {M_row : Nat → Int32} {M_foldSet : Nat → Int32} {M_foldEdges : Nat → Int64} {M_foldNeeds : Nat → Int32} {M_foldYards : Nat → Int32} {M_least : Nat → Int32} {M_ways : Nat → Int32} {M_price : Nat → Int32} {M_rowBy : Nat → Int32} {M_columnBy : Nat → Int32} {M_rowOf : Nat → Int32} {M_wayBack : Nat → Int32} {M_slack : Nat → Int32} {M_isUsed : Nat → Int32} {M_lifted : Nat → Int32} {M_freed : Nat → Int32} {M_path : Nat → Int32} {x1 : Int32} {Q : Int32 → (Int32 × Int32 × Int64 × Int32 × Int32 × Int32 × Int32 × Int32 × Int32 × (Nat → Int32)) → Prop} (cx : Cx x cX11_isRead 2 RX11 rm_X11_isRead D [(cyI, .int), (cyJ, .long), (cyZ, .boolean)]) (hR : ∀ (v : Int32) (u : Int32 × Int32 × Int64 × Int32 × Int32 × Int32 × Int32 × Int32 × Int32 × (Nat → Int32)) (pc : Nat) (lv : List (Nat × Value)), decode cX11_isRead pc = .ok (.ireturn, 1) → (v = 0 ∨ v = 1) → Q v u → J x 0 0 2 (W_Model cyI cyJ cyZ a_M a_M_square a_M_want a_M_text a_M_read a_M_row a_M_foldSet a_M_foldEdges a_M_foldNeeds a_M_foldYards a_M_least a_M_ways a_M_price a_M_rowBy a_M_columnBy a_M_rowOf a_M_wayBack a_M_slack a_M_isUsed a_M_lifted a_M_freed a_M_path M_wide M_high M_hedges M_hurdles M_wants M_rest M_frozen M_bytes u.1 u.2.1 u.2.2.1 u.2.2.2.1 u.2.2.2.2.1 u.2.2.2.2.2.1 u.2.2.2.2.2.2.1 u.2.2.2.2.2.2.2.1 u.2.2.2.2.2.2.2.2.1 M_nights M_why M_folds M_square M_want M_text u.2.2.2.2.2.2.2.2.2 M_row M_foldSet M_foldEdges M_foldNeeds M_foldYards M_least M_ways M_price M_rowBy M_columnBy M_rowOf M_wayBack M_slack M_isUsed M_lifted M_freed M_path) lv pc [.int v]) (h : lp_X11_isRead_28 Q  M_bytes M_text M_position M_tokenAt M_token M_digits M_number M_faultAt M_readMany M_readWide M_readHigh M_read x1) :
    J x 0 0 2 (W_Model cyI cyJ cyZ a_M a_M_square a_M_want a_M_text a_M_read a_M_row a_M_foldSet a_M_foldEdges a_M_foldNeeds a_M_foldYards a_M_least a_M_ways a_M_price a_M_rowBy a_M_columnBy a_M_rowOf a_M_wayBack a_M_slack a_M_isUsed a_M_lifted a_M_freed a_M_path M_wide M_high M_hedges M_hurdles M_wants M_rest M_frozen M_bytes M_position M_tokenAt M_token M_digits M_number M_faultAt M_readMany M_readWide M_readHigh M_nights M_why M_folds M_square M_want M_text M_read M_row M_foldSet M_foldEdges M_foldNeeds M_foldYards M_least M_ways M_price M_rowBy M_columnBy M_rowOf M_wayBack M_slack M_isUsed M_lifted M_freed M_path) [(0, .ref a_M), (1, .int x1)] 28 [] := by
  obtain ⟨I, ⟨n, h0⟩, hb⟩ := h
  revert M_position M_tokenAt M_token M_digits M_number M_faultAt M_readMany M_readWide M_readHigh M_read x1
  induction n using Nat.strongRecOn with
  | _ n ih =>
    intro M_position M_tokenAt M_token M_digits M_number M_faultAt M_readMany M_readWide M_readHigh M_read x1 h0
    exact B_X11_isRead_28 cx hR (fun _ _ _ _ _ _ _ _ _ _ _ hz => by obtain ⟨n2, hlt, hI⟩ := hz; exact ih n2 hlt hI) (hb n M_position M_tokenAt M_token M_digits M_number M_faultAt M_readMany M_readWide M_readHigh M_read x1 h0)
set_option maxHeartbeats 4000000 in
set_option maxRecDepth 100000 in
theorem c_X11_isRead {D : DG} {cyI cyJ cyZ : ClassId} {a_M a_M_square a_M_want a_M_text a_M_read a_M_row a_M_foldSet a_M_foldEdges a_M_foldNeeds a_M_foldYards a_M_least a_M_ways a_M_price a_M_rowBy a_M_columnBy a_M_rowOf a_M_wayBack a_M_slack a_M_isUsed a_M_lifted a_M_freed a_M_path : Nat} {M_wide : Int32} {M_high : Int32} {M_hedges : Int64} {M_hurdles : Int32} {M_wants : Int32} {M_rest : Int32} {M_frozen : Int32} {M_bytes : Int32} {M_position : Int32} {M_tokenAt : Int32} {M_token : Int64} {M_digits : Int32} {M_number : Int32} {M_faultAt : Int32} {M_readMany : Int32} {M_readWide : Int32} {M_readHigh : Int32} {M_nights : Int32} {M_why : Int32} {M_folds : Int32} {M_square : Nat → Int32} {M_want : Nat → Int32} {M_text : Nat → Int32} {M_read : Nat → Int32} {M_row : Nat → Int32} {M_foldSet : Nat → Int32} {M_foldEdges : Nat → Int64} {M_foldNeeds : Nat → Int32} {M_foldYards : Nat → Int32} {M_least : Nat → Int32} {M_ways : Nat → Int32} {M_price : Nat → Int32} {M_rowBy : Nat → Int32} {M_columnBy : Nat → Int32} {M_rowOf : Nat → Int32} {M_wayBack : Nat → Int32} {M_slack : Nat → Int32} {M_isUsed : Nat → Int32} {M_lifted : Nat → Int32} {M_freed : Nat → Int32} {M_path : Nat → Int32} {Q : Int32 → (Int32 × Int32 × Int64 × Int32 × Int32 × Int32 × Int32 × Int32 × Int32 × (Nat → Int32)) → Prop} (h : wp_X11_isRead M_wide M_high M_bytes M_tokenAt M_token M_digits M_number M_faultAt M_text M_read Q) :
    MetI yX11_isRead cX11_isRead 2 (some .boolean) rm_X11_isRead D [(cyI, .int), (cyJ, .long), (cyZ, .boolean)] [.ref a_M] (W_Model cyI cyJ cyZ a_M a_M_square a_M_want a_M_text a_M_read a_M_row a_M_foldSet a_M_foldEdges a_M_foldNeeds a_M_foldYards a_M_least a_M_ways a_M_price a_M_rowBy a_M_columnBy a_M_rowOf a_M_wayBack a_M_slack a_M_isUsed a_M_lifted a_M_freed a_M_path M_wide M_high M_hedges M_hurdles M_wants M_rest M_frozen M_bytes M_position M_tokenAt M_token M_digits M_number M_faultAt M_readMany M_readWide M_readHigh M_nights M_why M_folds M_square M_want M_text M_read M_row M_foldSet M_foldEdges M_foldNeeds M_foldYards M_least M_ways M_price M_rowBy M_columnBy M_rowOf M_wayBack M_slack M_isUsed M_lifted M_freed M_path) (fun u : Int32 × Int32 × Int64 × Int32 × Int32 × Int32 × Int32 × Int32 × Int32 × (Nat → Int32) => (W_Model cyI cyJ cyZ a_M a_M_square a_M_want a_M_text a_M_read a_M_row a_M_foldSet a_M_foldEdges a_M_foldNeeds a_M_foldYards a_M_least a_M_ways a_M_price a_M_rowBy a_M_columnBy a_M_rowOf a_M_wayBack a_M_slack a_M_isUsed a_M_lifted a_M_freed a_M_path M_wide M_high M_hedges M_hurdles M_wants M_rest M_frozen M_bytes u.1 u.2.1 u.2.2.1 u.2.2.2.1 u.2.2.2.2.1 u.2.2.2.2.2.1 u.2.2.2.2.2.2.1 u.2.2.2.2.2.2.2.1 u.2.2.2.2.2.2.2.2.1 M_nights M_why M_folds M_square M_want M_text u.2.2.2.2.2.2.2.2.2 M_row M_foldSet M_foldEdges M_foldNeeds M_foldYards M_least M_ways M_price M_rowBy M_columnBy M_rowOf M_wayBack M_slack M_isUsed M_lifted M_freed M_path)) (fun v u => Q v u) := by
  unfold wp_X11_isRead at h
  refine metZ_of (by decide) (Nat.le_of_ble_eq_true rfl) (fun x cx0 hR0 => ?_)
  have cx : Cx x cX11_isRead 2 RX11 rm_X11_isRead D [(cyI, .int), (cyJ, .long), (cyZ, .boolean)] := cx0
  have hR : ∀ (v : Int32) (u : Int32 × Int32 × Int64 × Int32 × Int32 × Int32 × Int32 × Int32 × Int32 × (Nat → Int32)) (pc : Nat) (lv : List (Nat × Value)), decode cX11_isRead pc = .ok (.ireturn, 1) → (v = 0 ∨ v = 1) → Q v u → J x 0 0 2 (W_Model cyI cyJ cyZ a_M a_M_square a_M_want a_M_text a_M_read a_M_row a_M_foldSet a_M_foldEdges a_M_foldNeeds a_M_foldYards a_M_least a_M_ways a_M_price a_M_rowBy a_M_columnBy a_M_rowOf a_M_wayBack a_M_slack a_M_isUsed a_M_lifted a_M_freed a_M_path M_wide M_high M_hedges M_hurdles M_wants M_rest M_frozen M_bytes u.1 u.2.1 u.2.2.1 u.2.2.2.1 u.2.2.2.2.1 u.2.2.2.2.2.1 u.2.2.2.2.2.2.1 u.2.2.2.2.2.2.2.1 u.2.2.2.2.2.2.2.2.1 M_nights M_why M_folds M_square M_want M_text u.2.2.2.2.2.2.2.2.2 M_row M_foldSet M_foldEdges M_foldNeeds M_foldYards M_least M_ways M_price M_rowBy M_columnBy M_rowOf M_wayBack M_slack M_isUsed M_lifted M_freed M_path) lv pc [.int v] := (fun v u pc lv d hz hq => hR0 v u pc lv d hz hq)
  show J x 0 0 2 (W_Model cyI cyJ cyZ a_M a_M_square a_M_want a_M_text a_M_read a_M_row a_M_foldSet a_M_foldEdges a_M_foldNeeds a_M_foldYards a_M_least a_M_ways a_M_price a_M_rowBy a_M_columnBy a_M_rowOf a_M_wayBack a_M_slack a_M_isUsed a_M_lifted a_M_freed a_M_path M_wide M_high M_hedges M_hurdles M_wants M_rest M_frozen M_bytes M_position M_tokenAt M_token M_digits M_number M_faultAt M_readMany M_readWide M_readHigh M_nights M_why M_folds M_square M_want M_text M_read M_row M_foldSet M_foldEdges M_foldNeeds M_foldYards M_least M_ways M_price M_rowBy M_columnBy M_rowOf M_wayBack M_slack M_isUsed M_lifted M_freed M_path) [(0, .ref a_M)] 0 []
  refine j_aload_n cx 0 rfl rfl dX11_isRead_0 (pn := 1) rfl ?_
  refine j_iconst cx (v := 0) (by decide) dX11_isRead_1 (pn := 2) rfl ?_
  refine j_put cx tyX11 tyX11_ok nmX11 inGX11 0 rfl rfl 11 (by decide) q_fl_X11_99 rfl rfl rfl rfl rfl (Nat.le_of_ble_eq_true rfl) (W_Model cyI cyJ cyZ a_M a_M_square a_M_want a_M_text a_M_read a_M_row a_M_foldSet a_M_foldEdges a_M_foldNeeds a_M_foldYards a_M_least a_M_ways a_M_price a_M_rowBy a_M_columnBy a_M_rowOf a_M_wayBack a_M_slack a_M_isUsed a_M_lifted a_M_freed a_M_path M_wide M_high M_hedges M_hurdles M_wants M_rest M_frozen M_bytes 0 M_tokenAt M_token M_digits M_number M_faultAt M_readMany M_readWide M_readHigh M_nights M_why M_folds M_square M_want M_text M_read M_row M_foldSet M_foldEdges M_foldNeeds M_foldYards M_least M_ways M_price M_rowBy M_columnBy M_rowOf M_wayBack M_slack M_isUsed M_lifted M_freed M_path) rfl dX11_isRead_2 (pn := 5) rfl ?_
  refine j_aload_n cx 0 rfl rfl dX11_isRead_5 (pn := 6) rfl ?_
  refine j_iconst cx (v := 0) (by decide) dX11_isRead_6 (pn := 7) rfl ?_
  refine j_put cx tyX11 tyX11_ok nmX11 inGX11 0 rfl rfl 17 (by decide) q_fl_X11_186 rfl rfl rfl rfl rfl (Nat.le_of_ble_eq_true rfl) (W_Model cyI cyJ cyZ a_M a_M_square a_M_want a_M_text a_M_read a_M_row a_M_foldSet a_M_foldEdges a_M_foldNeeds a_M_foldYards a_M_least a_M_ways a_M_price a_M_rowBy a_M_columnBy a_M_rowOf a_M_wayBack a_M_slack a_M_isUsed a_M_lifted a_M_freed a_M_path M_wide M_high M_hedges M_hurdles M_wants M_rest M_frozen M_bytes 0 M_tokenAt M_token M_digits M_number M_faultAt 0 M_readWide M_readHigh M_nights M_why M_folds M_square M_want M_text M_read M_row M_foldSet M_foldEdges M_foldNeeds M_foldYards M_least M_ways M_price M_rowBy M_columnBy M_rowOf M_wayBack M_slack M_isUsed M_lifted M_freed M_path) rfl dX11_isRead_7 (pn := 10) rfl ?_
  refine j_aload_n cx 0 rfl rfl dX11_isRead_10 (pn := 11) rfl ?_
  refine j_aload_n cx 0 rfl rfl dX11_isRead_11 (pn := 12) rfl ?_
  refine j_get cx inGX11 0 rfl rfl 0 (by decide) q_fl_X11_7 rfl rfl dX11_isRead_12 (pn := 15) rfl ?_
  refine j_put cx tyX11 tyX11_ok nmX11 inGX11 0 rfl rfl 19 (by decide) q_fl_X11_137 rfl rfl rfl rfl rfl (Nat.le_of_ble_eq_true rfl) (W_Model cyI cyJ cyZ a_M a_M_square a_M_want a_M_text a_M_read a_M_row a_M_foldSet a_M_foldEdges a_M_foldNeeds a_M_foldYards a_M_least a_M_ways a_M_price a_M_rowBy a_M_columnBy a_M_rowOf a_M_wayBack a_M_slack a_M_isUsed a_M_lifted a_M_freed a_M_path M_wide M_high M_hedges M_hurdles M_wants M_rest M_frozen M_bytes 0 M_tokenAt M_token M_digits M_number M_faultAt 0 M_wide M_readHigh M_nights M_why M_folds M_square M_want M_text M_read M_row M_foldSet M_foldEdges M_foldNeeds M_foldYards M_least M_ways M_price M_rowBy M_columnBy M_rowOf M_wayBack M_slack M_isUsed M_lifted M_freed M_path) rfl dX11_isRead_15 (pn := 18) rfl ?_
  refine j_aload_n cx 0 rfl rfl dX11_isRead_18 (pn := 19) rfl ?_
  refine j_aload_n cx 0 rfl rfl dX11_isRead_19 (pn := 20) rfl ?_
  refine j_get cx inGX11 0 rfl rfl 1 (by decide) q_fl_X11_13 rfl rfl dX11_isRead_20 (pn := 23) rfl ?_
  refine j_put cx tyX11 tyX11_ok nmX11 inGX11 0 rfl rfl 20 (by decide) q_fl_X11_143 rfl rfl rfl rfl rfl (Nat.le_of_ble_eq_true rfl) (W_Model cyI cyJ cyZ a_M a_M_square a_M_want a_M_text a_M_read a_M_row a_M_foldSet a_M_foldEdges a_M_foldNeeds a_M_foldYards a_M_least a_M_ways a_M_price a_M_rowBy a_M_columnBy a_M_rowOf a_M_wayBack a_M_slack a_M_isUsed a_M_lifted a_M_freed a_M_path M_wide M_high M_hedges M_hurdles M_wants M_rest M_frozen M_bytes 0 M_tokenAt M_token M_digits M_number M_faultAt 0 M_wide M_high M_nights M_why M_folds M_square M_want M_text M_read M_row M_foldSet M_foldEdges M_foldNeeds M_foldYards M_least M_ways M_price M_rowBy M_columnBy M_rowOf M_wayBack M_slack M_isUsed M_lifted M_freed M_path) rfl dX11_isRead_23 (pn := 26) rfl ?_
  refine j_iconst cx (v := 1) (by decide) dX11_isRead_26 (pn := 27) rfl ?_
  refine j_istore_n cx rfl [(1, .int 1), (0, .ref a_M)] (by decide) rfl dX11_isRead_27 (pn := 28) rfl ?_
  refine j_sub [1, 0] [(0, .ref a_M), (1, .int 1)] rfl ?_
  exact J_X11_isRead_28 cx hR h
theorem dX11_fault_0 : decode cX11_fault 0 = .ok (.aload_n 0, 1) := by decide +kernel
theorem dX11_fault_1 : decode cX11_fault 1 = .ok (.invokevirtual 192, 3) := by decide +kernel
theorem dX11_fault_4 : decode cX11_fault 4 = .ok (.ifCond .eq 7, 3) := by decide +kernel
theorem dX11_fault_7 : decode cX11_fault 7 = .ok (.iconst (-1), 1) := by decide +kernel
theorem dX11_fault_8 : decode cX11_fault 8 = .ok (.goto 7, 3) := by decide +kernel
theorem dX11_fault_11 : decode cX11_fault 11 = .ok (.aload_n 0, 1) := by decide +kernel
theorem dX11_fault_12 : decode cX11_fault 12 = .ok (.getfield 127, 3) := by decide +kernel
theorem dX11_fault_15 : decode cX11_fault 15 = .ok (.ireturn, 1) := by decide +kernel
abbrev rm_X11_fault : Room := { frames := 7, cells := 0, slots := 0, locals := 151 }
theorem hd_X11_fault : yX11_fault.cls ≠ "java/lang/invoke/MethodHandle" ∧ yX11_fault.cls ≠ "java/lang/invoke/VarHandle" ∧ (parseMethodDescriptor yX11_fault.desc).map (fun d => d.parameters.length) = some 0 := by decide +kernel
def wp_X11_fault (M_wide : Int32) (M_high : Int32) (M_bytes : Int32) (M_tokenAt : Int32) (M_token : Int64) (M_digits : Int32) (M_number : Int32) (M_faultAt : Int32) (M_text : Nat → Int32) (M_read : Nat → Int32) (Q : Int32 → (Int32 × Int32 × Int64 × Int32 × Int32 × Int32 × Int32 × Int32 × Int32 × (Nat → Int32)) → Prop) : Prop :=
wp_X11_isRead M_wide M_high M_bytes M_tokenAt M_token M_digits M_number M_faultAt M_text M_read (fun (r1 : Int32) (u2 : Int32 × Int32 × Int64 × Int32 × Int32 × Int32 × Int32 × Int32 × Int32 × (Nat → Int32)) => ((r1 = 0 → Q u2.2.2.2.2.2.1 (u2.1, u2.2.1, u2.2.2.1, u2.2.2.2.1, u2.2.2.2.2.1, u2.2.2.2.2.2.1, u2.2.2.2.2.2.2.1, u2.2.2.2.2.2.2.2.1, u2.2.2.2.2.2.2.2.2.1, u2.2.2.2.2.2.2.2.2.2)) ∧
(¬ r1 = 0 → Q (-1) (u2.1, u2.2.1, u2.2.2.1, u2.2.2.2.1, u2.2.2.2.2.1, u2.2.2.2.2.2.1, u2.2.2.2.2.2.2.1, u2.2.2.2.2.2.2.2.1, u2.2.2.2.2.2.2.2.2.1, u2.2.2.2.2.2.2.2.2.2))))
set_option maxHeartbeats 4000000 in
set_option maxRecDepth 100000 in
theorem c_X11_fault {D : DG} {cyI cyJ cyZ : ClassId} {a_M a_M_square a_M_want a_M_text a_M_read a_M_row a_M_foldSet a_M_foldEdges a_M_foldNeeds a_M_foldYards a_M_least a_M_ways a_M_price a_M_rowBy a_M_columnBy a_M_rowOf a_M_wayBack a_M_slack a_M_isUsed a_M_lifted a_M_freed a_M_path : Nat} {M_wide : Int32} {M_high : Int32} {M_hedges : Int64} {M_hurdles : Int32} {M_wants : Int32} {M_rest : Int32} {M_frozen : Int32} {M_bytes : Int32} {M_position : Int32} {M_tokenAt : Int32} {M_token : Int64} {M_digits : Int32} {M_number : Int32} {M_faultAt : Int32} {M_readMany : Int32} {M_readWide : Int32} {M_readHigh : Int32} {M_nights : Int32} {M_why : Int32} {M_folds : Int32} {M_square : Nat → Int32} {M_want : Nat → Int32} {M_text : Nat → Int32} {M_read : Nat → Int32} {M_row : Nat → Int32} {M_foldSet : Nat → Int32} {M_foldEdges : Nat → Int64} {M_foldNeeds : Nat → Int32} {M_foldYards : Nat → Int32} {M_least : Nat → Int32} {M_ways : Nat → Int32} {M_price : Nat → Int32} {M_rowBy : Nat → Int32} {M_columnBy : Nat → Int32} {M_rowOf : Nat → Int32} {M_wayBack : Nat → Int32} {M_slack : Nat → Int32} {M_isUsed : Nat → Int32} {M_lifted : Nat → Int32} {M_freed : Nat → Int32} {M_path : Nat → Int32} {Q : Int32 → (Int32 × Int32 × Int64 × Int32 × Int32 × Int32 × Int32 × Int32 × Int32 × (Nat → Int32)) → Prop} (h : wp_X11_fault M_wide M_high M_bytes M_tokenAt M_token M_digits M_number M_faultAt M_text M_read Q) :
    MetI yX11_fault cX11_fault 1 (some .int) rm_X11_fault D [(cyI, .int), (cyJ, .long), (cyZ, .boolean)] [.ref a_M] (W_Model cyI cyJ cyZ a_M a_M_square a_M_want a_M_text a_M_read a_M_row a_M_foldSet a_M_foldEdges a_M_foldNeeds a_M_foldYards a_M_least a_M_ways a_M_price a_M_rowBy a_M_columnBy a_M_rowOf a_M_wayBack a_M_slack a_M_isUsed a_M_lifted a_M_freed a_M_path M_wide M_high M_hedges M_hurdles M_wants M_rest M_frozen M_bytes M_position M_tokenAt M_token M_digits M_number M_faultAt M_readMany M_readWide M_readHigh M_nights M_why M_folds M_square M_want M_text M_read M_row M_foldSet M_foldEdges M_foldNeeds M_foldYards M_least M_ways M_price M_rowBy M_columnBy M_rowOf M_wayBack M_slack M_isUsed M_lifted M_freed M_path) (fun u : Int32 × Int32 × Int64 × Int32 × Int32 × Int32 × Int32 × Int32 × Int32 × (Nat → Int32) => (W_Model cyI cyJ cyZ a_M a_M_square a_M_want a_M_text a_M_read a_M_row a_M_foldSet a_M_foldEdges a_M_foldNeeds a_M_foldYards a_M_least a_M_ways a_M_price a_M_rowBy a_M_columnBy a_M_rowOf a_M_wayBack a_M_slack a_M_isUsed a_M_lifted a_M_freed a_M_path M_wide M_high M_hedges M_hurdles M_wants M_rest M_frozen M_bytes u.1 u.2.1 u.2.2.1 u.2.2.2.1 u.2.2.2.2.1 u.2.2.2.2.2.1 u.2.2.2.2.2.2.1 u.2.2.2.2.2.2.2.1 u.2.2.2.2.2.2.2.2.1 M_nights M_why M_folds M_square M_want M_text u.2.2.2.2.2.2.2.2.2 M_row M_foldSet M_foldEdges M_foldNeeds M_foldYards M_least M_ways M_price M_rowBy M_columnBy M_rowOf M_wayBack M_slack M_isUsed M_lifted M_freed M_path)) (fun v u => Q v u) := by
  unfold wp_X11_fault at h
  refine metI_of (by decide) (Nat.le_of_ble_eq_true rfl) (fun x cx0 hR0 => ?_)
  have cx : Cx x cX11_fault 1 RX11 rm_X11_fault D [(cyI, .int), (cyJ, .long), (cyZ, .boolean)] := cx0
  have hR : ∀ (v : Int32) (u : Int32 × Int32 × Int64 × Int32 × Int32 × Int32 × Int32 × Int32 × Int32 × (Nat → Int32)) (pc : Nat) (lv : List (Nat × Value)), decode cX11_fault pc = .ok (.ireturn, 1) → Q v u → J x 0 0 1 (W_Model cyI cyJ cyZ a_M a_M_square a_M_want a_M_text a_M_read a_M_row a_M_foldSet a_M_foldEdges a_M_foldNeeds a_M_foldYards a_M_least a_M_ways a_M_price a_M_rowBy a_M_columnBy a_M_rowOf a_M_wayBack a_M_slack a_M_isUsed a_M_lifted a_M_freed a_M_path M_wide M_high M_hedges M_hurdles M_wants M_rest M_frozen M_bytes u.1 u.2.1 u.2.2.1 u.2.2.2.1 u.2.2.2.2.1 u.2.2.2.2.2.1 u.2.2.2.2.2.2.1 u.2.2.2.2.2.2.2.1 u.2.2.2.2.2.2.2.2.1 M_nights M_why M_folds M_square M_want M_text u.2.2.2.2.2.2.2.2.2 M_row M_foldSet M_foldEdges M_foldNeeds M_foldYards M_least M_ways M_price M_rowBy M_columnBy M_rowOf M_wayBack M_slack M_isUsed M_lifted M_freed M_path) lv pc [.int v] := (fun v u pc lv d hq => hR0 v u pc lv d hq)
  show J x 0 0 1 (W_Model cyI cyJ cyZ a_M a_M_square a_M_want a_M_text a_M_read a_M_row a_M_foldSet a_M_foldEdges a_M_foldNeeds a_M_foldYards a_M_least a_M_ways a_M_price a_M_rowBy a_M_columnBy a_M_rowOf a_M_wayBack a_M_slack a_M_isUsed a_M_lifted a_M_freed a_M_path M_wide M_high M_hedges M_hurdles M_wants M_rest M_frozen M_bytes M_position M_tokenAt M_token M_digits M_number M_faultAt M_readMany M_readWide M_readHigh M_nights M_why M_folds M_square M_want M_text M_read M_row M_foldSet M_foldEdges M_foldNeeds M_foldYards M_least M_ways M_price M_rowBy M_columnBy M_rowOf M_wayBack M_slack M_isUsed M_lifted M_freed M_path) [(0, .ref a_M)] 0 []
  refine j_aload_n cx 0 rfl rfl dX11_fault_0 (pn := 1) rfl ?_
  refine j_callvI0 cx q_inst_X11_isRead q_sel_X11_isRead (b := a_M) (As := []) (rest := []) (c_X11_isRead h) ⟨q_code_X11_isRead, q_ml_X11_192, q_init_X11, hd_X11_isRead, ⟨Nat.le_of_ble_eq_true rfl, Nat.le_of_ble_eq_true rfl⟩, Nat.le_of_ble_eq_true rfl, Nat.le_of_ble_eq_true rfl⟩ (q0 := 0) rfl rfl rfl rfl (Nat.le_of_ble_eq_true rfl) dX11_fault_1 (pn := 4) rfl (fun r1 u2 h => ?_)
  show J x 0 0 1 (W_Model cyI cyJ cyZ a_M a_M_square a_M_want a_M_text a_M_read a_M_row a_M_foldSet a_M_foldEdges a_M_foldNeeds a_M_foldYards a_M_least a_M_ways a_M_price a_M_rowBy a_M_columnBy a_M_rowOf a_M_wayBack a_M_slack a_M_isUsed a_M_lifted a_M_freed a_M_path M_wide M_high M_hedges M_hurdles M_wants M_rest M_frozen M_bytes u2.1 u2.2.1 u2.2.2.1 u2.2.2.2.1 u2.2.2.2.2.1 u2.2.2.2.2.2.1 u2.2.2.2.2.2.2.1 u2.2.2.2.2.2.2.2.1 u2.2.2.2.2.2.2.2.2.1 M_nights M_why M_folds M_square M_want M_text u2.2.2.2.2.2.2.2.2.2 M_row M_foldSet M_foldEdges M_foldNeeds M_foldYards M_least M_ways M_price M_rowBy M_columnBy M_rowOf M_wayBack M_slack M_isUsed M_lifted M_freed M_path) [(0, .ref a_M)] 4 [.int r1]
  refine j_if_eq cx 11 dX11_fault_4 (pn := 7) rfl rfl (fun c3 => ?_) (fun c3 => ?_)
  · have h := h.1 c3
    refine j_aload_n cx 0 rfl rfl dX11_fault_11 (pn := 12) rfl ?_
    refine j_get cx inGX11 0 rfl rfl 16 (by decide) q_fl_X11_127 rfl rfl dX11_fault_12 (pn := 15) rfl ?_
    exact hR u2.2.2.2.2.2.1 (u2.1, u2.2.1, u2.2.2.1, u2.2.2.2.1, u2.2.2.2.2.1, u2.2.2.2.2.2.1, u2.2.2.2.2.2.2.1, u2.2.2.2.2.2.2.2.1, u2.2.2.2.2.2.2.2.2.1, u2.2.2.2.2.2.2.2.2.2) 15 _ dX11_fault_15 h
  · have h := h.2 c3
    refine j_iconst cx (v := (-1)) (by decide) dX11_fault_7 (pn := 8) rfl ?_
    refine j_goto cx 15 dX11_fault_8 rfl ?_
    exact hR (-1) (u2.1, u2.2.1, u2.2.2.1, u2.2.2.2.1, u2.2.2.2.2.1, u2.2.2.2.2.2.1, u2.2.2.2.2.2.2.1, u2.2.2.2.2.2.2.2.1, u2.2.2.2.2.2.2.2.2.1, u2.2.2.2.2.2.2.2.2.2) 15 _ dX11_fault_15 h
theorem dX11_edgeAt_0 : decode cX11_edgeAt 0 = .ok (.iload_n 1, 1) := by decide +kernel
theorem dX11_edgeAt_1 : decode cX11_edgeAt 1 = .ok (.aload_n 0, 1) := by decide +kernel
theorem dX11_edgeAt_2 : decode cX11_edgeAt 2 = .ok (.getfield 7, 3) := by decide +kernel
theorem dX11_edgeAt_5 : decode cX11_edgeAt 5 = .ok (.irem, 1) := by decide +kernel
theorem dX11_edgeAt_6 : decode cX11_edgeAt 6 = .ok (.istore_n 3, 1) := by decide +kernel
theorem dX11_edgeAt_7 : decode cX11_edgeAt 7 = .ok (.iload_n 1, 1) := by decide +kernel
theorem dX11_edgeAt_8 : decode cX11_edgeAt 8 = .ok (.aload_n 0, 1) := by decide +kernel
theorem dX11_edgeAt_9 : decode cX11_edgeAt 9 = .ok (.getfield 7, 3) := by decide +kernel
theorem dX11_edgeAt_12 : decode cX11_edgeAt 12 = .ok (.idiv, 1) := by decide +kernel
theorem dX11_edgeAt_13 : decode cX11_edgeAt 13 = .ok (.istore 4, 2) := by decide +kernel
theorem dX11_edgeAt_15 : decode cX11_edgeAt 15 = .ok (.iload_n 2, 1) := by decide +kernel
theorem dX11_edgeAt_16 : decode cX11_edgeAt 16 = .ok (.iconst 2, 1) := by decide +kernel
theorem dX11_edgeAt_17 : decode cX11_edgeAt 17 = .ok (.if_icmp .ge 19, 3) := by decide +kernel
theorem dX11_edgeAt_20 : decode cX11_edgeAt 20 = .ok (.aload_n 0, 1) := by decide +kernel
theorem dX11_edgeAt_21 : decode cX11_edgeAt 21 = .ok (.getfield 7, 3) := by decide +kernel
theorem dX11_edgeAt_24 : decode cX11_edgeAt 24 = .ok (.iconst 1, 1) := by decide +kernel
theorem dX11_edgeAt_25 : decode cX11_edgeAt 25 = .ok (.iadd, 1) := by decide +kernel
theorem dX11_edgeAt_26 : decode cX11_edgeAt 26 = .ok (.iload 4, 2) := by decide +kernel
theorem dX11_edgeAt_28 : decode cX11_edgeAt 28 = .ok (.imul, 1) := by decide +kernel
theorem dX11_edgeAt_29 : decode cX11_edgeAt 29 = .ok (.iload_n 3, 1) := by decide +kernel
theorem dX11_edgeAt_30 : decode cX11_edgeAt 30 = .ok (.iadd, 1) := by decide +kernel
theorem dX11_edgeAt_31 : decode cX11_edgeAt 31 = .ok (.iload_n 2, 1) := by decide +kernel
theorem dX11_edgeAt_32 : decode cX11_edgeAt 32 = .ok (.iadd, 1) := by decide +kernel
theorem dX11_edgeAt_33 : decode cX11_edgeAt 33 = .ok (.goto 28, 3) := by decide +kernel
theorem dX11_edgeAt_36 : decode cX11_edgeAt 36 = .ok (.aload_n 0, 1) := by decide +kernel
theorem dX11_edgeAt_37 : decode cX11_edgeAt 37 = .ok (.getfield 7, 3) := by decide +kernel
theorem dX11_edgeAt_40 : decode cX11_edgeAt 40 = .ok (.iconst 1, 1) := by decide +kernel
theorem dX11_edgeAt_41 : decode cX11_edgeAt 41 = .ok (.iadd, 1) := by decide +kernel
theorem dX11_edgeAt_42 : decode cX11_edgeAt 42 = .ok (.aload_n 0, 1) := by decide +kernel
theorem dX11_edgeAt_43 : decode cX11_edgeAt 43 = .ok (.getfield 13, 3) := by decide +kernel
theorem dX11_edgeAt_46 : decode cX11_edgeAt 46 = .ok (.imul, 1) := by decide +kernel
theorem dX11_edgeAt_47 : decode cX11_edgeAt 47 = .ok (.aload_n 0, 1) := by decide +kernel
theorem dX11_edgeAt_48 : decode cX11_edgeAt 48 = .ok (.getfield 7, 3) := by decide +kernel
theorem dX11_edgeAt_51 : decode cX11_edgeAt 51 = .ok (.iload 4, 2) := by decide +kernel
theorem dX11_edgeAt_53 : decode cX11_edgeAt 53 = .ok (.iload_n 2, 1) := by decide +kernel
theorem dX11_edgeAt_54 : decode cX11_edgeAt 54 = .ok (.iadd, 1) := by decide +kernel
theorem dX11_edgeAt_55 : decode cX11_edgeAt 55 = .ok (.iconst 2, 1) := by decide +kernel
theorem dX11_edgeAt_56 : decode cX11_edgeAt 56 = .ok (.isub, 1) := by decide +kernel
theorem dX11_edgeAt_57 : decode cX11_edgeAt 57 = .ok (.imul, 1) := by decide +kernel
theorem dX11_edgeAt_58 : decode cX11_edgeAt 58 = .ok (.iadd, 1) := by decide +kernel
theorem dX11_edgeAt_59 : decode cX11_edgeAt 59 = .ok (.iload_n 3, 1) := by decide +kernel
theorem dX11_edgeAt_60 : decode cX11_edgeAt 60 = .ok (.iadd, 1) := by decide +kernel
theorem dX11_edgeAt_61 : decode cX11_edgeAt 61 = .ok (.ireturn, 1) := by decide +kernel
abbrev rm_X11_edgeAt : Room := { frames := 0, cells := 0, slots := 0, locals := 0 }
theorem hd_X11_edgeAt : yX11_edgeAt.cls ≠ "java/lang/invoke/MethodHandle" ∧ yX11_edgeAt.cls ≠ "java/lang/invoke/VarHandle" ∧ (parseMethodDescriptor yX11_edgeAt.desc).map (fun d => d.parameters.length) = some 2 := by decide +kernel
def wp_X11_edgeAt (p1 : Int32) (p2 : Int32) (M_wide : Int32) (M_high : Int32) (Q : Int32 → Prop) : Prop :=
¬ M_wide = 0 ∧ (∀ y1 : Int32, y1 = (p1 - p1 / M_wide * M_wide) →
¬ M_wide = 0 ∧ (∀ y2 : Int32, y2 = (p1 / M_wide) →
((2 ≤ p2 → Q ((((M_wide + 1) * M_high) + (M_wide * ((y2 + p2) - 2))) + y1)) ∧
(¬ 2 ≤ p2 → Q ((((M_wide + 1) * y2) + y1) + p2)))))
set_option maxHeartbeats 4000000 in
set_option maxRecDepth 100000 in
theorem c_X11_edgeAt {D : DG} {cyI cyJ cyZ : ClassId} {a_M a_M_square a_M_want a_M_text a_M_read a_M_row a_M_foldSet a_M_foldEdges a_M_foldNeeds a_M_foldYards a_M_least a_M_ways a_M_price a_M_rowBy a_M_columnBy a_M_rowOf a_M_wayBack a_M_slack a_M_isUsed a_M_lifted a_M_freed a_M_path : Nat} {M_wide : Int32} {M_high : Int32} {M_hedges : Int64} {M_hurdles : Int32} {M_wants : Int32} {M_rest : Int32} {M_frozen : Int32} {M_bytes : Int32} {M_position : Int32} {M_tokenAt : Int32} {M_token : Int64} {M_digits : Int32} {M_number : Int32} {M_faultAt : Int32} {M_readMany : Int32} {M_readWide : Int32} {M_readHigh : Int32} {M_nights : Int32} {M_why : Int32} {M_folds : Int32} {M_square : Nat → Int32} {M_want : Nat → Int32} {M_text : Nat → Int32} {M_read : Nat → Int32} {M_row : Nat → Int32} {M_foldSet : Nat → Int32} {M_foldEdges : Nat → Int64} {M_foldNeeds : Nat → Int32} {M_foldYards : Nat → Int32} {M_least : Nat → Int32} {M_ways : Nat → Int32} {M_price : Nat → Int32} {M_rowBy : Nat → Int32} {M_columnBy : Nat → Int32} {M_rowOf : Nat → Int32} {M_wayBack : Nat → Int32} {M_slack : Nat → Int32} {M_isUsed : Nat → Int32} {M_lifted : Nat → Int32} {M_freed : Nat → Int32} {M_path : Nat → Int32} {p1 : Int32} {p2 : Int32} {Q : Int32 → Prop} (h : wp_X11_edgeAt p1 p2 M_wide M_high Q) :
    MetI yX11_edgeAt cX11_edgeAt 5 (some .int) rm_X11_edgeAt D [(cyI, .int), (cyJ, .long), (cyZ, .boolean)] [.ref a_M, .int p1, .int p2] (W_Model cyI cyJ cyZ a_M a_M_square a_M_want a_M_text a_M_read a_M_row a_M_foldSet a_M_foldEdges a_M_foldNeeds a_M_foldYards a_M_least a_M_ways a_M_price a_M_rowBy a_M_columnBy a_M_rowOf a_M_wayBack a_M_slack a_M_isUsed a_M_lifted a_M_freed a_M_path M_wide M_high M_hedges M_hurdles M_wants M_rest M_frozen M_bytes M_position M_tokenAt M_token M_digits M_number M_faultAt M_readMany M_readWide M_readHigh M_nights M_why M_folds M_square M_want M_text M_read M_row M_foldSet M_foldEdges M_foldNeeds M_foldYards M_least M_ways M_price M_rowBy M_columnBy M_rowOf M_wayBack M_slack M_isUsed M_lifted M_freed M_path) (fun _ : Unit => (W_Model cyI cyJ cyZ a_M a_M_square a_M_want a_M_text a_M_read a_M_row a_M_foldSet a_M_foldEdges a_M_foldNeeds a_M_foldYards a_M_least a_M_ways a_M_price a_M_rowBy a_M_columnBy a_M_rowOf a_M_wayBack a_M_slack a_M_isUsed a_M_lifted a_M_freed a_M_path M_wide M_high M_hedges M_hurdles M_wants M_rest M_frozen M_bytes M_position M_tokenAt M_token M_digits M_number M_faultAt M_readMany M_readWide M_readHigh M_nights M_why M_folds M_square M_want M_text M_read M_row M_foldSet M_foldEdges M_foldNeeds M_foldYards M_least M_ways M_price M_rowBy M_columnBy M_rowOf M_wayBack M_slack M_isUsed M_lifted M_freed M_path)) (fun v _ => Q v ) := by
  unfold wp_X11_edgeAt at h
  refine metI_of (by decide) (Nat.le_of_ble_eq_true rfl) (fun x cx0 hR0 => ?_)
  have cx : Cx x cX11_edgeAt 5 RX11 rm_X11_edgeAt D [(cyI, .int), (cyJ, .long), (cyZ, .boolean)] := cx0
  have hR : ∀ (v : Int32) (pc : Nat) (lv : List (Nat × Value)), decode cX11_edgeAt pc = .ok (.ireturn, 1) → Q v → J x 0 0 5 (W_Model cyI cyJ cyZ a_M a_M_square a_M_want a_M_text a_M_read a_M_row a_M_foldSet a_M_foldEdges a_M_foldNeeds a_M_foldYards a_M_least a_M_ways a_M_price a_M_rowBy a_M_columnBy a_M_rowOf a_M_wayBack a_M_slack a_M_isUsed a_M_lifted a_M_freed a_M_path M_wide M_high M_hedges M_hurdles M_wants M_rest M_frozen M_bytes M_position M_tokenAt M_token M_digits M_number M_faultAt M_readMany M_readWide M_readHigh M_nights M_why M_folds M_square M_want M_text M_read M_row M_foldSet M_foldEdges M_foldNeeds M_foldYards M_least M_ways M_price M_rowBy M_columnBy M_rowOf M_wayBack M_slack M_isUsed M_lifted M_freed M_path) lv pc [.int v] := (fun v pc lv d hq => hR0 v () pc lv d hq)
  show J x 0 0 5 (W_Model cyI cyJ cyZ a_M a_M_square a_M_want a_M_text a_M_read a_M_row a_M_foldSet a_M_foldEdges a_M_foldNeeds a_M_foldYards a_M_least a_M_ways a_M_price a_M_rowBy a_M_columnBy a_M_rowOf a_M_wayBack a_M_slack a_M_isUsed a_M_lifted a_M_freed a_M_path M_wide M_high M_hedges M_hurdles M_wants M_rest M_frozen M_bytes M_position M_tokenAt M_token M_digits M_number M_faultAt M_readMany M_readWide M_readHigh M_nights M_why M_folds M_square M_want M_text M_read M_row M_foldSet M_foldEdges M_foldNeeds M_foldYards M_least M_ways M_price M_rowBy M_columnBy M_rowOf M_wayBack M_slack M_isUsed M_lifted M_freed M_path) [(0, .ref a_M), (1, .int p1), (2, .int p2)] 0 []
  refine j_iload_n cx 1 rfl rfl dX11_edgeAt_0 (pn := 1) rfl ?_
  refine j_aload_n cx 0 rfl rfl dX11_edgeAt_1 (pn := 2) rfl ?_
  refine j_get cx inGX11 0 rfl rfl 0 (by decide) q_fl_X11_7 rfl rfl dX11_edgeAt_2 (pn := 5) rfl ?_
  refine j_irem cx h.1 dX11_edgeAt_5 (pn := 6) rfl ?_
  have h := h.2
  refine j_topi (fun y1 ey1 => ?_)
  have h := h y1 ey1
  refine j_istore_n cx rfl [(3, .int y1), (0, .ref a_M), (1, .int p1), (2, .int p2)] (by decide) rfl dX11_edgeAt_6 (pn := 7) rfl ?_
  refine j_iload_n cx 2 rfl rfl dX11_edgeAt_7 (pn := 8) rfl ?_
  refine j_aload_n cx 1 rfl rfl dX11_edgeAt_8 (pn := 9) rfl ?_
  refine j_get cx inGX11 0 rfl rfl 0 (by decide) q_fl_X11_7 rfl rfl dX11_edgeAt_9 (pn := 12) rfl ?_
  refine j_idiv cx h.1 dX11_edgeAt_12 (pn := 13) rfl ?_
  have h := h.2
  refine j_topi (fun y2 ey2 => ?_)
  have h := h y2 ey2
  refine j_istore cx [(4, .int y2), (3, .int y1), (0, .ref a_M), (1, .int p1), (2, .int p2)] (by decide) rfl dX11_edgeAt_13 (pn := 15) rfl ?_
  refine j_iload_n cx 4 rfl rfl dX11_edgeAt_15 (pn := 16) rfl ?_
  refine j_iconst cx (v := 2) (by decide) dX11_edgeAt_16 (pn := 17) rfl ?_
  refine j_icmp_ge cx 36 dX11_edgeAt_17 (pn := 20) rfl rfl (fun c3 => ?_) (fun c3 => ?_)
  · have h := h.1 c3
    refine j_aload_n cx 2 rfl rfl dX11_edgeAt_36 (pn := 37) rfl ?_
    refine j_get cx inGX11 0 rfl rfl 0 (by decide) q_fl_X11_7 rfl rfl dX11_edgeAt_37 (pn := 40) rfl ?_
    refine j_iconst cx (v := 1) (by decide) dX11_edgeAt_40 (pn := 41) rfl ?_
    refine j_iadd cx dX11_edgeAt_41 (pn := 42) rfl ?_
    refine j_aload_n cx 2 rfl rfl dX11_edgeAt_42 (pn := 43) rfl ?_
    refine j_get cx inGX11 0 rfl rfl 1 (by decide) q_fl_X11_13 rfl rfl dX11_edgeAt_43 (pn := 46) rfl ?_
    refine j_imul cx dX11_edgeAt_46 (pn := 47) rfl ?_
    refine j_aload_n cx 2 rfl rfl dX11_edgeAt_47 (pn := 48) rfl ?_
    refine j_get cx inGX11 0 rfl rfl 0 (by decide) q_fl_X11_7 rfl rfl dX11_edgeAt_48 (pn := 51) rfl ?_
    refine j_iload cx 0 rfl dX11_edgeAt_51 (pn := 53) rfl ?_
    refine j_iload_n cx 4 rfl rfl dX11_edgeAt_53 (pn := 54) rfl ?_
    refine j_iadd cx dX11_edgeAt_54 (pn := 55) rfl ?_
    refine j_iconst cx (v := 2) (by decide) dX11_edgeAt_55 (pn := 56) rfl ?_
    refine j_isub cx dX11_edgeAt_56 (pn := 57) rfl ?_
    refine j_imul cx dX11_edgeAt_57 (pn := 58) rfl ?_
    refine j_iadd cx dX11_edgeAt_58 (pn := 59) rfl ?_
    refine j_iload_n cx 1 rfl rfl dX11_edgeAt_59 (pn := 60) rfl ?_
    refine j_iadd cx dX11_edgeAt_60 (pn := 61) rfl ?_
    exact hR ((((M_wide + 1) * M_high) + (M_wide * ((y2 + p2) - 2))) + y1) 61 _ dX11_edgeAt_61 h
  · have h := h.2 c3
    refine j_aload_n cx 2 rfl rfl dX11_edgeAt_20 (pn := 21) rfl ?_
    refine j_get cx inGX11 0 rfl rfl 0 (by decide) q_fl_X11_7 rfl rfl dX11_edgeAt_21 (pn := 24) rfl ?_
    refine j_iconst cx (v := 1) (by decide) dX11_edgeAt_24 (pn := 25) rfl ?_
    refine j_iadd cx dX11_edgeAt_25 (pn := 26) rfl ?_
    refine j_iload cx 0 rfl dX11_edgeAt_26 (pn := 28) rfl ?_
    refine j_imul cx dX11_edgeAt_28 (pn := 29) rfl ?_
    refine j_iload_n cx 1 rfl rfl dX11_edgeAt_29 (pn := 30) rfl ?_
    refine j_iadd cx dX11_edgeAt_30 (pn := 31) rfl ?_
    refine j_iload_n cx 4 rfl rfl dX11_edgeAt_31 (pn := 32) rfl ?_
    refine j_iadd cx dX11_edgeAt_32 (pn := 33) rfl ?_
    refine j_goto cx 61 dX11_edgeAt_33 rfl ?_
    exact hR ((((M_wide + 1) * y2) + y1) + p2) 61 _ dX11_edgeAt_61 h
theorem dX11_doNight_0 : decode cX11_doNight 0 = .ok (.aload_n 0, 1) := by decide +kernel
theorem dX11_doNight_1 : decode cX11_doNight 1 = .ok (.getfield 29, 3) := by decide +kernel
theorem dX11_doNight_4 : decode cX11_doNight 4 = .ok (.iload_n 1, 1) := by decide +kernel
theorem dX11_doNight_5 : decode cX11_doNight 5 = .ok (.iconst 1, 1) := by decide +kernel
theorem dX11_doNight_6 : decode cX11_doNight 6 = .ok (.iadd, 1) := by decide +kernel
theorem dX11_doNight_7 : decode cX11_doNight 7 = .ok (.iaload, 1) := by decide +kernel
theorem dX11_doNight_8 : decode cX11_doNight 8 = .ok (.istore_n 2, 1) := by decide +kernel
theorem dX11_doNight_9 : decode cX11_doNight 9 = .ok (.aload_n 0, 1) := by decide +kernel
theorem dX11_doNight_10 : decode cX11_doNight 10 = .ok (.getfield 29, 3) := by decide +kernel
theorem dX11_doNight_13 : decode cX11_doNight 13 = .ok (.iload_n 1, 1) := by decide +kernel
theorem dX11_doNight_14 : decode cX11_doNight 14 = .ok (.iaload, 1) := by decide +kernel
theorem dX11_doNight_15 : decode cX11_doNight 15 = .ok (.bipush 6, 2) := by decide +kernel
theorem dX11_doNight_17 : decode cX11_doNight 17 = .ok (.if_icmp .ne 11, 3) := by decide +kernel
theorem dX11_doNight_20 : decode cX11_doNight 20 = .ok (.aload_n 0, 1) := by decide +kernel
theorem dX11_doNight_21 : decode cX11_doNight 21 = .ok (.iload_n 2, 1) := by decide +kernel
theorem dX11_doNight_22 : decode cX11_doNight 22 = .ok (.putfield 20, 3) := by decide +kernel
theorem dX11_doNight_25 : decode cX11_doNight 25 = .ok (.goto 112, 3) := by decide +kernel
theorem dX11_doNight_28 : decode cX11_doNight 28 = .ok (.aload_n 0, 1) := by decide +kernel
theorem dX11_doNight_29 : decode cX11_doNight 29 = .ok (.getfield 29, 3) := by decide +kernel
theorem dX11_doNight_32 : decode cX11_doNight 32 = .ok (.iload_n 1, 1) := by decide +kernel
theorem dX11_doNight_33 : decode cX11_doNight 33 = .ok (.iaload, 1) := by decide +kernel
theorem dX11_doNight_34 : decode cX11_doNight 34 = .ok (.bipush 7, 2) := by decide +kernel
theorem dX11_doNight_36 : decode cX11_doNight 36 = .ok (.if_icmp .ne 35, 3) := by decide +kernel
theorem dX11_doNight_39 : decode cX11_doNight 39 = .ok (.aload_n 0, 1) := by decide +kernel
theorem dX11_doNight_40 : decode cX11_doNight 40 = .ok (.getfield 209, 3) := by decide +kernel
theorem dX11_doNight_43 : decode cX11_doNight 43 = .ok (.bipush 7, 2) := by decide +kernel
theorem dX11_doNight_45 : decode cX11_doNight 45 = .ok (.if_icmp .ge 26, 3) := by decide +kernel
theorem dX11_doNight_48 : decode cX11_doNight 48 = .ok (.aload_n 0, 1) := by decide +kernel
theorem dX11_doNight_49 : decode cX11_doNight 49 = .ok (.getfield 23, 3) := by decide +kernel
theorem dX11_doNight_52 : decode cX11_doNight 52 = .ok (.aload_n 0, 1) := by decide +kernel
theorem dX11_doNight_53 : decode cX11_doNight 53 = .ok (.getfield 209, 3) := by decide +kernel
theorem dX11_doNight_56 : decode cX11_doNight 56 = .ok (.iload_n 2, 1) := by decide +kernel
theorem dX11_doNight_57 : decode cX11_doNight 57 = .ok (.iastore, 1) := by decide +kernel
theorem dX11_doNight_58 : decode cX11_doNight 58 = .ok (.aload_n 0, 1) := by decide +kernel
theorem dX11_doNight_59 : decode cX11_doNight 59 = .ok (.dup, 1) := by decide +kernel
theorem dX11_doNight_60 : decode cX11_doNight 60 = .ok (.getfield 209, 3) := by decide +kernel
theorem dX11_doNight_63 : decode cX11_doNight 63 = .ok (.iconst 1, 1) := by decide +kernel
theorem dX11_doNight_64 : decode cX11_doNight 64 = .ok (.iadd, 1) := by decide +kernel
theorem dX11_doNight_65 : decode cX11_doNight 65 = .ok (.putfield 209, 3) := by decide +kernel
theorem dX11_doNight_68 : decode cX11_doNight 68 = .ok (.goto 69, 3) := by decide +kernel
theorem dX11_doNight_71 : decode cX11_doNight 71 = .ok (.aload_n 0, 1) := by decide +kernel
theorem dX11_doNight_72 : decode cX11_doNight 72 = .ok (.getfield 29, 3) := by decide +kernel
theorem dX11_doNight_75 : decode cX11_doNight 75 = .ok (.iload_n 1, 1) := by decide +kernel
theorem dX11_doNight_76 : decode cX11_doNight 76 = .ok (.iaload, 1) := by decide +kernel
theorem dX11_doNight_77 : decode cX11_doNight 77 = .ok (.bipush 8, 2) := by decide +kernel
theorem dX11_doNight_79 : decode cX11_doNight 79 = .ok (.if_icmp .ne 11, 3) := by decide +kernel
theorem dX11_doNight_82 : decode cX11_doNight 82 = .ok (.aload_n 0, 1) := by decide +kernel
theorem dX11_doNight_83 : decode cX11_doNight 83 = .ok (.iload_n 2, 1) := by decide +kernel
theorem dX11_doNight_84 : decode cX11_doNight 84 = .ok (.putfield 212, 3) := by decide +kernel
theorem dX11_doNight_87 : decode cX11_doNight 87 = .ok (.goto 50, 3) := by decide +kernel
theorem dX11_doNight_90 : decode cX11_doNight 90 = .ok (.aload_n 0, 1) := by decide +kernel
theorem dX11_doNight_91 : decode cX11_doNight 91 = .ok (.getfield 29, 3) := by decide +kernel
theorem dX11_doNight_94 : decode cX11_doNight 94 = .ok (.iload_n 1, 1) := by decide +kernel
theorem dX11_doNight_95 : decode cX11_doNight 95 = .ok (.iaload, 1) := by decide +kernel
theorem dX11_doNight_96 : decode cX11_doNight 96 = .ok (.bipush 9, 2) := by decide +kernel
theorem dX11_doNight_98 : decode cX11_doNight 98 = .ok (.if_icmp .ne 18, 3) := by decide +kernel
theorem dX11_doNight_101 : decode cX11_doNight 101 = .ok (.aload_n 0, 1) := by decide +kernel
theorem dX11_doNight_102 : decode cX11_doNight 102 = .ok (.aload_n 0, 1) := by decide +kernel
theorem dX11_doNight_103 : decode cX11_doNight 103 = .ok (.getfield 215, 3) := by decide +kernel
theorem dX11_doNight_106 : decode cX11_doNight 106 = .ok (.iconst 1, 1) := by decide +kernel
theorem dX11_doNight_107 : decode cX11_doNight 107 = .ok (.iload_n 2, 1) := by decide +kernel
theorem dX11_doNight_108 : decode cX11_doNight 108 = .ok (.ishl, 1) := by decide +kernel
theorem dX11_doNight_109 : decode cX11_doNight 109 = .ok (.ior, 1) := by decide +kernel
theorem dX11_doNight_110 : decode cX11_doNight 110 = .ok (.putfield 215, 3) := by decide +kernel
theorem dX11_doNight_113 : decode cX11_doNight 113 = .ok (.goto 24, 3) := by decide +kernel
theorem dX11_doNight_116 : decode cX11_doNight 116 = .ok (.aload_n 0, 1) := by decide +kernel
theorem dX11_doNight_117 : decode cX11_doNight 117 = .ok (.getfield 29, 3) := by decide +kernel
theorem dX11_doNight_120 : decode cX11_doNight 120 = .ok (.iload_n 1, 1) := by decide +kernel
theorem dX11_doNight_121 : decode cX11_doNight 121 = .ok (.iaload, 1) := by decide +kernel
theorem dX11_doNight_122 : decode cX11_doNight 122 = .ok (.bipush 10, 2) := by decide +kernel
theorem dX11_doNight_124 : decode cX11_doNight 124 = .ok (.if_icmp .ne 13, 3) := by decide +kernel
theorem dX11_doNight_127 : decode cX11_doNight 127 = .ok (.aload_n 0, 1) := by decide +kernel
theorem dX11_doNight_128 : decode cX11_doNight 128 = .ok (.iconst 0, 1) := by decide +kernel
theorem dX11_doNight_129 : decode cX11_doNight 129 = .ok (.putfield 215, 3) := by decide +kernel
theorem dX11_doNight_132 : decode cX11_doNight 132 = .ok (.aload_n 0, 1) := by decide +kernel
theorem dX11_doNight_133 : decode cX11_doNight 133 = .ok (.iconst 0, 1) := by decide +kernel
theorem dX11_doNight_134 : decode cX11_doNight 134 = .ok (.putfield 209, 3) := by decide +kernel
theorem dX11_doNight_137 : decode cX11_doNight 137 = .ok (.return_, 1) := by decide +kernel
abbrev rm_X11_doNight : Room := { frames := 0, cells := 0, slots := 0, locals := 0 }
theorem hd_X11_doNight : yX11_doNight.cls ≠ "java/lang/invoke/MethodHandle" ∧ yX11_doNight.cls ≠ "java/lang/invoke/VarHandle" ∧ (parseMethodDescriptor yX11_doNight.desc).map (fun d => d.parameters.length) = some 1 := by decide +kernel
def bk_X11_doNight_71 (Q : (Int32 × Int32 × Int32 × Int32 × (Nat → Int32)) → Prop) (p1 : Int32) (x2 : Int32) (M_hurdles : Int32) (M_wants : Int32) (M_rest : Int32) (M_frozen : Int32) (M_want : Nat → Int32) (M_read : Nat → Int32) : Prop :=
vp_in p1 40 ∧ ((¬ (M_read p1.toNatClampNeg) = 8 → vp_in p1 40 ∧ ((¬ (M_read p1.toNatClampNeg) = 9 → vp_in p1 40 ∧ ((¬ (M_read p1.toNatClampNeg) = 10 → Q (M_hurdles, M_wants, M_rest, M_frozen, M_want)) ∧
((M_read p1.toNatClampNeg) = 10 → Q (M_hurdles, 0, M_rest, 0, M_want)))) ∧
((M_read p1.toNatClampNeg) = 9 → ∀ y7 : Int32, y7 = (M_frozen ||| (1 <<< (x2 &&& 31))) →
Q (M_hurdles, M_wants, M_rest, y7, M_want)))) ∧
((M_read p1.toNatClampNeg) = 8 → Q (M_hurdles, M_wants, x2, M_frozen, M_want)))
def wp_X11_doNight (p1 : Int32) (M_hurdles : Int32) (M_wants : Int32) (M_rest : Int32) (M_frozen : Int32) (M_want : Nat → Int32) (M_read : Nat → Int32) (Q : (Int32 × Int32 × Int32 × Int32 × (Nat → Int32)) → Prop) : Prop :=
vp_in (p1 + 1) 40 ∧ (∀ y1 : Int32, y1 = (M_read (p1 + 1).toNatClampNeg) →
vp_in p1 40 ∧ ((¬ (M_read p1.toNatClampNeg) = 6 → vp_in p1 40 ∧ ((¬ (M_read p1.toNatClampNeg) = 7 → bk_X11_doNight_71 Q p1 y1 M_hurdles M_wants M_rest M_frozen M_want M_read) ∧
((M_read p1.toNatClampNeg) = 7 → ((7 ≤ M_wants → bk_X11_doNight_71 Q p1 y1 M_hurdles M_wants M_rest M_frozen M_want M_read) ∧
(¬ 7 ≤ M_wants → vp_in M_wants 7 ∧ (∀ f9 : Nat → Int32, f9 = (upd M_want M_wants.toNatClampNeg y1) →
∀ y10 : Int32, y10 = (M_wants + 1) →
Q (M_hurdles, y10, M_rest, M_frozen, f9))))))) ∧
((M_read p1.toNatClampNeg) = 6 → Q (y1, M_wants, M_rest, M_frozen, M_want))))
set_option maxHeartbeats 4000000 in
set_option maxRecDepth 100000 in
theorem J_X11_doNight_71 {x : CX} {D : DG} {cyI cyJ cyZ : ClassId} {a_M a_M_square a_M_want a_M_text a_M_read a_M_row a_M_foldSet a_M_foldEdges a_M_foldNeeds a_M_foldYards a_M_least a_M_ways a_M_price a_M_rowBy a_M_columnBy a_M_rowOf a_M_wayBack a_M_slack a_M_isUsed a_M_lifted a_M_freed a_M_path : Nat} {M_wide : Int32} {M_high : Int32} {M_hedges : Int64} {M_hurdles : Int32} {M_wants : Int32} {M_rest : Int32} {M_frozen : Int32} {M_bytes : Int32} {M_position : Int32} {M_tokenAt : Int32} {M_token : Int64} {M_digits : Int32} {M_number : Int32} {M_faultAt : Int32} {M_readMany : Int32} {M_readWide : Int32} {M_readHigh : Int32} {M_nights : Int32} {M_why : Int32} {M_folds : Int32} {M_square : Nat → Int32} {M_want : Nat → Int32} {M_text : Nat → Int32} {M_read : Nat → Int32} {M_row : Nat → Int32} {M_foldSet : Nat → Int32} {M_foldEdges : Nat → Int64} {M_foldNeeds : Nat → Int32} {M_foldYards : Nat → Int32} {M_least : Nat → Int32} {M_ways : Nat → Int32} {M_price : Nat → Int32} {M_rowBy : Nat → Int32} {M_columnBy : Nat → Int32} {M_rowOf : Nat → Int32} {M_wayBack : Nat → Int32} {M_slack : Nat → Int32} {M_isUsed : Nat → Int32} {M_lifted : Nat → Int32} {M_freed : Nat → Int32} {M_path : Nat → Int32} {p1 : Int32} {x2 : Int32} {Q : (Int32 × Int32 × Int32 × Int32 × (Nat → Int32)) → Prop} (cx : Cx x cX11_doNight 3 RX11 rm_X11_doNight D [(cyI, .int), (cyJ, .long), (cyZ, .boolean)]) (hR : ∀ (u : Int32 × Int32 × Int32 × Int32 × (Nat → Int32)) (pc : Nat) (lv : List (Nat × Value)), decode cX11_doNight pc = .ok (.return_, 1) → Q u → J x 0 0 3 (W_Model cyI cyJ cyZ a_M a_M_square a_M_want a_M_text a_M_read a_M_row a_M_foldSet a_M_foldEdges a_M_foldNeeds a_M_foldYards a_M_least a_M_ways a_M_price a_M_rowBy a_M_columnBy a_M_rowOf a_M_wayBack a_M_slack a_M_isUsed a_M_lifted a_M_freed a_M_path M_wide M_high M_hedges u.1 u.2.1 u.2.2.1 u.2.2.2.1 M_bytes M_position M_tokenAt M_token M_digits M_number M_faultAt M_readMany M_readWide M_readHigh M_nights M_why M_folds M_square u.2.2.2.2 M_text M_read M_row M_foldSet M_foldEdges M_foldNeeds M_foldYards M_least M_ways M_price M_rowBy M_columnBy M_rowOf M_wayBack M_slack M_isUsed M_lifted M_freed M_path) lv pc []) (h : bk_X11_doNight_71 Q  p1 x2 M_hurdles M_wants M_rest M_frozen M_want M_read) :
    J x 0 0 3 (W_Model cyI cyJ cyZ a_M a_M_square a_M_want a_M_text a_M_read a_M_row a_M_foldSet a_M_foldEdges a_M_foldNeeds a_M_foldYards a_M_least a_M_ways a_M_price a_M_rowBy a_M_columnBy a_M_rowOf a_M_wayBack a_M_slack a_M_isUsed a_M_lifted a_M_freed a_M_path M_wide M_high M_hedges M_hurdles M_wants M_rest M_frozen M_bytes M_position M_tokenAt M_token M_digits M_number M_faultAt M_readMany M_readWide M_readHigh M_nights M_why M_folds M_square M_want M_text M_read M_row M_foldSet M_foldEdges M_foldNeeds M_foldYards M_least M_ways M_price M_rowBy M_columnBy M_rowOf M_wayBack M_slack M_isUsed M_lifted M_freed M_path) [(0, .ref a_M), (1, .int p1), (2, .int x2)] 71 [] := by
  unfold bk_X11_doNight_71 at h
  refine j_aload_n cx 0 rfl rfl dX11_doNight_71 (pn := 72) rfl ?_
  refine j_get cx inGX11 0 rfl rfl 18 (by decide) q_fl_X11_29 rfl rfl dX11_doNight_72 (pn := 75) rfl ?_
  refine j_iload_n cx 1 rfl rfl dX11_doNight_75 (pn := 76) rfl ?_
  refine j_iald cx 4 0 rfl rfl h.1 dX11_doNight_76 (pn := 77) rfl ?_
  have h := h.2
  refine j_bipush cx (v := 8) (by decide) dX11_doNight_77 (pn := 79) rfl ?_
  refine j_icmp_ne cx 90 dX11_doNight_79 (pn := 82) rfl rfl (fun c4 => ?_) (fun c4 => ?_)
  · have h := h.1 c4
    refine j_aload_n cx 0 rfl rfl dX11_doNight_90 (pn := 91) rfl ?_
    refine j_get cx inGX11 0 rfl rfl 18 (by decide) q_fl_X11_29 rfl rfl dX11_doNight_91 (pn := 94) rfl ?_
    refine j_iload_n cx 1 rfl rfl dX11_doNight_94 (pn := 95) rfl ?_
    refine j_iald cx 4 0 rfl rfl h.1 dX11_doNight_95 (pn := 96) rfl ?_
    have h := h.2
    refine j_bipush cx (v := 9) (by decide) dX11_doNight_96 (pn := 98) rfl ?_
    refine j_icmp_ne cx 116 dX11_doNight_98 (pn := 101) rfl rfl (fun c5 => ?_) (fun c5 => ?_)
    · have h := h.1 c5
      refine j_aload_n cx 0 rfl rfl dX11_doNight_116 (pn := 117) rfl ?_
      refine j_get cx inGX11 0 rfl rfl 18 (by decide) q_fl_X11_29 rfl rfl dX11_doNight_117 (pn := 120) rfl ?_
      refine j_iload_n cx 1 rfl rfl dX11_doNight_120 (pn := 121) rfl ?_
      refine j_iald cx 4 0 rfl rfl h.1 dX11_doNight_121 (pn := 122) rfl ?_
      have h := h.2
      refine j_bipush cx (v := 10) (by decide) dX11_doNight_122 (pn := 124) rfl ?_
      refine j_icmp_ne cx 137 dX11_doNight_124 (pn := 127) rfl rfl (fun c6 => ?_) (fun c6 => ?_)
      · have h := h.1 c6
        exact hR (M_hurdles, M_wants, M_rest, M_frozen, M_want) 137 _ dX11_doNight_137 h
      · have h := h.2 c6
        refine j_aload_n cx 0 rfl rfl dX11_doNight_127 (pn := 128) rfl ?_
        refine j_iconst cx (v := 0) (by decide) dX11_doNight_128 (pn := 129) rfl ?_
        refine j_put cx tyX11 tyX11_ok nmX11 inGX11 0 rfl rfl 8 (by decide) q_fl_X11_215 rfl rfl rfl rfl rfl (Nat.le_of_ble_eq_true rfl) (W_Model cyI cyJ cyZ a_M a_M_square a_M_want a_M_text a_M_read a_M_row a_M_foldSet a_M_foldEdges a_M_foldNeeds a_M_foldYards a_M_least a_M_ways a_M_price a_M_rowBy a_M_columnBy a_M_rowOf a_M_wayBack a_M_slack a_M_isUsed a_M_lifted a_M_freed a_M_path M_wide M_high M_hedges M_hurdles M_wants M_rest 0 M_bytes M_position M_tokenAt M_token M_digits M_number M_faultAt M_readMany M_readWide M_readHigh M_nights M_why M_folds M_square M_want M_text M_read M_row M_foldSet M_foldEdges M_foldNeeds M_foldYards M_least M_ways M_price M_rowBy M_columnBy M_rowOf M_wayBack M_slack M_isUsed M_lifted M_freed M_path) rfl dX11_doNight_129 (pn := 132) rfl ?_
        refine j_aload_n cx 0 rfl rfl dX11_doNight_132 (pn := 133) rfl ?_
        refine j_iconst cx (v := 0) (by decide) dX11_doNight_133 (pn := 134) rfl ?_
        refine j_put cx tyX11 tyX11_ok nmX11 inGX11 0 rfl rfl 5 (by decide) q_fl_X11_209 rfl rfl rfl rfl rfl (Nat.le_of_ble_eq_true rfl) (W_Model cyI cyJ cyZ a_M a_M_square a_M_want a_M_text a_M_read a_M_row a_M_foldSet a_M_foldEdges a_M_foldNeeds a_M_foldYards a_M_least a_M_ways a_M_price a_M_rowBy a_M_columnBy a_M_rowOf a_M_wayBack a_M_slack a_M_isUsed a_M_lifted a_M_freed a_M_path M_wide M_high M_hedges M_hurdles 0 M_rest 0 M_bytes M_position M_tokenAt M_token M_digits M_number M_faultAt M_readMany M_readWide M_readHigh M_nights M_why M_folds M_square M_want M_text M_read M_row M_foldSet M_foldEdges M_foldNeeds M_foldYards M_least M_ways M_price M_rowBy M_columnBy M_rowOf M_wayBack M_slack M_isUsed M_lifted M_freed M_path) rfl dX11_doNight_134 (pn := 137) rfl ?_
        exact hR (M_hurdles, 0, M_rest, 0, M_want) 137 _ dX11_doNight_137 h
    · have h := h.2 c5
      refine j_aload_n cx 0 rfl rfl dX11_doNight_101 (pn := 102) rfl ?_
      refine j_aload_n cx 0 rfl rfl dX11_doNight_102 (pn := 103) rfl ?_
      refine j_get cx inGX11 0 rfl rfl 8 (by decide) q_fl_X11_215 rfl rfl dX11_doNight_103 (pn := 106) rfl ?_
      refine j_iconst cx (v := 1) (by decide) dX11_doNight_106 (pn := 107) rfl ?_
      refine j_iload_n cx 2 rfl rfl dX11_doNight_107 (pn := 108) rfl ?_
      refine j_ishl cx dX11_doNight_108 (pn := 109) rfl ?_
      refine j_ior cx dX11_doNight_109 (pn := 110) rfl ?_
      refine j_topi (fun y7 ey7 => ?_)
      have h := h y7 ey7
      refine j_put cx tyX11 tyX11_ok nmX11 inGX11 0 rfl rfl 8 (by decide) q_fl_X11_215 rfl rfl rfl rfl rfl (Nat.le_of_ble_eq_true rfl) (W_Model cyI cyJ cyZ a_M a_M_square a_M_want a_M_text a_M_read a_M_row a_M_foldSet a_M_foldEdges a_M_foldNeeds a_M_foldYards a_M_least a_M_ways a_M_price a_M_rowBy a_M_columnBy a_M_rowOf a_M_wayBack a_M_slack a_M_isUsed a_M_lifted a_M_freed a_M_path M_wide M_high M_hedges M_hurdles M_wants M_rest y7 M_bytes M_position M_tokenAt M_token M_digits M_number M_faultAt M_readMany M_readWide M_readHigh M_nights M_why M_folds M_square M_want M_text M_read M_row M_foldSet M_foldEdges M_foldNeeds M_foldYards M_least M_ways M_price M_rowBy M_columnBy M_rowOf M_wayBack M_slack M_isUsed M_lifted M_freed M_path) rfl dX11_doNight_110 (pn := 113) rfl ?_
      refine j_goto cx 137 dX11_doNight_113 rfl ?_
      exact hR (M_hurdles, M_wants, M_rest, y7, M_want) 137 _ dX11_doNight_137 h
  · have h := h.2 c4
    refine j_aload_n cx 0 rfl rfl dX11_doNight_82 (pn := 83) rfl ?_
    refine j_iload_n cx 2 rfl rfl dX11_doNight_83 (pn := 84) rfl ?_
    refine j_put cx tyX11 tyX11_ok nmX11 inGX11 0 rfl rfl 7 (by decide) q_fl_X11_212 rfl rfl rfl rfl rfl (Nat.le_of_ble_eq_true rfl) (W_Model cyI cyJ cyZ a_M a_M_square a_M_want a_M_text a_M_read a_M_row a_M_foldSet a_M_foldEdges a_M_foldNeeds a_M_foldYards a_M_least a_M_ways a_M_price a_M_rowBy a_M_columnBy a_M_rowOf a_M_wayBack a_M_slack a_M_isUsed a_M_lifted a_M_freed a_M_path M_wide M_high M_hedges M_hurdles M_wants x2 M_frozen M_bytes M_position M_tokenAt M_token M_digits M_number M_faultAt M_readMany M_readWide M_readHigh M_nights M_why M_folds M_square M_want M_text M_read M_row M_foldSet M_foldEdges M_foldNeeds M_foldYards M_least M_ways M_price M_rowBy M_columnBy M_rowOf M_wayBack M_slack M_isUsed M_lifted M_freed M_path) rfl dX11_doNight_84 (pn := 87) rfl ?_
    refine j_goto cx 137 dX11_doNight_87 rfl ?_
    exact hR (M_hurdles, M_wants, x2, M_frozen, M_want) 137 _ dX11_doNight_137 h
set_option maxHeartbeats 4000000 in
set_option maxRecDepth 100000 in
theorem c_X11_doNight {D : DG} {cyI cyJ cyZ : ClassId} {a_M a_M_square a_M_want a_M_text a_M_read a_M_row a_M_foldSet a_M_foldEdges a_M_foldNeeds a_M_foldYards a_M_least a_M_ways a_M_price a_M_rowBy a_M_columnBy a_M_rowOf a_M_wayBack a_M_slack a_M_isUsed a_M_lifted a_M_freed a_M_path : Nat} {M_wide : Int32} {M_high : Int32} {M_hedges : Int64} {M_hurdles : Int32} {M_wants : Int32} {M_rest : Int32} {M_frozen : Int32} {M_bytes : Int32} {M_position : Int32} {M_tokenAt : Int32} {M_token : Int64} {M_digits : Int32} {M_number : Int32} {M_faultAt : Int32} {M_readMany : Int32} {M_readWide : Int32} {M_readHigh : Int32} {M_nights : Int32} {M_why : Int32} {M_folds : Int32} {M_square : Nat → Int32} {M_want : Nat → Int32} {M_text : Nat → Int32} {M_read : Nat → Int32} {M_row : Nat → Int32} {M_foldSet : Nat → Int32} {M_foldEdges : Nat → Int64} {M_foldNeeds : Nat → Int32} {M_foldYards : Nat → Int32} {M_least : Nat → Int32} {M_ways : Nat → Int32} {M_price : Nat → Int32} {M_rowBy : Nat → Int32} {M_columnBy : Nat → Int32} {M_rowOf : Nat → Int32} {M_wayBack : Nat → Int32} {M_slack : Nat → Int32} {M_isUsed : Nat → Int32} {M_lifted : Nat → Int32} {M_freed : Nat → Int32} {M_path : Nat → Int32} {p1 : Int32} {Q : (Int32 × Int32 × Int32 × Int32 × (Nat → Int32)) → Prop} (h : wp_X11_doNight p1 M_hurdles M_wants M_rest M_frozen M_want M_read Q) :
    MetV yX11_doNight cX11_doNight 3 (none) rm_X11_doNight D [(cyI, .int), (cyJ, .long), (cyZ, .boolean)] [.ref a_M, .int p1] (W_Model cyI cyJ cyZ a_M a_M_square a_M_want a_M_text a_M_read a_M_row a_M_foldSet a_M_foldEdges a_M_foldNeeds a_M_foldYards a_M_least a_M_ways a_M_price a_M_rowBy a_M_columnBy a_M_rowOf a_M_wayBack a_M_slack a_M_isUsed a_M_lifted a_M_freed a_M_path M_wide M_high M_hedges M_hurdles M_wants M_rest M_frozen M_bytes M_position M_tokenAt M_token M_digits M_number M_faultAt M_readMany M_readWide M_readHigh M_nights M_why M_folds M_square M_want M_text M_read M_row M_foldSet M_foldEdges M_foldNeeds M_foldYards M_least M_ways M_price M_rowBy M_columnBy M_rowOf M_wayBack M_slack M_isUsed M_lifted M_freed M_path) (fun u : Int32 × Int32 × Int32 × Int32 × (Nat → Int32) => (W_Model cyI cyJ cyZ a_M a_M_square a_M_want a_M_text a_M_read a_M_row a_M_foldSet a_M_foldEdges a_M_foldNeeds a_M_foldYards a_M_least a_M_ways a_M_price a_M_rowBy a_M_columnBy a_M_rowOf a_M_wayBack a_M_slack a_M_isUsed a_M_lifted a_M_freed a_M_path M_wide M_high M_hedges u.1 u.2.1 u.2.2.1 u.2.2.2.1 M_bytes M_position M_tokenAt M_token M_digits M_number M_faultAt M_readMany M_readWide M_readHigh M_nights M_why M_folds M_square u.2.2.2.2 M_text M_read M_row M_foldSet M_foldEdges M_foldNeeds M_foldYards M_least M_ways M_price M_rowBy M_columnBy M_rowOf M_wayBack M_slack M_isUsed M_lifted M_freed M_path)) (fun u => Q u) := by
  unfold wp_X11_doNight at h
  refine metV_of (by decide) (Nat.le_of_ble_eq_true rfl) (fun x cx0 hR0 => ?_)
  have cx : Cx x cX11_doNight 3 RX11 rm_X11_doNight D [(cyI, .int), (cyJ, .long), (cyZ, .boolean)] := cx0
  have hR : ∀ (u : Int32 × Int32 × Int32 × Int32 × (Nat → Int32)) (pc : Nat) (lv : List (Nat × Value)), decode cX11_doNight pc = .ok (.return_, 1) → Q u → J x 0 0 3 (W_Model cyI cyJ cyZ a_M a_M_square a_M_want a_M_text a_M_read a_M_row a_M_foldSet a_M_foldEdges a_M_foldNeeds a_M_foldYards a_M_least a_M_ways a_M_price a_M_rowBy a_M_columnBy a_M_rowOf a_M_wayBack a_M_slack a_M_isUsed a_M_lifted a_M_freed a_M_path M_wide M_high M_hedges u.1 u.2.1 u.2.2.1 u.2.2.2.1 M_bytes M_position M_tokenAt M_token M_digits M_number M_faultAt M_readMany M_readWide M_readHigh M_nights M_why M_folds M_square u.2.2.2.2 M_text M_read M_row M_foldSet M_foldEdges M_foldNeeds M_foldYards M_least M_ways M_price M_rowBy M_columnBy M_rowOf M_wayBack M_slack M_isUsed M_lifted M_freed M_path) lv pc [] := (fun u pc lv d hq => hR0 u pc lv d hq)
  show J x 0 0 3 (W_Model cyI cyJ cyZ a_M a_M_square a_M_want a_M_text a_M_read a_M_row a_M_foldSet a_M_foldEdges a_M_foldNeeds a_M_foldYards a_M_least a_M_ways a_M_price a_M_rowBy a_M_columnBy a_M_rowOf a_M_wayBack a_M_slack a_M_isUsed a_M_lifted a_M_freed a_M_path M_wide M_high M_hedges M_hurdles M_wants M_rest M_frozen M_bytes M_position M_tokenAt M_token M_digits M_number M_faultAt M_readMany M_readWide M_readHigh M_nights M_why M_folds M_square M_want M_text M_read M_row M_foldSet M_foldEdges M_foldNeeds M_foldYards M_least M_ways M_price M_rowBy M_columnBy M_rowOf M_wayBack M_slack M_isUsed M_lifted M_freed M_path) [(0, .ref a_M), (1, .int p1)] 0 []
  refine j_aload_n cx 0 rfl rfl dX11_doNight_0 (pn := 1) rfl ?_
  refine j_get cx inGX11 0 rfl rfl 18 (by decide) q_fl_X11_29 rfl rfl dX11_doNight_1 (pn := 4) rfl ?_
  refine j_iload_n cx 1 rfl rfl dX11_doNight_4 (pn := 5) rfl ?_
  refine j_iconst cx (v := 1) (by decide) dX11_doNight_5 (pn := 6) rfl ?_
  refine j_iadd cx dX11_doNight_6 (pn := 7) rfl ?_
  refine j_iald cx 4 0 rfl rfl h.1 dX11_doNight_7 (pn := 8) rfl ?_
  have h := h.2
  refine j_topi (fun y1 ey1 => ?_)
  have h := h y1 ey1
  refine j_istore_n cx rfl [(2, .int y1), (0, .ref a_M), (1, .int p1)] (by decide) rfl dX11_doNight_8 (pn := 9) rfl ?_
  refine j_aload_n cx 1 rfl rfl dX11_doNight_9 (pn := 10) rfl ?_
  refine j_get cx inGX11 0 rfl rfl 18 (by decide) q_fl_X11_29 rfl rfl dX11_doNight_10 (pn := 13) rfl ?_
  refine j_iload_n cx 2 rfl rfl dX11_doNight_13 (pn := 14) rfl ?_
  refine j_iald cx 4 0 rfl rfl h.1 dX11_doNight_14 (pn := 15) rfl ?_
  have h := h.2
  refine j_bipush cx (v := 6) (by decide) dX11_doNight_15 (pn := 17) rfl ?_
  refine j_icmp_ne cx 28 dX11_doNight_17 (pn := 20) rfl rfl (fun c2 => ?_) (fun c2 => ?_)
  · have h := h.1 c2
    refine j_aload_n cx 1 rfl rfl dX11_doNight_28 (pn := 29) rfl ?_
    refine j_get cx inGX11 0 rfl rfl 18 (by decide) q_fl_X11_29 rfl rfl dX11_doNight_29 (pn := 32) rfl ?_
    refine j_iload_n cx 2 rfl rfl dX11_doNight_32 (pn := 33) rfl ?_
    refine j_iald cx 4 0 rfl rfl h.1 dX11_doNight_33 (pn := 34) rfl ?_
    have h := h.2
    refine j_bipush cx (v := 7) (by decide) dX11_doNight_34 (pn := 36) rfl ?_
    refine j_icmp_ne cx 71 dX11_doNight_36 (pn := 39) rfl rfl (fun c3 => ?_) (fun c3 => ?_)
    · have h := h.1 c3
      refine j_sub [1, 2, 0] [(0, .ref a_M), (1, .int p1), (2, .int y1)] rfl ?_
      exact J_X11_doNight_71 cx hR h
    · have h := h.2 c3
      refine j_aload_n cx 1 rfl rfl dX11_doNight_39 (pn := 40) rfl ?_
      refine j_get cx inGX11 0 rfl rfl 5 (by decide) q_fl_X11_209 rfl rfl dX11_doNight_40 (pn := 43) rfl ?_
      refine j_bipush cx (v := 7) (by decide) dX11_doNight_43 (pn := 45) rfl ?_
      refine j_icmp_ge cx 71 dX11_doNight_45 (pn := 48) rfl rfl (fun c8 => ?_) (fun c8 => ?_)
      · have h := h.1 c8
        refine j_sub [1, 2, 0] [(0, .ref a_M), (1, .int p1), (2, .int y1)] rfl ?_
        exact J_X11_doNight_71 cx hR h
      · have h := h.2 c8
        refine j_aload_n cx 1 rfl rfl dX11_doNight_48 (pn := 49) rfl ?_
        refine j_get cx inGX11 0 rfl rfl 6 (by decide) q_fl_X11_23 rfl rfl dX11_doNight_49 (pn := 52) rfl ?_
        refine j_aload_n cx 1 rfl rfl dX11_doNight_52 (pn := 53) rfl ?_
        refine j_get cx inGX11 0 rfl rfl 5 (by decide) q_fl_X11_209 rfl rfl dX11_doNight_53 (pn := 56) rfl ?_
        refine j_iload_n cx 0 rfl rfl dX11_doNight_56 (pn := 57) rfl ?_
        have hin := h.1
        obtain ⟨f9, ef9⟩ : ∃ z, z = upd M_want M_wants.toNatClampNeg y1 := ⟨_, rfl⟩
        have h := h.2 f9 ef9
        refine j_iast cx 2 0 rfl rfl hin (W_Model cyI cyJ cyZ a_M a_M_square a_M_want a_M_text a_M_read a_M_row a_M_foldSet a_M_foldEdges a_M_foldNeeds a_M_foldYards a_M_least a_M_ways a_M_price a_M_rowBy a_M_columnBy a_M_rowOf a_M_wayBack a_M_slack a_M_isUsed a_M_lifted a_M_freed a_M_path M_wide M_high M_hedges M_hurdles M_wants M_rest M_frozen M_bytes M_position M_tokenAt M_token M_digits M_number M_faultAt M_readMany M_readWide M_readHigh M_nights M_why M_folds M_square f9 M_text M_read M_row M_foldSet M_foldEdges M_foldNeeds M_foldYards M_least M_ways M_price M_rowBy M_columnBy M_rowOf M_wayBack M_slack M_isUsed M_lifted M_freed M_path) (by subst ef9; rfl) dX11_doNight_57 (pn := 58) rfl ?_
        refine j_aload_n cx 1 rfl rfl dX11_doNight_58 (pn := 59) rfl ?_
        refine j_dup cx rfl dX11_doNight_59 (pn := 60) rfl ?_
        refine j_get cx inGX11 0 rfl rfl 5 (by decide) q_fl_X11_209 rfl rfl dX11_doNight_60 (pn := 63) rfl ?_
        refine j_iconst cx (v := 1) (by decide) dX11_doNight_63 (pn := 64) rfl ?_
        refine j_iadd cx dX11_doNight_64 (pn := 65) rfl ?_
        refine j_topi (fun y10 ey10 => ?_)
        have h := h y10 ey10
        refine j_put cx tyX11 tyX11_ok nmX11 inGX11 0 rfl rfl 5 (by decide) q_fl_X11_209 rfl rfl rfl rfl rfl (Nat.le_of_ble_eq_true rfl) (W_Model cyI cyJ cyZ a_M a_M_square a_M_want a_M_text a_M_read a_M_row a_M_foldSet a_M_foldEdges a_M_foldNeeds a_M_foldYards a_M_least a_M_ways a_M_price a_M_rowBy a_M_columnBy a_M_rowOf a_M_wayBack a_M_slack a_M_isUsed a_M_lifted a_M_freed a_M_path M_wide M_high M_hedges M_hurdles y10 M_rest M_frozen M_bytes M_position M_tokenAt M_token M_digits M_number M_faultAt M_readMany M_readWide M_readHigh M_nights M_why M_folds M_square f9 M_text M_read M_row M_foldSet M_foldEdges M_foldNeeds M_foldYards M_least M_ways M_price M_rowBy M_columnBy M_rowOf M_wayBack M_slack M_isUsed M_lifted M_freed M_path) rfl dX11_doNight_65 (pn := 68) rfl ?_
        refine j_goto cx 137 dX11_doNight_68 rfl ?_
        exact hR (M_hurdles, y10, M_rest, M_frozen, f9) 137 _ dX11_doNight_137 h
  · have h := h.2 c2
    refine j_aload_n cx 1 rfl rfl dX11_doNight_20 (pn := 21) rfl ?_
    refine j_iload_n cx 0 rfl rfl dX11_doNight_21 (pn := 22) rfl ?_
    refine j_put cx tyX11 tyX11_ok nmX11 inGX11 0 rfl rfl 4 (by decide) q_fl_X11_20 rfl rfl rfl rfl rfl (Nat.le_of_ble_eq_true rfl) (W_Model cyI cyJ cyZ a_M a_M_square a_M_want a_M_text a_M_read a_M_row a_M_foldSet a_M_foldEdges a_M_foldNeeds a_M_foldYards a_M_least a_M_ways a_M_price a_M_rowBy a_M_columnBy a_M_rowOf a_M_wayBack a_M_slack a_M_isUsed a_M_lifted a_M_freed a_M_path M_wide M_high M_hedges y1 M_wants M_rest M_frozen M_bytes M_position M_tokenAt M_token M_digits M_number M_faultAt M_readMany M_readWide M_readHigh M_nights M_why M_folds M_square M_want M_text M_read M_row M_foldSet M_foldEdges M_foldNeeds M_foldYards M_least M_ways M_price M_rowBy M_columnBy M_rowOf M_wayBack M_slack M_isUsed M_lifted M_freed M_path) rfl dX11_doNight_22 (pn := 25) rfl ?_
    refine j_goto cx 137 dX11_doNight_25 rfl ?_
    exact hR (y1, M_wants, M_rest, M_frozen, M_want) 137 _ dX11_doNight_137 h
theorem dX11_doLine_0 : decode cX11_doLine 0 = .ok (.aload_n 0, 1) := by decide +kernel
theorem dX11_doLine_1 : decode cX11_doLine 1 = .ok (.getfield 7, 3) := by decide +kernel
theorem dX11_doLine_4 : decode cX11_doLine 4 = .ok (.aload_n 0, 1) := by decide +kernel
theorem dX11_doLine_5 : decode cX11_doLine 5 = .ok (.getfield 29, 3) := by decide +kernel
theorem dX11_doLine_8 : decode cX11_doLine 8 = .ok (.iload_n 1, 1) := by decide +kernel
theorem dX11_doLine_9 : decode cX11_doLine 9 = .ok (.iconst 2, 1) := by decide +kernel
theorem dX11_doLine_10 : decode cX11_doLine 10 = .ok (.iadd, 1) := by decide +kernel
theorem dX11_doLine_11 : decode cX11_doLine 11 = .ok (.iaload, 1) := by decide +kernel
theorem dX11_doLine_12 : decode cX11_doLine 12 = .ok (.imul, 1) := by decide +kernel
theorem dX11_doLine_13 : decode cX11_doLine 13 = .ok (.aload_n 0, 1) := by decide +kernel
theorem dX11_doLine_14 : decode cX11_doLine 14 = .ok (.getfield 29, 3) := by decide +kernel
theorem dX11_doLine_17 : decode cX11_doLine 17 = .ok (.iload_n 1, 1) := by decide +kernel
theorem dX11_doLine_18 : decode cX11_doLine 18 = .ok (.iconst 1, 1) := by decide +kernel
theorem dX11_doLine_19 : decode cX11_doLine 19 = .ok (.iadd, 1) := by decide +kernel
theorem dX11_doLine_20 : decode cX11_doLine 20 = .ok (.iaload, 1) := by decide +kernel
theorem dX11_doLine_21 : decode cX11_doLine 21 = .ok (.iadd, 1) := by decide +kernel
theorem dX11_doLine_22 : decode cX11_doLine 22 = .ok (.istore_n 2, 1) := by decide +kernel
theorem dX11_doLine_23 : decode cX11_doLine 23 = .ok (.aload_n 0, 1) := by decide +kernel
theorem dX11_doLine_24 : decode cX11_doLine 24 = .ok (.getfield 29, 3) := by decide +kernel
theorem dX11_doLine_27 : decode cX11_doLine 27 = .ok (.iload_n 1, 1) := by decide +kernel
theorem dX11_doLine_28 : decode cX11_doLine 28 = .ok (.iaload, 1) := by decide +kernel
theorem dX11_doLine_29 : decode cX11_doLine 29 = .ok (.tableswitch 194 0 5 #[39, 97, 114, 125, 136, 163], 39) := by decide +kernel
theorem dX11_doLine_68 : decode cX11_doLine 68 = .ok (.aload_n 0, 1) := by decide +kernel
theorem dX11_doLine_69 : decode cX11_doLine 69 = .ok (.aload_n 0, 1) := by decide +kernel
theorem dX11_doLine_70 : decode cX11_doLine 70 = .ok (.getfield 29, 3) := by decide +kernel
theorem dX11_doLine_73 : decode cX11_doLine 73 = .ok (.iload_n 1, 1) := by decide +kernel
theorem dX11_doLine_74 : decode cX11_doLine 74 = .ok (.iconst 1, 1) := by decide +kernel
theorem dX11_doLine_75 : decode cX11_doLine 75 = .ok (.iadd, 1) := by decide +kernel
theorem dX11_doLine_76 : decode cX11_doLine 76 = .ok (.iaload, 1) := by decide +kernel
theorem dX11_doLine_77 : decode cX11_doLine 77 = .ok (.putfield 7, 3) := by decide +kernel
theorem dX11_doLine_80 : decode cX11_doLine 80 = .ok (.aload_n 0, 1) := by decide +kernel
theorem dX11_doLine_81 : decode cX11_doLine 81 = .ok (.aload_n 0, 1) := by decide +kernel
theorem dX11_doLine_82 : decode cX11_doLine 82 = .ok (.getfield 29, 3) := by decide +kernel
theorem dX11_doLine_85 : decode cX11_doLine 85 = .ok (.iload_n 1, 1) := by decide +kernel
theorem dX11_doLine_86 : decode cX11_doLine 86 = .ok (.iconst 2, 1) := by decide +kernel
theorem dX11_doLine_87 : decode cX11_doLine 87 = .ok (.iadd, 1) := by decide +kernel
theorem dX11_doLine_88 : decode cX11_doLine 88 = .ok (.iaload, 1) := by decide +kernel
theorem dX11_doLine_89 : decode cX11_doLine 89 = .ok (.putfield 13, 3) := by decide +kernel
theorem dX11_doLine_92 : decode cX11_doLine 92 = .ok (.aload_n 0, 1) := by decide +kernel
theorem dX11_doLine_93 : decode cX11_doLine 93 = .ok (.lconst 0, 1) := by decide +kernel
theorem dX11_doLine_94 : decode cX11_doLine 94 = .ok (.putfield 195, 3) := by decide +kernel
theorem dX11_doLine_97 : decode cX11_doLine 97 = .ok (.aload_n 0, 1) := by decide +kernel
theorem dX11_doLine_98 : decode cX11_doLine 98 = .ok (.iconst 0, 1) := by decide +kernel
theorem dX11_doLine_99 : decode cX11_doLine 99 = .ok (.putfield 198, 3) := by decide +kernel
theorem dX11_doLine_102 : decode cX11_doLine 102 = .ok (.iconst 0, 1) := by decide +kernel
theorem dX11_doLine_103 : decode cX11_doLine 103 = .ok (.istore_n 3, 1) := by decide +kernel
theorem dX11_doLine_104 : decode cX11_doLine 104 = .ok (.iload_n 3, 1) := by decide +kernel
theorem dX11_doLine_105 : decode cX11_doLine 105 = .ok (.bipush 10, 2) := by decide +kernel
theorem dX11_doLine_107 : decode cX11_doLine 107 = .ok (.if_icmp .ge 16, 3) := by decide +kernel
theorem dX11_doLine_110 : decode cX11_doLine 110 = .ok (.aload_n 0, 1) := by decide +kernel
theorem dX11_doLine_111 : decode cX11_doLine 111 = .ok (.getfield 16, 3) := by decide +kernel
theorem dX11_doLine_114 : decode cX11_doLine 114 = .ok (.iload_n 3, 1) := by decide +kernel
theorem dX11_doLine_115 : decode cX11_doLine 115 = .ok (.iconst 1, 1) := by decide +kernel
theorem dX11_doLine_116 : decode cX11_doLine 116 = .ok (.iastore, 1) := by decide +kernel
theorem dX11_doLine_117 : decode cX11_doLine 117 = .ok (.iinc 3 1, 3) := by decide +kernel
theorem dX11_doLine_120 : decode cX11_doLine 120 = .ok (.goto (-16), 3) := by decide +kernel
theorem dX11_doLine_123 : decode cX11_doLine 123 = .ok (.goto 105, 3) := by decide +kernel
theorem dX11_doLine_126 : decode cX11_doLine 126 = .ok (.aload_n 0, 1) := by decide +kernel
theorem dX11_doLine_127 : decode cX11_doLine 127 = .ok (.getfield 16, 3) := by decide +kernel
theorem dX11_doLine_130 : decode cX11_doLine 130 = .ok (.iload_n 2, 1) := by decide +kernel
theorem dX11_doLine_131 : decode cX11_doLine 131 = .ok (.aload_n 0, 1) := by decide +kernel
theorem dX11_doLine_132 : decode cX11_doLine 132 = .ok (.getfield 29, 3) := by decide +kernel
theorem dX11_doLine_135 : decode cX11_doLine 135 = .ok (.iload_n 1, 1) := by decide +kernel
theorem dX11_doLine_136 : decode cX11_doLine 136 = .ok (.iconst 3, 1) := by decide +kernel
theorem dX11_doLine_137 : decode cX11_doLine 137 = .ok (.iadd, 1) := by decide +kernel
theorem dX11_doLine_138 : decode cX11_doLine 138 = .ok (.iaload, 1) := by decide +kernel
theorem dX11_doLine_139 : decode cX11_doLine 139 = .ok (.iastore, 1) := by decide +kernel
theorem dX11_doLine_140 : decode cX11_doLine 140 = .ok (.goto 88, 3) := by decide +kernel
theorem dX11_doLine_143 : decode cX11_doLine 143 = .ok (.aload_n 0, 1) := by decide +kernel
theorem dX11_doLine_144 : decode cX11_doLine 144 = .ok (.getfield 16, 3) := by decide +kernel
theorem dX11_doLine_147 : decode cX11_doLine 147 = .ok (.iload_n 2, 1) := by decide +kernel
theorem dX11_doLine_148 : decode cX11_doLine 148 = .ok (.bipush 10, 2) := by decide +kernel
theorem dX11_doLine_150 : decode cX11_doLine 150 = .ok (.iastore, 1) := by decide +kernel
theorem dX11_doLine_151 : decode cX11_doLine 151 = .ok (.goto 77, 3) := by decide +kernel
theorem dX11_doLine_154 : decode cX11_doLine 154 = .ok (.aload_n 0, 1) := by decide +kernel
theorem dX11_doLine_155 : decode cX11_doLine 155 = .ok (.getfield 16, 3) := by decide +kernel
theorem dX11_doLine_158 : decode cX11_doLine 158 = .ok (.iload_n 2, 1) := by decide +kernel
theorem dX11_doLine_159 : decode cX11_doLine 159 = .ok (.bipush 11, 2) := by decide +kernel
theorem dX11_doLine_161 : decode cX11_doLine 161 = .ok (.iastore, 1) := by decide +kernel
theorem dX11_doLine_162 : decode cX11_doLine 162 = .ok (.goto 66, 3) := by decide +kernel
theorem dX11_doLine_165 : decode cX11_doLine 165 = .ok (.aload_n 0, 1) := by decide +kernel
theorem dX11_doLine_166 : decode cX11_doLine 166 = .ok (.aload_n 0, 1) := by decide +kernel
theorem dX11_doLine_167 : decode cX11_doLine 167 = .ok (.getfield 195, 3) := by decide +kernel
theorem dX11_doLine_170 : decode cX11_doLine 170 = .ok (.lconst 1, 1) := by decide +kernel
theorem dX11_doLine_171 : decode cX11_doLine 171 = .ok (.aload_n 0, 1) := by decide +kernel
theorem dX11_doLine_172 : decode cX11_doLine 172 = .ok (.iload_n 2, 1) := by decide +kernel
theorem dX11_doLine_173 : decode cX11_doLine 173 = .ok (.aload_n 0, 1) := by decide +kernel
theorem dX11_doLine_174 : decode cX11_doLine 174 = .ok (.getfield 29, 3) := by decide +kernel
theorem dX11_doLine_177 : decode cX11_doLine 177 = .ok (.iload_n 1, 1) := by decide +kernel
theorem dX11_doLine_178 : decode cX11_doLine 178 = .ok (.iconst 3, 1) := by decide +kernel
theorem dX11_doLine_179 : decode cX11_doLine 179 = .ok (.iadd, 1) := by decide +kernel
theorem dX11_doLine_180 : decode cX11_doLine 180 = .ok (.iaload, 1) := by decide +kernel
theorem dX11_doLine_181 : decode cX11_doLine 181 = .ok (.invokevirtual 201, 3) := by decide +kernel
theorem dX11_doLine_184 : decode cX11_doLine 184 = .ok (.lshl, 1) := by decide +kernel
theorem dX11_doLine_185 : decode cX11_doLine 185 = .ok (.lor, 1) := by decide +kernel
theorem dX11_doLine_186 : decode cX11_doLine 186 = .ok (.putfield 195, 3) := by decide +kernel
theorem dX11_doLine_189 : decode cX11_doLine 189 = .ok (.goto 39, 3) := by decide +kernel
theorem dX11_doLine_192 : decode cX11_doLine 192 = .ok (.aload_n 0, 1) := by decide +kernel
theorem dX11_doLine_193 : decode cX11_doLine 193 = .ok (.aload_n 0, 1) := by decide +kernel
theorem dX11_doLine_194 : decode cX11_doLine 194 = .ok (.getfield 195, 3) := by decide +kernel
theorem dX11_doLine_197 : decode cX11_doLine 197 = .ok (.lconst 1, 1) := by decide +kernel
theorem dX11_doLine_198 : decode cX11_doLine 198 = .ok (.aload_n 0, 1) := by decide +kernel
theorem dX11_doLine_199 : decode cX11_doLine 199 = .ok (.iload_n 2, 1) := by decide +kernel
theorem dX11_doLine_200 : decode cX11_doLine 200 = .ok (.aload_n 0, 1) := by decide +kernel
theorem dX11_doLine_201 : decode cX11_doLine 201 = .ok (.getfield 29, 3) := by decide +kernel
theorem dX11_doLine_204 : decode cX11_doLine 204 = .ok (.iload_n 1, 1) := by decide +kernel
theorem dX11_doLine_205 : decode cX11_doLine 205 = .ok (.iconst 3, 1) := by decide +kernel
theorem dX11_doLine_206 : decode cX11_doLine 206 = .ok (.iadd, 1) := by decide +kernel
theorem dX11_doLine_207 : decode cX11_doLine 207 = .ok (.iaload, 1) := by decide +kernel
theorem dX11_doLine_208 : decode cX11_doLine 208 = .ok (.invokevirtual 201, 3) := by decide +kernel
theorem dX11_doLine_211 : decode cX11_doLine 211 = .ok (.lshl, 1) := by decide +kernel
theorem dX11_doLine_212 : decode cX11_doLine 212 = .ok (.ldc2_w 123, 3) := by decide +kernel
theorem dX11_doLine_215 : decode cX11_doLine 215 = .ok (.lxor, 1) := by decide +kernel
theorem dX11_doLine_216 : decode cX11_doLine 216 = .ok (.land, 1) := by decide +kernel
theorem dX11_doLine_217 : decode cX11_doLine 217 = .ok (.putfield 195, 3) := by decide +kernel
theorem dX11_doLine_220 : decode cX11_doLine 220 = .ok (.goto 8, 3) := by decide +kernel
theorem dX11_doLine_223 : decode cX11_doLine 223 = .ok (.aload_n 0, 1) := by decide +kernel
theorem dX11_doLine_224 : decode cX11_doLine 224 = .ok (.iload_n 1, 1) := by decide +kernel
theorem dX11_doLine_225 : decode cX11_doLine 225 = .ok (.invokevirtual 205, 3) := by decide +kernel
theorem dX11_doLine_228 : decode cX11_doLine 228 = .ok (.return_, 1) := by decide +kernel
abbrev rm_X11_doLine : Room := { frames := 1, cells := 0, slots := 0, locals := 24 }
theorem hd_X11_doLine : yX11_doLine.cls ≠ "java/lang/invoke/MethodHandle" ∧ yX11_doLine.cls ≠ "java/lang/invoke/VarHandle" ∧ (parseMethodDescriptor yX11_doLine.desc).map (fun d => d.parameters.length) = some 1 := by decide +kernel
def bd_X11_doLine_104 (Q : (Int32 × Int32 × Int64 × Int32 × Int32 × Int32 × Int32 × Int32 × (Nat → Int32) × (Nat → Int32)) → Prop) (B104 : (Nat → Int32) → Int32 → Prop) (M_wide : Int32) (M_high : Int32) (M_hedges : Int64) (M_hurdles : Int32) (M_wants : Int32) (M_rest : Int32) (M_frozen : Int32) (M_nights : Int32) (M_want : Nat → Int32) (M_square : Nat → Int32) (x3 : Int32) : Prop :=
((10 ≤ x3 → Q (M_wide, M_high, M_hedges, M_hurdles, M_wants, M_rest, M_frozen, M_nights, M_square, M_want)) ∧
(¬ 10 ≤ x3 → vp_in x3 10 ∧ (∀ f5 : Nat → Int32, f5 = (upd M_square x3.toNatClampNeg 1) →
∀ y6 : Int32, y6 = (x3 + 1) →
B104 f5 y6)))
def lp_X11_doLine_104 (Q : (Int32 × Int32 × Int64 × Int32 × Int32 × Int32 × Int32 × Int32 × (Nat → Int32) × (Nat → Int32)) → Prop) (M_wide : Int32) (M_high : Int32) (M_hedges : Int64) (M_hurdles : Int32) (M_wants : Int32) (M_rest : Int32) (M_frozen : Int32) (M_nights : Int32) (M_want : Nat → Int32) (M_square : Nat → Int32) (x3 : Int32) : Prop :=
∃ I : Nat → (Nat → Int32) → Int32 → Prop, (∃ n, I n M_square x3) ∧ ∀ n M_square x3, I n M_square x3 → bd_X11_doLine_104 Q  (fun M_square' x3' => ∃ n', n' < n ∧ I n' M_square' x3') M_wide M_high M_hedges M_hurdles M_wants M_rest M_frozen M_nights M_want M_square x3
def wp_X11_doLine (p1 : Int32) (M_wide : Int32) (M_high : Int32) (M_hedges : Int64) (M_hurdles : Int32) (M_wants : Int32) (M_rest : Int32) (M_frozen : Int32) (M_nights : Int32) (M_square : Nat → Int32) (M_want : Nat → Int32) (M_read : Nat → Int32) (Q : (Int32 × Int32 × Int64 × Int32 × Int32 × Int32 × Int32 × Int32 × (Nat → Int32) × (Nat → Int32)) → Prop) : Prop :=
vp_in (p1 + 2) 40 ∧ vp_in (p1 + 1) 40 ∧ (∀ y1 : Int32, y1 = ((M_wide * (M_read (p1 + 2).toNatClampNeg)) + (M_read (p1 + 1).toNatClampNeg)) →
vp_in p1 40 ∧ (((M_read p1.toNatClampNeg) = 0 → vp_in (p1 + 1) 40 ∧ (∀ y2 : Int32, y2 = (M_read (p1 + 1).toNatClampNeg) →
vp_in (p1 + 2) 40 ∧ (∀ y3 : Int32, y3 = (M_read (p1 + 2).toNatClampNeg) →
lp_X11_doLine_104 Q y2 y3 0 M_hurdles M_wants M_rest M_frozen 0 M_want M_square 0))) ∧
((M_read p1.toNatClampNeg) = 1 → vp_in (p1 + 3) 40 ∧ (∀ y7 : Int32, y7 = (M_read (p1 + 3).toNatClampNeg) →
vp_in y1 10 ∧ (∀ f8 : Nat → Int32, f8 = (upd M_square y1.toNatClampNeg y7) →
Q (M_wide, M_high, M_hedges, M_hurdles, M_wants, M_rest, M_frozen, M_nights, f8, M_want)))) ∧
((M_read p1.toNatClampNeg) = 2 → vp_in y1 10 ∧ (∀ f9 : Nat → Int32, f9 = (upd M_square y1.toNatClampNeg 10) →
Q (M_wide, M_high, M_hedges, M_hurdles, M_wants, M_rest, M_frozen, M_nights, f9, M_want))) ∧
((M_read p1.toNatClampNeg) = 3 → vp_in y1 10 ∧ (∀ f10 : Nat → Int32, f10 = (upd M_square y1.toNatClampNeg 11) →
Q (M_wide, M_high, M_hedges, M_hurdles, M_wants, M_rest, M_frozen, M_nights, f10, M_want))) ∧
((M_read p1.toNatClampNeg) = 4 → vp_in (p1 + 3) 40 ∧ wp_X11_edgeAt y1 (M_read (p1 + 3).toNatClampNeg) M_wide M_high (fun (r11 : Int32) => ∀ y12 : Int64, y12 = (M_hedges ||| (1 <<< (r11.toInt64 &&& 63))) →
Q (M_wide, M_high, y12, M_hurdles, M_wants, M_rest, M_frozen, M_nights, M_square, M_want))) ∧
((M_read p1.toNatClampNeg) = 5 → vp_in (p1 + 3) 40 ∧ wp_X11_edgeAt y1 (M_read (p1 + 3).toNatClampNeg) M_wide M_high (fun (r13 : Int32) => ∀ y14 : Int64, y14 = (M_hedges &&& ((1 <<< (r13.toInt64 &&& 63)) ^^^ (-1))) →
Q (M_wide, M_high, y14, M_hurdles, M_wants, M_rest, M_frozen, M_nights, M_square, M_want))) ∧
((¬ (M_read p1.toNatClampNeg) = 0 ∧ ¬ (M_read p1.toNatClampNeg) = 1 ∧ ¬ (M_read p1.toNatClampNeg) = 2 ∧ ¬ (M_read p1.toNatClampNeg) = 3 ∧ ¬ (M_read p1.toNatClampNeg) = 4 ∧ ¬ (M_read p1.toNatClampNeg) = 5) → wp_X11_doNight p1 M_hurdles M_wants M_rest M_frozen M_want M_read (fun (u15 : Int32 × Int32 × Int32 × Int32 × (Nat → Int32)) => Q (M_wide, M_high, M_hedges, u15.1, u15.2.1, u15.2.2.1, u15.2.2.2.1, M_nights, M_square, u15.2.2.2.2)))))
set_option maxHeartbeats 4000000 in
set_option maxRecDepth 100000 in
theorem B_X11_doLine_104 {x : CX} {D : DG} {cyI cyJ cyZ : ClassId} {a_M a_M_square a_M_want a_M_text a_M_read a_M_row a_M_foldSet a_M_foldEdges a_M_foldNeeds a_M_foldYards a_M_least a_M_ways a_M_price a_M_rowBy a_M_columnBy a_M_rowOf a_M_wayBack a_M_slack a_M_isUsed a_M_lifted a_M_freed a_M_path : Nat} {M_wide : Int32} {M_high : Int32} {M_hedges : Int64} {M_hurdles : Int32} {M_wants : Int32} {M_rest : Int32} {M_frozen : Int32} {M_bytes : Int32} {M_position : Int32} {M_tokenAt : Int32} {M_token : Int64} {M_digits : Int32} {M_number : Int32} {M_faultAt : Int32} {M_readMany : Int32} {M_readWide : Int32} {M_readHigh : Int32} {M_nights : Int32} {M_why : Int32} {M_folds : Int32} {M_square : Nat → Int32} {M_want : Nat → Int32} {M_text : Nat → Int32} {M_read : Nat → Int32} {M_row : Nat → Int32} {M_foldSet : Nat → Int32} {M_foldEdges : Nat → Int64} {M_foldNeeds : Nat → Int32} {M_foldYards : Nat → Int32} {M_least : Nat → Int32} {M_ways : Nat → Int32} {M_price : Nat → Int32} {M_rowBy : Nat → Int32} {M_columnBy : Nat → Int32} {M_rowOf : Nat → Int32} {M_wayBack : Nat → Int32} {M_slack : Nat → Int32} {M_isUsed : Nat → Int32} {M_lifted : Nat → Int32} {M_freed : Nat → Int32} {M_path : Nat → Int32} {x3 : Int32} {Q : (Int32 × Int32 × Int64 × Int32 × Int32 × Int32 × Int32 × Int32 × (Nat → Int32) × (Nat → Int32)) → Prop} {B104 : (Nat → Int32) → Int32 → Prop} (cx : Cx x cX11_doLine 4 RX11 rm_X11_doLine D [(cyI, .int), (cyJ, .long), (cyZ, .boolean)]) (hR : ∀ (u : Int32 × Int32 × Int64 × Int32 × Int32 × Int32 × Int32 × Int32 × (Nat → Int32) × (Nat → Int32)) (pc : Nat) (lv : List (Nat × Value)), decode cX11_doLine pc = .ok (.return_, 1) → Q u → J x 0 0 4 (W_Model cyI cyJ cyZ a_M a_M_square a_M_want a_M_text a_M_read a_M_row a_M_foldSet a_M_foldEdges a_M_foldNeeds a_M_foldYards a_M_least a_M_ways a_M_price a_M_rowBy a_M_columnBy a_M_rowOf a_M_wayBack a_M_slack a_M_isUsed a_M_lifted a_M_freed a_M_path u.1 u.2.1 u.2.2.1 u.2.2.2.1 u.2.2.2.2.1 u.2.2.2.2.2.1 u.2.2.2.2.2.2.1 M_bytes M_position M_tokenAt M_token M_digits M_number M_faultAt M_readMany M_readWide M_readHigh u.2.2.2.2.2.2.2.1 M_why M_folds u.2.2.2.2.2.2.2.2.1 u.2.2.2.2.2.2.2.2.2 M_text M_read M_row M_foldSet M_foldEdges M_foldNeeds M_foldYards M_least M_ways M_price M_rowBy M_columnBy M_rowOf M_wayBack M_slack M_isUsed M_lifted M_freed M_path) lv pc []) (hB104 : ∀ (M_square : Nat → Int32) (x3 : Int32), B104 M_square x3 → J x 0 0 4 (W_Model cyI cyJ cyZ a_M a_M_square a_M_want a_M_text a_M_read a_M_row a_M_foldSet a_M_foldEdges a_M_foldNeeds a_M_foldYards a_M_least a_M_ways a_M_price a_M_rowBy a_M_columnBy a_M_rowOf a_M_wayBack a_M_slack a_M_isUsed a_M_lifted a_M_freed a_M_path M_wide M_high M_hedges M_hurdles M_wants M_rest M_frozen M_bytes M_position M_tokenAt M_token M_digits M_number M_faultAt M_readMany M_readWide M_readHigh M_nights M_why M_folds M_square M_want M_text M_read M_row M_foldSet M_foldEdges M_foldNeeds M_foldYards M_least M_ways M_price M_rowBy M_columnBy M_rowOf M_wayBack M_slack M_isUsed M_lifted M_freed M_path) [(0, .ref a_M), (3, .int x3)] 104 []) (h : bd_X11_doLine_104 Q B104 M_wide M_high M_hedges M_hurdles M_wants M_rest M_frozen M_nights M_want M_square x3) :
    J x 0 0 4 (W_Model cyI cyJ cyZ a_M a_M_square a_M_want a_M_text a_M_read a_M_row a_M_foldSet a_M_foldEdges a_M_foldNeeds a_M_foldYards a_M_least a_M_ways a_M_price a_M_rowBy a_M_columnBy a_M_rowOf a_M_wayBack a_M_slack a_M_isUsed a_M_lifted a_M_freed a_M_path M_wide M_high M_hedges M_hurdles M_wants M_rest M_frozen M_bytes M_position M_tokenAt M_token M_digits M_number M_faultAt M_readMany M_readWide M_readHigh M_nights M_why M_folds M_square M_want M_text M_read M_row M_foldSet M_foldEdges M_foldNeeds M_foldYards M_least M_ways M_price M_rowBy M_columnBy M_rowOf M_wayBack M_slack M_isUsed M_lifted M_freed M_path) [(0, .ref a_M), (3, .int x3)] 104 [] := by
  unfold bd_X11_doLine_104 at h
  refine j_iload_n cx 1 rfl rfl dX11_doLine_104 (pn := 105) rfl ?_
  refine j_bipush cx (v := 10) (by decide) dX11_doLine_105 (pn := 107) rfl ?_
  refine j_icmp_ge cx 123 dX11_doLine_107 (pn := 110) rfl rfl (fun c4 => ?_) (fun c4 => ?_)
  · have h := h.1 c4
    refine j_goto cx 228 dX11_doLine_123 rfl ?_
    exact hR (M_wide, M_high, M_hedges, M_hurdles, M_wants, M_rest, M_frozen, M_nights, M_square, M_want) 228 _ dX11_doLine_228 h
  · have h := h.2 c4
    refine j_aload_n cx 0 rfl rfl dX11_doLine_110 (pn := 111) rfl ?_
    refine j_get cx inGX11 0 rfl rfl 2 (by decide) q_fl_X11_16 rfl rfl dX11_doLine_111 (pn := 114) rfl ?_
    refine j_iload_n cx 1 rfl rfl dX11_doLine_114 (pn := 115) rfl ?_
    refine j_iconst cx (v := 1) (by decide) dX11_doLine_115 (pn := 116) rfl ?_
    have hin := h.1
    obtain ⟨f5, ef5⟩ : ∃ z, z = upd M_square x3.toNatClampNeg 1 := ⟨_, rfl⟩
    have h := h.2 f5 ef5
    refine j_iast cx 1 0 rfl rfl hin (W_Model cyI cyJ cyZ a_M a_M_square a_M_want a_M_text a_M_read a_M_row a_M_foldSet a_M_foldEdges a_M_foldNeeds a_M_foldYards a_M_least a_M_ways a_M_price a_M_rowBy a_M_columnBy a_M_rowOf a_M_wayBack a_M_slack a_M_isUsed a_M_lifted a_M_freed a_M_path M_wide M_high M_hedges M_hurdles M_wants M_rest M_frozen M_bytes M_position M_tokenAt M_token M_digits M_number M_faultAt M_readMany M_readWide M_readHigh M_nights M_why M_folds f5 M_want M_text M_read M_row M_foldSet M_foldEdges M_foldNeeds M_foldYards M_least M_ways M_price M_rowBy M_columnBy M_rowOf M_wayBack M_slack M_isUsed M_lifted M_freed M_path) (by subst ef5; rfl) dX11_doLine_116 (pn := 117) rfl ?_
    obtain ⟨y6, ey6⟩ : ∃ z : Int32, z = x3 + 1 := ⟨_, rfl⟩
    have h := h y6 ey6
    refine j_iinc cx 1 rfl (cst := 1) (by decide) ey6 [(3, .int y6), (0, .ref a_M)] (by decide) rfl dX11_doLine_117 (pn := 120) rfl ?_
    refine j_goto cx 104 dX11_doLine_120 rfl ?_
    refine j_sub [1, 0] [(0, .ref a_M), (3, .int y6)] rfl ?_
    exact hB104 _ _ h
set_option maxHeartbeats 4000000 in
set_option maxRecDepth 100000 in
theorem J_X11_doLine_104 {x : CX} {D : DG} {cyI cyJ cyZ : ClassId} {a_M a_M_square a_M_want a_M_text a_M_read a_M_row a_M_foldSet a_M_foldEdges a_M_foldNeeds a_M_foldYards a_M_least a_M_ways a_M_price a_M_rowBy a_M_columnBy a_M_rowOf a_M_wayBack a_M_slack a_M_isUsed a_M_lifted a_M_freed a_M_path : Nat} {M_wide : Int32} {M_high : Int32} {M_hedges : Int64} {M_hurdles : Int32} {M_wants : Int32} {M_rest : Int32} {M_frozen : Int32} {M_bytes : Int32} {M_position : Int32} {M_tokenAt : Int32} {M_token : Int64} {M_digits : Int32} {M_number : Int32} {M_faultAt : Int32} {M_readMany : Int32} {M_readWide : Int32} {M_readHigh : Int32} {M_nights : Int32} {M_why : Int32} {M_folds : Int32} {M_square : Nat → Int32} {M_want : Nat → Int32} {M_text : Nat → Int32} {M_read : Nat → Int32} {M_row : Nat → Int32} {M_foldSet : Nat → Int32} {M_foldEdges : Nat → Int64} {M_foldNeeds : Nat → Int32} {M_foldYards : Nat → Int32} {M_least : Nat → Int32} {M_ways : Nat → Int32} {M_price : Nat → Int32} {M_rowBy : Nat → Int32} {M_columnBy : Nat → Int32} {M_rowOf : Nat → Int32} {M_wayBack : Nat → Int32} {M_slack : Nat → Int32} {M_isUsed : Nat → Int32} {M_lifted : Nat → Int32} {M_freed : Nat → Int32} {M_path : Nat → Int32} {x3 : Int32} {Q : (Int32 × Int32 × Int64 × Int32 × Int32 × Int32 × Int32 × Int32 × (Nat → Int32) × (Nat → Int32)) → Prop} (cx : Cx x cX11_doLine 4 RX11 rm_X11_doLine D [(cyI, .int), (cyJ, .long), (cyZ, .boolean)]) (hR : ∀ (u : Int32 × Int32 × Int64 × Int32 × Int32 × Int32 × Int32 × Int32 × (Nat → Int32) × (Nat → Int32)) (pc : Nat) (lv : List (Nat × Value)), decode cX11_doLine pc = .ok (.return_, 1) → Q u → J x 0 0 4 (W_Model cyI cyJ cyZ a_M a_M_square a_M_want a_M_text a_M_read a_M_row a_M_foldSet a_M_foldEdges a_M_foldNeeds a_M_foldYards a_M_least a_M_ways a_M_price a_M_rowBy a_M_columnBy a_M_rowOf a_M_wayBack a_M_slack a_M_isUsed a_M_lifted a_M_freed a_M_path u.1 u.2.1 u.2.2.1 u.2.2.2.1 u.2.2.2.2.1 u.2.2.2.2.2.1 u.2.2.2.2.2.2.1 M_bytes M_position M_tokenAt M_token M_digits M_number M_faultAt M_readMany M_readWide M_readHigh u.2.2.2.2.2.2.2.1 M_why M_folds u.2.2.2.2.2.2.2.2.1 u.2.2.2.2.2.2.2.2.2 M_text M_read M_row M_foldSet M_foldEdges M_foldNeeds M_foldYards M_least M_ways M_price M_rowBy M_columnBy M_rowOf M_wayBack M_slack M_isUsed M_lifted M_freed M_path) lv pc []) (h : lp_X11_doLine_104 Q  M_wide M_high M_hedges M_hurdles M_wants M_rest M_frozen M_nights M_want M_square x3) :
    J x 0 0 4 (W_Model cyI cyJ cyZ a_M a_M_square a_M_want a_M_text a_M_read a_M_row a_M_foldSet a_M_foldEdges a_M_foldNeeds a_M_foldYards a_M_least a_M_ways a_M_price a_M_rowBy a_M_columnBy a_M_rowOf a_M_wayBack a_M_slack a_M_isUsed a_M_lifted a_M_freed a_M_path M_wide M_high M_hedges M_hurdles M_wants M_rest M_frozen M_bytes M_position M_tokenAt M_token M_digits M_number M_faultAt M_readMany M_readWide M_readHigh M_nights M_why M_folds M_square M_want M_text M_read M_row M_foldSet M_foldEdges M_foldNeeds M_foldYards M_least M_ways M_price M_rowBy M_columnBy M_rowOf M_wayBack M_slack M_isUsed M_lifted M_freed M_path) [(0, .ref a_M), (3, .int x3)] 104 [] := by
  obtain ⟨I, ⟨n, h0⟩, hb⟩ := h
  revert M_square x3
  induction n using Nat.strongRecOn with
  | _ n ih =>
    intro M_square x3 h0
    exact B_X11_doLine_104 cx hR (fun _ _ hz => by obtain ⟨n2, hlt, hI⟩ := hz; exact ih n2 hlt hI) (hb n M_square x3 h0)
set_option maxHeartbeats 4000000 in
set_option maxRecDepth 100000 in
theorem c_X11_doLine {D : DG} {cyI cyJ cyZ : ClassId} {a_M a_M_square a_M_want a_M_text a_M_read a_M_row a_M_foldSet a_M_foldEdges a_M_foldNeeds a_M_foldYards a_M_least a_M_ways a_M_price a_M_rowBy a_M_columnBy a_M_rowOf a_M_wayBack a_M_slack a_M_isUsed a_M_lifted a_M_freed a_M_path : Nat} {M_wide : Int32} {M_high : Int32} {M_hedges : Int64} {M_hurdles : Int32} {M_wants : Int32} {M_rest : Int32} {M_frozen : Int32} {M_bytes : Int32} {M_position : Int32} {M_tokenAt : Int32} {M_token : Int64} {M_digits : Int32} {M_number : Int32} {M_faultAt : Int32} {M_readMany : Int32} {M_readWide : Int32} {M_readHigh : Int32} {M_nights : Int32} {M_why : Int32} {M_folds : Int32} {M_square : Nat → Int32} {M_want : Nat → Int32} {M_text : Nat → Int32} {M_read : Nat → Int32} {M_row : Nat → Int32} {M_foldSet : Nat → Int32} {M_foldEdges : Nat → Int64} {M_foldNeeds : Nat → Int32} {M_foldYards : Nat → Int32} {M_least : Nat → Int32} {M_ways : Nat → Int32} {M_price : Nat → Int32} {M_rowBy : Nat → Int32} {M_columnBy : Nat → Int32} {M_rowOf : Nat → Int32} {M_wayBack : Nat → Int32} {M_slack : Nat → Int32} {M_isUsed : Nat → Int32} {M_lifted : Nat → Int32} {M_freed : Nat → Int32} {M_path : Nat → Int32} {p1 : Int32} {Q : (Int32 × Int32 × Int64 × Int32 × Int32 × Int32 × Int32 × Int32 × (Nat → Int32) × (Nat → Int32)) → Prop} (h : wp_X11_doLine p1 M_wide M_high M_hedges M_hurdles M_wants M_rest M_frozen M_nights M_square M_want M_read Q) :
    MetV yX11_doLine cX11_doLine 4 (none) rm_X11_doLine D [(cyI, .int), (cyJ, .long), (cyZ, .boolean)] [.ref a_M, .int p1] (W_Model cyI cyJ cyZ a_M a_M_square a_M_want a_M_text a_M_read a_M_row a_M_foldSet a_M_foldEdges a_M_foldNeeds a_M_foldYards a_M_least a_M_ways a_M_price a_M_rowBy a_M_columnBy a_M_rowOf a_M_wayBack a_M_slack a_M_isUsed a_M_lifted a_M_freed a_M_path M_wide M_high M_hedges M_hurdles M_wants M_rest M_frozen M_bytes M_position M_tokenAt M_token M_digits M_number M_faultAt M_readMany M_readWide M_readHigh M_nights M_why M_folds M_square M_want M_text M_read M_row M_foldSet M_foldEdges M_foldNeeds M_foldYards M_least M_ways M_price M_rowBy M_columnBy M_rowOf M_wayBack M_slack M_isUsed M_lifted M_freed M_path) (fun u : Int32 × Int32 × Int64 × Int32 × Int32 × Int32 × Int32 × Int32 × (Nat → Int32) × (Nat → Int32) => (W_Model cyI cyJ cyZ a_M a_M_square a_M_want a_M_text a_M_read a_M_row a_M_foldSet a_M_foldEdges a_M_foldNeeds a_M_foldYards a_M_least a_M_ways a_M_price a_M_rowBy a_M_columnBy a_M_rowOf a_M_wayBack a_M_slack a_M_isUsed a_M_lifted a_M_freed a_M_path u.1 u.2.1 u.2.2.1 u.2.2.2.1 u.2.2.2.2.1 u.2.2.2.2.2.1 u.2.2.2.2.2.2.1 M_bytes M_position M_tokenAt M_token M_digits M_number M_faultAt M_readMany M_readWide M_readHigh u.2.2.2.2.2.2.2.1 M_why M_folds u.2.2.2.2.2.2.2.2.1 u.2.2.2.2.2.2.2.2.2 M_text M_read M_row M_foldSet M_foldEdges M_foldNeeds M_foldYards M_least M_ways M_price M_rowBy M_columnBy M_rowOf M_wayBack M_slack M_isUsed M_lifted M_freed M_path)) (fun u => Q u) := by
  unfold wp_X11_doLine at h
  refine metV_of (by decide) (Nat.le_of_ble_eq_true rfl) (fun x cx0 hR0 => ?_)
  have cx : Cx x cX11_doLine 4 RX11 rm_X11_doLine D [(cyI, .int), (cyJ, .long), (cyZ, .boolean)] := cx0
  have hR : ∀ (u : Int32 × Int32 × Int64 × Int32 × Int32 × Int32 × Int32 × Int32 × (Nat → Int32) × (Nat → Int32)) (pc : Nat) (lv : List (Nat × Value)), decode cX11_doLine pc = .ok (.return_, 1) → Q u → J x 0 0 4 (W_Model cyI cyJ cyZ a_M a_M_square a_M_want a_M_text a_M_read a_M_row a_M_foldSet a_M_foldEdges a_M_foldNeeds a_M_foldYards a_M_least a_M_ways a_M_price a_M_rowBy a_M_columnBy a_M_rowOf a_M_wayBack a_M_slack a_M_isUsed a_M_lifted a_M_freed a_M_path u.1 u.2.1 u.2.2.1 u.2.2.2.1 u.2.2.2.2.1 u.2.2.2.2.2.1 u.2.2.2.2.2.2.1 M_bytes M_position M_tokenAt M_token M_digits M_number M_faultAt M_readMany M_readWide M_readHigh u.2.2.2.2.2.2.2.1 M_why M_folds u.2.2.2.2.2.2.2.2.1 u.2.2.2.2.2.2.2.2.2 M_text M_read M_row M_foldSet M_foldEdges M_foldNeeds M_foldYards M_least M_ways M_price M_rowBy M_columnBy M_rowOf M_wayBack M_slack M_isUsed M_lifted M_freed M_path) lv pc [] := (fun u pc lv d hq => hR0 u pc lv d hq)
  show J x 0 0 4 (W_Model cyI cyJ cyZ a_M a_M_square a_M_want a_M_text a_M_read a_M_row a_M_foldSet a_M_foldEdges a_M_foldNeeds a_M_foldYards a_M_least a_M_ways a_M_price a_M_rowBy a_M_columnBy a_M_rowOf a_M_wayBack a_M_slack a_M_isUsed a_M_lifted a_M_freed a_M_path M_wide M_high M_hedges M_hurdles M_wants M_rest M_frozen M_bytes M_position M_tokenAt M_token M_digits M_number M_faultAt M_readMany M_readWide M_readHigh M_nights M_why M_folds M_square M_want M_text M_read M_row M_foldSet M_foldEdges M_foldNeeds M_foldYards M_least M_ways M_price M_rowBy M_columnBy M_rowOf M_wayBack M_slack M_isUsed M_lifted M_freed M_path) [(0, .ref a_M), (1, .int p1)] 0 []
  refine j_aload_n cx 0 rfl rfl dX11_doLine_0 (pn := 1) rfl ?_
  refine j_get cx inGX11 0 rfl rfl 0 (by decide) q_fl_X11_7 rfl rfl dX11_doLine_1 (pn := 4) rfl ?_
  refine j_aload_n cx 0 rfl rfl dX11_doLine_4 (pn := 5) rfl ?_
  refine j_get cx inGX11 0 rfl rfl 18 (by decide) q_fl_X11_29 rfl rfl dX11_doLine_5 (pn := 8) rfl ?_
  refine j_iload_n cx 1 rfl rfl dX11_doLine_8 (pn := 9) rfl ?_
  refine j_iconst cx (v := 2) (by decide) dX11_doLine_9 (pn := 10) rfl ?_
  refine j_iadd cx dX11_doLine_10 (pn := 11) rfl ?_
  refine j_iald cx 4 0 rfl rfl h.1 dX11_doLine_11 (pn := 12) rfl ?_
  have h := h.2
  refine j_imul cx dX11_doLine_12 (pn := 13) rfl ?_
  refine j_aload_n cx 0 rfl rfl dX11_doLine_13 (pn := 14) rfl ?_
  refine j_get cx inGX11 0 rfl rfl 18 (by decide) q_fl_X11_29 rfl rfl dX11_doLine_14 (pn := 17) rfl ?_
  refine j_iload_n cx 1 rfl rfl dX11_doLine_17 (pn := 18) rfl ?_
  refine j_iconst cx (v := 1) (by decide) dX11_doLine_18 (pn := 19) rfl ?_
  refine j_iadd cx dX11_doLine_19 (pn := 20) rfl ?_
  refine j_iald cx 4 0 rfl rfl h.1 dX11_doLine_20 (pn := 21) rfl ?_
  have h := h.2
  refine j_iadd cx dX11_doLine_21 (pn := 22) rfl ?_
  refine j_topi (fun y1 ey1 => ?_)
  have h := h y1 ey1
  refine j_istore_n cx rfl [(2, .int y1), (0, .ref a_M), (1, .int p1)] (by decide) rfl dX11_doLine_22 (pn := 23) rfl ?_
  refine j_aload_n cx 1 rfl rfl dX11_doLine_23 (pn := 24) rfl ?_
  refine j_get cx inGX11 0 rfl rfl 18 (by decide) q_fl_X11_29 rfl rfl dX11_doLine_24 (pn := 27) rfl ?_
  refine j_iload_n cx 2 rfl rfl dX11_doLine_27 (pn := 28) rfl ?_
  refine j_iald cx 4 0 rfl rfl h.1 dX11_doLine_28 (pn := 29) rfl ?_
  have h := h.2
  by_cases k0 : (M_read p1.toNatClampNeg) = 0
  · refine j_tabIn cx 68 dX11_doLine_29 (by rw [k0]; decide) (by rw [k0]; decide) (off := 39) (by rw [k0]; rfl) rfl ?_
    have h := h.1 k0
    refine j_aload_n cx 1 rfl rfl dX11_doLine_68 (pn := 69) rfl ?_
    refine j_aload_n cx 1 rfl rfl dX11_doLine_69 (pn := 70) rfl ?_
    refine j_get cx inGX11 0 rfl rfl 18 (by decide) q_fl_X11_29 rfl rfl dX11_doLine_70 (pn := 73) rfl ?_
    refine j_iload_n cx 2 rfl rfl dX11_doLine_73 (pn := 74) rfl ?_
    refine j_iconst cx (v := 1) (by decide) dX11_doLine_74 (pn := 75) rfl ?_
    refine j_iadd cx dX11_doLine_75 (pn := 76) rfl ?_
    refine j_iald cx 4 0 rfl rfl h.1 dX11_doLine_76 (pn := 77) rfl ?_
    have h := h.2
    refine j_topi (fun y2 ey2 => ?_)
    have h := h y2 ey2
    refine j_put cx tyX11 tyX11_ok nmX11 inGX11 0 rfl rfl 0 (by decide) q_fl_X11_7 rfl rfl rfl rfl rfl (Nat.le_of_ble_eq_true rfl) (W_Model cyI cyJ cyZ a_M a_M_square a_M_want a_M_text a_M_read a_M_row a_M_foldSet a_M_foldEdges a_M_foldNeeds a_M_foldYards a_M_least a_M_ways a_M_price a_M_rowBy a_M_columnBy a_M_rowOf a_M_wayBack a_M_slack a_M_isUsed a_M_lifted a_M_freed a_M_path y2 M_high M_hedges M_hurdles M_wants M_rest M_frozen M_bytes M_position M_tokenAt M_token M_digits M_number M_faultAt M_readMany M_readWide M_readHigh M_nights M_why M_folds M_square M_want M_text M_read M_row M_foldSet M_foldEdges M_foldNeeds M_foldYards M_least M_ways M_price M_rowBy M_columnBy M_rowOf M_wayBack M_slack M_isUsed M_lifted M_freed M_path) rfl dX11_doLine_77 (pn := 80) rfl ?_
    refine j_aload_n cx 1 rfl rfl dX11_doLine_80 (pn := 81) rfl ?_
    refine j_aload_n cx 1 rfl rfl dX11_doLine_81 (pn := 82) rfl ?_
    refine j_get cx inGX11 0 rfl rfl 18 (by decide) q_fl_X11_29 rfl rfl dX11_doLine_82 (pn := 85) rfl ?_
    refine j_iload_n cx 2 rfl rfl dX11_doLine_85 (pn := 86) rfl ?_
    refine j_iconst cx (v := 2) (by decide) dX11_doLine_86 (pn := 87) rfl ?_
    refine j_iadd cx dX11_doLine_87 (pn := 88) rfl ?_
    refine j_iald cx 4 0 rfl rfl h.1 dX11_doLine_88 (pn := 89) rfl ?_
    have h := h.2
    refine j_topi (fun y3 ey3 => ?_)
    have h := h y3 ey3
    refine j_put cx tyX11 tyX11_ok nmX11 inGX11 0 rfl rfl 1 (by decide) q_fl_X11_13 rfl rfl rfl rfl rfl (Nat.le_of_ble_eq_true rfl) (W_Model cyI cyJ cyZ a_M a_M_square a_M_want a_M_text a_M_read a_M_row a_M_foldSet a_M_foldEdges a_M_foldNeeds a_M_foldYards a_M_least a_M_ways a_M_price a_M_rowBy a_M_columnBy a_M_rowOf a_M_wayBack a_M_slack a_M_isUsed a_M_lifted a_M_freed a_M_path y2 y3 M_hedges M_hurdles M_wants M_rest M_frozen M_bytes M_position M_tokenAt M_token M_digits M_number M_faultAt M_readMany M_readWide M_readHigh M_nights M_why M_folds M_square M_want M_text M_read M_row M_foldSet M_foldEdges M_foldNeeds M_foldYards M_least M_ways M_price M_rowBy M_columnBy M_rowOf M_wayBack M_slack M_isUsed M_lifted M_freed M_path) rfl dX11_doLine_89 (pn := 92) rfl ?_
    refine j_aload_n cx 1 rfl rfl dX11_doLine_92 (pn := 93) rfl ?_
    refine j_lconst cx (v := 0) (by decide) dX11_doLine_93 (pn := 94) rfl ?_
    refine j_put cx tyX11 tyX11_ok nmX11 inGX11 0 rfl rfl 3 (by decide) q_fl_X11_195 rfl rfl rfl rfl rfl (Nat.le_of_ble_eq_true rfl) (W_Model cyI cyJ cyZ a_M a_M_square a_M_want a_M_text a_M_read a_M_row a_M_foldSet a_M_foldEdges a_M_foldNeeds a_M_foldYards a_M_least a_M_ways a_M_price a_M_rowBy a_M_columnBy a_M_rowOf a_M_wayBack a_M_slack a_M_isUsed a_M_lifted a_M_freed a_M_path y2 y3 0 M_hurdles M_wants M_rest M_frozen M_bytes M_position M_tokenAt M_token M_digits M_number M_faultAt M_readMany M_readWide M_readHigh M_nights M_why M_folds M_square M_want M_text M_read M_row M_foldSet M_foldEdges M_foldNeeds M_foldYards M_least M_ways M_price M_rowBy M_columnBy M_rowOf M_wayBack M_slack M_isUsed M_lifted M_freed M_path) rfl dX11_doLine_94 (pn := 97) rfl ?_
    refine j_aload_n cx 1 rfl rfl dX11_doLine_97 (pn := 98) rfl ?_
    refine j_iconst cx (v := 0) (by decide) dX11_doLine_98 (pn := 99) rfl ?_
    refine j_put cx tyX11 tyX11_ok nmX11 inGX11 0 rfl rfl 21 (by decide) q_fl_X11_198 rfl rfl rfl rfl rfl (Nat.le_of_ble_eq_true rfl) (W_Model cyI cyJ cyZ a_M a_M_square a_M_want a_M_text a_M_read a_M_row a_M_foldSet a_M_foldEdges a_M_foldNeeds a_M_foldYards a_M_least a_M_ways a_M_price a_M_rowBy a_M_columnBy a_M_rowOf a_M_wayBack a_M_slack a_M_isUsed a_M_lifted a_M_freed a_M_path y2 y3 0 M_hurdles M_wants M_rest M_frozen M_bytes M_position M_tokenAt M_token M_digits M_number M_faultAt M_readMany M_readWide M_readHigh 0 M_why M_folds M_square M_want M_text M_read M_row M_foldSet M_foldEdges M_foldNeeds M_foldYards M_least M_ways M_price M_rowBy M_columnBy M_rowOf M_wayBack M_slack M_isUsed M_lifted M_freed M_path) rfl dX11_doLine_99 (pn := 102) rfl ?_
    refine j_iconst cx (v := 0) (by decide) dX11_doLine_102 (pn := 103) rfl ?_
    refine j_istore_n cx rfl [(3, .int 0), (2, .int y1), (0, .ref a_M), (1, .int p1)] (by decide) rfl dX11_doLine_103 (pn := 104) rfl ?_
    refine j_sub [2, 0] [(0, .ref a_M), (3, .int 0)] rfl ?_
    exact J_X11_doLine_104 cx hR h
  by_cases k1 : (M_read p1.toNatClampNeg) = 1
  · refine j_tabIn cx 126 dX11_doLine_29 (by rw [k1]; decide) (by rw [k1]; decide) (off := 97) (by rw [k1]; rfl) rfl ?_
    have h := h.2.1 k1
    refine j_aload_n cx 1 rfl rfl dX11_doLine_126 (pn := 127) rfl ?_
    refine j_get cx inGX11 0 rfl rfl 2 (by decide) q_fl_X11_16 rfl rfl dX11_doLine_127 (pn := 130) rfl ?_
    refine j_iload_n cx 0 rfl rfl dX11_doLine_130 (pn := 131) rfl ?_
    refine j_aload_n cx 1 rfl rfl dX11_doLine_131 (pn := 132) rfl ?_
    refine j_get cx inGX11 0 rfl rfl 18 (by decide) q_fl_X11_29 rfl rfl dX11_doLine_132 (pn := 135) rfl ?_
    refine j_iload_n cx 2 rfl rfl dX11_doLine_135 (pn := 136) rfl ?_
    refine j_iconst cx (v := 3) (by decide) dX11_doLine_136 (pn := 137) rfl ?_
    refine j_iadd cx dX11_doLine_137 (pn := 138) rfl ?_
    refine j_iald cx 4 0 rfl rfl h.1 dX11_doLine_138 (pn := 139) rfl ?_
    have h := h.2
    refine j_topi (fun y7 ey7 => ?_)
    have h := h y7 ey7
    have hin := h.1
    obtain ⟨f8, ef8⟩ : ∃ z, z = upd M_square y1.toNatClampNeg y7 := ⟨_, rfl⟩
    have h := h.2 f8 ef8
    refine j_iast cx 1 0 rfl rfl hin (W_Model cyI cyJ cyZ a_M a_M_square a_M_want a_M_text a_M_read a_M_row a_M_foldSet a_M_foldEdges a_M_foldNeeds a_M_foldYards a_M_least a_M_ways a_M_price a_M_rowBy a_M_columnBy a_M_rowOf a_M_wayBack a_M_slack a_M_isUsed a_M_lifted a_M_freed a_M_path M_wide M_high M_hedges M_hurdles M_wants M_rest M_frozen M_bytes M_position M_tokenAt M_token M_digits M_number M_faultAt M_readMany M_readWide M_readHigh M_nights M_why M_folds f8 M_want M_text M_read M_row M_foldSet M_foldEdges M_foldNeeds M_foldYards M_least M_ways M_price M_rowBy M_columnBy M_rowOf M_wayBack M_slack M_isUsed M_lifted M_freed M_path) (by subst ef8; rfl) dX11_doLine_139 (pn := 140) rfl ?_
    refine j_goto cx 228 dX11_doLine_140 rfl ?_
    exact hR (M_wide, M_high, M_hedges, M_hurdles, M_wants, M_rest, M_frozen, M_nights, f8, M_want) 228 _ dX11_doLine_228 h
  by_cases k2 : (M_read p1.toNatClampNeg) = 2
  · refine j_tabIn cx 143 dX11_doLine_29 (by rw [k2]; decide) (by rw [k2]; decide) (off := 114) (by rw [k2]; rfl) rfl ?_
    have h := h.2.2.1 k2
    refine j_aload_n cx 1 rfl rfl dX11_doLine_143 (pn := 144) rfl ?_
    refine j_get cx inGX11 0 rfl rfl 2 (by decide) q_fl_X11_16 rfl rfl dX11_doLine_144 (pn := 147) rfl ?_
    refine j_iload_n cx 0 rfl rfl dX11_doLine_147 (pn := 148) rfl ?_
    refine j_bipush cx (v := 10) (by decide) dX11_doLine_148 (pn := 150) rfl ?_
    have hin := h.1
    obtain ⟨f9, ef9⟩ : ∃ z, z = upd M_square y1.toNatClampNeg 10 := ⟨_, rfl⟩
    have h := h.2 f9 ef9
    refine j_iast cx 1 0 rfl rfl hin (W_Model cyI cyJ cyZ a_M a_M_square a_M_want a_M_text a_M_read a_M_row a_M_foldSet a_M_foldEdges a_M_foldNeeds a_M_foldYards a_M_least a_M_ways a_M_price a_M_rowBy a_M_columnBy a_M_rowOf a_M_wayBack a_M_slack a_M_isUsed a_M_lifted a_M_freed a_M_path M_wide M_high M_hedges M_hurdles M_wants M_rest M_frozen M_bytes M_position M_tokenAt M_token M_digits M_number M_faultAt M_readMany M_readWide M_readHigh M_nights M_why M_folds f9 M_want M_text M_read M_row M_foldSet M_foldEdges M_foldNeeds M_foldYards M_least M_ways M_price M_rowBy M_columnBy M_rowOf M_wayBack M_slack M_isUsed M_lifted M_freed M_path) (by subst ef9; rfl) dX11_doLine_150 (pn := 151) rfl ?_
    refine j_goto cx 228 dX11_doLine_151 rfl ?_
    exact hR (M_wide, M_high, M_hedges, M_hurdles, M_wants, M_rest, M_frozen, M_nights, f9, M_want) 228 _ dX11_doLine_228 h
  by_cases k3 : (M_read p1.toNatClampNeg) = 3
  · refine j_tabIn cx 154 dX11_doLine_29 (by rw [k3]; decide) (by rw [k3]; decide) (off := 125) (by rw [k3]; rfl) rfl ?_
    have h := h.2.2.2.1 k3
    refine j_aload_n cx 1 rfl rfl dX11_doLine_154 (pn := 155) rfl ?_
    refine j_get cx inGX11 0 rfl rfl 2 (by decide) q_fl_X11_16 rfl rfl dX11_doLine_155 (pn := 158) rfl ?_
    refine j_iload_n cx 0 rfl rfl dX11_doLine_158 (pn := 159) rfl ?_
    refine j_bipush cx (v := 11) (by decide) dX11_doLine_159 (pn := 161) rfl ?_
    have hin := h.1
    obtain ⟨f10, ef10⟩ : ∃ z, z = upd M_square y1.toNatClampNeg 11 := ⟨_, rfl⟩
    have h := h.2 f10 ef10
    refine j_iast cx 1 0 rfl rfl hin (W_Model cyI cyJ cyZ a_M a_M_square a_M_want a_M_text a_M_read a_M_row a_M_foldSet a_M_foldEdges a_M_foldNeeds a_M_foldYards a_M_least a_M_ways a_M_price a_M_rowBy a_M_columnBy a_M_rowOf a_M_wayBack a_M_slack a_M_isUsed a_M_lifted a_M_freed a_M_path M_wide M_high M_hedges M_hurdles M_wants M_rest M_frozen M_bytes M_position M_tokenAt M_token M_digits M_number M_faultAt M_readMany M_readWide M_readHigh M_nights M_why M_folds f10 M_want M_text M_read M_row M_foldSet M_foldEdges M_foldNeeds M_foldYards M_least M_ways M_price M_rowBy M_columnBy M_rowOf M_wayBack M_slack M_isUsed M_lifted M_freed M_path) (by subst ef10; rfl) dX11_doLine_161 (pn := 162) rfl ?_
    refine j_goto cx 228 dX11_doLine_162 rfl ?_
    exact hR (M_wide, M_high, M_hedges, M_hurdles, M_wants, M_rest, M_frozen, M_nights, f10, M_want) 228 _ dX11_doLine_228 h
  by_cases k4 : (M_read p1.toNatClampNeg) = 4
  · refine j_tabIn cx 165 dX11_doLine_29 (by rw [k4]; decide) (by rw [k4]; decide) (off := 136) (by rw [k4]; rfl) rfl ?_
    have h := h.2.2.2.2.1 k4
    refine j_aload_n cx 1 rfl rfl dX11_doLine_165 (pn := 166) rfl ?_
    refine j_aload_n cx 1 rfl rfl dX11_doLine_166 (pn := 167) rfl ?_
    refine j_get cx inGX11 0 rfl rfl 3 (by decide) q_fl_X11_195 rfl rfl dX11_doLine_167 (pn := 170) rfl ?_
    refine j_lconst cx (v := 1) (by decide) dX11_doLine_170 (pn := 171) rfl ?_
    refine j_aload_n cx 1 rfl rfl dX11_doLine_171 (pn := 172) rfl ?_
    refine j_iload_n cx 0 rfl rfl dX11_doLine_172 (pn := 173) rfl ?_
    refine j_aload_n cx 1 rfl rfl dX11_doLine_173 (pn := 174) rfl ?_
    refine j_get cx inGX11 0 rfl rfl 18 (by decide) q_fl_X11_29 rfl rfl dX11_doLine_174 (pn := 177) rfl ?_
    refine j_iload_n cx 2 rfl rfl dX11_doLine_177 (pn := 178) rfl ?_
    refine j_iconst cx (v := 3) (by decide) dX11_doLine_178 (pn := 179) rfl ?_
    refine j_iadd cx dX11_doLine_179 (pn := 180) rfl ?_
    refine j_iald cx 4 0 rfl rfl h.1 dX11_doLine_180 (pn := 181) rfl ?_
    have h := h.2
    refine j_callvI0 cx q_inst_X11_edgeAt q_sel_X11_edgeAt (b := a_M) (As := [.int y1, .int (M_read (p1 + 3).toNatClampNeg)]) (rest := [.long 1, .long M_hedges, .ref a_M]) (c_X11_edgeAt h) ⟨q_code_X11_edgeAt, q_ml_X11_201, q_init_X11, hd_X11_edgeAt, ⟨Nat.le_of_ble_eq_true rfl, Nat.le_of_ble_eq_true rfl⟩, Nat.le_of_ble_eq_true rfl, Nat.le_of_ble_eq_true rfl⟩ (q0 := 0) rfl rfl rfl rfl (Nat.le_of_ble_eq_true rfl) dX11_doLine_181 (pn := 184) rfl (fun r11 _ h => ?_)
    show J x 0 0 4 (W_Model cyI cyJ cyZ a_M a_M_square a_M_want a_M_text a_M_read a_M_row a_M_foldSet a_M_foldEdges a_M_foldNeeds a_M_foldYards a_M_least a_M_ways a_M_price a_M_rowBy a_M_columnBy a_M_rowOf a_M_wayBack a_M_slack a_M_isUsed a_M_lifted a_M_freed a_M_path M_wide M_high M_hedges M_hurdles M_wants M_rest M_frozen M_bytes M_position M_tokenAt M_token M_digits M_number M_faultAt M_readMany M_readWide M_readHigh M_nights M_why M_folds M_square M_want M_text M_read M_row M_foldSet M_foldEdges M_foldNeeds M_foldYards M_least M_ways M_price M_rowBy M_columnBy M_rowOf M_wayBack M_slack M_isUsed M_lifted M_freed M_path) [(2, .int y1), (0, .ref a_M), (1, .int p1)] 184 [.int r11, .long 1, .long M_hedges, .ref a_M]
    refine j_lshl cx dX11_doLine_184 (pn := 185) rfl ?_
    refine j_lor cx dX11_doLine_185 (pn := 186) rfl ?_
    refine j_topl (fun y12 ey12 => ?_)
    have h := h y12 ey12
    refine j_put cx tyX11 tyX11_ok nmX11 inGX11 0 rfl rfl 3 (by decide) q_fl_X11_195 rfl rfl rfl rfl rfl (Nat.le_of_ble_eq_true rfl) (W_Model cyI cyJ cyZ a_M a_M_square a_M_want a_M_text a_M_read a_M_row a_M_foldSet a_M_foldEdges a_M_foldNeeds a_M_foldYards a_M_least a_M_ways a_M_price a_M_rowBy a_M_columnBy a_M_rowOf a_M_wayBack a_M_slack a_M_isUsed a_M_lifted a_M_freed a_M_path M_wide M_high y12 M_hurdles M_wants M_rest M_frozen M_bytes M_position M_tokenAt M_token M_digits M_number M_faultAt M_readMany M_readWide M_readHigh M_nights M_why M_folds M_square M_want M_text M_read M_row M_foldSet M_foldEdges M_foldNeeds M_foldYards M_least M_ways M_price M_rowBy M_columnBy M_rowOf M_wayBack M_slack M_isUsed M_lifted M_freed M_path) rfl dX11_doLine_186 (pn := 189) rfl ?_
    refine j_goto cx 228 dX11_doLine_189 rfl ?_
    exact hR (M_wide, M_high, y12, M_hurdles, M_wants, M_rest, M_frozen, M_nights, M_square, M_want) 228 _ dX11_doLine_228 h
  by_cases k5 : (M_read p1.toNatClampNeg) = 5
  · refine j_tabIn cx 192 dX11_doLine_29 (by rw [k5]; decide) (by rw [k5]; decide) (off := 163) (by rw [k5]; rfl) rfl ?_
    have h := h.2.2.2.2.2.1 k5
    refine j_aload_n cx 1 rfl rfl dX11_doLine_192 (pn := 193) rfl ?_
    refine j_aload_n cx 1 rfl rfl dX11_doLine_193 (pn := 194) rfl ?_
    refine j_get cx inGX11 0 rfl rfl 3 (by decide) q_fl_X11_195 rfl rfl dX11_doLine_194 (pn := 197) rfl ?_
    refine j_lconst cx (v := 1) (by decide) dX11_doLine_197 (pn := 198) rfl ?_
    refine j_aload_n cx 1 rfl rfl dX11_doLine_198 (pn := 199) rfl ?_
    refine j_iload_n cx 0 rfl rfl dX11_doLine_199 (pn := 200) rfl ?_
    refine j_aload_n cx 1 rfl rfl dX11_doLine_200 (pn := 201) rfl ?_
    refine j_get cx inGX11 0 rfl rfl 18 (by decide) q_fl_X11_29 rfl rfl dX11_doLine_201 (pn := 204) rfl ?_
    refine j_iload_n cx 2 rfl rfl dX11_doLine_204 (pn := 205) rfl ?_
    refine j_iconst cx (v := 3) (by decide) dX11_doLine_205 (pn := 206) rfl ?_
    refine j_iadd cx dX11_doLine_206 (pn := 207) rfl ?_
    refine j_iald cx 4 0 rfl rfl h.1 dX11_doLine_207 (pn := 208) rfl ?_
    have h := h.2
    refine j_callvI0 cx q_inst_X11_edgeAt q_sel_X11_edgeAt (b := a_M) (As := [.int y1, .int (M_read (p1 + 3).toNatClampNeg)]) (rest := [.long 1, .long M_hedges, .ref a_M]) (c_X11_edgeAt h) ⟨q_code_X11_edgeAt, q_ml_X11_201, q_init_X11, hd_X11_edgeAt, ⟨Nat.le_of_ble_eq_true rfl, Nat.le_of_ble_eq_true rfl⟩, Nat.le_of_ble_eq_true rfl, Nat.le_of_ble_eq_true rfl⟩ (q0 := 0) rfl rfl rfl rfl (Nat.le_of_ble_eq_true rfl) dX11_doLine_208 (pn := 211) rfl (fun r13 _ h => ?_)
    show J x 0 0 4 (W_Model cyI cyJ cyZ a_M a_M_square a_M_want a_M_text a_M_read a_M_row a_M_foldSet a_M_foldEdges a_M_foldNeeds a_M_foldYards a_M_least a_M_ways a_M_price a_M_rowBy a_M_columnBy a_M_rowOf a_M_wayBack a_M_slack a_M_isUsed a_M_lifted a_M_freed a_M_path M_wide M_high M_hedges M_hurdles M_wants M_rest M_frozen M_bytes M_position M_tokenAt M_token M_digits M_number M_faultAt M_readMany M_readWide M_readHigh M_nights M_why M_folds M_square M_want M_text M_read M_row M_foldSet M_foldEdges M_foldNeeds M_foldYards M_least M_ways M_price M_rowBy M_columnBy M_rowOf M_wayBack M_slack M_isUsed M_lifted M_freed M_path) [(2, .int y1), (0, .ref a_M), (1, .int p1)] 211 [.int r13, .long 1, .long M_hedges, .ref a_M]
    refine j_lshl cx dX11_doLine_211 (pn := 212) rfl ?_
    refine j_ldc2 cx q_cl_X11_123 dX11_doLine_212 (pn := 215) rfl ?_
    refine j_lxor cx dX11_doLine_215 (pn := 216) rfl ?_
    refine j_land cx dX11_doLine_216 (pn := 217) rfl ?_
    refine j_topl (fun y14 ey14 => ?_)
    have h := h y14 ey14
    refine j_put cx tyX11 tyX11_ok nmX11 inGX11 0 rfl rfl 3 (by decide) q_fl_X11_195 rfl rfl rfl rfl rfl (Nat.le_of_ble_eq_true rfl) (W_Model cyI cyJ cyZ a_M a_M_square a_M_want a_M_text a_M_read a_M_row a_M_foldSet a_M_foldEdges a_M_foldNeeds a_M_foldYards a_M_least a_M_ways a_M_price a_M_rowBy a_M_columnBy a_M_rowOf a_M_wayBack a_M_slack a_M_isUsed a_M_lifted a_M_freed a_M_path M_wide M_high y14 M_hurdles M_wants M_rest M_frozen M_bytes M_position M_tokenAt M_token M_digits M_number M_faultAt M_readMany M_readWide M_readHigh M_nights M_why M_folds M_square M_want M_text M_read M_row M_foldSet M_foldEdges M_foldNeeds M_foldYards M_least M_ways M_price M_rowBy M_columnBy M_rowOf M_wayBack M_slack M_isUsed M_lifted M_freed M_path) rfl dX11_doLine_217 (pn := 220) rfl ?_
    refine j_goto cx 228 dX11_doLine_220 rfl ?_
    exact hR (M_wide, M_high, y14, M_hurdles, M_wants, M_rest, M_frozen, M_nights, M_square, M_want) 228 _ dX11_doLine_228 h
  refine j_tabOut cx 223 dX11_doLine_29 (sw_out0_5 k0 k1 k2 k3 k4 k5) rfl ?_
  have h := h.2.2.2.2.2.2 ⟨k0, k1, k2, k3, k4, k5⟩
  refine j_aload_n cx 1 rfl rfl dX11_doLine_223 (pn := 224) rfl ?_
  refine j_iload_n cx 2 rfl rfl dX11_doLine_224 (pn := 225) rfl ?_
  refine j_callvV0 cx q_inst_X11_doNight q_sel_X11_doNight (b := a_M) (As := [.int p1]) (rest := []) (c_X11_doNight h) ⟨q_code_X11_doNight, q_ml_X11_205, q_init_X11, hd_X11_doNight, ⟨Nat.le_of_ble_eq_true rfl, Nat.le_of_ble_eq_true rfl⟩, Nat.le_of_ble_eq_true rfl, Nat.le_of_ble_eq_true rfl⟩ (q0 := 0) rfl rfl rfl rfl (Nat.le_of_ble_eq_true rfl) dX11_doLine_225 (pn := 228) rfl (fun u15 h => ?_)
  show J x 0 0 4 (W_Model cyI cyJ cyZ a_M a_M_square a_M_want a_M_text a_M_read a_M_row a_M_foldSet a_M_foldEdges a_M_foldNeeds a_M_foldYards a_M_least a_M_ways a_M_price a_M_rowBy a_M_columnBy a_M_rowOf a_M_wayBack a_M_slack a_M_isUsed a_M_lifted a_M_freed a_M_path M_wide M_high M_hedges u15.1 u15.2.1 u15.2.2.1 u15.2.2.2.1 M_bytes M_position M_tokenAt M_token M_digits M_number M_faultAt M_readMany M_readWide M_readHigh M_nights M_why M_folds M_square u15.2.2.2.2 M_text M_read M_row M_foldSet M_foldEdges M_foldNeeds M_foldYards M_least M_ways M_price M_rowBy M_columnBy M_rowOf M_wayBack M_slack M_isUsed M_lifted M_freed M_path) [(2, .int y1), (0, .ref a_M), (1, .int p1)] 228 []
  exact hR (M_wide, M_high, M_hedges, u15.1, u15.2.1, u15.2.2.1, u15.2.2.2.1, M_nights, M_square, u15.2.2.2.2) 228 _ dX11_doLine_228 h
theorem dX11_field_0 : decode cX11_field 0 = .ok (.aload_n 0, 1) := by decide +kernel
theorem dX11_field_1 : decode cX11_field 1 = .ok (.invokevirtual 192, 3) := by decide +kernel
theorem dX11_field_4 : decode cX11_field 4 = .ok (.ifCond .ne 6, 3) := by decide +kernel
theorem dX11_field_7 : decode cX11_field 7 = .ok (.bipush (-4), 2) := by decide +kernel
theorem dX11_field_9 : decode cX11_field 9 = .ok (.ireturn, 1) := by decide +kernel
theorem dX11_field_10 : decode cX11_field 10 = .ok (.iconst 0, 1) := by decide +kernel
theorem dX11_field_11 : decode cX11_field 11 = .ok (.istore_n 1, 1) := by decide +kernel
theorem dX11_field_12 : decode cX11_field 12 = .ok (.iload_n 1, 1) := by decide +kernel
theorem dX11_field_13 : decode cX11_field 13 = .ok (.aload_n 0, 1) := by decide +kernel
theorem dX11_field_14 : decode cX11_field 14 = .ok (.getfield 186, 3) := by decide +kernel
theorem dX11_field_17 : decode cX11_field 17 = .ok (.if_icmp .ge 16, 3) := by decide +kernel
theorem dX11_field_20 : decode cX11_field 20 = .ok (.aload_n 0, 1) := by decide +kernel
theorem dX11_field_21 : decode cX11_field 21 = .ok (.iconst 4, 1) := by decide +kernel
theorem dX11_field_22 : decode cX11_field 22 = .ok (.iload_n 1, 1) := by decide +kernel
theorem dX11_field_23 : decode cX11_field 23 = .ok (.imul, 1) := by decide +kernel
theorem dX11_field_24 : decode cX11_field 24 = .ok (.invokevirtual 218, 3) := by decide +kernel
theorem dX11_field_27 : decode cX11_field 27 = .ok (.iinc 1 1, 3) := by decide +kernel
theorem dX11_field_30 : decode cX11_field 30 = .ok (.goto (-18), 3) := by decide +kernel
theorem dX11_field_33 : decode cX11_field 33 = .ok (.aload_n 0, 1) := by decide +kernel
theorem dX11_field_34 : decode cX11_field 34 = .ok (.iconst 0, 1) := by decide +kernel
theorem dX11_field_35 : decode cX11_field 35 = .ok (.putfield 94, 3) := by decide +kernel
theorem dX11_field_38 : decode cX11_field 38 = .ok (.aload_n 0, 1) := by decide +kernel
theorem dX11_field_39 : decode cX11_field 39 = .ok (.getfield 186, 3) := by decide +kernel
theorem dX11_field_42 : decode cX11_field 42 = .ok (.ireturn, 1) := by decide +kernel
abbrev rm_X11_field : Room := { frames := 7, cells := 0, slots := 0, locals := 151 }
theorem hd_X11_field : yX11_field.cls ≠ "java/lang/invoke/MethodHandle" ∧ yX11_field.cls ≠ "java/lang/invoke/VarHandle" ∧ (parseMethodDescriptor yX11_field.desc).map (fun d => d.parameters.length) = some 0 := by decide +kernel
def bd_X11_field_12 (Q : Int32 → (Int32 × Int32 × Int64 × Int32 × Int32 × Int32 × Int32 × Int32 × Int32 × Int32 × Int64 × Int32 × Int32 × Int32 × Int32 × Int32 × Int32 × Int32 × (Nat → Int32) × (Nat → Int32) × (Nat → Int32)) → Prop) (B12 : Int32 → Int32 → Int64 → Int32 → Int32 → Int32 → Int32 → Int32 → (Nat → Int32) → (Nat → Int32) → Int32 → Prop) (M_position : Int32) (M_tokenAt : Int32) (M_token : Int64) (M_digits : Int32) (M_number : Int32) (M_faultAt : Int32) (M_readMany : Int32) (M_readWide : Int32) (M_readHigh : Int32) (M_read : Nat → Int32) (M_wide : Int32) (M_high : Int32) (M_hedges : Int64) (M_hurdles : Int32) (M_wants : Int32) (M_rest : Int32) (M_frozen : Int32) (M_nights : Int32) (M_square : Nat → Int32) (M_want : Nat → Int32) (x1 : Int32) : Prop :=
((M_readMany ≤ x1 → Q M_readMany (M_wide, M_high, M_hedges, M_hurdles, M_wants, M_rest, M_frozen, 0, M_position, M_tokenAt, M_token, M_digits, M_number, M_faultAt, M_readMany, M_readWide, M_readHigh, M_nights, M_square, M_want, M_read)) ∧
(¬ M_readMany ≤ x1 → wp_X11_doLine (4 * x1) M_wide M_high M_hedges M_hurdles M_wants M_rest M_frozen M_nights M_square M_want M_read (fun (u5 : Int32 × Int32 × Int64 × Int32 × Int32 × Int32 × Int32 × Int32 × (Nat → Int32) × (Nat → Int32)) => ∀ y6 : Int32, y6 = (x1 + 1) →
B12 u5.1 u5.2.1 u5.2.2.1 u5.2.2.2.1 u5.2.2.2.2.1 u5.2.2.2.2.2.1 u5.2.2.2.2.2.2.1 u5.2.2.2.2.2.2.2.1 u5.2.2.2.2.2.2.2.2.1 u5.2.2.2.2.2.2.2.2.2 y6)))
def lp_X11_field_12 (Q : Int32 → (Int32 × Int32 × Int64 × Int32 × Int32 × Int32 × Int32 × Int32 × Int32 × Int32 × Int64 × Int32 × Int32 × Int32 × Int32 × Int32 × Int32 × Int32 × (Nat → Int32) × (Nat → Int32) × (Nat → Int32)) → Prop) (M_position : Int32) (M_tokenAt : Int32) (M_token : Int64) (M_digits : Int32) (M_number : Int32) (M_faultAt : Int32) (M_readMany : Int32) (M_readWide : Int32) (M_readHigh : Int32) (M_read : Nat → Int32) (M_wide : Int32) (M_high : Int32) (M_hedges : Int64) (M_hurdles : Int32) (M_wants : Int32) (M_rest : Int32) (M_frozen : Int32) (M_nights : Int32) (M_square : Nat → Int32) (M_want : Nat → Int32) (x1 : Int32) : Prop :=
∃ I : Nat → Int32 → Int32 → Int64 → Int32 → Int32 → Int32 → Int32 → Int32 → (Nat → Int32) → (Nat → Int32) → Int32 → Prop, (∃ n, I n M_wide M_high M_hedges M_hurdles M_wants M_rest M_frozen M_nights M_square M_want x1) ∧ ∀ n M_wide M_high M_hedges M_hurdles M_wants M_rest M_frozen M_nights M_square M_want x1, I n M_wide M_high M_hedges M_hurdles M_wants M_rest M_frozen M_nights M_square M_want x1 → bd_X11_field_12 Q  (fun M_wide' M_high' M_hedges' M_hurdles' M_wants' M_rest' M_frozen' M_nights' M_square' M_want' x1' => ∃ n', n' < n ∧ I n' M_wide' M_high' M_hedges' M_hurdles' M_wants' M_rest' M_frozen' M_nights' M_square' M_want' x1') M_position M_tokenAt M_token M_digits M_number M_faultAt M_readMany M_readWide M_readHigh M_read M_wide M_high M_hedges M_hurdles M_wants M_rest M_frozen M_nights M_square M_want x1
def wp_X11_field (M_wide : Int32) (M_high : Int32) (M_hedges : Int64) (M_hurdles : Int32) (M_wants : Int32) (M_rest : Int32) (M_frozen : Int32) (M_bytes : Int32) (M_tokenAt : Int32) (M_token : Int64) (M_digits : Int32) (M_number : Int32) (M_faultAt : Int32) (M_nights : Int32) (M_square : Nat → Int32) (M_want : Nat → Int32) (M_text : Nat → Int32) (M_read : Nat → Int32) (Q : Int32 → (Int32 × Int32 × Int64 × Int32 × Int32 × Int32 × Int32 × Int32 × Int32 × Int32 × Int64 × Int32 × Int32 × Int32 × Int32 × Int32 × Int32 × Int32 × (Nat → Int32) × (Nat → Int32) × (Nat → Int32)) → Prop) : Prop :=
wp_X11_isRead M_wide M_high M_bytes M_tokenAt M_token M_digits M_number M_faultAt M_text M_read (fun (r1 : Int32) (u2 : Int32 × Int32 × Int64 × Int32 × Int32 × Int32 × Int32 × Int32 × Int32 × (Nat → Int32)) => ((¬ r1 = 0 → lp_X11_field_12 Q u2.1 u2.2.1 u2.2.2.1 u2.2.2.2.1 u2.2.2.2.2.1 u2.2.2.2.2.2.1 u2.2.2.2.2.2.2.1 u2.2.2.2.2.2.2.2.1 u2.2.2.2.2.2.2.2.2.1 u2.2.2.2.2.2.2.2.2.2 M_wide M_high M_hedges M_hurdles M_wants M_rest M_frozen M_nights M_square M_want 0) ∧
(r1 = 0 → Q (-4) (M_wide, M_high, M_hedges, M_hurdles, M_wants, M_rest, M_frozen, M_bytes, u2.1, u2.2.1, u2.2.2.1, u2.2.2.2.1, u2.2.2.2.2.1, u2.2.2.2.2.2.1, u2.2.2.2.2.2.2.1, u2.2.2.2.2.2.2.2.1, u2.2.2.2.2.2.2.2.2.1, M_nights, M_square, M_want, u2.2.2.2.2.2.2.2.2.2))))
set_option maxHeartbeats 4000000 in
set_option maxRecDepth 100000 in
theorem B_X11_field_12 {x : CX} {D : DG} {cyI cyJ cyZ : ClassId} {a_M a_M_square a_M_want a_M_text a_M_read a_M_row a_M_foldSet a_M_foldEdges a_M_foldNeeds a_M_foldYards a_M_least a_M_ways a_M_price a_M_rowBy a_M_columnBy a_M_rowOf a_M_wayBack a_M_slack a_M_isUsed a_M_lifted a_M_freed a_M_path : Nat} {M_wide : Int32} {M_high : Int32} {M_hedges : Int64} {M_hurdles : Int32} {M_wants : Int32} {M_rest : Int32} {M_frozen : Int32} {M_bytes : Int32} {M_position : Int32} {M_tokenAt : Int32} {M_token : Int64} {M_digits : Int32} {M_number : Int32} {M_faultAt : Int32} {M_readMany : Int32} {M_readWide : Int32} {M_readHigh : Int32} {M_nights : Int32} {M_why : Int32} {M_folds : Int32} {M_square : Nat → Int32} {M_want : Nat → Int32} {M_text : Nat → Int32} {M_read : Nat → Int32} {M_row : Nat → Int32} {M_foldSet : Nat → Int32} {M_foldEdges : Nat → Int64} {M_foldNeeds : Nat → Int32} {M_foldYards : Nat → Int32} {M_least : Nat → Int32} {M_ways : Nat → Int32} {M_price : Nat → Int32} {M_rowBy : Nat → Int32} {M_columnBy : Nat → Int32} {M_rowOf : Nat → Int32} {M_wayBack : Nat → Int32} {M_slack : Nat → Int32} {M_isUsed : Nat → Int32} {M_lifted : Nat → Int32} {M_freed : Nat → Int32} {M_path : Nat → Int32} {x1 : Int32} {Q : Int32 → (Int32 × Int32 × Int64 × Int32 × Int32 × Int32 × Int32 × Int32 × Int32 × Int32 × Int64 × Int32 × Int32 × Int32 × Int32 × Int32 × Int32 × Int32 × (Nat → Int32) × (Nat → Int32) × (Nat → Int32)) → Prop} {B12 : Int32 → Int32 → Int64 → Int32 → Int32 → Int32 → Int32 → Int32 → (Nat → Int32) → (Nat → Int32) → Int32 → Prop} (cx : Cx x cX11_field 2 RX11 rm_X11_field D [(cyI, .int), (cyJ, .long), (cyZ, .boolean)]) (hR : ∀ (v : Int32) (u : Int32 × Int32 × Int64 × Int32 × Int32 × Int32 × Int32 × Int32 × Int32 × Int32 × Int64 × Int32 × Int32 × Int32 × Int32 × Int32 × Int32 × Int32 × (Nat → Int32) × (Nat → Int32) × (Nat → Int32)) (pc : Nat) (lv : List (Nat × Value)), decode cX11_field pc = .ok (.ireturn, 1) → Q v u → J x 0 0 2 (W_Model cyI cyJ cyZ a_M a_M_square a_M_want a_M_text a_M_read a_M_row a_M_foldSet a_M_foldEdges a_M_foldNeeds a_M_foldYards a_M_least a_M_ways a_M_price a_M_rowBy a_M_columnBy a_M_rowOf a_M_wayBack a_M_slack a_M_isUsed a_M_lifted a_M_freed a_M_path u.1 u.2.1 u.2.2.1 u.2.2.2.1 u.2.2.2.2.1 u.2.2.2.2.2.1 u.2.2.2.2.2.2.1 u.2.2.2.2.2.2.2.1 u.2.2.2.2.2.2.2.2.1 u.2.2.2.2.2.2.2.2.2.1 u.2.2.2.2.2.2.2.2.2.2.1 u.2.2.2.2.2.2.2.2.2.2.2.1 u.2.2.2.2.2.2.2.2.2.2.2.2.1 u.2.2.2.2.2.2.2.2.2.2.2.2.2.1 u.2.2.2.2.2.2.2.2.2.2.2.2.2.2.1 u.2.2.2.2.2.2.2.2.2.2.2.2.2.2.2.1 u.2.2.2.2.2.2.2.2.2.2.2.2.2.2.2.2.1 u.2.2.2.2.2.2.2.2.2.2.2.2.2.2.2.2.2.1 M_why M_folds u.2.2.2.2.2.2.2.2.2.2.2.2.2.2.2.2.2.2.1 u.2.2.2.2.2.2.2.2.2.2.2.2.2.2.2.2.2.2.2.1 M_text u.2.2.2.2.2.2.2.2.2.2.2.2.2.2.2.2.2.2.2.2 M_row M_foldSet M_foldEdges M_foldNeeds M_foldYards M_least M_ways M_price M_rowBy M_columnBy M_rowOf M_wayBack M_slack M_isUsed M_lifted M_freed M_path) lv pc [.int v]) (hB12 : ∀ (M_wide : Int32) (M_high : Int32) (M_hedges : Int64) (M_hurdles : Int32) (M_wants : Int32) (M_rest : Int32) (M_frozen : Int32) (M_nights : Int32) (M_square : Nat → Int32) (M_want : Nat → Int32) (x1 : Int32), B12 M_wide M_high M_hedges M_hurdles M_wants M_rest M_frozen M_nights M_square M_want x1 → J x 0 0 2 (W_Model cyI cyJ cyZ a_M a_M_square a_M_want a_M_text a_M_read a_M_row a_M_foldSet a_M_foldEdges a_M_foldNeeds a_M_foldYards a_M_least a_M_ways a_M_price a_M_rowBy a_M_columnBy a_M_rowOf a_M_wayBack a_M_slack a_M_isUsed a_M_lifted a_M_freed a_M_path M_wide M_high M_hedges M_hurdles M_wants M_rest M_frozen M_bytes M_position M_tokenAt M_token M_digits M_number M_faultAt M_readMany M_readWide M_readHigh M_nights M_why M_folds M_square M_want M_text M_read M_row M_foldSet M_foldEdges M_foldNeeds M_foldYards M_least M_ways M_price M_rowBy M_columnBy M_rowOf M_wayBack M_slack M_isUsed M_lifted M_freed M_path) [(0, .ref a_M), (1, .int x1)] 12 []) (h : bd_X11_field_12 Q B12 M_position M_tokenAt M_token M_digits M_number M_faultAt M_readMany M_readWide M_readHigh M_read M_wide M_high M_hedges M_hurdles M_wants M_rest M_frozen M_nights M_square M_want x1) :
    J x 0 0 2 (W_Model cyI cyJ cyZ a_M a_M_square a_M_want a_M_text a_M_read a_M_row a_M_foldSet a_M_foldEdges a_M_foldNeeds a_M_foldYards a_M_least a_M_ways a_M_price a_M_rowBy a_M_columnBy a_M_rowOf a_M_wayBack a_M_slack a_M_isUsed a_M_lifted a_M_freed a_M_path M_wide M_high M_hedges M_hurdles M_wants M_rest M_frozen M_bytes M_position M_tokenAt M_token M_digits M_number M_faultAt M_readMany M_readWide M_readHigh M_nights M_why M_folds M_square M_want M_text M_read M_row M_foldSet M_foldEdges M_foldNeeds M_foldYards M_least M_ways M_price M_rowBy M_columnBy M_rowOf M_wayBack M_slack M_isUsed M_lifted M_freed M_path) [(0, .ref a_M), (1, .int x1)] 12 [] := by
  unfold bd_X11_field_12 at h
  refine j_iload_n cx 1 rfl rfl dX11_field_12 (pn := 13) rfl ?_
  refine j_aload_n cx 0 rfl rfl dX11_field_13 (pn := 14) rfl ?_
  refine j_get cx inGX11 0 rfl rfl 17 (by decide) q_fl_X11_186 rfl rfl dX11_field_14 (pn := 17) rfl ?_
  refine j_icmp_ge cx 33 dX11_field_17 (pn := 20) rfl rfl (fun c4 => ?_) (fun c4 => ?_)
  · have h := h.1 c4
    refine j_aload_n cx 0 rfl rfl dX11_field_33 (pn := 34) rfl ?_
    refine j_iconst cx (v := 0) (by decide) dX11_field_34 (pn := 35) rfl ?_
    refine j_put cx tyX11 tyX11_ok nmX11 inGX11 0 rfl rfl 9 (by decide) q_fl_X11_94 rfl rfl rfl rfl rfl (Nat.le_of_ble_eq_true rfl) (W_Model cyI cyJ cyZ a_M a_M_square a_M_want a_M_text a_M_read a_M_row a_M_foldSet a_M_foldEdges a_M_foldNeeds a_M_foldYards a_M_least a_M_ways a_M_price a_M_rowBy a_M_columnBy a_M_rowOf a_M_wayBack a_M_slack a_M_isUsed a_M_lifted a_M_freed a_M_path M_wide M_high M_hedges M_hurdles M_wants M_rest M_frozen 0 M_position M_tokenAt M_token M_digits M_number M_faultAt M_readMany M_readWide M_readHigh M_nights M_why M_folds M_square M_want M_text M_read M_row M_foldSet M_foldEdges M_foldNeeds M_foldYards M_least M_ways M_price M_rowBy M_columnBy M_rowOf M_wayBack M_slack M_isUsed M_lifted M_freed M_path) rfl dX11_field_35 (pn := 38) rfl ?_
    refine j_aload_n cx 0 rfl rfl dX11_field_38 (pn := 39) rfl ?_
    refine j_get cx inGX11 0 rfl rfl 17 (by decide) q_fl_X11_186 rfl rfl dX11_field_39 (pn := 42) rfl ?_
    exact hR M_readMany (M_wide, M_high, M_hedges, M_hurdles, M_wants, M_rest, M_frozen, 0, M_position, M_tokenAt, M_token, M_digits, M_number, M_faultAt, M_readMany, M_readWide, M_readHigh, M_nights, M_square, M_want, M_read) 42 _ dX11_field_42 h
  · have h := h.2 c4
    refine j_aload_n cx 0 rfl rfl dX11_field_20 (pn := 21) rfl ?_
    refine j_iconst cx (v := 4) (by decide) dX11_field_21 (pn := 22) rfl ?_
    refine j_iload_n cx 1 rfl rfl dX11_field_22 (pn := 23) rfl ?_
    refine j_imul cx dX11_field_23 (pn := 24) rfl ?_
    refine j_callvV0 cx q_inst_X11_doLine q_sel_X11_doLine (b := a_M) (As := [.int (4 * x1)]) (rest := []) (c_X11_doLine h) ⟨q_code_X11_doLine, q_ml_X11_218, q_init_X11, hd_X11_doLine, ⟨Nat.le_of_ble_eq_true rfl, Nat.le_of_ble_eq_true rfl⟩, Nat.le_of_ble_eq_true rfl, Nat.le_of_ble_eq_true rfl⟩ (q0 := 0) rfl rfl rfl rfl (Nat.le_of_ble_eq_true rfl) dX11_field_24 (pn := 27) rfl (fun u5 h => ?_)
    show J x 0 0 2 (W_Model cyI cyJ cyZ a_M a_M_square a_M_want a_M_text a_M_read a_M_row a_M_foldSet a_M_foldEdges a_M_foldNeeds a_M_foldYards a_M_least a_M_ways a_M_price a_M_rowBy a_M_columnBy a_M_rowOf a_M_wayBack a_M_slack a_M_isUsed a_M_lifted a_M_freed a_M_path u5.1 u5.2.1 u5.2.2.1 u5.2.2.2.1 u5.2.2.2.2.1 u5.2.2.2.2.2.1 u5.2.2.2.2.2.2.1 M_bytes M_position M_tokenAt M_token M_digits M_number M_faultAt M_readMany M_readWide M_readHigh u5.2.2.2.2.2.2.2.1 M_why M_folds u5.2.2.2.2.2.2.2.2.1 u5.2.2.2.2.2.2.2.2.2 M_text M_read M_row M_foldSet M_foldEdges M_foldNeeds M_foldYards M_least M_ways M_price M_rowBy M_columnBy M_rowOf M_wayBack M_slack M_isUsed M_lifted M_freed M_path) [(0, .ref a_M), (1, .int x1)] 27 []
    obtain ⟨y6, ey6⟩ : ∃ z : Int32, z = x1 + 1 := ⟨_, rfl⟩
    have h := h y6 ey6
    refine j_iinc cx 1 rfl (cst := 1) (by decide) ey6 [(1, .int y6), (0, .ref a_M)] (by decide) rfl dX11_field_27 (pn := 30) rfl ?_
    refine j_goto cx 12 dX11_field_30 rfl ?_
    refine j_sub [1, 0] [(0, .ref a_M), (1, .int y6)] rfl ?_
    exact hB12 _ _ _ _ _ _ _ _ _ _ _ h
set_option maxHeartbeats 4000000 in
set_option maxRecDepth 100000 in
theorem J_X11_field_12 {x : CX} {D : DG} {cyI cyJ cyZ : ClassId} {a_M a_M_square a_M_want a_M_text a_M_read a_M_row a_M_foldSet a_M_foldEdges a_M_foldNeeds a_M_foldYards a_M_least a_M_ways a_M_price a_M_rowBy a_M_columnBy a_M_rowOf a_M_wayBack a_M_slack a_M_isUsed a_M_lifted a_M_freed a_M_path : Nat} {M_wide : Int32} {M_high : Int32} {M_hedges : Int64} {M_hurdles : Int32} {M_wants : Int32} {M_rest : Int32} {M_frozen : Int32} {M_bytes : Int32} {M_position : Int32} {M_tokenAt : Int32} {M_token : Int64} {M_digits : Int32} {M_number : Int32} {M_faultAt : Int32} {M_readMany : Int32} {M_readWide : Int32} {M_readHigh : Int32} {M_nights : Int32} {M_why : Int32} {M_folds : Int32} {M_square : Nat → Int32} {M_want : Nat → Int32} {M_text : Nat → Int32} {M_read : Nat → Int32} {M_row : Nat → Int32} {M_foldSet : Nat → Int32} {M_foldEdges : Nat → Int64} {M_foldNeeds : Nat → Int32} {M_foldYards : Nat → Int32} {M_least : Nat → Int32} {M_ways : Nat → Int32} {M_price : Nat → Int32} {M_rowBy : Nat → Int32} {M_columnBy : Nat → Int32} {M_rowOf : Nat → Int32} {M_wayBack : Nat → Int32} {M_slack : Nat → Int32} {M_isUsed : Nat → Int32} {M_lifted : Nat → Int32} {M_freed : Nat → Int32} {M_path : Nat → Int32} {x1 : Int32} {Q : Int32 → (Int32 × Int32 × Int64 × Int32 × Int32 × Int32 × Int32 × Int32 × Int32 × Int32 × Int64 × Int32 × Int32 × Int32 × Int32 × Int32 × Int32 × Int32 × (Nat → Int32) × (Nat → Int32) × (Nat → Int32)) → Prop} (cx : Cx x cX11_field 2 RX11 rm_X11_field D [(cyI, .int), (cyJ, .long), (cyZ, .boolean)]) (hR : ∀ (v : Int32) (u : Int32 × Int32 × Int64 × Int32 × Int32 × Int32 × Int32 × Int32 × Int32 × Int32 × Int64 × Int32 × Int32 × Int32 × Int32 × Int32 × Int32 × Int32 × (Nat → Int32) × (Nat → Int32) × (Nat → Int32)) (pc : Nat) (lv : List (Nat × Value)), decode cX11_field pc = .ok (.ireturn, 1) → Q v u → J x 0 0 2 (W_Model cyI cyJ cyZ a_M a_M_square a_M_want a_M_text a_M_read a_M_row a_M_foldSet a_M_foldEdges a_M_foldNeeds a_M_foldYards a_M_least a_M_ways a_M_price a_M_rowBy a_M_columnBy a_M_rowOf a_M_wayBack a_M_slack a_M_isUsed a_M_lifted a_M_freed a_M_path u.1 u.2.1 u.2.2.1 u.2.2.2.1 u.2.2.2.2.1 u.2.2.2.2.2.1 u.2.2.2.2.2.2.1 u.2.2.2.2.2.2.2.1 u.2.2.2.2.2.2.2.2.1 u.2.2.2.2.2.2.2.2.2.1 u.2.2.2.2.2.2.2.2.2.2.1 u.2.2.2.2.2.2.2.2.2.2.2.1 u.2.2.2.2.2.2.2.2.2.2.2.2.1 u.2.2.2.2.2.2.2.2.2.2.2.2.2.1 u.2.2.2.2.2.2.2.2.2.2.2.2.2.2.1 u.2.2.2.2.2.2.2.2.2.2.2.2.2.2.2.1 u.2.2.2.2.2.2.2.2.2.2.2.2.2.2.2.2.1 u.2.2.2.2.2.2.2.2.2.2.2.2.2.2.2.2.2.1 M_why M_folds u.2.2.2.2.2.2.2.2.2.2.2.2.2.2.2.2.2.2.1 u.2.2.2.2.2.2.2.2.2.2.2.2.2.2.2.2.2.2.2.1 M_text u.2.2.2.2.2.2.2.2.2.2.2.2.2.2.2.2.2.2.2.2 M_row M_foldSet M_foldEdges M_foldNeeds M_foldYards M_least M_ways M_price M_rowBy M_columnBy M_rowOf M_wayBack M_slack M_isUsed M_lifted M_freed M_path) lv pc [.int v]) (h : lp_X11_field_12 Q  M_position M_tokenAt M_token M_digits M_number M_faultAt M_readMany M_readWide M_readHigh M_read M_wide M_high M_hedges M_hurdles M_wants M_rest M_frozen M_nights M_square M_want x1) :
    J x 0 0 2 (W_Model cyI cyJ cyZ a_M a_M_square a_M_want a_M_text a_M_read a_M_row a_M_foldSet a_M_foldEdges a_M_foldNeeds a_M_foldYards a_M_least a_M_ways a_M_price a_M_rowBy a_M_columnBy a_M_rowOf a_M_wayBack a_M_slack a_M_isUsed a_M_lifted a_M_freed a_M_path M_wide M_high M_hedges M_hurdles M_wants M_rest M_frozen M_bytes M_position M_tokenAt M_token M_digits M_number M_faultAt M_readMany M_readWide M_readHigh M_nights M_why M_folds M_square M_want M_text M_read M_row M_foldSet M_foldEdges M_foldNeeds M_foldYards M_least M_ways M_price M_rowBy M_columnBy M_rowOf M_wayBack M_slack M_isUsed M_lifted M_freed M_path) [(0, .ref a_M), (1, .int x1)] 12 [] := by
  obtain ⟨I, ⟨n, h0⟩, hb⟩ := h
  revert M_wide M_high M_hedges M_hurdles M_wants M_rest M_frozen M_nights M_square M_want x1
  induction n using Nat.strongRecOn with
  | _ n ih =>
    intro M_wide M_high M_hedges M_hurdles M_wants M_rest M_frozen M_nights M_square M_want x1 h0
    exact B_X11_field_12 cx hR (fun _ _ _ _ _ _ _ _ _ _ _ hz => by obtain ⟨n2, hlt, hI⟩ := hz; exact ih n2 hlt hI) (hb n M_wide M_high M_hedges M_hurdles M_wants M_rest M_frozen M_nights M_square M_want x1 h0)
set_option maxHeartbeats 4000000 in
set_option maxRecDepth 100000 in
theorem c_X11_field {D : DG} {cyI cyJ cyZ : ClassId} {a_M a_M_square a_M_want a_M_text a_M_read a_M_row a_M_foldSet a_M_foldEdges a_M_foldNeeds a_M_foldYards a_M_least a_M_ways a_M_price a_M_rowBy a_M_columnBy a_M_rowOf a_M_wayBack a_M_slack a_M_isUsed a_M_lifted a_M_freed a_M_path : Nat} {M_wide : Int32} {M_high : Int32} {M_hedges : Int64} {M_hurdles : Int32} {M_wants : Int32} {M_rest : Int32} {M_frozen : Int32} {M_bytes : Int32} {M_position : Int32} {M_tokenAt : Int32} {M_token : Int64} {M_digits : Int32} {M_number : Int32} {M_faultAt : Int32} {M_readMany : Int32} {M_readWide : Int32} {M_readHigh : Int32} {M_nights : Int32} {M_why : Int32} {M_folds : Int32} {M_square : Nat → Int32} {M_want : Nat → Int32} {M_text : Nat → Int32} {M_read : Nat → Int32} {M_row : Nat → Int32} {M_foldSet : Nat → Int32} {M_foldEdges : Nat → Int64} {M_foldNeeds : Nat → Int32} {M_foldYards : Nat → Int32} {M_least : Nat → Int32} {M_ways : Nat → Int32} {M_price : Nat → Int32} {M_rowBy : Nat → Int32} {M_columnBy : Nat → Int32} {M_rowOf : Nat → Int32} {M_wayBack : Nat → Int32} {M_slack : Nat → Int32} {M_isUsed : Nat → Int32} {M_lifted : Nat → Int32} {M_freed : Nat → Int32} {M_path : Nat → Int32} {Q : Int32 → (Int32 × Int32 × Int64 × Int32 × Int32 × Int32 × Int32 × Int32 × Int32 × Int32 × Int64 × Int32 × Int32 × Int32 × Int32 × Int32 × Int32 × Int32 × (Nat → Int32) × (Nat → Int32) × (Nat → Int32)) → Prop} (h : wp_X11_field M_wide M_high M_hedges M_hurdles M_wants M_rest M_frozen M_bytes M_tokenAt M_token M_digits M_number M_faultAt M_nights M_square M_want M_text M_read Q) :
    MetI yX11_field cX11_field 2 (some .int) rm_X11_field D [(cyI, .int), (cyJ, .long), (cyZ, .boolean)] [.ref a_M] (W_Model cyI cyJ cyZ a_M a_M_square a_M_want a_M_text a_M_read a_M_row a_M_foldSet a_M_foldEdges a_M_foldNeeds a_M_foldYards a_M_least a_M_ways a_M_price a_M_rowBy a_M_columnBy a_M_rowOf a_M_wayBack a_M_slack a_M_isUsed a_M_lifted a_M_freed a_M_path M_wide M_high M_hedges M_hurdles M_wants M_rest M_frozen M_bytes M_position M_tokenAt M_token M_digits M_number M_faultAt M_readMany M_readWide M_readHigh M_nights M_why M_folds M_square M_want M_text M_read M_row M_foldSet M_foldEdges M_foldNeeds M_foldYards M_least M_ways M_price M_rowBy M_columnBy M_rowOf M_wayBack M_slack M_isUsed M_lifted M_freed M_path) (fun u : Int32 × Int32 × Int64 × Int32 × Int32 × Int32 × Int32 × Int32 × Int32 × Int32 × Int64 × Int32 × Int32 × Int32 × Int32 × Int32 × Int32 × Int32 × (Nat → Int32) × (Nat → Int32) × (Nat → Int32) => (W_Model cyI cyJ cyZ a_M a_M_square a_M_want a_M_text a_M_read a_M_row a_M_foldSet a_M_foldEdges a_M_foldNeeds a_M_foldYards a_M_least a_M_ways a_M_price a_M_rowBy a_M_columnBy a_M_rowOf a_M_wayBack a_M_slack a_M_isUsed a_M_lifted a_M_freed a_M_path u.1 u.2.1 u.2.2.1 u.2.2.2.1 u.2.2.2.2.1 u.2.2.2.2.2.1 u.2.2.2.2.2.2.1 u.2.2.2.2.2.2.2.1 u.2.2.2.2.2.2.2.2.1 u.2.2.2.2.2.2.2.2.2.1 u.2.2.2.2.2.2.2.2.2.2.1 u.2.2.2.2.2.2.2.2.2.2.2.1 u.2.2.2.2.2.2.2.2.2.2.2.2.1 u.2.2.2.2.2.2.2.2.2.2.2.2.2.1 u.2.2.2.2.2.2.2.2.2.2.2.2.2.2.1 u.2.2.2.2.2.2.2.2.2.2.2.2.2.2.2.1 u.2.2.2.2.2.2.2.2.2.2.2.2.2.2.2.2.1 u.2.2.2.2.2.2.2.2.2.2.2.2.2.2.2.2.2.1 M_why M_folds u.2.2.2.2.2.2.2.2.2.2.2.2.2.2.2.2.2.2.1 u.2.2.2.2.2.2.2.2.2.2.2.2.2.2.2.2.2.2.2.1 M_text u.2.2.2.2.2.2.2.2.2.2.2.2.2.2.2.2.2.2.2.2 M_row M_foldSet M_foldEdges M_foldNeeds M_foldYards M_least M_ways M_price M_rowBy M_columnBy M_rowOf M_wayBack M_slack M_isUsed M_lifted M_freed M_path)) (fun v u => Q v u) := by
  unfold wp_X11_field at h
  refine metI_of (by decide) (Nat.le_of_ble_eq_true rfl) (fun x cx0 hR0 => ?_)
  have cx : Cx x cX11_field 2 RX11 rm_X11_field D [(cyI, .int), (cyJ, .long), (cyZ, .boolean)] := cx0
  have hR : ∀ (v : Int32) (u : Int32 × Int32 × Int64 × Int32 × Int32 × Int32 × Int32 × Int32 × Int32 × Int32 × Int64 × Int32 × Int32 × Int32 × Int32 × Int32 × Int32 × Int32 × (Nat → Int32) × (Nat → Int32) × (Nat → Int32)) (pc : Nat) (lv : List (Nat × Value)), decode cX11_field pc = .ok (.ireturn, 1) → Q v u → J x 0 0 2 (W_Model cyI cyJ cyZ a_M a_M_square a_M_want a_M_text a_M_read a_M_row a_M_foldSet a_M_foldEdges a_M_foldNeeds a_M_foldYards a_M_least a_M_ways a_M_price a_M_rowBy a_M_columnBy a_M_rowOf a_M_wayBack a_M_slack a_M_isUsed a_M_lifted a_M_freed a_M_path u.1 u.2.1 u.2.2.1 u.2.2.2.1 u.2.2.2.2.1 u.2.2.2.2.2.1 u.2.2.2.2.2.2.1 u.2.2.2.2.2.2.2.1 u.2.2.2.2.2.2.2.2.1 u.2.2.2.2.2.2.2.2.2.1 u.2.2.2.2.2.2.2.2.2.2.1 u.2.2.2.2.2.2.2.2.2.2.2.1 u.2.2.2.2.2.2.2.2.2.2.2.2.1 u.2.2.2.2.2.2.2.2.2.2.2.2.2.1 u.2.2.2.2.2.2.2.2.2.2.2.2.2.2.1 u.2.2.2.2.2.2.2.2.2.2.2.2.2.2.2.1 u.2.2.2.2.2.2.2.2.2.2.2.2.2.2.2.2.1 u.2.2.2.2.2.2.2.2.2.2.2.2.2.2.2.2.2.1 M_why M_folds u.2.2.2.2.2.2.2.2.2.2.2.2.2.2.2.2.2.2.1 u.2.2.2.2.2.2.2.2.2.2.2.2.2.2.2.2.2.2.2.1 M_text u.2.2.2.2.2.2.2.2.2.2.2.2.2.2.2.2.2.2.2.2 M_row M_foldSet M_foldEdges M_foldNeeds M_foldYards M_least M_ways M_price M_rowBy M_columnBy M_rowOf M_wayBack M_slack M_isUsed M_lifted M_freed M_path) lv pc [.int v] := (fun v u pc lv d hq => hR0 v u pc lv d hq)
  show J x 0 0 2 (W_Model cyI cyJ cyZ a_M a_M_square a_M_want a_M_text a_M_read a_M_row a_M_foldSet a_M_foldEdges a_M_foldNeeds a_M_foldYards a_M_least a_M_ways a_M_price a_M_rowBy a_M_columnBy a_M_rowOf a_M_wayBack a_M_slack a_M_isUsed a_M_lifted a_M_freed a_M_path M_wide M_high M_hedges M_hurdles M_wants M_rest M_frozen M_bytes M_position M_tokenAt M_token M_digits M_number M_faultAt M_readMany M_readWide M_readHigh M_nights M_why M_folds M_square M_want M_text M_read M_row M_foldSet M_foldEdges M_foldNeeds M_foldYards M_least M_ways M_price M_rowBy M_columnBy M_rowOf M_wayBack M_slack M_isUsed M_lifted M_freed M_path) [(0, .ref a_M)] 0 []
  refine j_aload_n cx 0 rfl rfl dX11_field_0 (pn := 1) rfl ?_
  refine j_callvI0 cx q_inst_X11_isRead q_sel_X11_isRead (b := a_M) (As := []) (rest := []) (c_X11_isRead h) ⟨q_code_X11_isRead, q_ml_X11_192, q_init_X11, hd_X11_isRead, ⟨Nat.le_of_ble_eq_true rfl, Nat.le_of_ble_eq_true rfl⟩, Nat.le_of_ble_eq_true rfl, Nat.le_of_ble_eq_true rfl⟩ (q0 := 0) rfl rfl rfl rfl (Nat.le_of_ble_eq_true rfl) dX11_field_1 (pn := 4) rfl (fun r1 u2 h => ?_)
  show J x 0 0 2 (W_Model cyI cyJ cyZ a_M a_M_square a_M_want a_M_text a_M_read a_M_row a_M_foldSet a_M_foldEdges a_M_foldNeeds a_M_foldYards a_M_least a_M_ways a_M_price a_M_rowBy a_M_columnBy a_M_rowOf a_M_wayBack a_M_slack a_M_isUsed a_M_lifted a_M_freed a_M_path M_wide M_high M_hedges M_hurdles M_wants M_rest M_frozen M_bytes u2.1 u2.2.1 u2.2.2.1 u2.2.2.2.1 u2.2.2.2.2.1 u2.2.2.2.2.2.1 u2.2.2.2.2.2.2.1 u2.2.2.2.2.2.2.2.1 u2.2.2.2.2.2.2.2.2.1 M_nights M_why M_folds M_square M_want M_text u2.2.2.2.2.2.2.2.2.2 M_row M_foldSet M_foldEdges M_foldNeeds M_foldYards M_least M_ways M_price M_rowBy M_columnBy M_rowOf M_wayBack M_slack M_isUsed M_lifted M_freed M_path) [(0, .ref a_M)] 4 [.int r1]
  refine j_if_ne cx 10 dX11_field_4 (pn := 7) rfl rfl (fun c3 => ?_) (fun c3 => ?_)
  · have h := h.1 c3
    refine j_iconst cx (v := 0) (by decide) dX11_field_10 (pn := 11) rfl ?_
    refine j_istore_n cx rfl [(1, .int 0), (0, .ref a_M)] (by decide) rfl dX11_field_11 (pn := 12) rfl ?_
    refine j_sub [1, 0] [(0, .ref a_M), (1, .int 0)] rfl ?_
    exact J_X11_field_12 cx hR h
  · have h := h.2 c3
    refine j_bipush cx (v := (-4)) (by decide) dX11_field_7 (pn := 9) rfl ?_
    exact hR (-4) (M_wide, M_high, M_hedges, M_hurdles, M_wants, M_rest, M_frozen, M_bytes, u2.1, u2.2.1, u2.2.2.1, u2.2.2.2.1, u2.2.2.2.2.1, u2.2.2.2.2.2.1, u2.2.2.2.2.2.2.1, u2.2.2.2.2.2.2.2.1, u2.2.2.2.2.2.2.2.2.1, M_nights, M_square, M_want, u2.2.2.2.2.2.2.2.2.2) 9 _ dX11_field_9 h
theorem dX11_square_0 : decode cX11_square 0 = .ok (.iload_n 1, 1) := by decide +kernel
theorem dX11_square_1 : decode cX11_square 1 = .ok (.iconst 0, 1) := by decide +kernel
theorem dX11_square_2 : decode cX11_square 2 = .ok (.aload_n 0, 1) := by decide +kernel
theorem dX11_square_3 : decode cX11_square 3 = .ok (.invokevirtual 86, 3) := by decide +kernel
theorem dX11_square_6 : decode cX11_square 6 = .ok (.iconst 1, 1) := by decide +kernel
theorem dX11_square_7 : decode cX11_square 7 = .ok (.isub, 1) := by decide +kernel
theorem dX11_square_8 : decode cX11_square 8 = .ok (.invokestatic 90, 3) := by decide +kernel
theorem dX11_square_11 : decode cX11_square 11 = .ok (.ifCond .eq 12, 3) := by decide +kernel
theorem dX11_square_14 : decode cX11_square 14 = .ok (.aload_n 0, 1) := by decide +kernel
theorem dX11_square_15 : decode cX11_square 15 = .ok (.getfield 16, 3) := by decide +kernel
theorem dX11_square_18 : decode cX11_square 18 = .ok (.iload_n 1, 1) := by decide +kernel
theorem dX11_square_19 : decode cX11_square 19 = .ok (.iaload, 1) := by decide +kernel
theorem dX11_square_20 : decode cX11_square 20 = .ok (.goto 5, 3) := by decide +kernel
theorem dX11_square_23 : decode cX11_square 23 = .ok (.bipush (-2), 2) := by decide +kernel
theorem dX11_square_25 : decode cX11_square 25 = .ok (.ireturn, 1) := by decide +kernel
abbrev rm_X11_square : Room := { frames := 1, cells := 0, slots := 0, locals := 22 }
theorem hd_X11_square : yX11_square.cls ≠ "java/lang/invoke/MethodHandle" ∧ yX11_square.cls ≠ "java/lang/invoke/VarHandle" ∧ (parseMethodDescriptor yX11_square.desc).map (fun d => d.parameters.length) = some 1 := by decide +kernel
def wp_X11_square (p1 : Int32) (M_wide : Int32) (M_high : Int32) (M_square : Nat → Int32) (Q : Int32 → Prop) : Prop :=
wp_X11_squares M_wide M_high (fun (r1 : Int32) => wp_X11_in p1 0 (r1 - 1) (fun (r2 : Int32) => ((r2 = 0 → Q (-2)) ∧
(¬ r2 = 0 → vp_in p1 10 ∧ Q (M_square p1.toNatClampNeg)))))
set_option maxHeartbeats 4000000 in
set_option maxRecDepth 100000 in
theorem c_X11_square {D : DG} {cyI cyJ cyZ : ClassId} {a_M a_M_square a_M_want a_M_text a_M_read a_M_row a_M_foldSet a_M_foldEdges a_M_foldNeeds a_M_foldYards a_M_least a_M_ways a_M_price a_M_rowBy a_M_columnBy a_M_rowOf a_M_wayBack a_M_slack a_M_isUsed a_M_lifted a_M_freed a_M_path : Nat} {M_wide : Int32} {M_high : Int32} {M_hedges : Int64} {M_hurdles : Int32} {M_wants : Int32} {M_rest : Int32} {M_frozen : Int32} {M_bytes : Int32} {M_position : Int32} {M_tokenAt : Int32} {M_token : Int64} {M_digits : Int32} {M_number : Int32} {M_faultAt : Int32} {M_readMany : Int32} {M_readWide : Int32} {M_readHigh : Int32} {M_nights : Int32} {M_why : Int32} {M_folds : Int32} {M_square : Nat → Int32} {M_want : Nat → Int32} {M_text : Nat → Int32} {M_read : Nat → Int32} {M_row : Nat → Int32} {M_foldSet : Nat → Int32} {M_foldEdges : Nat → Int64} {M_foldNeeds : Nat → Int32} {M_foldYards : Nat → Int32} {M_least : Nat → Int32} {M_ways : Nat → Int32} {M_price : Nat → Int32} {M_rowBy : Nat → Int32} {M_columnBy : Nat → Int32} {M_rowOf : Nat → Int32} {M_wayBack : Nat → Int32} {M_slack : Nat → Int32} {M_isUsed : Nat → Int32} {M_lifted : Nat → Int32} {M_freed : Nat → Int32} {M_path : Nat → Int32} {p1 : Int32} {Q : Int32 → Prop} (h : wp_X11_square p1 M_wide M_high M_square Q) :
    MetI yX11_square cX11_square 2 (some .int) rm_X11_square D [(cyI, .int), (cyJ, .long), (cyZ, .boolean)] [.ref a_M, .int p1] (W_Model cyI cyJ cyZ a_M a_M_square a_M_want a_M_text a_M_read a_M_row a_M_foldSet a_M_foldEdges a_M_foldNeeds a_M_foldYards a_M_least a_M_ways a_M_price a_M_rowBy a_M_columnBy a_M_rowOf a_M_wayBack a_M_slack a_M_isUsed a_M_lifted a_M_freed a_M_path M_wide M_high M_hedges M_hurdles M_wants M_rest M_frozen M_bytes M_position M_tokenAt M_token M_digits M_number M_faultAt M_readMany M_readWide M_readHigh M_nights M_why M_folds M_square M_want M_text M_read M_row M_foldSet M_foldEdges M_foldNeeds M_foldYards M_least M_ways M_price M_rowBy M_columnBy M_rowOf M_wayBack M_slack M_isUsed M_lifted M_freed M_path) (fun _ : Unit => (W_Model cyI cyJ cyZ a_M a_M_square a_M_want a_M_text a_M_read a_M_row a_M_foldSet a_M_foldEdges a_M_foldNeeds a_M_foldYards a_M_least a_M_ways a_M_price a_M_rowBy a_M_columnBy a_M_rowOf a_M_wayBack a_M_slack a_M_isUsed a_M_lifted a_M_freed a_M_path M_wide M_high M_hedges M_hurdles M_wants M_rest M_frozen M_bytes M_position M_tokenAt M_token M_digits M_number M_faultAt M_readMany M_readWide M_readHigh M_nights M_why M_folds M_square M_want M_text M_read M_row M_foldSet M_foldEdges M_foldNeeds M_foldYards M_least M_ways M_price M_rowBy M_columnBy M_rowOf M_wayBack M_slack M_isUsed M_lifted M_freed M_path)) (fun v _ => Q v ) := by
  unfold wp_X11_square at h
  refine metI_of (by decide) (Nat.le_of_ble_eq_true rfl) (fun x cx0 hR0 => ?_)
  have cx : Cx x cX11_square 2 RX11 rm_X11_square D [(cyI, .int), (cyJ, .long), (cyZ, .boolean)] := cx0
  have hR : ∀ (v : Int32) (pc : Nat) (lv : List (Nat × Value)), decode cX11_square pc = .ok (.ireturn, 1) → Q v → J x 0 0 2 (W_Model cyI cyJ cyZ a_M a_M_square a_M_want a_M_text a_M_read a_M_row a_M_foldSet a_M_foldEdges a_M_foldNeeds a_M_foldYards a_M_least a_M_ways a_M_price a_M_rowBy a_M_columnBy a_M_rowOf a_M_wayBack a_M_slack a_M_isUsed a_M_lifted a_M_freed a_M_path M_wide M_high M_hedges M_hurdles M_wants M_rest M_frozen M_bytes M_position M_tokenAt M_token M_digits M_number M_faultAt M_readMany M_readWide M_readHigh M_nights M_why M_folds M_square M_want M_text M_read M_row M_foldSet M_foldEdges M_foldNeeds M_foldYards M_least M_ways M_price M_rowBy M_columnBy M_rowOf M_wayBack M_slack M_isUsed M_lifted M_freed M_path) lv pc [.int v] := (fun v pc lv d hq => hR0 v () pc lv d hq)
  show J x 0 0 2 (W_Model cyI cyJ cyZ a_M a_M_square a_M_want a_M_text a_M_read a_M_row a_M_foldSet a_M_foldEdges a_M_foldNeeds a_M_foldYards a_M_least a_M_ways a_M_price a_M_rowBy a_M_columnBy a_M_rowOf a_M_wayBack a_M_slack a_M_isUsed a_M_lifted a_M_freed a_M_path M_wide M_high M_hedges M_hurdles M_wants M_rest M_frozen M_bytes M_position M_tokenAt M_token M_digits M_number M_faultAt M_readMany M_readWide M_readHigh M_nights M_why M_folds M_square M_want M_text M_read M_row M_foldSet M_foldEdges M_foldNeeds M_foldYards M_least M_ways M_price M_rowBy M_columnBy M_rowOf M_wayBack M_slack M_isUsed M_lifted M_freed M_path) [(0, .ref a_M), (1, .int p1)] 0 []
  refine j_iload_n cx 1 rfl rfl dX11_square_0 (pn := 1) rfl ?_
  refine j_iconst cx (v := 0) (by decide) dX11_square_1 (pn := 2) rfl ?_
  refine j_aload_n cx 0 rfl rfl dX11_square_2 (pn := 3) rfl ?_
  refine j_callvI0 cx q_inst_X11_squares q_sel_X11_squares (b := a_M) (As := []) (rest := [.int 0, .int p1]) (c_X11_squares h) ⟨q_code_X11_squares, q_ml_X11_86, q_init_X11, hd_X11_squares, ⟨Nat.le_of_ble_eq_true rfl, Nat.le_of_ble_eq_true rfl⟩, Nat.le_of_ble_eq_true rfl, Nat.le_of_ble_eq_true rfl⟩ (q0 := 0) rfl rfl rfl rfl (Nat.le_of_ble_eq_true rfl) dX11_square_3 (pn := 6) rfl (fun r1 _ h => ?_)
  show J x 0 0 2 (W_Model cyI cyJ cyZ a_M a_M_square a_M_want a_M_text a_M_read a_M_row a_M_foldSet a_M_foldEdges a_M_foldNeeds a_M_foldYards a_M_least a_M_ways a_M_price a_M_rowBy a_M_columnBy a_M_rowOf a_M_wayBack a_M_slack a_M_isUsed a_M_lifted a_M_freed a_M_path M_wide M_high M_hedges M_hurdles M_wants M_rest M_frozen M_bytes M_position M_tokenAt M_token M_digits M_number M_faultAt M_readMany M_readWide M_readHigh M_nights M_why M_folds M_square M_want M_text M_read M_row M_foldSet M_foldEdges M_foldNeeds M_foldYards M_least M_ways M_price M_rowBy M_columnBy M_rowOf M_wayBack M_slack M_isUsed M_lifted M_freed M_path) [(0, .ref a_M), (1, .int p1)] 6 [.int r1, .int 0, .int p1]
  refine j_iconst cx (v := 1) (by decide) dX11_square_6 (pn := 7) rfl ?_
  refine j_isub cx dX11_square_7 (pn := 8) rfl ?_
  refine j_calleI cx q_stat_X11_in (As := [.int p1, .int 0, .int (r1 - 1)]) (rest := []) (c_X11_in h) ⟨q_code_X11_in, q_ml_X11_90, q_init_X11, hd_X11_in, ⟨Nat.le_of_ble_eq_true rfl, Nat.le_of_ble_eq_true rfl⟩, Nat.le_of_ble_eq_true rfl, Nat.le_of_ble_eq_true rfl⟩ rfl rfl (Nat.le_of_ble_eq_true rfl) dX11_square_8 (pn := 11) rfl (fun r2 h => ?_)
  show J x 0 0 2 (W_Model cyI cyJ cyZ a_M a_M_square a_M_want a_M_text a_M_read a_M_row a_M_foldSet a_M_foldEdges a_M_foldNeeds a_M_foldYards a_M_least a_M_ways a_M_price a_M_rowBy a_M_columnBy a_M_rowOf a_M_wayBack a_M_slack a_M_isUsed a_M_lifted a_M_freed a_M_path M_wide M_high M_hedges M_hurdles M_wants M_rest M_frozen M_bytes M_position M_tokenAt M_token M_digits M_number M_faultAt M_readMany M_readWide M_readHigh M_nights M_why M_folds M_square M_want M_text M_read M_row M_foldSet M_foldEdges M_foldNeeds M_foldYards M_least M_ways M_price M_rowBy M_columnBy M_rowOf M_wayBack M_slack M_isUsed M_lifted M_freed M_path) [(0, .ref a_M), (1, .int p1)] 11 [.int r2]
  refine j_if_eq cx 23 dX11_square_11 (pn := 14) rfl rfl (fun c3 => ?_) (fun c3 => ?_)
  · have h := h.1 c3
    refine j_bipush cx (v := (-2)) (by decide) dX11_square_23 (pn := 25) rfl ?_
    exact hR (-2) 25 _ dX11_square_25 h
  · have h := h.2 c3
    refine j_aload_n cx 0 rfl rfl dX11_square_14 (pn := 15) rfl ?_
    refine j_get cx inGX11 0 rfl rfl 2 (by decide) q_fl_X11_16 rfl rfl dX11_square_15 (pn := 18) rfl ?_
    refine j_iload_n cx 1 rfl rfl dX11_square_18 (pn := 19) rfl ?_
    refine j_iald cx 1 0 rfl rfl h.1 dX11_square_19 (pn := 20) rfl ?_
    have h := h.2
    refine j_goto cx 25 dX11_square_20 rfl ?_
    exact hR (M_square p1.toNatClampNeg) 25 _ dX11_square_25 h
theorem dX11_hedge_0 : decode cX11_hedge 0 = .ok (.iload_n 1, 1) := by decide +kernel
theorem dX11_hedge_1 : decode cX11_hedge 1 = .ok (.iconst 0, 1) := by decide +kernel
theorem dX11_hedge_2 : decode cX11_hedge 2 = .ok (.aload_n 0, 1) := by decide +kernel
theorem dX11_hedge_3 : decode cX11_hedge 3 = .ok (.invokevirtual 221, 3) := by decide +kernel
theorem dX11_hedge_6 : decode cX11_hedge 6 = .ok (.iconst 1, 1) := by decide +kernel
theorem dX11_hedge_7 : decode cX11_hedge 7 = .ok (.isub, 1) := by decide +kernel
theorem dX11_hedge_8 : decode cX11_hedge 8 = .ok (.invokestatic 90, 3) := by decide +kernel
theorem dX11_hedge_11 : decode cX11_hedge 11 = .ok (.ifCond .eq 15, 3) := by decide +kernel
theorem dX11_hedge_14 : decode cX11_hedge 14 = .ok (.aload_n 0, 1) := by decide +kernel
theorem dX11_hedge_15 : decode cX11_hedge 15 = .ok (.getfield 195, 3) := by decide +kernel
theorem dX11_hedge_18 : decode cX11_hedge 18 = .ok (.iload_n 1, 1) := by decide +kernel
theorem dX11_hedge_19 : decode cX11_hedge 19 = .ok (.lshr, 1) := by decide +kernel
theorem dX11_hedge_20 : decode cX11_hedge 20 = .ok (.lconst 1, 1) := by decide +kernel
theorem dX11_hedge_21 : decode cX11_hedge 21 = .ok (.land, 1) := by decide +kernel
theorem dX11_hedge_22 : decode cX11_hedge 22 = .ok (.l2i, 1) := by decide +kernel
theorem dX11_hedge_23 : decode cX11_hedge 23 = .ok (.goto 5, 3) := by decide +kernel
theorem dX11_hedge_26 : decode cX11_hedge 26 = .ok (.bipush (-2), 2) := by decide +kernel
theorem dX11_hedge_28 : decode cX11_hedge 28 = .ok (.ireturn, 1) := by decide +kernel
abbrev rm_X11_hedge : Room := { frames := 1, cells := 0, slots := 0, locals := 22 }
theorem hd_X11_hedge : yX11_hedge.cls ≠ "java/lang/invoke/MethodHandle" ∧ yX11_hedge.cls ≠ "java/lang/invoke/VarHandle" ∧ (parseMethodDescriptor yX11_hedge.desc).map (fun d => d.parameters.length) = some 1 := by decide +kernel
def wp_X11_hedge (p1 : Int32) (M_wide : Int32) (M_high : Int32) (M_hedges : Int64) (Q : Int32 → Prop) : Prop :=
wp_X11_edgeMany M_wide M_high (fun (r1 : Int32) => wp_X11_in p1 0 (r1 - 1) (fun (r2 : Int32) => ((r2 = 0 → Q (-2)) ∧
(¬ r2 = 0 → Q (((M_hedges >>> (p1.toInt64 &&& 63)) &&& 1).toInt32)))))
set_option maxHeartbeats 4000000 in
set_option maxRecDepth 100000 in
theorem c_X11_hedge {D : DG} {cyI cyJ cyZ : ClassId} {a_M a_M_square a_M_want a_M_text a_M_read a_M_row a_M_foldSet a_M_foldEdges a_M_foldNeeds a_M_foldYards a_M_least a_M_ways a_M_price a_M_rowBy a_M_columnBy a_M_rowOf a_M_wayBack a_M_slack a_M_isUsed a_M_lifted a_M_freed a_M_path : Nat} {M_wide : Int32} {M_high : Int32} {M_hedges : Int64} {M_hurdles : Int32} {M_wants : Int32} {M_rest : Int32} {M_frozen : Int32} {M_bytes : Int32} {M_position : Int32} {M_tokenAt : Int32} {M_token : Int64} {M_digits : Int32} {M_number : Int32} {M_faultAt : Int32} {M_readMany : Int32} {M_readWide : Int32} {M_readHigh : Int32} {M_nights : Int32} {M_why : Int32} {M_folds : Int32} {M_square : Nat → Int32} {M_want : Nat → Int32} {M_text : Nat → Int32} {M_read : Nat → Int32} {M_row : Nat → Int32} {M_foldSet : Nat → Int32} {M_foldEdges : Nat → Int64} {M_foldNeeds : Nat → Int32} {M_foldYards : Nat → Int32} {M_least : Nat → Int32} {M_ways : Nat → Int32} {M_price : Nat → Int32} {M_rowBy : Nat → Int32} {M_columnBy : Nat → Int32} {M_rowOf : Nat → Int32} {M_wayBack : Nat → Int32} {M_slack : Nat → Int32} {M_isUsed : Nat → Int32} {M_lifted : Nat → Int32} {M_freed : Nat → Int32} {M_path : Nat → Int32} {p1 : Int32} {Q : Int32 → Prop} (h : wp_X11_hedge p1 M_wide M_high M_hedges Q) :
    MetI yX11_hedge cX11_hedge 2 (some .int) rm_X11_hedge D [(cyI, .int), (cyJ, .long), (cyZ, .boolean)] [.ref a_M, .int p1] (W_Model cyI cyJ cyZ a_M a_M_square a_M_want a_M_text a_M_read a_M_row a_M_foldSet a_M_foldEdges a_M_foldNeeds a_M_foldYards a_M_least a_M_ways a_M_price a_M_rowBy a_M_columnBy a_M_rowOf a_M_wayBack a_M_slack a_M_isUsed a_M_lifted a_M_freed a_M_path M_wide M_high M_hedges M_hurdles M_wants M_rest M_frozen M_bytes M_position M_tokenAt M_token M_digits M_number M_faultAt M_readMany M_readWide M_readHigh M_nights M_why M_folds M_square M_want M_text M_read M_row M_foldSet M_foldEdges M_foldNeeds M_foldYards M_least M_ways M_price M_rowBy M_columnBy M_rowOf M_wayBack M_slack M_isUsed M_lifted M_freed M_path) (fun _ : Unit => (W_Model cyI cyJ cyZ a_M a_M_square a_M_want a_M_text a_M_read a_M_row a_M_foldSet a_M_foldEdges a_M_foldNeeds a_M_foldYards a_M_least a_M_ways a_M_price a_M_rowBy a_M_columnBy a_M_rowOf a_M_wayBack a_M_slack a_M_isUsed a_M_lifted a_M_freed a_M_path M_wide M_high M_hedges M_hurdles M_wants M_rest M_frozen M_bytes M_position M_tokenAt M_token M_digits M_number M_faultAt M_readMany M_readWide M_readHigh M_nights M_why M_folds M_square M_want M_text M_read M_row M_foldSet M_foldEdges M_foldNeeds M_foldYards M_least M_ways M_price M_rowBy M_columnBy M_rowOf M_wayBack M_slack M_isUsed M_lifted M_freed M_path)) (fun v _ => Q v ) := by
  unfold wp_X11_hedge at h
  refine metI_of (by decide) (Nat.le_of_ble_eq_true rfl) (fun x cx0 hR0 => ?_)
  have cx : Cx x cX11_hedge 2 RX11 rm_X11_hedge D [(cyI, .int), (cyJ, .long), (cyZ, .boolean)] := cx0
  have hR : ∀ (v : Int32) (pc : Nat) (lv : List (Nat × Value)), decode cX11_hedge pc = .ok (.ireturn, 1) → Q v → J x 0 0 2 (W_Model cyI cyJ cyZ a_M a_M_square a_M_want a_M_text a_M_read a_M_row a_M_foldSet a_M_foldEdges a_M_foldNeeds a_M_foldYards a_M_least a_M_ways a_M_price a_M_rowBy a_M_columnBy a_M_rowOf a_M_wayBack a_M_slack a_M_isUsed a_M_lifted a_M_freed a_M_path M_wide M_high M_hedges M_hurdles M_wants M_rest M_frozen M_bytes M_position M_tokenAt M_token M_digits M_number M_faultAt M_readMany M_readWide M_readHigh M_nights M_why M_folds M_square M_want M_text M_read M_row M_foldSet M_foldEdges M_foldNeeds M_foldYards M_least M_ways M_price M_rowBy M_columnBy M_rowOf M_wayBack M_slack M_isUsed M_lifted M_freed M_path) lv pc [.int v] := (fun v pc lv d hq => hR0 v () pc lv d hq)
  show J x 0 0 2 (W_Model cyI cyJ cyZ a_M a_M_square a_M_want a_M_text a_M_read a_M_row a_M_foldSet a_M_foldEdges a_M_foldNeeds a_M_foldYards a_M_least a_M_ways a_M_price a_M_rowBy a_M_columnBy a_M_rowOf a_M_wayBack a_M_slack a_M_isUsed a_M_lifted a_M_freed a_M_path M_wide M_high M_hedges M_hurdles M_wants M_rest M_frozen M_bytes M_position M_tokenAt M_token M_digits M_number M_faultAt M_readMany M_readWide M_readHigh M_nights M_why M_folds M_square M_want M_text M_read M_row M_foldSet M_foldEdges M_foldNeeds M_foldYards M_least M_ways M_price M_rowBy M_columnBy M_rowOf M_wayBack M_slack M_isUsed M_lifted M_freed M_path) [(0, .ref a_M), (1, .int p1)] 0 []
  refine j_iload_n cx 1 rfl rfl dX11_hedge_0 (pn := 1) rfl ?_
  refine j_iconst cx (v := 0) (by decide) dX11_hedge_1 (pn := 2) rfl ?_
  refine j_aload_n cx 0 rfl rfl dX11_hedge_2 (pn := 3) rfl ?_
  refine j_callvI0 cx q_inst_X11_edgeMany q_sel_X11_edgeMany (b := a_M) (As := []) (rest := [.int 0, .int p1]) (c_X11_edgeMany h) ⟨q_code_X11_edgeMany, q_ml_X11_221, q_init_X11, hd_X11_edgeMany, ⟨Nat.le_of_ble_eq_true rfl, Nat.le_of_ble_eq_true rfl⟩, Nat.le_of_ble_eq_true rfl, Nat.le_of_ble_eq_true rfl⟩ (q0 := 0) rfl rfl rfl rfl (Nat.le_of_ble_eq_true rfl) dX11_hedge_3 (pn := 6) rfl (fun r1 _ h => ?_)
  show J x 0 0 2 (W_Model cyI cyJ cyZ a_M a_M_square a_M_want a_M_text a_M_read a_M_row a_M_foldSet a_M_foldEdges a_M_foldNeeds a_M_foldYards a_M_least a_M_ways a_M_price a_M_rowBy a_M_columnBy a_M_rowOf a_M_wayBack a_M_slack a_M_isUsed a_M_lifted a_M_freed a_M_path M_wide M_high M_hedges M_hurdles M_wants M_rest M_frozen M_bytes M_position M_tokenAt M_token M_digits M_number M_faultAt M_readMany M_readWide M_readHigh M_nights M_why M_folds M_square M_want M_text M_read M_row M_foldSet M_foldEdges M_foldNeeds M_foldYards M_least M_ways M_price M_rowBy M_columnBy M_rowOf M_wayBack M_slack M_isUsed M_lifted M_freed M_path) [(0, .ref a_M), (1, .int p1)] 6 [.int r1, .int 0, .int p1]
  refine j_iconst cx (v := 1) (by decide) dX11_hedge_6 (pn := 7) rfl ?_
  refine j_isub cx dX11_hedge_7 (pn := 8) rfl ?_
  refine j_calleI cx q_stat_X11_in (As := [.int p1, .int 0, .int (r1 - 1)]) (rest := []) (c_X11_in h) ⟨q_code_X11_in, q_ml_X11_90, q_init_X11, hd_X11_in, ⟨Nat.le_of_ble_eq_true rfl, Nat.le_of_ble_eq_true rfl⟩, Nat.le_of_ble_eq_true rfl, Nat.le_of_ble_eq_true rfl⟩ rfl rfl (Nat.le_of_ble_eq_true rfl) dX11_hedge_8 (pn := 11) rfl (fun r2 h => ?_)
  show J x 0 0 2 (W_Model cyI cyJ cyZ a_M a_M_square a_M_want a_M_text a_M_read a_M_row a_M_foldSet a_M_foldEdges a_M_foldNeeds a_M_foldYards a_M_least a_M_ways a_M_price a_M_rowBy a_M_columnBy a_M_rowOf a_M_wayBack a_M_slack a_M_isUsed a_M_lifted a_M_freed a_M_path M_wide M_high M_hedges M_hurdles M_wants M_rest M_frozen M_bytes M_position M_tokenAt M_token M_digits M_number M_faultAt M_readMany M_readWide M_readHigh M_nights M_why M_folds M_square M_want M_text M_read M_row M_foldSet M_foldEdges M_foldNeeds M_foldYards M_least M_ways M_price M_rowBy M_columnBy M_rowOf M_wayBack M_slack M_isUsed M_lifted M_freed M_path) [(0, .ref a_M), (1, .int p1)] 11 [.int r2]
  refine j_if_eq cx 26 dX11_hedge_11 (pn := 14) rfl rfl (fun c3 => ?_) (fun c3 => ?_)
  · have h := h.1 c3
    refine j_bipush cx (v := (-2)) (by decide) dX11_hedge_26 (pn := 28) rfl ?_
    exact hR (-2) 28 _ dX11_hedge_28 h
  · have h := h.2 c3
    refine j_aload_n cx 0 rfl rfl dX11_hedge_14 (pn := 15) rfl ?_
    refine j_get cx inGX11 0 rfl rfl 3 (by decide) q_fl_X11_195 rfl rfl dX11_hedge_15 (pn := 18) rfl ?_
    refine j_iload_n cx 1 rfl rfl dX11_hedge_18 (pn := 19) rfl ?_
    refine j_lshr cx dX11_hedge_19 (pn := 20) rfl ?_
    refine j_lconst cx (v := 1) (by decide) dX11_hedge_20 (pn := 21) rfl ?_
    refine j_land cx dX11_hedge_21 (pn := 22) rfl ?_
    refine j_l2i cx dX11_hedge_22 (pn := 23) rfl ?_
    refine j_goto cx 28 dX11_hedge_23 rfl ?_
    exact hR (((M_hedges >>> (p1.toInt64 &&& 63)) &&& 1).toInt32) 28 _ dX11_hedge_28 h
theorem dX11_wantOf_0 : decode cX11_wantOf 0 = .ok (.aload_n 0, 1) := by decide +kernel
theorem dX11_wantOf_1 : decode cX11_wantOf 1 = .ok (.getfield 209, 3) := by decide +kernel
theorem dX11_wantOf_4 : decode cX11_wantOf 4 = .ok (.ifCond .ne 7, 3) := by decide +kernel
theorem dX11_wantOf_7 : decode cX11_wantOf 7 = .ok (.iconst 1, 1) := by decide +kernel
theorem dX11_wantOf_8 : decode cX11_wantOf 8 = .ok (.goto 14, 3) := by decide +kernel
theorem dX11_wantOf_11 : decode cX11_wantOf 11 = .ok (.aload_n 0, 1) := by decide +kernel
theorem dX11_wantOf_12 : decode cX11_wantOf 12 = .ok (.getfield 23, 3) := by decide +kernel
theorem dX11_wantOf_15 : decode cX11_wantOf 15 = .ok (.iload_n 1, 1) := by decide +kernel
theorem dX11_wantOf_16 : decode cX11_wantOf 16 = .ok (.aload_n 0, 1) := by decide +kernel
theorem dX11_wantOf_17 : decode cX11_wantOf 17 = .ok (.getfield 209, 3) := by decide +kernel
theorem dX11_wantOf_20 : decode cX11_wantOf 20 = .ok (.irem, 1) := by decide +kernel
theorem dX11_wantOf_21 : decode cX11_wantOf 21 = .ok (.iaload, 1) := by decide +kernel
theorem dX11_wantOf_22 : decode cX11_wantOf 22 = .ok (.ireturn, 1) := by decide +kernel
abbrev rm_X11_wantOf : Room := { frames := 0, cells := 0, slots := 0, locals := 0 }
theorem hd_X11_wantOf : yX11_wantOf.cls ≠ "java/lang/invoke/MethodHandle" ∧ yX11_wantOf.cls ≠ "java/lang/invoke/VarHandle" ∧ (parseMethodDescriptor yX11_wantOf.desc).map (fun d => d.parameters.length) = some 1 := by decide +kernel
def wp_X11_wantOf (p1 : Int32) (M_wants : Int32) (M_want : Nat → Int32) (Q : Int32 → Prop) : Prop :=
((¬ M_wants = 0 → ¬ M_wants = 0 ∧ vp_in (p1 - p1 / M_wants * M_wants) 7 ∧ Q (M_want (p1 - p1 / M_wants * M_wants).toNatClampNeg)) ∧
(M_wants = 0 → Q 1))
set_option maxHeartbeats 4000000 in
set_option maxRecDepth 100000 in
theorem c_X11_wantOf {D : DG} {cyI cyJ cyZ : ClassId} {a_M a_M_square a_M_want a_M_text a_M_read a_M_row a_M_foldSet a_M_foldEdges a_M_foldNeeds a_M_foldYards a_M_least a_M_ways a_M_price a_M_rowBy a_M_columnBy a_M_rowOf a_M_wayBack a_M_slack a_M_isUsed a_M_lifted a_M_freed a_M_path : Nat} {M_wide : Int32} {M_high : Int32} {M_hedges : Int64} {M_hurdles : Int32} {M_wants : Int32} {M_rest : Int32} {M_frozen : Int32} {M_bytes : Int32} {M_position : Int32} {M_tokenAt : Int32} {M_token : Int64} {M_digits : Int32} {M_number : Int32} {M_faultAt : Int32} {M_readMany : Int32} {M_readWide : Int32} {M_readHigh : Int32} {M_nights : Int32} {M_why : Int32} {M_folds : Int32} {M_square : Nat → Int32} {M_want : Nat → Int32} {M_text : Nat → Int32} {M_read : Nat → Int32} {M_row : Nat → Int32} {M_foldSet : Nat → Int32} {M_foldEdges : Nat → Int64} {M_foldNeeds : Nat → Int32} {M_foldYards : Nat → Int32} {M_least : Nat → Int32} {M_ways : Nat → Int32} {M_price : Nat → Int32} {M_rowBy : Nat → Int32} {M_columnBy : Nat → Int32} {M_rowOf : Nat → Int32} {M_wayBack : Nat → Int32} {M_slack : Nat → Int32} {M_isUsed : Nat → Int32} {M_lifted : Nat → Int32} {M_freed : Nat → Int32} {M_path : Nat → Int32} {p1 : Int32} {Q : Int32 → Prop} (h : wp_X11_wantOf p1 M_wants M_want Q) :
    MetI yX11_wantOf cX11_wantOf 2 (some .int) rm_X11_wantOf D [(cyI, .int), (cyJ, .long), (cyZ, .boolean)] [.ref a_M, .int p1] (W_Model cyI cyJ cyZ a_M a_M_square a_M_want a_M_text a_M_read a_M_row a_M_foldSet a_M_foldEdges a_M_foldNeeds a_M_foldYards a_M_least a_M_ways a_M_price a_M_rowBy a_M_columnBy a_M_rowOf a_M_wayBack a_M_slack a_M_isUsed a_M_lifted a_M_freed a_M_path M_wide M_high M_hedges M_hurdles M_wants M_rest M_frozen M_bytes M_position M_tokenAt M_token M_digits M_number M_faultAt M_readMany M_readWide M_readHigh M_nights M_why M_folds M_square M_want M_text M_read M_row M_foldSet M_foldEdges M_foldNeeds M_foldYards M_least M_ways M_price M_rowBy M_columnBy M_rowOf M_wayBack M_slack M_isUsed M_lifted M_freed M_path) (fun _ : Unit => (W_Model cyI cyJ cyZ a_M a_M_square a_M_want a_M_text a_M_read a_M_row a_M_foldSet a_M_foldEdges a_M_foldNeeds a_M_foldYards a_M_least a_M_ways a_M_price a_M_rowBy a_M_columnBy a_M_rowOf a_M_wayBack a_M_slack a_M_isUsed a_M_lifted a_M_freed a_M_path M_wide M_high M_hedges M_hurdles M_wants M_rest M_frozen M_bytes M_position M_tokenAt M_token M_digits M_number M_faultAt M_readMany M_readWide M_readHigh M_nights M_why M_folds M_square M_want M_text M_read M_row M_foldSet M_foldEdges M_foldNeeds M_foldYards M_least M_ways M_price M_rowBy M_columnBy M_rowOf M_wayBack M_slack M_isUsed M_lifted M_freed M_path)) (fun v _ => Q v ) := by
  unfold wp_X11_wantOf at h
  refine metI_of (by decide) (Nat.le_of_ble_eq_true rfl) (fun x cx0 hR0 => ?_)
  have cx : Cx x cX11_wantOf 2 RX11 rm_X11_wantOf D [(cyI, .int), (cyJ, .long), (cyZ, .boolean)] := cx0
  have hR : ∀ (v : Int32) (pc : Nat) (lv : List (Nat × Value)), decode cX11_wantOf pc = .ok (.ireturn, 1) → Q v → J x 0 0 2 (W_Model cyI cyJ cyZ a_M a_M_square a_M_want a_M_text a_M_read a_M_row a_M_foldSet a_M_foldEdges a_M_foldNeeds a_M_foldYards a_M_least a_M_ways a_M_price a_M_rowBy a_M_columnBy a_M_rowOf a_M_wayBack a_M_slack a_M_isUsed a_M_lifted a_M_freed a_M_path M_wide M_high M_hedges M_hurdles M_wants M_rest M_frozen M_bytes M_position M_tokenAt M_token M_digits M_number M_faultAt M_readMany M_readWide M_readHigh M_nights M_why M_folds M_square M_want M_text M_read M_row M_foldSet M_foldEdges M_foldNeeds M_foldYards M_least M_ways M_price M_rowBy M_columnBy M_rowOf M_wayBack M_slack M_isUsed M_lifted M_freed M_path) lv pc [.int v] := (fun v pc lv d hq => hR0 v () pc lv d hq)
  show J x 0 0 2 (W_Model cyI cyJ cyZ a_M a_M_square a_M_want a_M_text a_M_read a_M_row a_M_foldSet a_M_foldEdges a_M_foldNeeds a_M_foldYards a_M_least a_M_ways a_M_price a_M_rowBy a_M_columnBy a_M_rowOf a_M_wayBack a_M_slack a_M_isUsed a_M_lifted a_M_freed a_M_path M_wide M_high M_hedges M_hurdles M_wants M_rest M_frozen M_bytes M_position M_tokenAt M_token M_digits M_number M_faultAt M_readMany M_readWide M_readHigh M_nights M_why M_folds M_square M_want M_text M_read M_row M_foldSet M_foldEdges M_foldNeeds M_foldYards M_least M_ways M_price M_rowBy M_columnBy M_rowOf M_wayBack M_slack M_isUsed M_lifted M_freed M_path) [(0, .ref a_M), (1, .int p1)] 0 []
  refine j_aload_n cx 0 rfl rfl dX11_wantOf_0 (pn := 1) rfl ?_
  refine j_get cx inGX11 0 rfl rfl 5 (by decide) q_fl_X11_209 rfl rfl dX11_wantOf_1 (pn := 4) rfl ?_
  refine j_if_ne cx 11 dX11_wantOf_4 (pn := 7) rfl rfl (fun c1 => ?_) (fun c1 => ?_)
  · have h := h.1 c1
    refine j_aload_n cx 0 rfl rfl dX11_wantOf_11 (pn := 12) rfl ?_
    refine j_get cx inGX11 0 rfl rfl 6 (by decide) q_fl_X11_23 rfl rfl dX11_wantOf_12 (pn := 15) rfl ?_
    refine j_iload_n cx 1 rfl rfl dX11_wantOf_15 (pn := 16) rfl ?_
    refine j_aload_n cx 0 rfl rfl dX11_wantOf_16 (pn := 17) rfl ?_
    refine j_get cx inGX11 0 rfl rfl 5 (by decide) q_fl_X11_209 rfl rfl dX11_wantOf_17 (pn := 20) rfl ?_
    refine j_irem cx h.1 dX11_wantOf_20 (pn := 21) rfl ?_
    have h := h.2
    refine j_iald cx 2 0 rfl rfl h.1 dX11_wantOf_21 (pn := 22) rfl ?_
    have h := h.2
    exact hR (M_want (p1 - p1 / M_wants * M_wants).toNatClampNeg) 22 _ dX11_wantOf_22 h
  · have h := h.2 c1
    refine j_iconst cx (v := 1) (by decide) dX11_wantOf_7 (pn := 8) rfl ?_
    refine j_goto cx 22 dX11_wantOf_8 rfl ?_
    exact hR 1 22 _ dX11_wantOf_22 h
theorem dX11_night_0 : decode cX11_night 0 = .ok (.iload_n 1, 1) := by decide +kernel
theorem dX11_night_1 : decode cX11_night 1 = .ok (.iconst 0, 1) := by decide +kernel
theorem dX11_night_2 : decode cX11_night 2 = .ok (.bipush 19, 2) := by decide +kernel
theorem dX11_night_4 : decode cX11_night 4 = .ok (.invokestatic 90, 3) := by decide +kernel
theorem dX11_night_7 : decode cX11_night 7 = .ok (.ifCond .ne 6, 3) := by decide +kernel
theorem dX11_night_10 : decode cX11_night 10 = .ok (.bipush (-2), 2) := by decide +kernel
theorem dX11_night_12 : decode cX11_night 12 = .ok (.ireturn, 1) := by decide +kernel
theorem dX11_night_13 : decode cX11_night 13 = .ok (.iload_n 2, 1) := by decide +kernel
theorem dX11_night_14 : decode cX11_night 14 = .ok (.ifCond .ne 11, 3) := by decide +kernel
theorem dX11_night_17 : decode cX11_night 17 = .ok (.aload_n 0, 1) := by decide +kernel
theorem dX11_night_18 : decode cX11_night 18 = .ok (.iload_n 1, 1) := by decide +kernel
theorem dX11_night_19 : decode cX11_night 19 = .ok (.invokevirtual 224, 3) := by decide +kernel
theorem dX11_night_22 : decode cX11_night 22 = .ok (.goto 21, 3) := by decide +kernel
theorem dX11_night_25 : decode cX11_night 25 = .ok (.iload_n 2, 1) := by decide +kernel
theorem dX11_night_26 : decode cX11_night 26 = .ok (.iconst 1, 1) := by decide +kernel
theorem dX11_night_27 : decode cX11_night 27 = .ok (.if_icmp .ne 14, 3) := by decide +kernel
theorem dX11_night_30 : decode cX11_night 30 = .ok (.aload_n 0, 1) := by decide +kernel
theorem dX11_night_31 : decode cX11_night 31 = .ok (.getfield 215, 3) := by decide +kernel
theorem dX11_night_34 : decode cX11_night 34 = .ok (.iload_n 1, 1) := by decide +kernel
theorem dX11_night_35 : decode cX11_night 35 = .ok (.ishr, 1) := by decide +kernel
theorem dX11_night_36 : decode cX11_night 36 = .ok (.iconst 1, 1) := by decide +kernel
theorem dX11_night_37 : decode cX11_night 37 = .ok (.iand, 1) := by decide +kernel
theorem dX11_night_38 : decode cX11_night 38 = .ok (.goto 5, 3) := by decide +kernel
theorem dX11_night_41 : decode cX11_night 41 = .ok (.bipush (-3), 2) := by decide +kernel
theorem dX11_night_43 : decode cX11_night 43 = .ok (.ireturn, 1) := by decide +kernel
abbrev rm_X11_night : Room := { frames := 1, cells := 0, slots := 0, locals := 22 }
theorem hd_X11_night : yX11_night.cls ≠ "java/lang/invoke/MethodHandle" ∧ yX11_night.cls ≠ "java/lang/invoke/VarHandle" ∧ (parseMethodDescriptor yX11_night.desc).map (fun d => d.parameters.length) = some 2 := by decide +kernel
def wp_X11_night (p1 : Int32) (p2 : Int32) (M_wants : Int32) (M_frozen : Int32) (M_want : Nat → Int32) (Q : Int32 → Prop) : Prop :=
wp_X11_in p1 0 19 (fun (r1 : Int32) => ((¬ r1 = 0 → ((¬ p2 = 0 → ((¬ p2 = 1 → Q (-3)) ∧
(p2 = 1 → Q ((M_frozen >>> (p1 &&& 31)) &&& 1)))) ∧
(p2 = 0 → wp_X11_wantOf p1 M_wants M_want (fun (r5 : Int32) => Q r5)))) ∧
(r1 = 0 → Q (-2))))
set_option maxHeartbeats 4000000 in
set_option maxRecDepth 100000 in
theorem c_X11_night {D : DG} {cyI cyJ cyZ : ClassId} {a_M a_M_square a_M_want a_M_text a_M_read a_M_row a_M_foldSet a_M_foldEdges a_M_foldNeeds a_M_foldYards a_M_least a_M_ways a_M_price a_M_rowBy a_M_columnBy a_M_rowOf a_M_wayBack a_M_slack a_M_isUsed a_M_lifted a_M_freed a_M_path : Nat} {M_wide : Int32} {M_high : Int32} {M_hedges : Int64} {M_hurdles : Int32} {M_wants : Int32} {M_rest : Int32} {M_frozen : Int32} {M_bytes : Int32} {M_position : Int32} {M_tokenAt : Int32} {M_token : Int64} {M_digits : Int32} {M_number : Int32} {M_faultAt : Int32} {M_readMany : Int32} {M_readWide : Int32} {M_readHigh : Int32} {M_nights : Int32} {M_why : Int32} {M_folds : Int32} {M_square : Nat → Int32} {M_want : Nat → Int32} {M_text : Nat → Int32} {M_read : Nat → Int32} {M_row : Nat → Int32} {M_foldSet : Nat → Int32} {M_foldEdges : Nat → Int64} {M_foldNeeds : Nat → Int32} {M_foldYards : Nat → Int32} {M_least : Nat → Int32} {M_ways : Nat → Int32} {M_price : Nat → Int32} {M_rowBy : Nat → Int32} {M_columnBy : Nat → Int32} {M_rowOf : Nat → Int32} {M_wayBack : Nat → Int32} {M_slack : Nat → Int32} {M_isUsed : Nat → Int32} {M_lifted : Nat → Int32} {M_freed : Nat → Int32} {M_path : Nat → Int32} {p1 : Int32} {p2 : Int32} {Q : Int32 → Prop} (h : wp_X11_night p1 p2 M_wants M_frozen M_want Q) :
    MetI yX11_night cX11_night 3 (some .int) rm_X11_night D [(cyI, .int), (cyJ, .long), (cyZ, .boolean)] [.ref a_M, .int p1, .int p2] (W_Model cyI cyJ cyZ a_M a_M_square a_M_want a_M_text a_M_read a_M_row a_M_foldSet a_M_foldEdges a_M_foldNeeds a_M_foldYards a_M_least a_M_ways a_M_price a_M_rowBy a_M_columnBy a_M_rowOf a_M_wayBack a_M_slack a_M_isUsed a_M_lifted a_M_freed a_M_path M_wide M_high M_hedges M_hurdles M_wants M_rest M_frozen M_bytes M_position M_tokenAt M_token M_digits M_number M_faultAt M_readMany M_readWide M_readHigh M_nights M_why M_folds M_square M_want M_text M_read M_row M_foldSet M_foldEdges M_foldNeeds M_foldYards M_least M_ways M_price M_rowBy M_columnBy M_rowOf M_wayBack M_slack M_isUsed M_lifted M_freed M_path) (fun _ : Unit => (W_Model cyI cyJ cyZ a_M a_M_square a_M_want a_M_text a_M_read a_M_row a_M_foldSet a_M_foldEdges a_M_foldNeeds a_M_foldYards a_M_least a_M_ways a_M_price a_M_rowBy a_M_columnBy a_M_rowOf a_M_wayBack a_M_slack a_M_isUsed a_M_lifted a_M_freed a_M_path M_wide M_high M_hedges M_hurdles M_wants M_rest M_frozen M_bytes M_position M_tokenAt M_token M_digits M_number M_faultAt M_readMany M_readWide M_readHigh M_nights M_why M_folds M_square M_want M_text M_read M_row M_foldSet M_foldEdges M_foldNeeds M_foldYards M_least M_ways M_price M_rowBy M_columnBy M_rowOf M_wayBack M_slack M_isUsed M_lifted M_freed M_path)) (fun v _ => Q v ) := by
  unfold wp_X11_night at h
  refine metI_of (by decide) (Nat.le_of_ble_eq_true rfl) (fun x cx0 hR0 => ?_)
  have cx : Cx x cX11_night 3 RX11 rm_X11_night D [(cyI, .int), (cyJ, .long), (cyZ, .boolean)] := cx0
  have hR : ∀ (v : Int32) (pc : Nat) (lv : List (Nat × Value)), decode cX11_night pc = .ok (.ireturn, 1) → Q v → J x 0 0 3 (W_Model cyI cyJ cyZ a_M a_M_square a_M_want a_M_text a_M_read a_M_row a_M_foldSet a_M_foldEdges a_M_foldNeeds a_M_foldYards a_M_least a_M_ways a_M_price a_M_rowBy a_M_columnBy a_M_rowOf a_M_wayBack a_M_slack a_M_isUsed a_M_lifted a_M_freed a_M_path M_wide M_high M_hedges M_hurdles M_wants M_rest M_frozen M_bytes M_position M_tokenAt M_token M_digits M_number M_faultAt M_readMany M_readWide M_readHigh M_nights M_why M_folds M_square M_want M_text M_read M_row M_foldSet M_foldEdges M_foldNeeds M_foldYards M_least M_ways M_price M_rowBy M_columnBy M_rowOf M_wayBack M_slack M_isUsed M_lifted M_freed M_path) lv pc [.int v] := (fun v pc lv d hq => hR0 v () pc lv d hq)
  show J x 0 0 3 (W_Model cyI cyJ cyZ a_M a_M_square a_M_want a_M_text a_M_read a_M_row a_M_foldSet a_M_foldEdges a_M_foldNeeds a_M_foldYards a_M_least a_M_ways a_M_price a_M_rowBy a_M_columnBy a_M_rowOf a_M_wayBack a_M_slack a_M_isUsed a_M_lifted a_M_freed a_M_path M_wide M_high M_hedges M_hurdles M_wants M_rest M_frozen M_bytes M_position M_tokenAt M_token M_digits M_number M_faultAt M_readMany M_readWide M_readHigh M_nights M_why M_folds M_square M_want M_text M_read M_row M_foldSet M_foldEdges M_foldNeeds M_foldYards M_least M_ways M_price M_rowBy M_columnBy M_rowOf M_wayBack M_slack M_isUsed M_lifted M_freed M_path) [(0, .ref a_M), (1, .int p1), (2, .int p2)] 0 []
  refine j_iload_n cx 1 rfl rfl dX11_night_0 (pn := 1) rfl ?_
  refine j_iconst cx (v := 0) (by decide) dX11_night_1 (pn := 2) rfl ?_
  refine j_bipush cx (v := 19) (by decide) dX11_night_2 (pn := 4) rfl ?_
  refine j_calleI cx q_stat_X11_in (As := [.int p1, .int 0, .int 19]) (rest := []) (c_X11_in h) ⟨q_code_X11_in, q_ml_X11_90, q_init_X11, hd_X11_in, ⟨Nat.le_of_ble_eq_true rfl, Nat.le_of_ble_eq_true rfl⟩, Nat.le_of_ble_eq_true rfl, Nat.le_of_ble_eq_true rfl⟩ rfl rfl (Nat.le_of_ble_eq_true rfl) dX11_night_4 (pn := 7) rfl (fun r1 h => ?_)
  show J x 0 0 3 (W_Model cyI cyJ cyZ a_M a_M_square a_M_want a_M_text a_M_read a_M_row a_M_foldSet a_M_foldEdges a_M_foldNeeds a_M_foldYards a_M_least a_M_ways a_M_price a_M_rowBy a_M_columnBy a_M_rowOf a_M_wayBack a_M_slack a_M_isUsed a_M_lifted a_M_freed a_M_path M_wide M_high M_hedges M_hurdles M_wants M_rest M_frozen M_bytes M_position M_tokenAt M_token M_digits M_number M_faultAt M_readMany M_readWide M_readHigh M_nights M_why M_folds M_square M_want M_text M_read M_row M_foldSet M_foldEdges M_foldNeeds M_foldYards M_least M_ways M_price M_rowBy M_columnBy M_rowOf M_wayBack M_slack M_isUsed M_lifted M_freed M_path) [(0, .ref a_M), (1, .int p1), (2, .int p2)] 7 [.int r1]
  refine j_if_ne cx 13 dX11_night_7 (pn := 10) rfl rfl (fun c2 => ?_) (fun c2 => ?_)
  · have h := h.1 c2
    refine j_iload_n cx 2 rfl rfl dX11_night_13 (pn := 14) rfl ?_
    refine j_if_ne cx 25 dX11_night_14 (pn := 17) rfl rfl (fun c3 => ?_) (fun c3 => ?_)
    · have h := h.1 c3
      refine j_iload_n cx 2 rfl rfl dX11_night_25 (pn := 26) rfl ?_
      refine j_iconst cx (v := 1) (by decide) dX11_night_26 (pn := 27) rfl ?_
      refine j_icmp_ne cx 41 dX11_night_27 (pn := 30) rfl rfl (fun c4 => ?_) (fun c4 => ?_)
      · have h := h.1 c4
        refine j_bipush cx (v := (-3)) (by decide) dX11_night_41 (pn := 43) rfl ?_
        exact hR (-3) 43 _ dX11_night_43 h
      · have h := h.2 c4
        refine j_aload_n cx 0 rfl rfl dX11_night_30 (pn := 31) rfl ?_
        refine j_get cx inGX11 0 rfl rfl 8 (by decide) q_fl_X11_215 rfl rfl dX11_night_31 (pn := 34) rfl ?_
        refine j_iload_n cx 1 rfl rfl dX11_night_34 (pn := 35) rfl ?_
        refine j_ishr cx dX11_night_35 (pn := 36) rfl ?_
        refine j_iconst cx (v := 1) (by decide) dX11_night_36 (pn := 37) rfl ?_
        refine j_iand cx dX11_night_37 (pn := 38) rfl ?_
        refine j_goto cx 43 dX11_night_38 rfl ?_
        exact hR ((M_frozen >>> (p1 &&& 31)) &&& 1) 43 _ dX11_night_43 h
    · have h := h.2 c3
      refine j_aload_n cx 0 rfl rfl dX11_night_17 (pn := 18) rfl ?_
      refine j_iload_n cx 1 rfl rfl dX11_night_18 (pn := 19) rfl ?_
      refine j_callvI0 cx q_inst_X11_wantOf q_sel_X11_wantOf (b := a_M) (As := [.int p1]) (rest := []) (c_X11_wantOf h) ⟨q_code_X11_wantOf, q_ml_X11_224, q_init_X11, hd_X11_wantOf, ⟨Nat.le_of_ble_eq_true rfl, Nat.le_of_ble_eq_true rfl⟩, Nat.le_of_ble_eq_true rfl, Nat.le_of_ble_eq_true rfl⟩ (q0 := 0) rfl rfl rfl rfl (Nat.le_of_ble_eq_true rfl) dX11_night_19 (pn := 22) rfl (fun r5 _ h => ?_)
      show J x 0 0 3 (W_Model cyI cyJ cyZ a_M a_M_square a_M_want a_M_text a_M_read a_M_row a_M_foldSet a_M_foldEdges a_M_foldNeeds a_M_foldYards a_M_least a_M_ways a_M_price a_M_rowBy a_M_columnBy a_M_rowOf a_M_wayBack a_M_slack a_M_isUsed a_M_lifted a_M_freed a_M_path M_wide M_high M_hedges M_hurdles M_wants M_rest M_frozen M_bytes M_position M_tokenAt M_token M_digits M_number M_faultAt M_readMany M_readWide M_readHigh M_nights M_why M_folds M_square M_want M_text M_read M_row M_foldSet M_foldEdges M_foldNeeds M_foldYards M_least M_ways M_price M_rowBy M_columnBy M_rowOf M_wayBack M_slack M_isUsed M_lifted M_freed M_path) [(0, .ref a_M), (1, .int p1), (2, .int p2)] 22 [.int r5]
      refine j_goto cx 43 dX11_night_22 rfl ?_
      exact hR r5 43 _ dX11_night_43 h
  · have h := h.2 c2
    refine j_bipush cx (v := (-2)) (by decide) dX11_night_10 (pn := 12) rfl ?_
    exact hR (-2) 12 _ dX11_night_12 h
theorem dX11_besideOf_0 : decode cX11_besideOf 0 = .ok (.iload_n 1, 1) := by decide +kernel
theorem dX11_besideOf_1 : decode cX11_besideOf 1 = .ok (.aload_n 0, 1) := by decide +kernel
theorem dX11_besideOf_2 : decode cX11_besideOf 2 = .ok (.getfield 7, 3) := by decide +kernel
theorem dX11_besideOf_5 : decode cX11_besideOf 5 = .ok (.irem, 1) := by decide +kernel
theorem dX11_besideOf_6 : decode cX11_besideOf 6 = .ok (.iload_n 2, 1) := by decide +kernel
theorem dX11_besideOf_7 : decode cX11_besideOf 7 = .ok (.ifCond .ne 7, 3) := by decide +kernel
theorem dX11_besideOf_10 : decode cX11_besideOf 10 = .ok (.iconst (-1), 1) := by decide +kernel
theorem dX11_besideOf_11 : decode cX11_besideOf 11 = .ok (.goto 13, 3) := by decide +kernel
theorem dX11_besideOf_14 : decode cX11_besideOf 14 = .ok (.iload_n 2, 1) := by decide +kernel
theorem dX11_besideOf_15 : decode cX11_besideOf 15 = .ok (.iconst 1, 1) := by decide +kernel
theorem dX11_besideOf_16 : decode cX11_besideOf 16 = .ok (.if_icmp .ne 7, 3) := by decide +kernel
theorem dX11_besideOf_19 : decode cX11_besideOf 19 = .ok (.iconst 1, 1) := by decide +kernel
theorem dX11_besideOf_20 : decode cX11_besideOf 20 = .ok (.goto 4, 3) := by decide +kernel
theorem dX11_besideOf_23 : decode cX11_besideOf 23 = .ok (.iconst 0, 1) := by decide +kernel
theorem dX11_besideOf_24 : decode cX11_besideOf 24 = .ok (.iadd, 1) := by decide +kernel
theorem dX11_besideOf_25 : decode cX11_besideOf 25 = .ok (.istore_n 3, 1) := by decide +kernel
theorem dX11_besideOf_26 : decode cX11_besideOf 26 = .ok (.iload_n 1, 1) := by decide +kernel
theorem dX11_besideOf_27 : decode cX11_besideOf 27 = .ok (.aload_n 0, 1) := by decide +kernel
theorem dX11_besideOf_28 : decode cX11_besideOf 28 = .ok (.getfield 7, 3) := by decide +kernel
theorem dX11_besideOf_31 : decode cX11_besideOf 31 = .ok (.idiv, 1) := by decide +kernel
theorem dX11_besideOf_32 : decode cX11_besideOf 32 = .ok (.iload_n 2, 1) := by decide +kernel
theorem dX11_besideOf_33 : decode cX11_besideOf 33 = .ok (.iconst 2, 1) := by decide +kernel
theorem dX11_besideOf_34 : decode cX11_besideOf 34 = .ok (.if_icmp .ne 7, 3) := by decide +kernel
theorem dX11_besideOf_37 : decode cX11_besideOf 37 = .ok (.iconst (-1), 1) := by decide +kernel
theorem dX11_besideOf_38 : decode cX11_besideOf 38 = .ok (.goto 13, 3) := by decide +kernel
theorem dX11_besideOf_41 : decode cX11_besideOf 41 = .ok (.iload_n 2, 1) := by decide +kernel
theorem dX11_besideOf_42 : decode cX11_besideOf 42 = .ok (.iconst 3, 1) := by decide +kernel
theorem dX11_besideOf_43 : decode cX11_besideOf 43 = .ok (.if_icmp .ne 7, 3) := by decide +kernel
theorem dX11_besideOf_46 : decode cX11_besideOf 46 = .ok (.iconst 1, 1) := by decide +kernel
theorem dX11_besideOf_47 : decode cX11_besideOf 47 = .ok (.goto 4, 3) := by decide +kernel
theorem dX11_besideOf_50 : decode cX11_besideOf 50 = .ok (.iconst 0, 1) := by decide +kernel
theorem dX11_besideOf_51 : decode cX11_besideOf 51 = .ok (.iadd, 1) := by decide +kernel
theorem dX11_besideOf_52 : decode cX11_besideOf 52 = .ok (.istore 4, 2) := by decide +kernel
theorem dX11_besideOf_54 : decode cX11_besideOf 54 = .ok (.iload_n 3, 1) := by decide +kernel
theorem dX11_besideOf_55 : decode cX11_besideOf 55 = .ok (.iconst 0, 1) := by decide +kernel
theorem dX11_besideOf_56 : decode cX11_besideOf 56 = .ok (.aload_n 0, 1) := by decide +kernel
theorem dX11_besideOf_57 : decode cX11_besideOf 57 = .ok (.getfield 7, 3) := by decide +kernel
theorem dX11_besideOf_60 : decode cX11_besideOf 60 = .ok (.iconst 1, 1) := by decide +kernel
theorem dX11_besideOf_61 : decode cX11_besideOf 61 = .ok (.isub, 1) := by decide +kernel
theorem dX11_besideOf_62 : decode cX11_besideOf 62 = .ok (.invokestatic 90, 3) := by decide +kernel
theorem dX11_besideOf_65 : decode cX11_besideOf 65 = .ok (.ifCond .eq 30, 3) := by decide +kernel
theorem dX11_besideOf_68 : decode cX11_besideOf 68 = .ok (.iload 4, 2) := by decide +kernel
theorem dX11_besideOf_70 : decode cX11_besideOf 70 = .ok (.iconst 0, 1) := by decide +kernel
theorem dX11_besideOf_71 : decode cX11_besideOf 71 = .ok (.aload_n 0, 1) := by decide +kernel
theorem dX11_besideOf_72 : decode cX11_besideOf 72 = .ok (.getfield 13, 3) := by decide +kernel
theorem dX11_besideOf_75 : decode cX11_besideOf 75 = .ok (.iconst 1, 1) := by decide +kernel
theorem dX11_besideOf_76 : decode cX11_besideOf 76 = .ok (.isub, 1) := by decide +kernel
theorem dX11_besideOf_77 : decode cX11_besideOf 77 = .ok (.invokestatic 90, 3) := by decide +kernel
theorem dX11_besideOf_80 : decode cX11_besideOf 80 = .ok (.ifCond .eq 15, 3) := by decide +kernel
theorem dX11_besideOf_83 : decode cX11_besideOf 83 = .ok (.aload_n 0, 1) := by decide +kernel
theorem dX11_besideOf_84 : decode cX11_besideOf 84 = .ok (.getfield 7, 3) := by decide +kernel
theorem dX11_besideOf_87 : decode cX11_besideOf 87 = .ok (.iload 4, 2) := by decide +kernel
theorem dX11_besideOf_89 : decode cX11_besideOf 89 = .ok (.imul, 1) := by decide +kernel
theorem dX11_besideOf_90 : decode cX11_besideOf 90 = .ok (.iload_n 3, 1) := by decide +kernel
theorem dX11_besideOf_91 : decode cX11_besideOf 91 = .ok (.iadd, 1) := by decide +kernel
theorem dX11_besideOf_92 : decode cX11_besideOf 92 = .ok (.goto 4, 3) := by decide +kernel
theorem dX11_besideOf_95 : decode cX11_besideOf 95 = .ok (.iconst (-1), 1) := by decide +kernel
theorem dX11_besideOf_96 : decode cX11_besideOf 96 = .ok (.ireturn, 1) := by decide +kernel
abbrev rm_X11_besideOf : Room := { frames := 1, cells := 0, slots := 0, locals := 22 }
theorem hd_X11_besideOf : yX11_besideOf.cls ≠ "java/lang/invoke/MethodHandle" ∧ yX11_besideOf.cls ≠ "java/lang/invoke/VarHandle" ∧ (parseMethodDescriptor yX11_besideOf.desc).map (fun d => d.parameters.length) = some 2 := by decide +kernel
def bk_X11_besideOf_51 (Q : Int32 → Prop) (x3 : Int32) (M_wide : Int32) (M_high : Int32) (s0 : Int32) (s1 : Int32) : Prop :=
∀ y6 : Int32, y6 = (s1 + s0) →
wp_X11_in x3 0 (M_wide - 1) (fun (r7 : Int32) => ((r7 = 0 → Q (-1)) ∧
(¬ r7 = 0 → wp_X11_in y6 0 (M_high - 1) (fun (r9 : Int32) => ((r9 = 0 → Q (-1)) ∧
(¬ r9 = 0 → Q ((M_wide * y6) + x3)))))))
def bk_X11_besideOf_24 (Q : Int32 → Prop) (p1 : Int32) (p2 : Int32) (M_wide : Int32) (M_high : Int32) (s0 : Int32) (s1 : Int32) : Prop :=
∀ y3 : Int32, y3 = (s1 + s0) →
¬ M_wide = 0 ∧ ((¬ p2 = 2 → ((¬ p2 = 3 → bk_X11_besideOf_51 Q y3 M_wide M_high 0 (p1 / M_wide)) ∧
(p2 = 3 → bk_X11_besideOf_51 Q y3 M_wide M_high 1 (p1 / M_wide)))) ∧
(p2 = 2 → bk_X11_besideOf_51 Q y3 M_wide M_high (-1) (p1 / M_wide)))
def wp_X11_besideOf (p1 : Int32) (p2 : Int32) (M_wide : Int32) (M_high : Int32) (Q : Int32 → Prop) : Prop :=
¬ M_wide = 0 ∧ ((¬ p2 = 0 → ((¬ p2 = 1 → bk_X11_besideOf_24 Q p1 p2 M_wide M_high 0 (p1 - p1 / M_wide * M_wide)) ∧
(p2 = 1 → bk_X11_besideOf_24 Q p1 p2 M_wide M_high 1 (p1 - p1 / M_wide * M_wide)))) ∧
(p2 = 0 → bk_X11_besideOf_24 Q p1 p2 M_wide M_high (-1) (p1 - p1 / M_wide * M_wide)))
set_option maxHeartbeats 4000000 in
set_option maxRecDepth 100000 in
theorem J_X11_besideOf_51 {x : CX} {D : DG} {cyI cyJ cyZ : ClassId} {a_M a_M_square a_M_want a_M_text a_M_read a_M_row a_M_foldSet a_M_foldEdges a_M_foldNeeds a_M_foldYards a_M_least a_M_ways a_M_price a_M_rowBy a_M_columnBy a_M_rowOf a_M_wayBack a_M_slack a_M_isUsed a_M_lifted a_M_freed a_M_path : Nat} {M_wide : Int32} {M_high : Int32} {M_hedges : Int64} {M_hurdles : Int32} {M_wants : Int32} {M_rest : Int32} {M_frozen : Int32} {M_bytes : Int32} {M_position : Int32} {M_tokenAt : Int32} {M_token : Int64} {M_digits : Int32} {M_number : Int32} {M_faultAt : Int32} {M_readMany : Int32} {M_readWide : Int32} {M_readHigh : Int32} {M_nights : Int32} {M_why : Int32} {M_folds : Int32} {M_square : Nat → Int32} {M_want : Nat → Int32} {M_text : Nat → Int32} {M_read : Nat → Int32} {M_row : Nat → Int32} {M_foldSet : Nat → Int32} {M_foldEdges : Nat → Int64} {M_foldNeeds : Nat → Int32} {M_foldYards : Nat → Int32} {M_least : Nat → Int32} {M_ways : Nat → Int32} {M_price : Nat → Int32} {M_rowBy : Nat → Int32} {M_columnBy : Nat → Int32} {M_rowOf : Nat → Int32} {M_wayBack : Nat → Int32} {M_slack : Nat → Int32} {M_isUsed : Nat → Int32} {M_lifted : Nat → Int32} {M_freed : Nat → Int32} {M_path : Nat → Int32} {x3 : Int32} {s0 : Int32} {s1 : Int32} {Q : Int32 → Prop} (cx : Cx x cX11_besideOf 5 RX11 rm_X11_besideOf D [(cyI, .int), (cyJ, .long), (cyZ, .boolean)]) (hR : ∀ (v : Int32) (pc : Nat) (lv : List (Nat × Value)), decode cX11_besideOf pc = .ok (.ireturn, 1) → Q v → J x 0 0 5 (W_Model cyI cyJ cyZ a_M a_M_square a_M_want a_M_text a_M_read a_M_row a_M_foldSet a_M_foldEdges a_M_foldNeeds a_M_foldYards a_M_least a_M_ways a_M_price a_M_rowBy a_M_columnBy a_M_rowOf a_M_wayBack a_M_slack a_M_isUsed a_M_lifted a_M_freed a_M_path M_wide M_high M_hedges M_hurdles M_wants M_rest M_frozen M_bytes M_position M_tokenAt M_token M_digits M_number M_faultAt M_readMany M_readWide M_readHigh M_nights M_why M_folds M_square M_want M_text M_read M_row M_foldSet M_foldEdges M_foldNeeds M_foldYards M_least M_ways M_price M_rowBy M_columnBy M_rowOf M_wayBack M_slack M_isUsed M_lifted M_freed M_path) lv pc [.int v]) (h : bk_X11_besideOf_51 Q  x3 M_wide M_high s0 s1) :
    J x 0 0 5 (W_Model cyI cyJ cyZ a_M a_M_square a_M_want a_M_text a_M_read a_M_row a_M_foldSet a_M_foldEdges a_M_foldNeeds a_M_foldYards a_M_least a_M_ways a_M_price a_M_rowBy a_M_columnBy a_M_rowOf a_M_wayBack a_M_slack a_M_isUsed a_M_lifted a_M_freed a_M_path M_wide M_high M_hedges M_hurdles M_wants M_rest M_frozen M_bytes M_position M_tokenAt M_token M_digits M_number M_faultAt M_readMany M_readWide M_readHigh M_nights M_why M_folds M_square M_want M_text M_read M_row M_foldSet M_foldEdges M_foldNeeds M_foldYards M_least M_ways M_price M_rowBy M_columnBy M_rowOf M_wayBack M_slack M_isUsed M_lifted M_freed M_path) [(0, .ref a_M), (3, .int x3)] 51 [.int s0, .int s1] := by
  unfold bk_X11_besideOf_51 at h
  refine j_iadd cx dX11_besideOf_51 (pn := 52) rfl ?_
  refine j_topi (fun y6 ey6 => ?_)
  have h := h y6 ey6
  refine j_istore cx [(4, .int y6), (0, .ref a_M), (3, .int x3)] (by decide) rfl dX11_besideOf_52 (pn := 54) rfl ?_
  refine j_iload_n cx 2 rfl rfl dX11_besideOf_54 (pn := 55) rfl ?_
  refine j_iconst cx (v := 0) (by decide) dX11_besideOf_55 (pn := 56) rfl ?_
  refine j_aload_n cx 1 rfl rfl dX11_besideOf_56 (pn := 57) rfl ?_
  refine j_get cx inGX11 0 rfl rfl 0 (by decide) q_fl_X11_7 rfl rfl dX11_besideOf_57 (pn := 60) rfl ?_
  refine j_iconst cx (v := 1) (by decide) dX11_besideOf_60 (pn := 61) rfl ?_
  refine j_isub cx dX11_besideOf_61 (pn := 62) rfl ?_
  refine j_calleI cx q_stat_X11_in (As := [.int x3, .int 0, .int (M_wide - 1)]) (rest := []) (c_X11_in h) ⟨q_code_X11_in, q_ml_X11_90, q_init_X11, hd_X11_in, ⟨Nat.le_of_ble_eq_true rfl, Nat.le_of_ble_eq_true rfl⟩, Nat.le_of_ble_eq_true rfl, Nat.le_of_ble_eq_true rfl⟩ rfl rfl (Nat.le_of_ble_eq_true rfl) dX11_besideOf_62 (pn := 65) rfl (fun r7 h => ?_)
  show J x 0 0 5 (W_Model cyI cyJ cyZ a_M a_M_square a_M_want a_M_text a_M_read a_M_row a_M_foldSet a_M_foldEdges a_M_foldNeeds a_M_foldYards a_M_least a_M_ways a_M_price a_M_rowBy a_M_columnBy a_M_rowOf a_M_wayBack a_M_slack a_M_isUsed a_M_lifted a_M_freed a_M_path M_wide M_high M_hedges M_hurdles M_wants M_rest M_frozen M_bytes M_position M_tokenAt M_token M_digits M_number M_faultAt M_readMany M_readWide M_readHigh M_nights M_why M_folds M_square M_want M_text M_read M_row M_foldSet M_foldEdges M_foldNeeds M_foldYards M_least M_ways M_price M_rowBy M_columnBy M_rowOf M_wayBack M_slack M_isUsed M_lifted M_freed M_path) [(4, .int y6), (0, .ref a_M), (3, .int x3)] 65 [.int r7]
  refine j_if_eq cx 95 dX11_besideOf_65 (pn := 68) rfl rfl (fun c8 => ?_) (fun c8 => ?_)
  · have h := h.1 c8
    refine j_iconst cx (v := (-1)) (by decide) dX11_besideOf_95 (pn := 96) rfl ?_
    exact hR (-1) 96 _ dX11_besideOf_96 h
  · have h := h.2 c8
    refine j_iload cx 0 rfl dX11_besideOf_68 (pn := 70) rfl ?_
    refine j_iconst cx (v := 0) (by decide) dX11_besideOf_70 (pn := 71) rfl ?_
    refine j_aload_n cx 1 rfl rfl dX11_besideOf_71 (pn := 72) rfl ?_
    refine j_get cx inGX11 0 rfl rfl 1 (by decide) q_fl_X11_13 rfl rfl dX11_besideOf_72 (pn := 75) rfl ?_
    refine j_iconst cx (v := 1) (by decide) dX11_besideOf_75 (pn := 76) rfl ?_
    refine j_isub cx dX11_besideOf_76 (pn := 77) rfl ?_
    refine j_calleI cx q_stat_X11_in (As := [.int y6, .int 0, .int (M_high - 1)]) (rest := []) (c_X11_in h) ⟨q_code_X11_in, q_ml_X11_90, q_init_X11, hd_X11_in, ⟨Nat.le_of_ble_eq_true rfl, Nat.le_of_ble_eq_true rfl⟩, Nat.le_of_ble_eq_true rfl, Nat.le_of_ble_eq_true rfl⟩ rfl rfl (Nat.le_of_ble_eq_true rfl) dX11_besideOf_77 (pn := 80) rfl (fun r9 h => ?_)
    show J x 0 0 5 (W_Model cyI cyJ cyZ a_M a_M_square a_M_want a_M_text a_M_read a_M_row a_M_foldSet a_M_foldEdges a_M_foldNeeds a_M_foldYards a_M_least a_M_ways a_M_price a_M_rowBy a_M_columnBy a_M_rowOf a_M_wayBack a_M_slack a_M_isUsed a_M_lifted a_M_freed a_M_path M_wide M_high M_hedges M_hurdles M_wants M_rest M_frozen M_bytes M_position M_tokenAt M_token M_digits M_number M_faultAt M_readMany M_readWide M_readHigh M_nights M_why M_folds M_square M_want M_text M_read M_row M_foldSet M_foldEdges M_foldNeeds M_foldYards M_least M_ways M_price M_rowBy M_columnBy M_rowOf M_wayBack M_slack M_isUsed M_lifted M_freed M_path) [(4, .int y6), (0, .ref a_M), (3, .int x3)] 80 [.int r9]
    refine j_if_eq cx 95 dX11_besideOf_80 (pn := 83) rfl rfl (fun c10 => ?_) (fun c10 => ?_)
    · have h := h.1 c10
      refine j_iconst cx (v := (-1)) (by decide) dX11_besideOf_95 (pn := 96) rfl ?_
      exact hR (-1) 96 _ dX11_besideOf_96 h
    · have h := h.2 c10
      refine j_aload_n cx 1 rfl rfl dX11_besideOf_83 (pn := 84) rfl ?_
      refine j_get cx inGX11 0 rfl rfl 0 (by decide) q_fl_X11_7 rfl rfl dX11_besideOf_84 (pn := 87) rfl ?_
      refine j_iload cx 0 rfl dX11_besideOf_87 (pn := 89) rfl ?_
      refine j_imul cx dX11_besideOf_89 (pn := 90) rfl ?_
      refine j_iload_n cx 2 rfl rfl dX11_besideOf_90 (pn := 91) rfl ?_
      refine j_iadd cx dX11_besideOf_91 (pn := 92) rfl ?_
      refine j_goto cx 96 dX11_besideOf_92 rfl ?_
      exact hR ((M_wide * y6) + x3) 96 _ dX11_besideOf_96 h
set_option maxHeartbeats 4000000 in
set_option maxRecDepth 100000 in
theorem J_X11_besideOf_24 {x : CX} {D : DG} {cyI cyJ cyZ : ClassId} {a_M a_M_square a_M_want a_M_text a_M_read a_M_row a_M_foldSet a_M_foldEdges a_M_foldNeeds a_M_foldYards a_M_least a_M_ways a_M_price a_M_rowBy a_M_columnBy a_M_rowOf a_M_wayBack a_M_slack a_M_isUsed a_M_lifted a_M_freed a_M_path : Nat} {M_wide : Int32} {M_high : Int32} {M_hedges : Int64} {M_hurdles : Int32} {M_wants : Int32} {M_rest : Int32} {M_frozen : Int32} {M_bytes : Int32} {M_position : Int32} {M_tokenAt : Int32} {M_token : Int64} {M_digits : Int32} {M_number : Int32} {M_faultAt : Int32} {M_readMany : Int32} {M_readWide : Int32} {M_readHigh : Int32} {M_nights : Int32} {M_why : Int32} {M_folds : Int32} {M_square : Nat → Int32} {M_want : Nat → Int32} {M_text : Nat → Int32} {M_read : Nat → Int32} {M_row : Nat → Int32} {M_foldSet : Nat → Int32} {M_foldEdges : Nat → Int64} {M_foldNeeds : Nat → Int32} {M_foldYards : Nat → Int32} {M_least : Nat → Int32} {M_ways : Nat → Int32} {M_price : Nat → Int32} {M_rowBy : Nat → Int32} {M_columnBy : Nat → Int32} {M_rowOf : Nat → Int32} {M_wayBack : Nat → Int32} {M_slack : Nat → Int32} {M_isUsed : Nat → Int32} {M_lifted : Nat → Int32} {M_freed : Nat → Int32} {M_path : Nat → Int32} {p1 : Int32} {p2 : Int32} {s0 : Int32} {s1 : Int32} {Q : Int32 → Prop} (cx : Cx x cX11_besideOf 5 RX11 rm_X11_besideOf D [(cyI, .int), (cyJ, .long), (cyZ, .boolean)]) (hR : ∀ (v : Int32) (pc : Nat) (lv : List (Nat × Value)), decode cX11_besideOf pc = .ok (.ireturn, 1) → Q v → J x 0 0 5 (W_Model cyI cyJ cyZ a_M a_M_square a_M_want a_M_text a_M_read a_M_row a_M_foldSet a_M_foldEdges a_M_foldNeeds a_M_foldYards a_M_least a_M_ways a_M_price a_M_rowBy a_M_columnBy a_M_rowOf a_M_wayBack a_M_slack a_M_isUsed a_M_lifted a_M_freed a_M_path M_wide M_high M_hedges M_hurdles M_wants M_rest M_frozen M_bytes M_position M_tokenAt M_token M_digits M_number M_faultAt M_readMany M_readWide M_readHigh M_nights M_why M_folds M_square M_want M_text M_read M_row M_foldSet M_foldEdges M_foldNeeds M_foldYards M_least M_ways M_price M_rowBy M_columnBy M_rowOf M_wayBack M_slack M_isUsed M_lifted M_freed M_path) lv pc [.int v]) (h : bk_X11_besideOf_24 Q  p1 p2 M_wide M_high s0 s1) :
    J x 0 0 5 (W_Model cyI cyJ cyZ a_M a_M_square a_M_want a_M_text a_M_read a_M_row a_M_foldSet a_M_foldEdges a_M_foldNeeds a_M_foldYards a_M_least a_M_ways a_M_price a_M_rowBy a_M_columnBy a_M_rowOf a_M_wayBack a_M_slack a_M_isUsed a_M_lifted a_M_freed a_M_path M_wide M_high M_hedges M_hurdles M_wants M_rest M_frozen M_bytes M_position M_tokenAt M_token M_digits M_number M_faultAt M_readMany M_readWide M_readHigh M_nights M_why M_folds M_square M_want M_text M_read M_row M_foldSet M_foldEdges M_foldNeeds M_foldYards M_least M_ways M_price M_rowBy M_columnBy M_rowOf M_wayBack M_slack M_isUsed M_lifted M_freed M_path) [(0, .ref a_M), (1, .int p1), (2, .int p2)] 24 [.int s0, .int s1] := by
  unfold bk_X11_besideOf_24 at h
  refine j_iadd cx dX11_besideOf_24 (pn := 25) rfl ?_
  refine j_topi (fun y3 ey3 => ?_)
  have h := h y3 ey3
  refine j_istore_n cx rfl [(3, .int y3), (0, .ref a_M), (1, .int p1), (2, .int p2)] (by decide) rfl dX11_besideOf_25 (pn := 26) rfl ?_
  refine j_iload_n cx 2 rfl rfl dX11_besideOf_26 (pn := 27) rfl ?_
  refine j_aload_n cx 1 rfl rfl dX11_besideOf_27 (pn := 28) rfl ?_
  refine j_get cx inGX11 0 rfl rfl 0 (by decide) q_fl_X11_7 rfl rfl dX11_besideOf_28 (pn := 31) rfl ?_
  refine j_idiv cx h.1 dX11_besideOf_31 (pn := 32) rfl ?_
  have h := h.2
  refine j_iload_n cx 3 rfl rfl dX11_besideOf_32 (pn := 33) rfl ?_
  refine j_iconst cx (v := 2) (by decide) dX11_besideOf_33 (pn := 34) rfl ?_
  refine j_icmp_ne cx 41 dX11_besideOf_34 (pn := 37) rfl rfl (fun c4 => ?_) (fun c4 => ?_)
  · have h := h.1 c4
    refine j_iload_n cx 3 rfl rfl dX11_besideOf_41 (pn := 42) rfl ?_
    refine j_iconst cx (v := 3) (by decide) dX11_besideOf_42 (pn := 43) rfl ?_
    refine j_icmp_ne cx 50 dX11_besideOf_43 (pn := 46) rfl rfl (fun c5 => ?_) (fun c5 => ?_)
    · have h := h.1 c5
      refine j_iconst cx (v := 0) (by decide) dX11_besideOf_50 (pn := 51) rfl ?_
      refine j_sub [1, 0] [(0, .ref a_M), (3, .int y3)] rfl ?_
      exact J_X11_besideOf_51 cx hR h
    · have h := h.2 c5
      refine j_iconst cx (v := 1) (by decide) dX11_besideOf_46 (pn := 47) rfl ?_
      refine j_goto cx 51 dX11_besideOf_47 rfl ?_
      refine j_sub [1, 0] [(0, .ref a_M), (3, .int y3)] rfl ?_
      exact J_X11_besideOf_51 cx hR h
  · have h := h.2 c4
    refine j_iconst cx (v := (-1)) (by decide) dX11_besideOf_37 (pn := 38) rfl ?_
    refine j_goto cx 51 dX11_besideOf_38 rfl ?_
    refine j_sub [1, 0] [(0, .ref a_M), (3, .int y3)] rfl ?_
    exact J_X11_besideOf_51 cx hR h
set_option maxHeartbeats 4000000 in
set_option maxRecDepth 100000 in
theorem c_X11_besideOf {D : DG} {cyI cyJ cyZ : ClassId} {a_M a_M_square a_M_want a_M_text a_M_read a_M_row a_M_foldSet a_M_foldEdges a_M_foldNeeds a_M_foldYards a_M_least a_M_ways a_M_price a_M_rowBy a_M_columnBy a_M_rowOf a_M_wayBack a_M_slack a_M_isUsed a_M_lifted a_M_freed a_M_path : Nat} {M_wide : Int32} {M_high : Int32} {M_hedges : Int64} {M_hurdles : Int32} {M_wants : Int32} {M_rest : Int32} {M_frozen : Int32} {M_bytes : Int32} {M_position : Int32} {M_tokenAt : Int32} {M_token : Int64} {M_digits : Int32} {M_number : Int32} {M_faultAt : Int32} {M_readMany : Int32} {M_readWide : Int32} {M_readHigh : Int32} {M_nights : Int32} {M_why : Int32} {M_folds : Int32} {M_square : Nat → Int32} {M_want : Nat → Int32} {M_text : Nat → Int32} {M_read : Nat → Int32} {M_row : Nat → Int32} {M_foldSet : Nat → Int32} {M_foldEdges : Nat → Int64} {M_foldNeeds : Nat → Int32} {M_foldYards : Nat → Int32} {M_least : Nat → Int32} {M_ways : Nat → Int32} {M_price : Nat → Int32} {M_rowBy : Nat → Int32} {M_columnBy : Nat → Int32} {M_rowOf : Nat → Int32} {M_wayBack : Nat → Int32} {M_slack : Nat → Int32} {M_isUsed : Nat → Int32} {M_lifted : Nat → Int32} {M_freed : Nat → Int32} {M_path : Nat → Int32} {p1 : Int32} {p2 : Int32} {Q : Int32 → Prop} (h : wp_X11_besideOf p1 p2 M_wide M_high Q) :
    MetI yX11_besideOf cX11_besideOf 5 (some .int) rm_X11_besideOf D [(cyI, .int), (cyJ, .long), (cyZ, .boolean)] [.ref a_M, .int p1, .int p2] (W_Model cyI cyJ cyZ a_M a_M_square a_M_want a_M_text a_M_read a_M_row a_M_foldSet a_M_foldEdges a_M_foldNeeds a_M_foldYards a_M_least a_M_ways a_M_price a_M_rowBy a_M_columnBy a_M_rowOf a_M_wayBack a_M_slack a_M_isUsed a_M_lifted a_M_freed a_M_path M_wide M_high M_hedges M_hurdles M_wants M_rest M_frozen M_bytes M_position M_tokenAt M_token M_digits M_number M_faultAt M_readMany M_readWide M_readHigh M_nights M_why M_folds M_square M_want M_text M_read M_row M_foldSet M_foldEdges M_foldNeeds M_foldYards M_least M_ways M_price M_rowBy M_columnBy M_rowOf M_wayBack M_slack M_isUsed M_lifted M_freed M_path) (fun _ : Unit => (W_Model cyI cyJ cyZ a_M a_M_square a_M_want a_M_text a_M_read a_M_row a_M_foldSet a_M_foldEdges a_M_foldNeeds a_M_foldYards a_M_least a_M_ways a_M_price a_M_rowBy a_M_columnBy a_M_rowOf a_M_wayBack a_M_slack a_M_isUsed a_M_lifted a_M_freed a_M_path M_wide M_high M_hedges M_hurdles M_wants M_rest M_frozen M_bytes M_position M_tokenAt M_token M_digits M_number M_faultAt M_readMany M_readWide M_readHigh M_nights M_why M_folds M_square M_want M_text M_read M_row M_foldSet M_foldEdges M_foldNeeds M_foldYards M_least M_ways M_price M_rowBy M_columnBy M_rowOf M_wayBack M_slack M_isUsed M_lifted M_freed M_path)) (fun v _ => Q v ) := by
  unfold wp_X11_besideOf at h
  refine metI_of (by decide) (Nat.le_of_ble_eq_true rfl) (fun x cx0 hR0 => ?_)
  have cx : Cx x cX11_besideOf 5 RX11 rm_X11_besideOf D [(cyI, .int), (cyJ, .long), (cyZ, .boolean)] := cx0
  have hR : ∀ (v : Int32) (pc : Nat) (lv : List (Nat × Value)), decode cX11_besideOf pc = .ok (.ireturn, 1) → Q v → J x 0 0 5 (W_Model cyI cyJ cyZ a_M a_M_square a_M_want a_M_text a_M_read a_M_row a_M_foldSet a_M_foldEdges a_M_foldNeeds a_M_foldYards a_M_least a_M_ways a_M_price a_M_rowBy a_M_columnBy a_M_rowOf a_M_wayBack a_M_slack a_M_isUsed a_M_lifted a_M_freed a_M_path M_wide M_high M_hedges M_hurdles M_wants M_rest M_frozen M_bytes M_position M_tokenAt M_token M_digits M_number M_faultAt M_readMany M_readWide M_readHigh M_nights M_why M_folds M_square M_want M_text M_read M_row M_foldSet M_foldEdges M_foldNeeds M_foldYards M_least M_ways M_price M_rowBy M_columnBy M_rowOf M_wayBack M_slack M_isUsed M_lifted M_freed M_path) lv pc [.int v] := (fun v pc lv d hq => hR0 v () pc lv d hq)
  show J x 0 0 5 (W_Model cyI cyJ cyZ a_M a_M_square a_M_want a_M_text a_M_read a_M_row a_M_foldSet a_M_foldEdges a_M_foldNeeds a_M_foldYards a_M_least a_M_ways a_M_price a_M_rowBy a_M_columnBy a_M_rowOf a_M_wayBack a_M_slack a_M_isUsed a_M_lifted a_M_freed a_M_path M_wide M_high M_hedges M_hurdles M_wants M_rest M_frozen M_bytes M_position M_tokenAt M_token M_digits M_number M_faultAt M_readMany M_readWide M_readHigh M_nights M_why M_folds M_square M_want M_text M_read M_row M_foldSet M_foldEdges M_foldNeeds M_foldYards M_least M_ways M_price M_rowBy M_columnBy M_rowOf M_wayBack M_slack M_isUsed M_lifted M_freed M_path) [(0, .ref a_M), (1, .int p1), (2, .int p2)] 0 []
  refine j_iload_n cx 1 rfl rfl dX11_besideOf_0 (pn := 1) rfl ?_
  refine j_aload_n cx 0 rfl rfl dX11_besideOf_1 (pn := 2) rfl ?_
  refine j_get cx inGX11 0 rfl rfl 0 (by decide) q_fl_X11_7 rfl rfl dX11_besideOf_2 (pn := 5) rfl ?_
  refine j_irem cx h.1 dX11_besideOf_5 (pn := 6) rfl ?_
  have h := h.2
  refine j_iload_n cx 2 rfl rfl dX11_besideOf_6 (pn := 7) rfl ?_
  refine j_if_ne cx 14 dX11_besideOf_7 (pn := 10) rfl rfl (fun c1 => ?_) (fun c1 => ?_)
  · have h := h.1 c1
    refine j_iload_n cx 2 rfl rfl dX11_besideOf_14 (pn := 15) rfl ?_
    refine j_iconst cx (v := 1) (by decide) dX11_besideOf_15 (pn := 16) rfl ?_
    refine j_icmp_ne cx 23 dX11_besideOf_16 (pn := 19) rfl rfl (fun c2 => ?_) (fun c2 => ?_)
    · have h := h.1 c2
      refine j_iconst cx (v := 0) (by decide) dX11_besideOf_23 (pn := 24) rfl ?_
      exact J_X11_besideOf_24 cx hR h
    · have h := h.2 c2
      refine j_iconst cx (v := 1) (by decide) dX11_besideOf_19 (pn := 20) rfl ?_
      refine j_goto cx 24 dX11_besideOf_20 rfl ?_
      exact J_X11_besideOf_24 cx hR h
  · have h := h.2 c1
    refine j_iconst cx (v := (-1)) (by decide) dX11_besideOf_10 (pn := 11) rfl ?_
    refine j_goto cx 24 dX11_besideOf_11 rfl ?_
    exact J_X11_besideOf_24 cx hR h
theorem dX11_besides_0 : decode cX11_besides 0 = .ok (.iconst 0, 1) := by decide +kernel
theorem dX11_besides_1 : decode cX11_besides 1 = .ok (.istore_n 2, 1) := by decide +kernel
theorem dX11_besides_2 : decode cX11_besides 2 = .ok (.iconst 0, 1) := by decide +kernel
theorem dX11_besides_3 : decode cX11_besides 3 = .ok (.istore_n 3, 1) := by decide +kernel
theorem dX11_besides_4 : decode cX11_besides 4 = .ok (.iload_n 3, 1) := by decide +kernel
theorem dX11_besides_5 : decode cX11_besides 5 = .ok (.aload_n 0, 1) := by decide +kernel
theorem dX11_besides_6 : decode cX11_besides 6 = .ok (.invokevirtual 86, 3) := by decide +kernel
theorem dX11_besides_9 : decode cX11_besides 9 = .ok (.if_icmp .ge 59, 3) := by decide +kernel
theorem dX11_besides_12 : decode cX11_besides 12 = .ok (.iconst 0, 1) := by decide +kernel
theorem dX11_besides_13 : decode cX11_besides 13 = .ok (.istore 4, 2) := by decide +kernel
theorem dX11_besides_15 : decode cX11_besides 15 = .ok (.iload 4, 2) := by decide +kernel
theorem dX11_besides_17 : decode cX11_besides 17 = .ok (.iconst 4, 1) := by decide +kernel
theorem dX11_besides_18 : decode cX11_besides 18 = .ok (.if_icmp .ge 44, 3) := by decide +kernel
theorem dX11_besides_21 : decode cX11_besides 21 = .ok (.iload_n 1, 1) := by decide +kernel
theorem dX11_besides_22 : decode cX11_besides 22 = .ok (.iload_n 3, 1) := by decide +kernel
theorem dX11_besides_23 : decode cX11_besides 23 = .ok (.ishr, 1) := by decide +kernel
theorem dX11_besides_24 : decode cX11_besides 24 = .ok (.iconst 1, 1) := by decide +kernel
theorem dX11_besides_25 : decode cX11_besides 25 = .ok (.iand, 1) := by decide +kernel
theorem dX11_besides_26 : decode cX11_besides 26 = .ok (.iconst 1, 1) := by decide +kernel
theorem dX11_besides_27 : decode cX11_besides 27 = .ok (.if_icmp .ne 35, 3) := by decide +kernel
theorem dX11_besides_30 : decode cX11_besides 30 = .ok (.aload_n 0, 1) := by decide +kernel
theorem dX11_besides_31 : decode cX11_besides 31 = .ok (.iload_n 3, 1) := by decide +kernel
theorem dX11_besides_32 : decode cX11_besides 32 = .ok (.iload 4, 2) := by decide +kernel
theorem dX11_besides_34 : decode cX11_besides 34 = .ok (.invokevirtual 228, 3) := by decide +kernel
theorem dX11_besides_37 : decode cX11_besides 37 = .ok (.istore 5, 2) := by decide +kernel
theorem dX11_besides_39 : decode cX11_besides 39 = .ok (.iload_n 2, 1) := by decide +kernel
theorem dX11_besides_40 : decode cX11_besides 40 = .ok (.iload 5, 2) := by decide +kernel
theorem dX11_besides_42 : decode cX11_besides 42 = .ok (.iconst (-1), 1) := by decide +kernel
theorem dX11_besides_43 : decode cX11_besides 43 = .ok (.if_icmp .ne 7, 3) := by decide +kernel
theorem dX11_besides_46 : decode cX11_besides 46 = .ok (.iconst 0, 1) := by decide +kernel
theorem dX11_besides_47 : decode cX11_besides 47 = .ok (.goto 7, 3) := by decide +kernel
theorem dX11_besides_50 : decode cX11_besides 50 = .ok (.iconst 1, 1) := by decide +kernel
theorem dX11_besides_51 : decode cX11_besides 51 = .ok (.iload 5, 2) := by decide +kernel
theorem dX11_besides_53 : decode cX11_besides 53 = .ok (.ishl, 1) := by decide +kernel
theorem dX11_besides_54 : decode cX11_besides 54 = .ok (.ior, 1) := by decide +kernel
theorem dX11_besides_55 : decode cX11_besides 55 = .ok (.istore_n 2, 1) := by decide +kernel
theorem dX11_besides_56 : decode cX11_besides 56 = .ok (.iinc 4 1, 3) := by decide +kernel
theorem dX11_besides_59 : decode cX11_besides 59 = .ok (.goto (-44), 3) := by decide +kernel
theorem dX11_besides_62 : decode cX11_besides 62 = .ok (.iinc 3 1, 3) := by decide +kernel
theorem dX11_besides_65 : decode cX11_besides 65 = .ok (.goto (-61), 3) := by decide +kernel
theorem dX11_besides_68 : decode cX11_besides 68 = .ok (.iload_n 2, 1) := by decide +kernel
theorem dX11_besides_69 : decode cX11_besides 69 = .ok (.ireturn, 1) := by decide +kernel
abbrev rm_X11_besides : Room := { frames := 2, cells := 0, slots := 0, locals := 46 }
theorem hd_X11_besides : yX11_besides.cls ≠ "java/lang/invoke/MethodHandle" ∧ yX11_besides.cls ≠ "java/lang/invoke/VarHandle" ∧ (parseMethodDescriptor yX11_besides.desc).map (fun d => d.parameters.length) = some 1 := by decide +kernel
def bk_X11_besides_62 (Q : Int32 → Prop) (B4 : Int32 → Int32 → Prop) (x2 : Int32) (x3 : Int32) : Prop :=
∀ y4 : Int32, y4 = (x3 + 1) →
B4 x2 y4
def bk_X11_besides_54 (Q : Int32 → Prop) (B4 : Int32 → Int32 → Prop) (B15 : Int32 → Int32 → Prop) (x4 : Int32) (s0 : Int32) (s1 : Int32) : Prop :=
∀ y8 : Int32, y8 = (s1 ||| s0) →
∀ y9 : Int32, y9 = (x4 + 1) →
B15 y8 y9
def bd_X11_besides_15 (Q : Int32 → Prop) (B4 : Int32 → Int32 → Prop) (B15 : Int32 → Int32 → Prop) (p1 : Int32) (x3 : Int32) (M_wide : Int32) (M_high : Int32) (x2 : Int32) (x4 : Int32) : Prop :=
((4 ≤ x4 → bk_X11_besides_62 Q B4 x2 x3) ∧
(¬ 4 ≤ x4 → ((¬ ((p1 >>> (x3 &&& 31)) &&& 1) = 1 → bk_X11_besides_62 Q B4 x2 x3) ∧
(((p1 >>> (x3 &&& 31)) &&& 1) = 1 → wp_X11_besideOf x3 x4 M_wide M_high (fun (r6 : Int32) => ((¬ r6 = (-1) → bk_X11_besides_54 Q B4 B15 x4 (1 <<< (r6 &&& 31)) x2) ∧
(r6 = (-1) → bk_X11_besides_54 Q B4 B15 x4 0 x2)))))))
def lp_X11_besides_15 (Q : Int32 → Prop) (B4 : Int32 → Int32 → Prop) (p1 : Int32) (x3 : Int32) (M_wide : Int32) (M_high : Int32) (x2 : Int32) (x4 : Int32) : Prop :=
∃ I : Nat → Int32 → Int32 → Prop, (∃ n, I n x2 x4) ∧ ∀ n x2 x4, I n x2 x4 → bd_X11_besides_15 Q B4 (fun x2' x4' => ∃ n', n' < n ∧ I n' x2' x4') p1 x3 M_wide M_high x2 x4
def bd_X11_besides_4 (Q : Int32 → Prop) (B4 : Int32 → Int32 → Prop) (p1 : Int32) (M_wide : Int32) (M_high : Int32) (x2 : Int32) (x3 : Int32) : Prop :=
wp_X11_squares M_wide M_high (fun (r1 : Int32) => ((r1 ≤ x3 → Q x2) ∧
(¬ r1 ≤ x3 → lp_X11_besides_15 Q B4 p1 x3 M_wide M_high x2 0)))
def lp_X11_besides_4 (Q : Int32 → Prop) (p1 : Int32) (M_wide : Int32) (M_high : Int32) (x2 : Int32) (x3 : Int32) : Prop :=
∃ I : Nat → Int32 → Int32 → Prop, (∃ n, I n x2 x3) ∧ ∀ n x2 x3, I n x2 x3 → bd_X11_besides_4 Q  (fun x2' x3' => ∃ n', n' < n ∧ I n' x2' x3') p1 M_wide M_high x2 x3
def wp_X11_besides (p1 : Int32) (M_wide : Int32) (M_high : Int32) (Q : Int32 → Prop) : Prop :=
lp_X11_besides_4 Q p1 M_wide M_high 0 0
set_option maxHeartbeats 4000000 in
set_option maxRecDepth 100000 in
theorem J_X11_besides_62 {x : CX} {D : DG} {cyI cyJ cyZ : ClassId} {a_M a_M_square a_M_want a_M_text a_M_read a_M_row a_M_foldSet a_M_foldEdges a_M_foldNeeds a_M_foldYards a_M_least a_M_ways a_M_price a_M_rowBy a_M_columnBy a_M_rowOf a_M_wayBack a_M_slack a_M_isUsed a_M_lifted a_M_freed a_M_path : Nat} {M_wide : Int32} {M_high : Int32} {M_hedges : Int64} {M_hurdles : Int32} {M_wants : Int32} {M_rest : Int32} {M_frozen : Int32} {M_bytes : Int32} {M_position : Int32} {M_tokenAt : Int32} {M_token : Int64} {M_digits : Int32} {M_number : Int32} {M_faultAt : Int32} {M_readMany : Int32} {M_readWide : Int32} {M_readHigh : Int32} {M_nights : Int32} {M_why : Int32} {M_folds : Int32} {M_square : Nat → Int32} {M_want : Nat → Int32} {M_text : Nat → Int32} {M_read : Nat → Int32} {M_row : Nat → Int32} {M_foldSet : Nat → Int32} {M_foldEdges : Nat → Int64} {M_foldNeeds : Nat → Int32} {M_foldYards : Nat → Int32} {M_least : Nat → Int32} {M_ways : Nat → Int32} {M_price : Nat → Int32} {M_rowBy : Nat → Int32} {M_columnBy : Nat → Int32} {M_rowOf : Nat → Int32} {M_wayBack : Nat → Int32} {M_slack : Nat → Int32} {M_isUsed : Nat → Int32} {M_lifted : Nat → Int32} {M_freed : Nat → Int32} {M_path : Nat → Int32} {p1 : Int32} {x2 : Int32} {x3 : Int32} {Q : Int32 → Prop} {B4 : Int32 → Int32 → Prop} (cx : Cx x cX11_besides 6 RX11 rm_X11_besides D [(cyI, .int), (cyJ, .long), (cyZ, .boolean)]) (hR : ∀ (v : Int32) (pc : Nat) (lv : List (Nat × Value)), decode cX11_besides pc = .ok (.ireturn, 1) → Q v → J x 0 0 6 (W_Model cyI cyJ cyZ a_M a_M_square a_M_want a_M_text a_M_read a_M_row a_M_foldSet a_M_foldEdges a_M_foldNeeds a_M_foldYards a_M_least a_M_ways a_M_price a_M_rowBy a_M_columnBy a_M_rowOf a_M_wayBack a_M_slack a_M_isUsed a_M_lifted a_M_freed a_M_path M_wide M_high M_hedges M_hurdles M_wants M_rest M_frozen M_bytes M_position M_tokenAt M_token M_digits M_number M_faultAt M_readMany M_readWide M_readHigh M_nights M_why M_folds M_square M_want M_text M_read M_row M_foldSet M_foldEdges M_foldNeeds M_foldYards M_least M_ways M_price M_rowBy M_columnBy M_rowOf M_wayBack M_slack M_isUsed M_lifted M_freed M_path) lv pc [.int v]) (hB4 : ∀ (x2 : Int32) (x3 : Int32), B4 x2 x3 → J x 0 0 6 (W_Model cyI cyJ cyZ a_M a_M_square a_M_want a_M_text a_M_read a_M_row a_M_foldSet a_M_foldEdges a_M_foldNeeds a_M_foldYards a_M_least a_M_ways a_M_price a_M_rowBy a_M_columnBy a_M_rowOf a_M_wayBack a_M_slack a_M_isUsed a_M_lifted a_M_freed a_M_path M_wide M_high M_hedges M_hurdles M_wants M_rest M_frozen M_bytes M_position M_tokenAt M_token M_digits M_number M_faultAt M_readMany M_readWide M_readHigh M_nights M_why M_folds M_square M_want M_text M_read M_row M_foldSet M_foldEdges M_foldNeeds M_foldYards M_least M_ways M_price M_rowBy M_columnBy M_rowOf M_wayBack M_slack M_isUsed M_lifted M_freed M_path) [(0, .ref a_M), (1, .int p1), (2, .int x2), (3, .int x3)] 4 []) (h : bk_X11_besides_62 Q B4 x2 x3) :
    J x 0 0 6 (W_Model cyI cyJ cyZ a_M a_M_square a_M_want a_M_text a_M_read a_M_row a_M_foldSet a_M_foldEdges a_M_foldNeeds a_M_foldYards a_M_least a_M_ways a_M_price a_M_rowBy a_M_columnBy a_M_rowOf a_M_wayBack a_M_slack a_M_isUsed a_M_lifted a_M_freed a_M_path M_wide M_high M_hedges M_hurdles M_wants M_rest M_frozen M_bytes M_position M_tokenAt M_token M_digits M_number M_faultAt M_readMany M_readWide M_readHigh M_nights M_why M_folds M_square M_want M_text M_read M_row M_foldSet M_foldEdges M_foldNeeds M_foldYards M_least M_ways M_price M_rowBy M_columnBy M_rowOf M_wayBack M_slack M_isUsed M_lifted M_freed M_path) [(0, .ref a_M), (1, .int p1), (2, .int x2), (3, .int x3)] 62 [] := by
  unfold bk_X11_besides_62 at h
  obtain ⟨y4, ey4⟩ : ∃ z : Int32, z = x3 + 1 := ⟨_, rfl⟩
  have h := h y4 ey4
  refine j_iinc cx 3 rfl (cst := 1) (by decide) ey4 [(3, .int y4), (0, .ref a_M), (1, .int p1), (2, .int x2)] (by decide) rfl dX11_besides_62 (pn := 65) rfl ?_
  refine j_goto cx 4 dX11_besides_65 rfl ?_
  refine j_sub [1, 2, 3, 0] [(0, .ref a_M), (1, .int p1), (2, .int x2), (3, .int y4)] rfl ?_
  exact hB4 _ _ h
set_option maxHeartbeats 4000000 in
set_option maxRecDepth 100000 in
theorem J_X11_besides_54 {x : CX} {D : DG} {cyI cyJ cyZ : ClassId} {a_M a_M_square a_M_want a_M_text a_M_read a_M_row a_M_foldSet a_M_foldEdges a_M_foldNeeds a_M_foldYards a_M_least a_M_ways a_M_price a_M_rowBy a_M_columnBy a_M_rowOf a_M_wayBack a_M_slack a_M_isUsed a_M_lifted a_M_freed a_M_path : Nat} {M_wide : Int32} {M_high : Int32} {M_hedges : Int64} {M_hurdles : Int32} {M_wants : Int32} {M_rest : Int32} {M_frozen : Int32} {M_bytes : Int32} {M_position : Int32} {M_tokenAt : Int32} {M_token : Int64} {M_digits : Int32} {M_number : Int32} {M_faultAt : Int32} {M_readMany : Int32} {M_readWide : Int32} {M_readHigh : Int32} {M_nights : Int32} {M_why : Int32} {M_folds : Int32} {M_square : Nat → Int32} {M_want : Nat → Int32} {M_text : Nat → Int32} {M_read : Nat → Int32} {M_row : Nat → Int32} {M_foldSet : Nat → Int32} {M_foldEdges : Nat → Int64} {M_foldNeeds : Nat → Int32} {M_foldYards : Nat → Int32} {M_least : Nat → Int32} {M_ways : Nat → Int32} {M_price : Nat → Int32} {M_rowBy : Nat → Int32} {M_columnBy : Nat → Int32} {M_rowOf : Nat → Int32} {M_wayBack : Nat → Int32} {M_slack : Nat → Int32} {M_isUsed : Nat → Int32} {M_lifted : Nat → Int32} {M_freed : Nat → Int32} {M_path : Nat → Int32} {p1 : Int32} {x3 : Int32} {x4 : Int32} {s0 : Int32} {s1 : Int32} {Q : Int32 → Prop} {B4 : Int32 → Int32 → Prop} {B15 : Int32 → Int32 → Prop} (cx : Cx x cX11_besides 6 RX11 rm_X11_besides D [(cyI, .int), (cyJ, .long), (cyZ, .boolean)]) (hR : ∀ (v : Int32) (pc : Nat) (lv : List (Nat × Value)), decode cX11_besides pc = .ok (.ireturn, 1) → Q v → J x 0 0 6 (W_Model cyI cyJ cyZ a_M a_M_square a_M_want a_M_text a_M_read a_M_row a_M_foldSet a_M_foldEdges a_M_foldNeeds a_M_foldYards a_M_least a_M_ways a_M_price a_M_rowBy a_M_columnBy a_M_rowOf a_M_wayBack a_M_slack a_M_isUsed a_M_lifted a_M_freed a_M_path M_wide M_high M_hedges M_hurdles M_wants M_rest M_frozen M_bytes M_position M_tokenAt M_token M_digits M_number M_faultAt M_readMany M_readWide M_readHigh M_nights M_why M_folds M_square M_want M_text M_read M_row M_foldSet M_foldEdges M_foldNeeds M_foldYards M_least M_ways M_price M_rowBy M_columnBy M_rowOf M_wayBack M_slack M_isUsed M_lifted M_freed M_path) lv pc [.int v]) (hB4 : ∀ (x2 : Int32) (x3 : Int32), B4 x2 x3 → J x 0 0 6 (W_Model cyI cyJ cyZ a_M a_M_square a_M_want a_M_text a_M_read a_M_row a_M_foldSet a_M_foldEdges a_M_foldNeeds a_M_foldYards a_M_least a_M_ways a_M_price a_M_rowBy a_M_columnBy a_M_rowOf a_M_wayBack a_M_slack a_M_isUsed a_M_lifted a_M_freed a_M_path M_wide M_high M_hedges M_hurdles M_wants M_rest M_frozen M_bytes M_position M_tokenAt M_token M_digits M_number M_faultAt M_readMany M_readWide M_readHigh M_nights M_why M_folds M_square M_want M_text M_read M_row M_foldSet M_foldEdges M_foldNeeds M_foldYards M_least M_ways M_price M_rowBy M_columnBy M_rowOf M_wayBack M_slack M_isUsed M_lifted M_freed M_path) [(0, .ref a_M), (1, .int p1), (2, .int x2), (3, .int x3)] 4 []) (hB15 : ∀ (x2 : Int32) (x4 : Int32), B15 x2 x4 → J x 0 0 6 (W_Model cyI cyJ cyZ a_M a_M_square a_M_want a_M_text a_M_read a_M_row a_M_foldSet a_M_foldEdges a_M_foldNeeds a_M_foldYards a_M_least a_M_ways a_M_price a_M_rowBy a_M_columnBy a_M_rowOf a_M_wayBack a_M_slack a_M_isUsed a_M_lifted a_M_freed a_M_path M_wide M_high M_hedges M_hurdles M_wants M_rest M_frozen M_bytes M_position M_tokenAt M_token M_digits M_number M_faultAt M_readMany M_readWide M_readHigh M_nights M_why M_folds M_square M_want M_text M_read M_row M_foldSet M_foldEdges M_foldNeeds M_foldYards M_least M_ways M_price M_rowBy M_columnBy M_rowOf M_wayBack M_slack M_isUsed M_lifted M_freed M_path) [(0, .ref a_M), (1, .int p1), (2, .int x2), (3, .int x3), (4, .int x4)] 15 []) (h : bk_X11_besides_54 Q B4 B15 x4 s0 s1) :
    J x 0 0 6 (W_Model cyI cyJ cyZ a_M a_M_square a_M_want a_M_text a_M_read a_M_row a_M_foldSet a_M_foldEdges a_M_foldNeeds a_M_foldYards a_M_least a_M_ways a_M_price a_M_rowBy a_M_columnBy a_M_rowOf a_M_wayBack a_M_slack a_M_isUsed a_M_lifted a_M_freed a_M_path M_wide M_high M_hedges M_hurdles M_wants M_rest M_frozen M_bytes M_position M_tokenAt M_token M_digits M_number M_faultAt M_readMany M_readWide M_readHigh M_nights M_why M_folds M_square M_want M_text M_read M_row M_foldSet M_foldEdges M_foldNeeds M_foldYards M_least M_ways M_price M_rowBy M_columnBy M_rowOf M_wayBack M_slack M_isUsed M_lifted M_freed M_path) [(0, .ref a_M), (1, .int p1), (3, .int x3), (4, .int x4)] 54 [.int s0, .int s1] := by
  unfold bk_X11_besides_54 at h
  refine j_ior cx dX11_besides_54 (pn := 55) rfl ?_
  refine j_topi (fun y8 ey8 => ?_)
  have h := h y8 ey8
  refine j_istore_n cx rfl [(2, .int y8), (0, .ref a_M), (1, .int p1), (3, .int x3), (4, .int x4)] (by decide) rfl dX11_besides_55 (pn := 56) rfl ?_
  obtain ⟨y9, ey9⟩ : ∃ z : Int32, z = x4 + 1 := ⟨_, rfl⟩
  have h := h y9 ey9
  refine j_iinc cx 4 rfl (cst := 1) (by decide) ey9 [(4, .int y9), (2, .int y8), (0, .ref a_M), (1, .int p1), (3, .int x3)] (by decide) rfl dX11_besides_56 (pn := 59) rfl ?_
  refine j_goto cx 15 dX11_besides_59 rfl ?_
  refine j_sub [2, 3, 1, 4, 0] [(0, .ref a_M), (1, .int p1), (2, .int y8), (3, .int x3), (4, .int y9)] rfl ?_
  exact hB15 _ _ h
set_option maxHeartbeats 4000000 in
set_option maxRecDepth 100000 in
theorem B_X11_besides_15 {x : CX} {D : DG} {cyI cyJ cyZ : ClassId} {a_M a_M_square a_M_want a_M_text a_M_read a_M_row a_M_foldSet a_M_foldEdges a_M_foldNeeds a_M_foldYards a_M_least a_M_ways a_M_price a_M_rowBy a_M_columnBy a_M_rowOf a_M_wayBack a_M_slack a_M_isUsed a_M_lifted a_M_freed a_M_path : Nat} {M_wide : Int32} {M_high : Int32} {M_hedges : Int64} {M_hurdles : Int32} {M_wants : Int32} {M_rest : Int32} {M_frozen : Int32} {M_bytes : Int32} {M_position : Int32} {M_tokenAt : Int32} {M_token : Int64} {M_digits : Int32} {M_number : Int32} {M_faultAt : Int32} {M_readMany : Int32} {M_readWide : Int32} {M_readHigh : Int32} {M_nights : Int32} {M_why : Int32} {M_folds : Int32} {M_square : Nat → Int32} {M_want : Nat → Int32} {M_text : Nat → Int32} {M_read : Nat → Int32} {M_row : Nat → Int32} {M_foldSet : Nat → Int32} {M_foldEdges : Nat → Int64} {M_foldNeeds : Nat → Int32} {M_foldYards : Nat → Int32} {M_least : Nat → Int32} {M_ways : Nat → Int32} {M_price : Nat → Int32} {M_rowBy : Nat → Int32} {M_columnBy : Nat → Int32} {M_rowOf : Nat → Int32} {M_wayBack : Nat → Int32} {M_slack : Nat → Int32} {M_isUsed : Nat → Int32} {M_lifted : Nat → Int32} {M_freed : Nat → Int32} {M_path : Nat → Int32} {p1 : Int32} {x2 : Int32} {x3 : Int32} {x4 : Int32} {Q : Int32 → Prop} {B4 : Int32 → Int32 → Prop} {B15 : Int32 → Int32 → Prop} (cx : Cx x cX11_besides 6 RX11 rm_X11_besides D [(cyI, .int), (cyJ, .long), (cyZ, .boolean)]) (hR : ∀ (v : Int32) (pc : Nat) (lv : List (Nat × Value)), decode cX11_besides pc = .ok (.ireturn, 1) → Q v → J x 0 0 6 (W_Model cyI cyJ cyZ a_M a_M_square a_M_want a_M_text a_M_read a_M_row a_M_foldSet a_M_foldEdges a_M_foldNeeds a_M_foldYards a_M_least a_M_ways a_M_price a_M_rowBy a_M_columnBy a_M_rowOf a_M_wayBack a_M_slack a_M_isUsed a_M_lifted a_M_freed a_M_path M_wide M_high M_hedges M_hurdles M_wants M_rest M_frozen M_bytes M_position M_tokenAt M_token M_digits M_number M_faultAt M_readMany M_readWide M_readHigh M_nights M_why M_folds M_square M_want M_text M_read M_row M_foldSet M_foldEdges M_foldNeeds M_foldYards M_least M_ways M_price M_rowBy M_columnBy M_rowOf M_wayBack M_slack M_isUsed M_lifted M_freed M_path) lv pc [.int v]) (hB4 : ∀ (x2 : Int32) (x3 : Int32), B4 x2 x3 → J x 0 0 6 (W_Model cyI cyJ cyZ a_M a_M_square a_M_want a_M_text a_M_read a_M_row a_M_foldSet a_M_foldEdges a_M_foldNeeds a_M_foldYards a_M_least a_M_ways a_M_price a_M_rowBy a_M_columnBy a_M_rowOf a_M_wayBack a_M_slack a_M_isUsed a_M_lifted a_M_freed a_M_path M_wide M_high M_hedges M_hurdles M_wants M_rest M_frozen M_bytes M_position M_tokenAt M_token M_digits M_number M_faultAt M_readMany M_readWide M_readHigh M_nights M_why M_folds M_square M_want M_text M_read M_row M_foldSet M_foldEdges M_foldNeeds M_foldYards M_least M_ways M_price M_rowBy M_columnBy M_rowOf M_wayBack M_slack M_isUsed M_lifted M_freed M_path) [(0, .ref a_M), (1, .int p1), (2, .int x2), (3, .int x3)] 4 []) (hB15 : ∀ (x2 : Int32) (x4 : Int32), B15 x2 x4 → J x 0 0 6 (W_Model cyI cyJ cyZ a_M a_M_square a_M_want a_M_text a_M_read a_M_row a_M_foldSet a_M_foldEdges a_M_foldNeeds a_M_foldYards a_M_least a_M_ways a_M_price a_M_rowBy a_M_columnBy a_M_rowOf a_M_wayBack a_M_slack a_M_isUsed a_M_lifted a_M_freed a_M_path M_wide M_high M_hedges M_hurdles M_wants M_rest M_frozen M_bytes M_position M_tokenAt M_token M_digits M_number M_faultAt M_readMany M_readWide M_readHigh M_nights M_why M_folds M_square M_want M_text M_read M_row M_foldSet M_foldEdges M_foldNeeds M_foldYards M_least M_ways M_price M_rowBy M_columnBy M_rowOf M_wayBack M_slack M_isUsed M_lifted M_freed M_path) [(0, .ref a_M), (1, .int p1), (2, .int x2), (3, .int x3), (4, .int x4)] 15 []) (h : bd_X11_besides_15 Q B4 B15 p1 x3 M_wide M_high x2 x4) :
    J x 0 0 6 (W_Model cyI cyJ cyZ a_M a_M_square a_M_want a_M_text a_M_read a_M_row a_M_foldSet a_M_foldEdges a_M_foldNeeds a_M_foldYards a_M_least a_M_ways a_M_price a_M_rowBy a_M_columnBy a_M_rowOf a_M_wayBack a_M_slack a_M_isUsed a_M_lifted a_M_freed a_M_path M_wide M_high M_hedges M_hurdles M_wants M_rest M_frozen M_bytes M_position M_tokenAt M_token M_digits M_number M_faultAt M_readMany M_readWide M_readHigh M_nights M_why M_folds M_square M_want M_text M_read M_row M_foldSet M_foldEdges M_foldNeeds M_foldYards M_least M_ways M_price M_rowBy M_columnBy M_rowOf M_wayBack M_slack M_isUsed M_lifted M_freed M_path) [(0, .ref a_M), (1, .int p1), (2, .int x2), (3, .int x3), (4, .int x4)] 15 [] := by
  unfold bd_X11_besides_15 at h
  refine j_iload cx 4 rfl dX11_besides_15 (pn := 17) rfl ?_
  refine j_iconst cx (v := 4) (by decide) dX11_besides_17 (pn := 18) rfl ?_
  refine j_icmp_ge cx 62 dX11_besides_18 (pn := 21) rfl rfl (fun c3 => ?_) (fun c3 => ?_)
  · have h := h.1 c3
    refine j_sub [0, 1, 2, 3] [(0, .ref a_M), (1, .int p1), (2, .int x2), (3, .int x3)] rfl ?_
    exact J_X11_besides_62 cx hR hB4 h
  · have h := h.2 c3
    refine j_iload_n cx 1 rfl rfl dX11_besides_21 (pn := 22) rfl ?_
    refine j_iload_n cx 3 rfl rfl dX11_besides_22 (pn := 23) rfl ?_
    refine j_ishr cx dX11_besides_23 (pn := 24) rfl ?_
    refine j_iconst cx (v := 1) (by decide) dX11_besides_24 (pn := 25) rfl ?_
    refine j_iand cx dX11_besides_25 (pn := 26) rfl ?_
    refine j_iconst cx (v := 1) (by decide) dX11_besides_26 (pn := 27) rfl ?_
    refine j_icmp_ne cx 62 dX11_besides_27 (pn := 30) rfl rfl (fun c5 => ?_) (fun c5 => ?_)
    · have h := h.1 c5
      refine j_sub [0, 1, 2, 3] [(0, .ref a_M), (1, .int p1), (2, .int x2), (3, .int x3)] rfl ?_
      exact J_X11_besides_62 cx hR hB4 h
    · have h := h.2 c5
      refine j_aload_n cx 0 rfl rfl dX11_besides_30 (pn := 31) rfl ?_
      refine j_iload_n cx 3 rfl rfl dX11_besides_31 (pn := 32) rfl ?_
      refine j_iload cx 4 rfl dX11_besides_32 (pn := 34) rfl ?_
      refine j_callvI0 cx q_inst_X11_besideOf q_sel_X11_besideOf (b := a_M) (As := [.int x3, .int x4]) (rest := []) (c_X11_besideOf h) ⟨q_code_X11_besideOf, q_ml_X11_228, q_init_X11, hd_X11_besideOf, ⟨Nat.le_of_ble_eq_true rfl, Nat.le_of_ble_eq_true rfl⟩, Nat.le_of_ble_eq_true rfl, Nat.le_of_ble_eq_true rfl⟩ (q0 := 0) rfl rfl rfl rfl (Nat.le_of_ble_eq_true rfl) dX11_besides_34 (pn := 37) rfl (fun r6 _ h => ?_)
      show J x 0 0 6 (W_Model cyI cyJ cyZ a_M a_M_square a_M_want a_M_text a_M_read a_M_row a_M_foldSet a_M_foldEdges a_M_foldNeeds a_M_foldYards a_M_least a_M_ways a_M_price a_M_rowBy a_M_columnBy a_M_rowOf a_M_wayBack a_M_slack a_M_isUsed a_M_lifted a_M_freed a_M_path M_wide M_high M_hedges M_hurdles M_wants M_rest M_frozen M_bytes M_position M_tokenAt M_token M_digits M_number M_faultAt M_readMany M_readWide M_readHigh M_nights M_why M_folds M_square M_want M_text M_read M_row M_foldSet M_foldEdges M_foldNeeds M_foldYards M_least M_ways M_price M_rowBy M_columnBy M_rowOf M_wayBack M_slack M_isUsed M_lifted M_freed M_path) [(0, .ref a_M), (1, .int p1), (2, .int x2), (3, .int x3), (4, .int x4)] 37 [.int r6]
      refine j_istore cx [(5, .int r6), (0, .ref a_M), (1, .int p1), (2, .int x2), (3, .int x3), (4, .int x4)] (by decide) rfl dX11_besides_37 (pn := 39) rfl ?_
      refine j_iload_n cx 3 rfl rfl dX11_besides_39 (pn := 40) rfl ?_
      refine j_iload cx 0 rfl dX11_besides_40 (pn := 42) rfl ?_
      refine j_iconst cx (v := (-1)) (by decide) dX11_besides_42 (pn := 43) rfl ?_
      refine j_icmp_ne cx 50 dX11_besides_43 (pn := 46) rfl rfl (fun c7 => ?_) (fun c7 => ?_)
      · have h := h.1 c7
        refine j_iconst cx (v := 1) (by decide) dX11_besides_50 (pn := 51) rfl ?_
        refine j_iload cx 0 rfl dX11_besides_51 (pn := 53) rfl ?_
        refine j_ishl cx dX11_besides_53 (pn := 54) rfl ?_
        refine j_sub [1, 2, 4, 5] [(0, .ref a_M), (1, .int p1), (3, .int x3), (4, .int x4)] rfl ?_
        exact J_X11_besides_54 cx hR hB4 hB15 h
      · have h := h.2 c7
        refine j_iconst cx (v := 0) (by decide) dX11_besides_46 (pn := 47) rfl ?_
        refine j_goto cx 54 dX11_besides_47 rfl ?_
        refine j_sub [1, 2, 4, 5] [(0, .ref a_M), (1, .int p1), (3, .int x3), (4, .int x4)] rfl ?_
        exact J_X11_besides_54 cx hR hB4 hB15 h
set_option maxHeartbeats 4000000 in
set_option maxRecDepth 100000 in
theorem J_X11_besides_15 {x : CX} {D : DG} {cyI cyJ cyZ : ClassId} {a_M a_M_square a_M_want a_M_text a_M_read a_M_row a_M_foldSet a_M_foldEdges a_M_foldNeeds a_M_foldYards a_M_least a_M_ways a_M_price a_M_rowBy a_M_columnBy a_M_rowOf a_M_wayBack a_M_slack a_M_isUsed a_M_lifted a_M_freed a_M_path : Nat} {M_wide : Int32} {M_high : Int32} {M_hedges : Int64} {M_hurdles : Int32} {M_wants : Int32} {M_rest : Int32} {M_frozen : Int32} {M_bytes : Int32} {M_position : Int32} {M_tokenAt : Int32} {M_token : Int64} {M_digits : Int32} {M_number : Int32} {M_faultAt : Int32} {M_readMany : Int32} {M_readWide : Int32} {M_readHigh : Int32} {M_nights : Int32} {M_why : Int32} {M_folds : Int32} {M_square : Nat → Int32} {M_want : Nat → Int32} {M_text : Nat → Int32} {M_read : Nat → Int32} {M_row : Nat → Int32} {M_foldSet : Nat → Int32} {M_foldEdges : Nat → Int64} {M_foldNeeds : Nat → Int32} {M_foldYards : Nat → Int32} {M_least : Nat → Int32} {M_ways : Nat → Int32} {M_price : Nat → Int32} {M_rowBy : Nat → Int32} {M_columnBy : Nat → Int32} {M_rowOf : Nat → Int32} {M_wayBack : Nat → Int32} {M_slack : Nat → Int32} {M_isUsed : Nat → Int32} {M_lifted : Nat → Int32} {M_freed : Nat → Int32} {M_path : Nat → Int32} {p1 : Int32} {x2 : Int32} {x3 : Int32} {x4 : Int32} {Q : Int32 → Prop} {B4 : Int32 → Int32 → Prop} (cx : Cx x cX11_besides 6 RX11 rm_X11_besides D [(cyI, .int), (cyJ, .long), (cyZ, .boolean)]) (hR : ∀ (v : Int32) (pc : Nat) (lv : List (Nat × Value)), decode cX11_besides pc = .ok (.ireturn, 1) → Q v → J x 0 0 6 (W_Model cyI cyJ cyZ a_M a_M_square a_M_want a_M_text a_M_read a_M_row a_M_foldSet a_M_foldEdges a_M_foldNeeds a_M_foldYards a_M_least a_M_ways a_M_price a_M_rowBy a_M_columnBy a_M_rowOf a_M_wayBack a_M_slack a_M_isUsed a_M_lifted a_M_freed a_M_path M_wide M_high M_hedges M_hurdles M_wants M_rest M_frozen M_bytes M_position M_tokenAt M_token M_digits M_number M_faultAt M_readMany M_readWide M_readHigh M_nights M_why M_folds M_square M_want M_text M_read M_row M_foldSet M_foldEdges M_foldNeeds M_foldYards M_least M_ways M_price M_rowBy M_columnBy M_rowOf M_wayBack M_slack M_isUsed M_lifted M_freed M_path) lv pc [.int v]) (hB4 : ∀ (x2 : Int32) (x3 : Int32), B4 x2 x3 → J x 0 0 6 (W_Model cyI cyJ cyZ a_M a_M_square a_M_want a_M_text a_M_read a_M_row a_M_foldSet a_M_foldEdges a_M_foldNeeds a_M_foldYards a_M_least a_M_ways a_M_price a_M_rowBy a_M_columnBy a_M_rowOf a_M_wayBack a_M_slack a_M_isUsed a_M_lifted a_M_freed a_M_path M_wide M_high M_hedges M_hurdles M_wants M_rest M_frozen M_bytes M_position M_tokenAt M_token M_digits M_number M_faultAt M_readMany M_readWide M_readHigh M_nights M_why M_folds M_square M_want M_text M_read M_row M_foldSet M_foldEdges M_foldNeeds M_foldYards M_least M_ways M_price M_rowBy M_columnBy M_rowOf M_wayBack M_slack M_isUsed M_lifted M_freed M_path) [(0, .ref a_M), (1, .int p1), (2, .int x2), (3, .int x3)] 4 []) (h : lp_X11_besides_15 Q B4 p1 x3 M_wide M_high x2 x4) :
    J x 0 0 6 (W_Model cyI cyJ cyZ a_M a_M_square a_M_want a_M_text a_M_read a_M_row a_M_foldSet a_M_foldEdges a_M_foldNeeds a_M_foldYards a_M_least a_M_ways a_M_price a_M_rowBy a_M_columnBy a_M_rowOf a_M_wayBack a_M_slack a_M_isUsed a_M_lifted a_M_freed a_M_path M_wide M_high M_hedges M_hurdles M_wants M_rest M_frozen M_bytes M_position M_tokenAt M_token M_digits M_number M_faultAt M_readMany M_readWide M_readHigh M_nights M_why M_folds M_square M_want M_text M_read M_row M_foldSet M_foldEdges M_foldNeeds M_foldYards M_least M_ways M_price M_rowBy M_columnBy M_rowOf M_wayBack M_slack M_isUsed M_lifted M_freed M_path) [(0, .ref a_M), (1, .int p1), (2, .int x2), (3, .int x3), (4, .int x4)] 15 [] := by
  obtain ⟨I, ⟨n, h0⟩, hb⟩ := h
  revert x2 x4
  induction n using Nat.strongRecOn with
  | _ n ih =>
    intro x2 x4 h0
    exact B_X11_besides_15 cx hR hB4 (fun _ _ hz => by obtain ⟨n2, hlt, hI⟩ := hz; exact ih n2 hlt hI) (hb n x2 x4 h0)
set_option maxHeartbeats 4000000 in
set_option maxRecDepth 100000 in
theorem B_X11_besides_4 {x : CX} {D : DG} {cyI cyJ cyZ : ClassId} {a_M a_M_square a_M_want a_M_text a_M_read a_M_row a_M_foldSet a_M_foldEdges a_M_foldNeeds a_M_foldYards a_M_least a_M_ways a_M_price a_M_rowBy a_M_columnBy a_M_rowOf a_M_wayBack a_M_slack a_M_isUsed a_M_lifted a_M_freed a_M_path : Nat} {M_wide : Int32} {M_high : Int32} {M_hedges : Int64} {M_hurdles : Int32} {M_wants : Int32} {M_rest : Int32} {M_frozen : Int32} {M_bytes : Int32} {M_position : Int32} {M_tokenAt : Int32} {M_token : Int64} {M_digits : Int32} {M_number : Int32} {M_faultAt : Int32} {M_readMany : Int32} {M_readWide : Int32} {M_readHigh : Int32} {M_nights : Int32} {M_why : Int32} {M_folds : Int32} {M_square : Nat → Int32} {M_want : Nat → Int32} {M_text : Nat → Int32} {M_read : Nat → Int32} {M_row : Nat → Int32} {M_foldSet : Nat → Int32} {M_foldEdges : Nat → Int64} {M_foldNeeds : Nat → Int32} {M_foldYards : Nat → Int32} {M_least : Nat → Int32} {M_ways : Nat → Int32} {M_price : Nat → Int32} {M_rowBy : Nat → Int32} {M_columnBy : Nat → Int32} {M_rowOf : Nat → Int32} {M_wayBack : Nat → Int32} {M_slack : Nat → Int32} {M_isUsed : Nat → Int32} {M_lifted : Nat → Int32} {M_freed : Nat → Int32} {M_path : Nat → Int32} {p1 : Int32} {x2 : Int32} {x3 : Int32} {Q : Int32 → Prop} {B4 : Int32 → Int32 → Prop} (cx : Cx x cX11_besides 6 RX11 rm_X11_besides D [(cyI, .int), (cyJ, .long), (cyZ, .boolean)]) (hR : ∀ (v : Int32) (pc : Nat) (lv : List (Nat × Value)), decode cX11_besides pc = .ok (.ireturn, 1) → Q v → J x 0 0 6 (W_Model cyI cyJ cyZ a_M a_M_square a_M_want a_M_text a_M_read a_M_row a_M_foldSet a_M_foldEdges a_M_foldNeeds a_M_foldYards a_M_least a_M_ways a_M_price a_M_rowBy a_M_columnBy a_M_rowOf a_M_wayBack a_M_slack a_M_isUsed a_M_lifted a_M_freed a_M_path M_wide M_high M_hedges M_hurdles M_wants M_rest M_frozen M_bytes M_position M_tokenAt M_token M_digits M_number M_faultAt M_readMany M_readWide M_readHigh M_nights M_why M_folds M_square M_want M_text M_read M_row M_foldSet M_foldEdges M_foldNeeds M_foldYards M_least M_ways M_price M_rowBy M_columnBy M_rowOf M_wayBack M_slack M_isUsed M_lifted M_freed M_path) lv pc [.int v]) (hB4 : ∀ (x2 : Int32) (x3 : Int32), B4 x2 x3 → J x 0 0 6 (W_Model cyI cyJ cyZ a_M a_M_square a_M_want a_M_text a_M_read a_M_row a_M_foldSet a_M_foldEdges a_M_foldNeeds a_M_foldYards a_M_least a_M_ways a_M_price a_M_rowBy a_M_columnBy a_M_rowOf a_M_wayBack a_M_slack a_M_isUsed a_M_lifted a_M_freed a_M_path M_wide M_high M_hedges M_hurdles M_wants M_rest M_frozen M_bytes M_position M_tokenAt M_token M_digits M_number M_faultAt M_readMany M_readWide M_readHigh M_nights M_why M_folds M_square M_want M_text M_read M_row M_foldSet M_foldEdges M_foldNeeds M_foldYards M_least M_ways M_price M_rowBy M_columnBy M_rowOf M_wayBack M_slack M_isUsed M_lifted M_freed M_path) [(0, .ref a_M), (1, .int p1), (2, .int x2), (3, .int x3)] 4 []) (h : bd_X11_besides_4 Q B4 p1 M_wide M_high x2 x3) :
    J x 0 0 6 (W_Model cyI cyJ cyZ a_M a_M_square a_M_want a_M_text a_M_read a_M_row a_M_foldSet a_M_foldEdges a_M_foldNeeds a_M_foldYards a_M_least a_M_ways a_M_price a_M_rowBy a_M_columnBy a_M_rowOf a_M_wayBack a_M_slack a_M_isUsed a_M_lifted a_M_freed a_M_path M_wide M_high M_hedges M_hurdles M_wants M_rest M_frozen M_bytes M_position M_tokenAt M_token M_digits M_number M_faultAt M_readMany M_readWide M_readHigh M_nights M_why M_folds M_square M_want M_text M_read M_row M_foldSet M_foldEdges M_foldNeeds M_foldYards M_least M_ways M_price M_rowBy M_columnBy M_rowOf M_wayBack M_slack M_isUsed M_lifted M_freed M_path) [(0, .ref a_M), (1, .int p1), (2, .int x2), (3, .int x3)] 4 [] := by
  unfold bd_X11_besides_4 at h
  refine j_iload_n cx 3 rfl rfl dX11_besides_4 (pn := 5) rfl ?_
  refine j_aload_n cx 0 rfl rfl dX11_besides_5 (pn := 6) rfl ?_
  refine j_callvI0 cx q_inst_X11_squares q_sel_X11_squares (b := a_M) (As := []) (rest := [.int x3]) (c_X11_squares h) ⟨q_code_X11_squares, q_ml_X11_86, q_init_X11, hd_X11_squares, ⟨Nat.le_of_ble_eq_true rfl, Nat.le_of_ble_eq_true rfl⟩, Nat.le_of_ble_eq_true rfl, Nat.le_of_ble_eq_true rfl⟩ (q0 := 0) rfl rfl rfl rfl (Nat.le_of_ble_eq_true rfl) dX11_besides_6 (pn := 9) rfl (fun r1 _ h => ?_)
  show J x 0 0 6 (W_Model cyI cyJ cyZ a_M a_M_square a_M_want a_M_text a_M_read a_M_row a_M_foldSet a_M_foldEdges a_M_foldNeeds a_M_foldYards a_M_least a_M_ways a_M_price a_M_rowBy a_M_columnBy a_M_rowOf a_M_wayBack a_M_slack a_M_isUsed a_M_lifted a_M_freed a_M_path M_wide M_high M_hedges M_hurdles M_wants M_rest M_frozen M_bytes M_position M_tokenAt M_token M_digits M_number M_faultAt M_readMany M_readWide M_readHigh M_nights M_why M_folds M_square M_want M_text M_read M_row M_foldSet M_foldEdges M_foldNeeds M_foldYards M_least M_ways M_price M_rowBy M_columnBy M_rowOf M_wayBack M_slack M_isUsed M_lifted M_freed M_path) [(0, .ref a_M), (1, .int p1), (2, .int x2), (3, .int x3)] 9 [.int r1, .int x3]
  refine j_icmp_ge cx 68 dX11_besides_9 (pn := 12) rfl rfl (fun c2 => ?_) (fun c2 => ?_)
  · have h := h.1 c2
    refine j_iload_n cx 2 rfl rfl dX11_besides_68 (pn := 69) rfl ?_
    exact hR x2 69 _ dX11_besides_69 h
  · have h := h.2 c2
    refine j_iconst cx (v := 0) (by decide) dX11_besides_12 (pn := 13) rfl ?_
    refine j_istore cx [(4, .int 0), (0, .ref a_M), (1, .int p1), (2, .int x2), (3, .int x3)] (by decide) rfl dX11_besides_13 (pn := 15) rfl ?_
    refine j_sub [1, 2, 3, 4, 0] [(0, .ref a_M), (1, .int p1), (2, .int x2), (3, .int x3), (4, .int 0)] rfl ?_
    exact J_X11_besides_15 cx hR hB4 h
set_option maxHeartbeats 4000000 in
set_option maxRecDepth 100000 in
theorem J_X11_besides_4 {x : CX} {D : DG} {cyI cyJ cyZ : ClassId} {a_M a_M_square a_M_want a_M_text a_M_read a_M_row a_M_foldSet a_M_foldEdges a_M_foldNeeds a_M_foldYards a_M_least a_M_ways a_M_price a_M_rowBy a_M_columnBy a_M_rowOf a_M_wayBack a_M_slack a_M_isUsed a_M_lifted a_M_freed a_M_path : Nat} {M_wide : Int32} {M_high : Int32} {M_hedges : Int64} {M_hurdles : Int32} {M_wants : Int32} {M_rest : Int32} {M_frozen : Int32} {M_bytes : Int32} {M_position : Int32} {M_tokenAt : Int32} {M_token : Int64} {M_digits : Int32} {M_number : Int32} {M_faultAt : Int32} {M_readMany : Int32} {M_readWide : Int32} {M_readHigh : Int32} {M_nights : Int32} {M_why : Int32} {M_folds : Int32} {M_square : Nat → Int32} {M_want : Nat → Int32} {M_text : Nat → Int32} {M_read : Nat → Int32} {M_row : Nat → Int32} {M_foldSet : Nat → Int32} {M_foldEdges : Nat → Int64} {M_foldNeeds : Nat → Int32} {M_foldYards : Nat → Int32} {M_least : Nat → Int32} {M_ways : Nat → Int32} {M_price : Nat → Int32} {M_rowBy : Nat → Int32} {M_columnBy : Nat → Int32} {M_rowOf : Nat → Int32} {M_wayBack : Nat → Int32} {M_slack : Nat → Int32} {M_isUsed : Nat → Int32} {M_lifted : Nat → Int32} {M_freed : Nat → Int32} {M_path : Nat → Int32} {p1 : Int32} {x2 : Int32} {x3 : Int32} {Q : Int32 → Prop} (cx : Cx x cX11_besides 6 RX11 rm_X11_besides D [(cyI, .int), (cyJ, .long), (cyZ, .boolean)]) (hR : ∀ (v : Int32) (pc : Nat) (lv : List (Nat × Value)), decode cX11_besides pc = .ok (.ireturn, 1) → Q v → J x 0 0 6 (W_Model cyI cyJ cyZ a_M a_M_square a_M_want a_M_text a_M_read a_M_row a_M_foldSet a_M_foldEdges a_M_foldNeeds a_M_foldYards a_M_least a_M_ways a_M_price a_M_rowBy a_M_columnBy a_M_rowOf a_M_wayBack a_M_slack a_M_isUsed a_M_lifted a_M_freed a_M_path M_wide M_high M_hedges M_hurdles M_wants M_rest M_frozen M_bytes M_position M_tokenAt M_token M_digits M_number M_faultAt M_readMany M_readWide M_readHigh M_nights M_why M_folds M_square M_want M_text M_read M_row M_foldSet M_foldEdges M_foldNeeds M_foldYards M_least M_ways M_price M_rowBy M_columnBy M_rowOf M_wayBack M_slack M_isUsed M_lifted M_freed M_path) lv pc [.int v]) (h : lp_X11_besides_4 Q  p1 M_wide M_high x2 x3) :
    J x 0 0 6 (W_Model cyI cyJ cyZ a_M a_M_square a_M_want a_M_text a_M_read a_M_row a_M_foldSet a_M_foldEdges a_M_foldNeeds a_M_foldYards a_M_least a_M_ways a_M_price a_M_rowBy a_M_columnBy a_M_rowOf a_M_wayBack a_M_slack a_M_isUsed a_M_lifted a_M_freed a_M_path M_wide M_high M_hedges M_hurdles M_wants M_rest M_frozen M_bytes M_position M_tokenAt M_token M_digits M_number M_faultAt M_readMany M_readWide M_readHigh M_nights M_why M_folds M_square M_want M_text M_read M_row M_foldSet M_foldEdges M_foldNeeds M_foldYards M_least M_ways M_price M_rowBy M_columnBy M_rowOf M_wayBack M_slack M_isUsed M_lifted M_freed M_path) [(0, .ref a_M), (1, .int p1), (2, .int x2), (3, .int x3)] 4 [] := by
  obtain ⟨I, ⟨n, h0⟩, hb⟩ := h
  revert x2 x3
  induction n using Nat.strongRecOn with
  | _ n ih =>
    intro x2 x3 h0
    exact B_X11_besides_4 cx hR (fun _ _ hz => by obtain ⟨n2, hlt, hI⟩ := hz; exact ih n2 hlt hI) (hb n x2 x3 h0)
set_option maxHeartbeats 4000000 in
set_option maxRecDepth 100000 in
theorem c_X11_besides {D : DG} {cyI cyJ cyZ : ClassId} {a_M a_M_square a_M_want a_M_text a_M_read a_M_row a_M_foldSet a_M_foldEdges a_M_foldNeeds a_M_foldYards a_M_least a_M_ways a_M_price a_M_rowBy a_M_columnBy a_M_rowOf a_M_wayBack a_M_slack a_M_isUsed a_M_lifted a_M_freed a_M_path : Nat} {M_wide : Int32} {M_high : Int32} {M_hedges : Int64} {M_hurdles : Int32} {M_wants : Int32} {M_rest : Int32} {M_frozen : Int32} {M_bytes : Int32} {M_position : Int32} {M_tokenAt : Int32} {M_token : Int64} {M_digits : Int32} {M_number : Int32} {M_faultAt : Int32} {M_readMany : Int32} {M_readWide : Int32} {M_readHigh : Int32} {M_nights : Int32} {M_why : Int32} {M_folds : Int32} {M_square : Nat → Int32} {M_want : Nat → Int32} {M_text : Nat → Int32} {M_read : Nat → Int32} {M_row : Nat → Int32} {M_foldSet : Nat → Int32} {M_foldEdges : Nat → Int64} {M_foldNeeds : Nat → Int32} {M_foldYards : Nat → Int32} {M_least : Nat → Int32} {M_ways : Nat → Int32} {M_price : Nat → Int32} {M_rowBy : Nat → Int32} {M_columnBy : Nat → Int32} {M_rowOf : Nat → Int32} {M_wayBack : Nat → Int32} {M_slack : Nat → Int32} {M_isUsed : Nat → Int32} {M_lifted : Nat → Int32} {M_freed : Nat → Int32} {M_path : Nat → Int32} {p1 : Int32} {Q : Int32 → Prop} (h : wp_X11_besides p1 M_wide M_high Q) :
    MetI yX11_besides cX11_besides 6 (some .int) rm_X11_besides D [(cyI, .int), (cyJ, .long), (cyZ, .boolean)] [.ref a_M, .int p1] (W_Model cyI cyJ cyZ a_M a_M_square a_M_want a_M_text a_M_read a_M_row a_M_foldSet a_M_foldEdges a_M_foldNeeds a_M_foldYards a_M_least a_M_ways a_M_price a_M_rowBy a_M_columnBy a_M_rowOf a_M_wayBack a_M_slack a_M_isUsed a_M_lifted a_M_freed a_M_path M_wide M_high M_hedges M_hurdles M_wants M_rest M_frozen M_bytes M_position M_tokenAt M_token M_digits M_number M_faultAt M_readMany M_readWide M_readHigh M_nights M_why M_folds M_square M_want M_text M_read M_row M_foldSet M_foldEdges M_foldNeeds M_foldYards M_least M_ways M_price M_rowBy M_columnBy M_rowOf M_wayBack M_slack M_isUsed M_lifted M_freed M_path) (fun _ : Unit => (W_Model cyI cyJ cyZ a_M a_M_square a_M_want a_M_text a_M_read a_M_row a_M_foldSet a_M_foldEdges a_M_foldNeeds a_M_foldYards a_M_least a_M_ways a_M_price a_M_rowBy a_M_columnBy a_M_rowOf a_M_wayBack a_M_slack a_M_isUsed a_M_lifted a_M_freed a_M_path M_wide M_high M_hedges M_hurdles M_wants M_rest M_frozen M_bytes M_position M_tokenAt M_token M_digits M_number M_faultAt M_readMany M_readWide M_readHigh M_nights M_why M_folds M_square M_want M_text M_read M_row M_foldSet M_foldEdges M_foldNeeds M_foldYards M_least M_ways M_price M_rowBy M_columnBy M_rowOf M_wayBack M_slack M_isUsed M_lifted M_freed M_path)) (fun v _ => Q v ) := by
  unfold wp_X11_besides at h
  refine metI_of (by decide) (Nat.le_of_ble_eq_true rfl) (fun x cx0 hR0 => ?_)
  have cx : Cx x cX11_besides 6 RX11 rm_X11_besides D [(cyI, .int), (cyJ, .long), (cyZ, .boolean)] := cx0
  have hR : ∀ (v : Int32) (pc : Nat) (lv : List (Nat × Value)), decode cX11_besides pc = .ok (.ireturn, 1) → Q v → J x 0 0 6 (W_Model cyI cyJ cyZ a_M a_M_square a_M_want a_M_text a_M_read a_M_row a_M_foldSet a_M_foldEdges a_M_foldNeeds a_M_foldYards a_M_least a_M_ways a_M_price a_M_rowBy a_M_columnBy a_M_rowOf a_M_wayBack a_M_slack a_M_isUsed a_M_lifted a_M_freed a_M_path M_wide M_high M_hedges M_hurdles M_wants M_rest M_frozen M_bytes M_position M_tokenAt M_token M_digits M_number M_faultAt M_readMany M_readWide M_readHigh M_nights M_why M_folds M_square M_want M_text M_read M_row M_foldSet M_foldEdges M_foldNeeds M_foldYards M_least M_ways M_price M_rowBy M_columnBy M_rowOf M_wayBack M_slack M_isUsed M_lifted M_freed M_path) lv pc [.int v] := (fun v pc lv d hq => hR0 v () pc lv d hq)
  show J x 0 0 6 (W_Model cyI cyJ cyZ a_M a_M_square a_M_want a_M_text a_M_read a_M_row a_M_foldSet a_M_foldEdges a_M_foldNeeds a_M_foldYards a_M_least a_M_ways a_M_price a_M_rowBy a_M_columnBy a_M_rowOf a_M_wayBack a_M_slack a_M_isUsed a_M_lifted a_M_freed a_M_path M_wide M_high M_hedges M_hurdles M_wants M_rest M_frozen M_bytes M_position M_tokenAt M_token M_digits M_number M_faultAt M_readMany M_readWide M_readHigh M_nights M_why M_folds M_square M_want M_text M_read M_row M_foldSet M_foldEdges M_foldNeeds M_foldYards M_least M_ways M_price M_rowBy M_columnBy M_rowOf M_wayBack M_slack M_isUsed M_lifted M_freed M_path) [(0, .ref a_M), (1, .int p1)] 0 []
  refine j_iconst cx (v := 0) (by decide) dX11_besides_0 (pn := 1) rfl ?_
  refine j_istore_n cx rfl [(2, .int 0), (0, .ref a_M), (1, .int p1)] (by decide) rfl dX11_besides_1 (pn := 2) rfl ?_
  refine j_iconst cx (v := 0) (by decide) dX11_besides_2 (pn := 3) rfl ?_
  refine j_istore_n cx rfl [(3, .int 0), (2, .int 0), (0, .ref a_M), (1, .int p1)] (by decide) rfl dX11_besides_3 (pn := 4) rfl ?_
  refine j_sub [2, 3, 1, 0] [(0, .ref a_M), (1, .int p1), (2, .int 0), (3, .int 0)] rfl ?_
  exact J_X11_besides_4 cx hR h
