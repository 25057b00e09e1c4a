theorem dX11_few_0 : decode cX11_few 0 = .ok (.iload_n 1, 1) := by decide +kernel
theorem dX11_few_1 : decode cX11_few 1 = .ok (.iconst 0, 1) := by decide +kernel
theorem dX11_few_2 : decode cX11_few 2 = .ok (.bipush 90, 2) := by decide +kernel
theorem dX11_few_4 : decode cX11_few 4 = .ok (.invokestatic 90, 3) := by decide +kernel
theorem dX11_few_7 : decode cX11_few 7 = .ok (.ifCond .eq 12, 3) := by decide +kernel
theorem dX11_few_10 : decode cX11_few 10 = .ok (.iload_n 2, 1) := by decide +kernel
theorem dX11_few_11 : decode cX11_few 11 = .ok (.iconst 0, 1) := by decide +kernel
theorem dX11_few_12 : decode cX11_few 12 = .ok (.iconst 1, 1) := by decide +kernel
theorem dX11_few_13 : decode cX11_few 13 = .ok (.invokestatic 90, 3) := by decide +kernel
theorem dX11_few_16 : decode cX11_few 16 = .ok (.ifCond .ne 6, 3) := by decide +kernel
theorem dX11_few_19 : decode cX11_few 19 = .ok (.bipush (-3), 2) := by decide +kernel
theorem dX11_few_21 : decode cX11_few 21 = .ok (.ireturn, 1) := by decide +kernel
theorem dX11_few_22 : decode cX11_few 22 = .ok (.aload_n 0, 1) := by decide +kernel
theorem dX11_few_23 : decode cX11_few 23 = .ok (.invokevirtual 287, 3) := by decide +kernel
theorem dX11_few_26 : decode cX11_few 26 = .ok (.iconst (-1), 1) := by decide +kernel
theorem dX11_few_27 : decode cX11_few 27 = .ok (.istore_n 3, 1) := by decide +kernel
theorem dX11_few_28 : decode cX11_few 28 = .ok (.iconst 0, 1) := by decide +kernel
theorem dX11_few_29 : decode cX11_few 29 = .ok (.istore 4, 2) := by decide +kernel
theorem dX11_few_31 : decode cX11_few 31 = .ok (.iload 4, 2) := by decide +kernel
theorem dX11_few_33 : decode cX11_few 33 = .ok (.aload_n 0, 1) := by decide +kernel
theorem dX11_few_34 : decode cX11_few 34 = .ok (.getfield 284, 3) := by decide +kernel
theorem dX11_few_37 : decode cX11_few 37 = .ok (.if_icmp .ge 48, 3) := by decide +kernel
theorem dX11_few_40 : decode cX11_few 40 = .ok (.aload_n 0, 1) := by decide +kernel
theorem dX11_few_41 : decode cX11_few 41 = .ok (.getfield 45, 3) := by decide +kernel
theorem dX11_few_44 : decode cX11_few 44 = .ok (.iload 4, 2) := by decide +kernel
theorem dX11_few_46 : decode cX11_few 46 = .ok (.iaload, 1) := by decide +kernel
theorem dX11_few_47 : decode cX11_few 47 = .ok (.iload_n 1, 1) := by decide +kernel
theorem dX11_few_48 : decode cX11_few 48 = .ok (.if_icmp .lt 29, 3) := by decide +kernel
theorem dX11_few_51 : decode cX11_few 51 = .ok (.iload_n 3, 1) := by decide +kernel
theorem dX11_few_52 : decode cX11_few 52 = .ok (.iconst (-1), 1) := by decide +kernel
theorem dX11_few_53 : decode cX11_few 53 = .ok (.if_icmp .eq 19, 3) := by decide +kernel
theorem dX11_few_56 : decode cX11_few 56 = .ok (.aload_n 0, 1) := by decide +kernel
theorem dX11_few_57 : decode cX11_few 57 = .ok (.getfield 42, 3) := by decide +kernel
theorem dX11_few_60 : decode cX11_few 60 = .ok (.iload 4, 2) := by decide +kernel
theorem dX11_few_62 : decode cX11_few 62 = .ok (.iaload, 1) := by decide +kernel
theorem dX11_few_63 : decode cX11_few 63 = .ok (.aload_n 0, 1) := by decide +kernel
theorem dX11_few_64 : decode cX11_few 64 = .ok (.getfield 42, 3) := by decide +kernel
theorem dX11_few_67 : decode cX11_few 67 = .ok (.iload_n 3, 1) := by decide +kernel
theorem dX11_few_68 : decode cX11_few 68 = .ok (.iaload, 1) := by decide +kernel
theorem dX11_few_69 : decode cX11_few 69 = .ok (.if_icmp .ge 8, 3) := by decide +kernel
theorem dX11_few_72 : decode cX11_few 72 = .ok (.iload 4, 2) := by decide +kernel
theorem dX11_few_74 : decode cX11_few 74 = .ok (.goto 4, 3) := by decide +kernel
theorem dX11_few_77 : decode cX11_few 77 = .ok (.iload_n 3, 1) := by decide +kernel
theorem dX11_few_78 : decode cX11_few 78 = .ok (.istore_n 3, 1) := by decide +kernel
theorem dX11_few_79 : decode cX11_few 79 = .ok (.iinc 4 1, 3) := by decide +kernel
theorem dX11_few_82 : decode cX11_few 82 = .ok (.goto (-51), 3) := by decide +kernel
theorem dX11_few_85 : decode cX11_few 85 = .ok (.iload_n 3, 1) := by decide +kernel
theorem dX11_few_86 : decode cX11_few 86 = .ok (.iconst (-1), 1) := by decide +kernel
theorem dX11_few_87 : decode cX11_few 87 = .ok (.if_icmp .ne 7, 3) := by decide +kernel
theorem dX11_few_90 : decode cX11_few 90 = .ok (.iconst (-1), 1) := by decide +kernel
theorem dX11_few_91 : decode cX11_few 91 = .ok (.goto 22, 3) := by decide +kernel
theorem dX11_few_94 : decode cX11_few 94 = .ok (.iload_n 2, 1) := by decide +kernel
theorem dX11_few_95 : decode cX11_few 95 = .ok (.ifCond .ne 12, 3) := by decide +kernel
theorem dX11_few_98 : decode cX11_few 98 = .ok (.aload_n 0, 1) := by decide +kernel
theorem dX11_few_99 : decode cX11_few 99 = .ok (.getfield 35, 3) := by decide +kernel
theorem dX11_few_102 : decode cX11_few 102 = .ok (.iload_n 3, 1) := by decide +kernel
theorem dX11_few_103 : decode cX11_few 103 = .ok (.iaload, 1) := by decide +kernel
theorem dX11_few_104 : decode cX11_few 104 = .ok (.goto 9, 3) := by decide +kernel
theorem dX11_few_107 : decode cX11_few 107 = .ok (.aload_n 0, 1) := by decide +kernel
theorem dX11_few_108 : decode cX11_few 108 = .ok (.getfield 42, 3) := by decide +kernel
theorem dX11_few_111 : decode cX11_few 111 = .ok (.iload_n 3, 1) := by decide +kernel
theorem dX11_few_112 : decode cX11_few 112 = .ok (.iaload, 1) := by decide +kernel
theorem dX11_few_113 : decode cX11_few 113 = .ok (.ireturn, 1) := by decide +kernel
abbrev rm_X11_few : Room := { frames := 5, cells := 0, slots := 0, locals := 115 }
theorem hd_X11_few : yX11_few.cls ≠ "java/lang/invoke/MethodHandle" ∧ yX11_few.cls ≠ "java/lang/invoke/VarHandle" ∧ (parseMethodDescriptor yX11_few.desc).map (fun d => d.parameters.length) = some 2 := by decide +kernel
def bk_X11_few_78 (Q : Int32 → (Int32 × (Nat → Int32) × (Nat → Int64) × (Nat → Int32) × (Nat → Int32)) → Prop) (B31 : Int32 → Int32 → Prop) (x4 : Int32) (s0 : Int32) : Prop :=
∀ y10 : Int32, y10 = (x4 + 1) →
B31 s0 y10
def bk_X11_few_77 (Q : Int32 → (Int32 × (Nat → Int32) × (Nat → Int64) × (Nat → Int32) × (Nat → Int32)) → Prop) (B31 : Int32 → Int32 → Prop) (x3 : Int32) (x4 : Int32) : Prop :=
bk_X11_few_78 Q B31 x4 x3
def bk_X11_few_72 (Q : Int32 → (Int32 × (Nat → Int32) × (Nat → Int64) × (Nat → Int32) × (Nat → Int32)) → Prop) (B31 : Int32 → Int32 → Prop) (x4 : Int32) : Prop :=
bk_X11_few_78 Q B31 x4 x4
def bd_X11_few_31 (Q : Int32 → (Int32 × (Nat → Int32) × (Nat → Int64) × (Nat → Int32) × (Nat → Int32)) → Prop) (B31 : Int32 → Int32 → Prop) (p1 : Int32) (p2 : Int32) (M_folds : Int32) (M_foldSet : Nat → Int32) (M_foldEdges : Nat → Int64) (M_foldNeeds : Nat → Int32) (M_foldYards : Nat → Int32) (x3 : Int32) (x4 : Int32) : Prop :=
((M_folds ≤ x4 → ((¬ x3 = (-1) → ((¬ p2 = 0 → vp_in x3 280 ∧ Q (M_foldNeeds x3.toNatClampNeg) (M_folds, M_foldSet, M_foldEdges, M_foldNeeds, M_foldYards)) ∧
(p2 = 0 → vp_in x3 280 ∧ Q (M_foldSet x3.toNatClampNeg) (M_folds, M_foldSet, M_foldEdges, M_foldNeeds, M_foldYards)))) ∧
(x3 = (-1) → Q (-1) (M_folds, M_foldSet, M_foldEdges, M_foldNeeds, M_foldYards)))) ∧
(¬ M_folds ≤ x4 → vp_in x4 280 ∧ (((M_foldYards x4.toNatClampNeg) < p1 → bk_X11_few_77 Q B31 x3 x4) ∧
(¬ (M_foldYards x4.toNatClampNeg) < p1 → ((x3 = (-1) → bk_X11_few_72 Q B31 x4) ∧
(¬ x3 = (-1) → vp_in x4 280 ∧ vp_in x3 280 ∧ (((M_foldNeeds x3.toNatClampNeg) ≤ (M_foldNeeds x4.toNatClampNeg) → bk_X11_few_77 Q B31 x3 x4) ∧
(¬ (M_foldNeeds x3.toNatClampNeg) ≤ (M_foldNeeds x4.toNatClampNeg) → bk_X11_few_72 Q B31 x4))))))))
def lp_X11_few_31 (Q : Int32 → (Int32 × (Nat → Int32) × (Nat → Int64) × (Nat → Int32) × (Nat → Int32)) → Prop) (p1 : Int32) (p2 : Int32) (M_folds : Int32) (M_foldSet : Nat → Int32) (M_foldEdges : Nat → Int64) (M_foldNeeds : Nat → Int32) (M_foldYards : Nat → Int32) (x3 : Int32) (x4 : Int32) : Prop :=
∃ I : Nat → Int32 → Int32 → Prop, (∃ n, I n x3 x4) ∧ ∀ n x3 x4, I n x3 x4 → bd_X11_few_31 Q  (fun x3' x4' => ∃ n', n' < n ∧ I n' x3' x4') p1 p2 M_folds M_foldSet M_foldEdges M_foldNeeds M_foldYards x3 x4
def wp_X11_few (p1 : Int32) (p2 : Int32) (M_wide : Int32) (M_high : Int32) (M_hedges : Int64) (M_folds : Int32) (M_square : Nat → Int32) (M_foldSet : Nat → Int32) (M_foldEdges : Nat → Int64) (M_foldNeeds : Nat → Int32) (M_foldYards : Nat → Int32) (Q : Int32 → (Int32 × (Nat → Int32) × (Nat → Int64) × (Nat → Int32) × (Nat → Int32)) → Prop) : Prop :=
wp_X11_in p1 0 90 (fun (r1 : Int32) => ((r1 = 0 → Q (-3) (M_folds, M_foldSet, M_foldEdges, M_foldNeeds, M_foldYards)) ∧
(¬ r1 = 0 → wp_X11_in p2 0 1 (fun (r3 : Int32) => ((¬ r3 = 0 → wp_X11_findFolds M_wide M_high M_hedges M_square M_foldSet M_foldEdges M_foldNeeds M_foldYards (fun (u5 : Int32 × (Nat → Int32) × (Nat → Int64) × (Nat → Int32) × (Nat → Int32)) => lp_X11_few_31 Q p1 p2 u5.1 u5.2.1 u5.2.2.1 u5.2.2.2.1 u5.2.2.2.2 (-1) 0)) ∧
(r3 = 0 → Q (-3) (M_folds, M_foldSet, M_foldEdges, M_foldNeeds, M_foldYards)))))))
set_option maxHeartbeats 4000000 in
set_option maxRecDepth 100000 in
theorem J_X11_few_78 {x : CX} {D : DG} {cyI cyJ cyZ : ClassId} {a_M a_M_square a_M_want a_M_text a_M_read a_M_row a_M_foldSet a_M_foldEdges a_M_foldNeeds a_M_foldYards a_M_least a_M_ways a_M_price a_M_rowBy a_M_columnBy a_M_rowOf a_M_wayBack a_M_slack a_M_isUsed a_M_lifted a_M_freed a_M_path : Nat} {M_wide : Int32} {M_high : Int32} {M_hedges : Int64} {M_hurdles : Int32} {M_wants : Int32} {M_rest : Int32} {M_frozen : Int32} {M_bytes : Int32} {M_position : Int32} {M_tokenAt : Int32} {M_token : Int64} {M_digits : Int32} {M_number : Int32} {M_faultAt : Int32} {M_readMany : Int32} {M_readWide : Int32} {M_readHigh : Int32} {M_nights : Int32} {M_why : Int32} {M_folds : Int32} {M_square : Nat → Int32} {M_want : Nat → Int32} {M_text : Nat → Int32} {M_read : Nat → Int32} {M_row : Nat → Int32} {M_foldSet : Nat → Int32} {M_foldEdges : Nat → Int64} {M_foldNeeds : Nat → Int32} {M_foldYards : Nat → Int32} {M_least : Nat → Int32} {M_ways : Nat → Int32} {M_price : Nat → Int32} {M_rowBy : Nat → Int32} {M_columnBy : Nat → Int32} {M_rowOf : Nat → Int32} {M_wayBack : Nat → Int32} {M_slack : Nat → Int32} {M_isUsed : Nat → Int32} {M_lifted : Nat → Int32} {M_freed : Nat → Int32} {M_path : Nat → Int32} {p1 : Int32} {p2 : Int32} {x4 : Int32} {s0 : Int32} {Q : Int32 → (Int32 × (Nat → Int32) × (Nat → Int64) × (Nat → Int32) × (Nat → Int32)) → Prop} {B31 : Int32 → Int32 → Prop} (cx : Cx x cX11_few 5 RX11 rm_X11_few D [(cyI, .int), (cyJ, .long), (cyZ, .boolean)]) (hR : ∀ (v : Int32) (u : Int32 × (Nat → Int32) × (Nat → Int64) × (Nat → Int32) × (Nat → Int32)) (pc : Nat) (lv : List (Nat × Value)), decode cX11_few pc = .ok (.ireturn, 1) → Q v u → J x 0 0 5 (W_Model cyI cyJ cyZ a_M a_M_square a_M_want a_M_text a_M_read a_M_row a_M_foldSet a_M_foldEdges a_M_foldNeeds a_M_foldYards a_M_least a_M_ways a_M_price a_M_rowBy a_M_columnBy a_M_rowOf a_M_wayBack a_M_slack a_M_isUsed a_M_lifted a_M_freed a_M_path M_wide M_high M_hedges M_hurdles M_wants M_rest M_frozen M_bytes M_position M_tokenAt M_token M_digits M_number M_faultAt M_readMany M_readWide M_readHigh M_nights M_why u.1 M_square M_want M_text M_read M_row u.2.1 u.2.2.1 u.2.2.2.1 u.2.2.2.2 M_least M_ways M_price M_rowBy M_columnBy M_rowOf M_wayBack M_slack M_isUsed M_lifted M_freed M_path) lv pc [.int v]) (hB31 : ∀ (x3 : Int32) (x4 : Int32), B31 x3 x4 → J x 0 0 5 (W_Model cyI cyJ cyZ a_M a_M_square a_M_want a_M_text a_M_read a_M_row a_M_foldSet a_M_foldEdges a_M_foldNeeds a_M_foldYards a_M_least a_M_ways a_M_price a_M_rowBy a_M_columnBy a_M_rowOf a_M_wayBack a_M_slack a_M_isUsed a_M_lifted a_M_freed a_M_path M_wide M_high M_hedges M_hurdles M_wants M_rest M_frozen M_bytes M_position M_tokenAt M_token M_digits M_number M_faultAt M_readMany M_readWide M_readHigh M_nights M_why M_folds M_square M_want M_text M_read M_row M_foldSet M_foldEdges M_foldNeeds M_foldYards M_least M_ways M_price M_rowBy M_columnBy M_rowOf M_wayBack M_slack M_isUsed M_lifted M_freed M_path) [(0, .ref a_M), (1, .int p1), (2, .int p2), (3, .int x3), (4, .int x4)] 31 []) (h : bk_X11_few_78 Q B31 x4 s0) :
    J x 0 0 5 (W_Model cyI cyJ cyZ a_M a_M_square a_M_want a_M_text a_M_read a_M_row a_M_foldSet a_M_foldEdges a_M_foldNeeds a_M_foldYards a_M_least a_M_ways a_M_price a_M_rowBy a_M_columnBy a_M_rowOf a_M_wayBack a_M_slack a_M_isUsed a_M_lifted a_M_freed a_M_path M_wide M_high M_hedges M_hurdles M_wants M_rest M_frozen M_bytes M_position M_tokenAt M_token M_digits M_number M_faultAt M_readMany M_readWide M_readHigh M_nights M_why M_folds M_square M_want M_text M_read M_row M_foldSet M_foldEdges M_foldNeeds M_foldYards M_least M_ways M_price M_rowBy M_columnBy M_rowOf M_wayBack M_slack M_isUsed M_lifted M_freed M_path) [(0, .ref a_M), (1, .int p1), (2, .int p2), (4, .int x4)] 78 [.int s0] := by
  unfold bk_X11_few_78 at h
  refine j_istore_n cx rfl [(3, .int s0), (0, .ref a_M), (1, .int p1), (2, .int p2), (4, .int x4)] (by decide) rfl dX11_few_78 (pn := 79) rfl ?_
  obtain ⟨y10, ey10⟩ : ∃ z : Int32, z = x4 + 1 := ⟨_, rfl⟩
  have h := h y10 ey10
  refine j_iinc cx 4 rfl (cst := 1) (by decide) ey10 [(4, .int y10), (3, .int s0), (0, .ref a_M), (1, .int p1), (2, .int p2)] (by decide) rfl dX11_few_79 (pn := 82) rfl ?_
  refine j_goto cx 31 dX11_few_82 rfl ?_
  refine j_sub [2, 3, 4, 1, 0] [(0, .ref a_M), (1, .int p1), (2, .int p2), (3, .int s0), (4, .int y10)] rfl ?_
  exact hB31 _ _ h
set_option maxHeartbeats 4000000 in
set_option maxRecDepth 100000 in
theorem J_X11_few_77 {x : CX} {D : DG} {cyI cyJ cyZ : ClassId} {a_M a_M_square a_M_want a_M_text a_M_read a_M_row a_M_foldSet a_M_foldEdges a_M_foldNeeds a_M_foldYards a_M_least a_M_ways a_M_price a_M_rowBy a_M_columnBy a_M_rowOf a_M_wayBack a_M_slack a_M_isUsed a_M_lifted a_M_freed a_M_path : Nat} {M_wide : Int32} {M_high : Int32} {M_hedges : Int64} {M_hurdles : Int32} {M_wants : Int32} {M_rest : Int32} {M_frozen : Int32} {M_bytes : Int32} {M_position : Int32} {M_tokenAt : Int32} {M_token : Int64} {M_digits : Int32} {M_number : Int32} {M_faultAt : Int32} {M_readMany : Int32} {M_readWide : Int32} {M_readHigh : Int32} {M_nights : Int32} {M_why : Int32} {M_folds : Int32} {M_square : Nat → Int32} {M_want : Nat → Int32} {M_text : Nat → Int32} {M_read : Nat → Int32} {M_row : Nat → Int32} {M_foldSet : Nat → Int32} {M_foldEdges : Nat → Int64} {M_foldNeeds : Nat → Int32} {M_foldYards : Nat → Int32} {M_least : Nat → Int32} {M_ways : Nat → Int32} {M_price : Nat → Int32} {M_rowBy : Nat → Int32} {M_columnBy : Nat → Int32} {M_rowOf : Nat → Int32} {M_wayBack : Nat → Int32} {M_slack : Nat → Int32} {M_isUsed : Nat → Int32} {M_lifted : Nat → Int32} {M_freed : Nat → Int32} {M_path : Nat → Int32} {p1 : Int32} {p2 : Int32} {x3 : Int32} {x4 : Int32} {Q : Int32 → (Int32 × (Nat → Int32) × (Nat → Int64) × (Nat → Int32) × (Nat → Int32)) → Prop} {B31 : Int32 → Int32 → Prop} (cx : Cx x cX11_few 5 RX11 rm_X11_few D [(cyI, .int), (cyJ, .long), (cyZ, .boolean)]) (hR : ∀ (v : Int32) (u : Int32 × (Nat → Int32) × (Nat → Int64) × (Nat → Int32) × (Nat → Int32)) (pc : Nat) (lv : List (Nat × Value)), decode cX11_few pc = .ok (.ireturn, 1) → Q v u → J x 0 0 5 (W_Model cyI cyJ cyZ a_M a_M_square a_M_want a_M_text a_M_read a_M_row a_M_foldSet a_M_foldEdges a_M_foldNeeds a_M_foldYards a_M_least a_M_ways a_M_price a_M_rowBy a_M_columnBy a_M_rowOf a_M_wayBack a_M_slack a_M_isUsed a_M_lifted a_M_freed a_M_path M_wide M_high M_hedges M_hurdles M_wants M_rest M_frozen M_bytes M_position M_tokenAt M_token M_digits M_number M_faultAt M_readMany M_readWide M_readHigh M_nights M_why u.1 M_square M_want M_text M_read M_row u.2.1 u.2.2.1 u.2.2.2.1 u.2.2.2.2 M_least M_ways M_price M_rowBy M_columnBy M_rowOf M_wayBack M_slack M_isUsed M_lifted M_freed M_path) lv pc [.int v]) (hB31 : ∀ (x3 : Int32) (x4 : Int32), B31 x3 x4 → J x 0 0 5 (W_Model cyI cyJ cyZ a_M a_M_square a_M_want a_M_text a_M_read a_M_row a_M_foldSet a_M_foldEdges a_M_foldNeeds a_M_foldYards a_M_least a_M_ways a_M_price a_M_rowBy a_M_columnBy a_M_rowOf a_M_wayBack a_M_slack a_M_isUsed a_M_lifted a_M_freed a_M_path M_wide M_high M_hedges M_hurdles M_wants M_rest M_frozen M_bytes M_position M_tokenAt M_token M_digits M_number M_faultAt M_readMany M_readWide M_readHigh M_nights M_why M_folds M_square M_want M_text M_read M_row M_foldSet M_foldEdges M_foldNeeds M_foldYards M_least M_ways M_price M_rowBy M_columnBy M_rowOf M_wayBack M_slack M_isUsed M_lifted M_freed M_path) [(0, .ref a_M), (1, .int p1), (2, .int p2), (3, .int x3), (4, .int x4)] 31 []) (h : bk_X11_few_77 Q B31 x3 x4) :
    J x 0 0 5 (W_Model cyI cyJ cyZ a_M a_M_square a_M_want a_M_text a_M_read a_M_row a_M_foldSet a_M_foldEdges a_M_foldNeeds a_M_foldYards a_M_least a_M_ways a_M_price a_M_rowBy a_M_columnBy a_M_rowOf a_M_wayBack a_M_slack a_M_isUsed a_M_lifted a_M_freed a_M_path M_wide M_high M_hedges M_hurdles M_wants M_rest M_frozen M_bytes M_position M_tokenAt M_token M_digits M_number M_faultAt M_readMany M_readWide M_readHigh M_nights M_why M_folds M_square M_want M_text M_read M_row M_foldSet M_foldEdges M_foldNeeds M_foldYards M_least M_ways M_price M_rowBy M_columnBy M_rowOf M_wayBack M_slack M_isUsed M_lifted M_freed M_path) [(0, .ref a_M), (1, .int p1), (2, .int p2), (3, .int x3), (4, .int x4)] 77 [] := by
  unfold bk_X11_few_77 at h
  refine j_iload_n cx 3 rfl rfl dX11_few_77 (pn := 78) rfl ?_
  refine j_sub [0, 1, 2, 4] [(0, .ref a_M), (1, .int p1), (2, .int p2), (4, .int x4)] rfl ?_
  exact J_X11_few_78 cx hR hB31 h
set_option maxHeartbeats 4000000 in
set_option maxRecDepth 100000 in
theorem J_X11_few_72 {x : CX} {D : DG} {cyI cyJ cyZ : ClassId} {a_M a_M_square a_M_want a_M_text a_M_read a_M_row a_M_foldSet a_M_foldEdges a_M_foldNeeds a_M_foldYards a_M_least a_M_ways a_M_price a_M_rowBy a_M_columnBy a_M_rowOf a_M_wayBack a_M_slack a_M_isUsed a_M_lifted a_M_freed a_M_path : Nat} {M_wide : Int32} {M_high : Int32} {M_hedges : Int64} {M_hurdles : Int32} {M_wants : Int32} {M_rest : Int32} {M_frozen : Int32} {M_bytes : Int32} {M_position : Int32} {M_tokenAt : Int32} {M_token : Int64} {M_digits : Int32} {M_number : Int32} {M_faultAt : Int32} {M_readMany : Int32} {M_readWide : Int32} {M_readHigh : Int32} {M_nights : Int32} {M_why : Int32} {M_folds : Int32} {M_square : Nat → Int32} {M_want : Nat → Int32} {M_text : Nat → Int32} {M_read : Nat → Int32} {M_row : Nat → Int32} {M_foldSet : Nat → Int32} {M_foldEdges : Nat → Int64} {M_foldNeeds : Nat → Int32} {M_foldYards : Nat → Int32} {M_least : Nat → Int32} {M_ways : Nat → Int32} {M_price : Nat → Int32} {M_rowBy : Nat → Int32} {M_columnBy : Nat → Int32} {M_rowOf : Nat → Int32} {M_wayBack : Nat → Int32} {M_slack : Nat → Int32} {M_isUsed : Nat → Int32} {M_lifted : Nat → Int32} {M_freed : Nat → Int32} {M_path : Nat → Int32} {p1 : Int32} {p2 : Int32} {x4 : Int32} {Q : Int32 → (Int32 × (Nat → Int32) × (Nat → Int64) × (Nat → Int32) × (Nat → Int32)) → Prop} {B31 : Int32 → Int32 → Prop} (cx : Cx x cX11_few 5 RX11 rm_X11_few D [(cyI, .int), (cyJ, .long), (cyZ, .boolean)]) (hR : ∀ (v : Int32) (u : Int32 × (Nat → Int32) × (Nat → Int64) × (Nat → Int32) × (Nat → Int32)) (pc : Nat) (lv : List (Nat × Value)), decode cX11_few pc = .ok (.ireturn, 1) → Q v u → J x 0 0 5 (W_Model cyI cyJ cyZ a_M a_M_square a_M_want a_M_text a_M_read a_M_row a_M_foldSet a_M_foldEdges a_M_foldNeeds a_M_foldYards a_M_least a_M_ways a_M_price a_M_rowBy a_M_columnBy a_M_rowOf a_M_wayBack a_M_slack a_M_isUsed a_M_lifted a_M_freed a_M_path M_wide M_high M_hedges M_hurdles M_wants M_rest M_frozen M_bytes M_position M_tokenAt M_token M_digits M_number M_faultAt M_readMany M_readWide M_readHigh M_nights M_why u.1 M_square M_want M_text M_read M_row u.2.1 u.2.2.1 u.2.2.2.1 u.2.2.2.2 M_least M_ways M_price M_rowBy M_columnBy M_rowOf M_wayBack M_slack M_isUsed M_lifted M_freed M_path) lv pc [.int v]) (hB31 : ∀ (x3 : Int32) (x4 : Int32), B31 x3 x4 → J x 0 0 5 (W_Model cyI cyJ cyZ a_M a_M_square a_M_want a_M_text a_M_read a_M_row a_M_foldSet a_M_foldEdges a_M_foldNeeds a_M_foldYards a_M_least a_M_ways a_M_price a_M_rowBy a_M_columnBy a_M_rowOf a_M_wayBack a_M_slack a_M_isUsed a_M_lifted a_M_freed a_M_path M_wide M_high M_hedges M_hurdles M_wants M_rest M_frozen M_bytes M_position M_tokenAt M_token M_digits M_number M_faultAt M_readMany M_readWide M_readHigh M_nights M_why M_folds M_square M_want M_text M_read M_row M_foldSet M_foldEdges M_foldNeeds M_foldYards M_least M_ways M_price M_rowBy M_columnBy M_rowOf M_wayBack M_slack M_isUsed M_lifted M_freed M_path) [(0, .ref a_M), (1, .int p1), (2, .int p2), (3, .int x3), (4, .int x4)] 31 []) (h : bk_X11_few_72 Q B31 x4) :
    J x 0 0 5 (W_Model cyI cyJ cyZ a_M a_M_square a_M_want a_M_text a_M_read a_M_row a_M_foldSet a_M_foldEdges a_M_foldNeeds a_M_foldYards a_M_least a_M_ways a_M_price a_M_rowBy a_M_columnBy a_M_rowOf a_M_wayBack a_M_slack a_M_isUsed a_M_lifted a_M_freed a_M_path M_wide M_high M_hedges M_hurdles M_wants M_rest M_frozen M_bytes M_position M_tokenAt M_token M_digits M_number M_faultAt M_readMany M_readWide M_readHigh M_nights M_why M_folds M_square M_want M_text M_read M_row M_foldSet M_foldEdges M_foldNeeds M_foldYards M_least M_ways M_price M_rowBy M_columnBy M_rowOf M_wayBack M_slack M_isUsed M_lifted M_freed M_path) [(0, .ref a_M), (1, .int p1), (2, .int p2), (4, .int x4)] 72 [] := by
  unfold bk_X11_few_72 at h
  refine j_iload cx 3 rfl dX11_few_72 (pn := 74) rfl ?_
  refine j_goto cx 78 dX11_few_74 rfl ?_
  exact J_X11_few_78 cx hR hB31 h
set_option maxHeartbeats 4000000 in
set_option maxRecDepth 100000 in
theorem B_X11_few_31 {x : CX} {D : DG} {cyI cyJ cyZ : ClassId} {a_M a_M_square a_M_want a_M_text a_M_read a_M_row a_M_foldSet a_M_foldEdges a_M_foldNeeds a_M_foldYards a_M_least a_M_ways a_M_price a_M_rowBy a_M_columnBy a_M_rowOf a_M_wayBack a_M_slack a_M_isUsed a_M_lifted a_M_freed a_M_path : Nat} {M_wide : Int32} {M_high : Int32} {M_hedges : Int64} {M_hurdles : Int32} {M_wants : Int32} {M_rest : Int32} {M_frozen : Int32} {M_bytes : Int32} {M_position : Int32} {M_tokenAt : Int32} {M_token : Int64} {M_digits : Int32} {M_number : Int32} {M_faultAt : Int32} {M_readMany : Int32} {M_readWide : Int32} {M_readHigh : Int32} {M_nights : Int32} {M_why : Int32} {M_folds : Int32} {M_square : Nat → Int32} {M_want : Nat → Int32} {M_text : Nat → Int32} {M_read : Nat → Int32} {M_row : Nat → Int32} {M_foldSet : Nat → Int32} {M_foldEdges : Nat → Int64} {M_foldNeeds : Nat → Int32} {M_foldYards : Nat → Int32} {M_least : Nat → Int32} {M_ways : Nat → Int32} {M_price : Nat → Int32} {M_rowBy : Nat → Int32} {M_columnBy : Nat → Int32} {M_rowOf : Nat → Int32} {M_wayBack : Nat → Int32} {M_slack : Nat → Int32} {M_isUsed : Nat → Int32} {M_lifted : Nat → Int32} {M_freed : Nat → Int32} {M_path : Nat → Int32} {p1 : Int32} {p2 : Int32} {x3 : Int32} {x4 : Int32} {Q : Int32 → (Int32 × (Nat → Int32) × (Nat → Int64) × (Nat → Int32) × (Nat → Int32)) → Prop} {B31 : Int32 → Int32 → Prop} (cx : Cx x cX11_few 5 RX11 rm_X11_few D [(cyI, .int), (cyJ, .long), (cyZ, .boolean)]) (hR : ∀ (v : Int32) (u : Int32 × (Nat → Int32) × (Nat → Int64) × (Nat → Int32) × (Nat → Int32)) (pc : Nat) (lv : List (Nat × Value)), decode cX11_few pc = .ok (.ireturn, 1) → Q v u → J x 0 0 5 (W_Model cyI cyJ cyZ a_M a_M_square a_M_want a_M_text a_M_read a_M_row a_M_foldSet a_M_foldEdges a_M_foldNeeds a_M_foldYards a_M_least a_M_ways a_M_price a_M_rowBy a_M_columnBy a_M_rowOf a_M_wayBack a_M_slack a_M_isUsed a_M_lifted a_M_freed a_M_path M_wide M_high M_hedges M_hurdles M_wants M_rest M_frozen M_bytes M_position M_tokenAt M_token M_digits M_number M_faultAt M_readMany M_readWide M_readHigh M_nights M_why u.1 M_square M_want M_text M_read M_row u.2.1 u.2.2.1 u.2.2.2.1 u.2.2.2.2 M_least M_ways M_price M_rowBy M_columnBy M_rowOf M_wayBack M_slack M_isUsed M_lifted M_freed M_path) lv pc [.int v]) (hB31 : ∀ (x3 : Int32) (x4 : Int32), B31 x3 x4 → J x 0 0 5 (W_Model cyI cyJ cyZ a_M a_M_square a_M_want a_M_text a_M_read a_M_row a_M_foldSet a_M_foldEdges a_M_foldNeeds a_M_foldYards a_M_least a_M_ways a_M_price a_M_rowBy a_M_columnBy a_M_rowOf a_M_wayBack a_M_slack a_M_isUsed a_M_lifted a_M_freed a_M_path M_wide M_high M_hedges M_hurdles M_wants M_rest M_frozen M_bytes M_position M_tokenAt M_token M_digits M_number M_faultAt M_readMany M_readWide M_readHigh M_nights M_why M_folds M_square M_want M_text M_read M_row M_foldSet M_foldEdges M_foldNeeds M_foldYards M_least M_ways M_price M_rowBy M_columnBy M_rowOf M_wayBack M_slack M_isUsed M_lifted M_freed M_path) [(0, .ref a_M), (1, .int p1), (2, .int p2), (3, .int x3), (4, .int x4)] 31 []) (h : bd_X11_few_31 Q B31 p1 p2 M_folds M_foldSet M_foldEdges M_foldNeeds M_foldYards x3 x4) :
    J x 0 0 5 (W_Model cyI cyJ cyZ a_M a_M_square a_M_want a_M_text a_M_read a_M_row a_M_foldSet a_M_foldEdges a_M_foldNeeds a_M_foldYards a_M_least a_M_ways a_M_price a_M_rowBy a_M_columnBy a_M_rowOf a_M_wayBack a_M_slack a_M_isUsed a_M_lifted a_M_freed a_M_path M_wide M_high M_hedges M_hurdles M_wants M_rest M_frozen M_bytes M_position M_tokenAt M_token M_digits M_number M_faultAt M_readMany M_readWide M_readHigh M_nights M_why M_folds M_square M_want M_text M_read M_row M_foldSet M_foldEdges M_foldNeeds M_foldYards M_least M_ways M_price M_rowBy M_columnBy M_rowOf M_wayBack M_slack M_isUsed M_lifted M_freed M_path) [(0, .ref a_M), (1, .int p1), (2, .int p2), (3, .int x3), (4, .int x4)] 31 [] := by
  unfold bd_X11_few_31 at h
  refine j_iload cx 4 rfl dX11_few_31 (pn := 33) rfl ?_
  refine j_aload_n cx 0 rfl rfl dX11_few_33 (pn := 34) rfl ?_
  refine j_get cx inGX11 0 rfl rfl 24 (by decide) q_fl_X11_284 rfl rfl dX11_few_34 (pn := 37) rfl ?_
  refine j_icmp_ge cx 85 dX11_few_37 (pn := 40) rfl rfl (fun c6 => ?_) (fun c6 => ?_)
  · have h := h.1 c6
    refine j_iload_n cx 3 rfl rfl dX11_few_85 (pn := 86) rfl ?_
    refine j_iconst cx (v := (-1)) (by decide) dX11_few_86 (pn := 87) rfl ?_
    refine j_icmp_ne cx 94 dX11_few_87 (pn := 90) rfl rfl (fun c7 => ?_) (fun c7 => ?_)
    · have h := h.1 c7
      refine j_iload_n cx 2 rfl rfl dX11_few_94 (pn := 95) rfl ?_
      refine j_if_ne cx 107 dX11_few_95 (pn := 98) rfl rfl (fun c8 => ?_) (fun c8 => ?_)
      · have h := h.1 c8
        refine j_aload_n cx 0 rfl rfl dX11_few_107 (pn := 108) rfl ?_
        refine j_get cx inGX11 0 rfl rfl 27 (by decide) q_fl_X11_42 rfl rfl dX11_few_108 (pn := 111) rfl ?_
        refine j_iload_n cx 3 rfl rfl dX11_few_111 (pn := 112) rfl ?_
        refine j_iald cx 8 0 rfl rfl h.1 dX11_few_112 (pn := 113) rfl ?_
        have h := h.2
        exact hR (M_foldNeeds x3.toNatClampNeg) (M_folds, M_foldSet, M_foldEdges, M_foldNeeds, M_foldYards) 113 _ dX11_few_113 h
      · have h := h.2 c8
        refine j_aload_n cx 0 rfl rfl dX11_few_98 (pn := 99) rfl ?_
        refine j_get cx inGX11 0 rfl rfl 25 (by decide) q_fl_X11_35 rfl rfl dX11_few_99 (pn := 102) rfl ?_
        refine j_iload_n cx 3 rfl rfl dX11_few_102 (pn := 103) rfl ?_
        refine j_iald cx 6 0 rfl rfl h.1 dX11_few_103 (pn := 104) rfl ?_
        have h := h.2
        refine j_goto cx 113 dX11_few_104 rfl ?_
        exact hR (M_foldSet x3.toNatClampNeg) (M_folds, M_foldSet, M_foldEdges, M_foldNeeds, M_foldYards) 113 _ dX11_few_113 h
    · have h := h.2 c7
      refine j_iconst cx (v := (-1)) (by decide) dX11_few_90 (pn := 91) rfl ?_
      refine j_goto cx 113 dX11_few_91 rfl ?_
      exact hR (-1) (M_folds, M_foldSet, M_foldEdges, M_foldNeeds, M_foldYards) 113 _ dX11_few_113 h
  · have h := h.2 c6
    refine j_aload_n cx 0 rfl rfl dX11_few_40 (pn := 41) rfl ?_
    refine j_get cx inGX11 0 rfl rfl 28 (by decide) q_fl_X11_45 rfl rfl dX11_few_41 (pn := 44) rfl ?_
    refine j_iload cx 4 rfl dX11_few_44 (pn := 46) rfl ?_
    refine j_iald cx 9 0 rfl rfl h.1 dX11_few_46 (pn := 47) rfl ?_
    have h := h.2
    refine j_iload_n cx 1 rfl rfl dX11_few_47 (pn := 48) rfl ?_
    refine j_icmp_lt cx 77 dX11_few_48 (pn := 51) rfl rfl (fun c9 => ?_) (fun c9 => ?_)
    · have h := h.1 c9
      exact J_X11_few_77 cx hR hB31 h
    · have h := h.2 c9
      refine j_iload_n cx 3 rfl rfl dX11_few_51 (pn := 52) rfl ?_
      refine j_iconst cx (v := (-1)) (by decide) dX11_few_52 (pn := 53) rfl ?_
      refine j_icmp_eq cx 72 dX11_few_53 (pn := 56) rfl rfl (fun c11 => ?_) (fun c11 => ?_)
      · have h := h.1 c11
        refine j_sub [0, 1, 2, 4] [(0, .ref a_M), (1, .int p1), (2, .int p2), (4, .int x4)] rfl ?_
        exact J_X11_few_72 cx hR hB31 h
      · have h := h.2 c11
        refine j_aload_n cx 0 rfl rfl dX11_few_56 (pn := 57) rfl ?_
        refine j_get cx inGX11 0 rfl rfl 27 (by decide) q_fl_X11_42 rfl rfl dX11_few_57 (pn := 60) rfl ?_
        refine j_iload cx 4 rfl dX11_few_60 (pn := 62) rfl ?_
        refine j_iald cx 8 0 rfl rfl h.1 dX11_few_62 (pn := 63) rfl ?_
        have h := h.2
        refine j_aload_n cx 0 rfl rfl dX11_few_63 (pn := 64) rfl ?_
        refine j_get cx inGX11 0 rfl rfl 27 (by decide) q_fl_X11_42 rfl rfl dX11_few_64 (pn := 67) rfl ?_
        refine j_iload_n cx 3 rfl rfl dX11_few_67 (pn := 68) rfl ?_
        refine j_iald cx 8 0 rfl rfl h.1 dX11_few_68 (pn := 69) rfl ?_
        have h := h.2
        refine j_icmp_ge cx 77 dX11_few_69 (pn := 72) rfl rfl (fun c12 => ?_) (fun c12 => ?_)
        · have h := h.1 c12
          exact J_X11_few_77 cx hR hB31 h
        · have h := h.2 c12
          refine j_sub [0, 1, 2, 4] [(0, .ref a_M), (1, .int p1), (2, .int p2), (4, .int x4)] rfl ?_
          exact J_X11_few_72 cx hR hB31 h
set_option maxHeartbeats 4000000 in
set_option maxRecDepth 100000 in
theorem J_X11_few_31 {x : CX} {D : DG} {cyI cyJ cyZ : ClassId} {a_M a_M_square a_M_want a_M_text a_M_read a_M_row a_M_foldSet a_M_foldEdges a_M_foldNeeds a_M_foldYards a_M_least a_M_ways a_M_price a_M_rowBy a_M_columnBy a_M_rowOf a_M_wayBack a_M_slack a_M_isUsed a_M_lifted a_M_freed a_M_path : Nat} {M_wide : Int32} {M_high : Int32} {M_hedges : Int64} {M_hurdles : Int32} {M_wants : Int32} {M_rest : Int32} {M_frozen : Int32} {M_bytes : Int32} {M_position : Int32} {M_tokenAt : Int32} {M_token : Int64} {M_digits : Int32} {M_number : Int32} {M_faultAt : Int32} {M_readMany : Int32} {M_readWide : Int32} {M_readHigh : Int32} {M_nights : Int32} {M_why : Int32} {M_folds : Int32} {M_square : Nat → Int32} {M_want : Nat → Int32} {M_text : Nat → Int32} {M_read : Nat → Int32} {M_row : Nat → Int32} {M_foldSet : Nat → Int32} {M_foldEdges : Nat → Int64} {M_foldNeeds : Nat → Int32} {M_foldYards : Nat → Int32} {M_least : Nat → Int32} {M_ways : Nat → Int32} {M_price : Nat → Int32} {M_rowBy : Nat → Int32} {M_columnBy : Nat → Int32} {M_rowOf : Nat → Int32} {M_wayBack : Nat → Int32} {M_slack : Nat → Int32} {M_isUsed : Nat → Int32} {M_lifted : Nat → Int32} {M_freed : Nat → Int32} {M_path : Nat → Int32} {p1 : Int32} {p2 : Int32} {x3 : Int32} {x4 : Int32} {Q : Int32 → (Int32 × (Nat → Int32) × (Nat → Int64) × (Nat → Int32) × (Nat → Int32)) → Prop} (cx : Cx x cX11_few 5 RX11 rm_X11_few D [(cyI, .int), (cyJ, .long), (cyZ, .boolean)]) (hR : ∀ (v : Int32) (u : Int32 × (Nat → Int32) × (Nat → Int64) × (Nat → Int32) × (Nat → Int32)) (pc : Nat) (lv : List (Nat × Value)), decode cX11_few pc = .ok (.ireturn, 1) → Q v u → J x 0 0 5 (W_Model cyI cyJ cyZ a_M a_M_square a_M_want a_M_text a_M_read a_M_row a_M_foldSet a_M_foldEdges a_M_foldNeeds a_M_foldYards a_M_least a_M_ways a_M_price a_M_rowBy a_M_columnBy a_M_rowOf a_M_wayBack a_M_slack a_M_isUsed a_M_lifted a_M_freed a_M_path M_wide M_high M_hedges M_hurdles M_wants M_rest M_frozen M_bytes M_position M_tokenAt M_token M_digits M_number M_faultAt M_readMany M_readWide M_readHigh M_nights M_why u.1 M_square M_want M_text M_read M_row u.2.1 u.2.2.1 u.2.2.2.1 u.2.2.2.2 M_least M_ways M_price M_rowBy M_columnBy M_rowOf M_wayBack M_slack M_isUsed M_lifted M_freed M_path) lv pc [.int v]) (h : lp_X11_few_31 Q  p1 p2 M_folds M_foldSet M_foldEdges M_foldNeeds M_foldYards x3 x4) :
    J x 0 0 5 (W_Model cyI cyJ cyZ a_M a_M_square a_M_want a_M_text a_M_read a_M_row a_M_foldSet a_M_foldEdges a_M_foldNeeds a_M_foldYards a_M_least a_M_ways a_M_price a_M_rowBy a_M_columnBy a_M_rowOf a_M_wayBack a_M_slack a_M_isUsed a_M_lifted a_M_freed a_M_path M_wide M_high M_hedges M_hurdles M_wants M_rest M_frozen M_bytes M_position M_tokenAt M_token M_digits M_number M_faultAt M_readMany M_readWide M_readHigh M_nights M_why M_folds M_square M_want M_text M_read M_row M_foldSet M_foldEdges M_foldNeeds M_foldYards M_least M_ways M_price M_rowBy M_columnBy M_rowOf M_wayBack M_slack M_isUsed M_lifted M_freed M_path) [(0, .ref a_M), (1, .int p1), (2, .int p2), (3, .int x3), (4, .int x4)] 31 [] := by
  obtain ⟨I, ⟨n, h0⟩, hb⟩ := h
  revert x3 x4
  induction n using Nat.strongRecOn with
  | _ n ih =>
    intro x3 x4 h0
    exact B_X11_few_31 cx hR (fun _ _ hz => by obtain ⟨n2, hlt, hI⟩ := hz; exact ih n2 hlt hI) (hb n x3 x4 h0)
set_option maxHeartbeats 4000000 in
set_option maxRecDepth 100000 in
theorem c_X11_few {D : DG} {cyI cyJ cyZ : ClassId} {a_M a_M_square a_M_want a_M_text a_M_read a_M_row a_M_foldSet a_M_foldEdges a_M_foldNeeds a_M_foldYards a_M_least a_M_ways a_M_price a_M_rowBy a_M_columnBy a_M_rowOf a_M_wayBack a_M_slack a_M_isUsed a_M_lifted a_M_freed a_M_path : Nat} {M_wide : Int32} {M_high : Int32} {M_hedges : Int64} {M_hurdles : Int32} {M_wants : Int32} {M_rest : Int32} {M_frozen : Int32} {M_bytes : Int32} {M_position : Int32} {M_tokenAt : Int32} {M_token : Int64} {M_digits : Int32} {M_number : Int32} {M_faultAt : Int32} {M_readMany : Int32} {M_readWide : Int32} {M_readHigh : Int32} {M_nights : Int32} {M_why : Int32} {M_folds : Int32} {M_square : Nat → Int32} {M_want : Nat → Int32} {M_text : Nat → Int32} {M_read : Nat → Int32} {M_row : Nat → Int32} {M_foldSet : Nat → Int32} {M_foldEdges : Nat → Int64} {M_foldNeeds : Nat → Int32} {M_foldYards : Nat → Int32} {M_least : Nat → Int32} {M_ways : Nat → Int32} {M_price : Nat → Int32} {M_rowBy : Nat → Int32} {M_columnBy : Nat → Int32} {M_rowOf : Nat → Int32} {M_wayBack : Nat → Int32} {M_slack : Nat → Int32} {M_isUsed : Nat → Int32} {M_lifted : Nat → Int32} {M_freed : Nat → Int32} {M_path : Nat → Int32} {p1 : Int32} {p2 : Int32} {Q : Int32 → (Int32 × (Nat → Int32) × (Nat → Int64) × (Nat → Int32) × (Nat → Int32)) → Prop} (h : wp_X11_few p1 p2 M_wide M_high M_hedges M_folds M_square M_foldSet M_foldEdges M_foldNeeds M_foldYards Q) :
    MetI yX11_few cX11_few 5 (some .int) rm_X11_few D [(cyI, .int), (cyJ, .long), (cyZ, .boolean)] [.ref a_M, .int p1, .int p2] (W_Model cyI cyJ cyZ a_M a_M_square a_M_want a_M_text a_M_read a_M_row a_M_foldSet a_M_foldEdges a_M_foldNeeds a_M_foldYards a_M_least a_M_ways a_M_price a_M_rowBy a_M_columnBy a_M_rowOf a_M_wayBack a_M_slack a_M_isUsed a_M_lifted a_M_freed a_M_path M_wide M_high M_hedges M_hurdles M_wants M_rest M_frozen M_bytes M_position M_tokenAt M_token M_digits M_number M_faultAt M_readMany M_readWide M_readHigh M_nights M_why M_folds M_square M_want M_text M_read M_row M_foldSet M_foldEdges M_foldNeeds M_foldYards M_least M_ways M_price M_rowBy M_columnBy M_rowOf M_wayBack M_slack M_isUsed M_lifted M_freed M_path) (fun u : Int32 × (Nat → Int32) × (Nat → Int64) × (Nat → Int32) × (Nat → Int32) => (W_Model cyI cyJ cyZ a_M a_M_square a_M_want a_M_text a_M_read a_M_row a_M_foldSet a_M_foldEdges a_M_foldNeeds a_M_foldYards a_M_least a_M_ways a_M_price a_M_rowBy a_M_columnBy a_M_rowOf a_M_wayBack a_M_slack a_M_isUsed a_M_lifted a_M_freed a_M_path M_wide M_high M_hedges M_hurdles M_wants M_rest M_frozen M_bytes M_position M_tokenAt M_token M_digits M_number M_faultAt M_readMany M_readWide M_readHigh M_nights M_why u.1 M_square M_want M_text M_read M_row u.2.1 u.2.2.1 u.2.2.2.1 u.2.2.2.2 M_least M_ways M_price M_rowBy M_columnBy M_rowOf M_wayBack M_slack M_isUsed M_lifted M_freed M_path)) (fun v u => Q v u) := by
  unfold wp_X11_few at h
  refine metI_of (by decide) (Nat.le_of_ble_eq_true rfl) (fun x cx0 hR0 => ?_)
  have cx : Cx x cX11_few 5 RX11 rm_X11_few D [(cyI, .int), (cyJ, .long), (cyZ, .boolean)] := cx0
  have hR : ∀ (v : Int32) (u : Int32 × (Nat → Int32) × (Nat → Int64) × (Nat → Int32) × (Nat → Int32)) (pc : Nat) (lv : List (Nat × Value)), decode cX11_few pc = .ok (.ireturn, 1) → Q v u → J x 0 0 5 (W_Model cyI cyJ cyZ a_M a_M_square a_M_want a_M_text a_M_read a_M_row a_M_foldSet a_M_foldEdges a_M_foldNeeds a_M_foldYards a_M_least a_M_ways a_M_price a_M_rowBy a_M_columnBy a_M_rowOf a_M_wayBack a_M_slack a_M_isUsed a_M_lifted a_M_freed a_M_path M_wide M_high M_hedges M_hurdles M_wants M_rest M_frozen M_bytes M_position M_tokenAt M_token M_digits M_number M_faultAt M_readMany M_readWide M_readHigh M_nights M_why u.1 M_square M_want M_text M_read M_row u.2.1 u.2.2.1 u.2.2.2.1 u.2.2.2.2 M_least M_ways M_price M_rowBy M_columnBy M_rowOf M_wayBack M_slack M_isUsed M_lifted M_freed M_path) lv pc [.int v] := (fun v u pc lv d hq => hR0 v u pc lv d hq)
  show J x 0 0 5 (W_Model cyI cyJ cyZ a_M a_M_square a_M_want a_M_text a_M_read a_M_row a_M_foldSet a_M_foldEdges a_M_foldNeeds a_M_foldYards a_M_least a_M_ways a_M_price a_M_rowBy a_M_columnBy a_M_rowOf a_M_wayBack a_M_slack a_M_isUsed a_M_lifted a_M_freed a_M_path M_wide M_high M_hedges M_hurdles M_wants M_rest M_frozen M_bytes M_position M_tokenAt M_token M_digits M_number M_faultAt M_readMany M_readWide M_readHigh M_nights M_why M_folds M_square M_want M_text M_read M_row M_foldSet M_foldEdges M_foldNeeds M_foldYards M_least M_ways M_price M_rowBy M_columnBy M_rowOf M_wayBack M_slack M_isUsed M_lifted M_freed M_path) [(0, .ref a_M), (1, .int p1), (2, .int p2)] 0 []
  refine j_iload_n cx 1 rfl rfl dX11_few_0 (pn := 1) rfl ?_
  refine j_iconst cx (v := 0) (by decide) dX11_few_1 (pn := 2) rfl ?_
  refine j_bipush cx (v := 90) (by decide) dX11_few_2 (pn := 4) rfl ?_
  refine j_calleI cx q_stat_X11_in (As := [.int p1, .int 0, .int 90]) (rest := []) (c_X11_in h) ⟨q_code_X11_in, q_ml_X11_90, q_init_X11, hd_X11_in, ⟨Nat.le_of_ble_eq_true rfl, Nat.le_of_ble_eq_true rfl⟩, Nat.le_of_ble_eq_true rfl, Nat.le_of_ble_eq_true rfl⟩ rfl rfl (Nat.le_of_ble_eq_true rfl) dX11_few_4 (pn := 7) rfl (fun r1 h => ?_)
  show J x 0 0 5 (W_Model cyI cyJ cyZ a_M a_M_square a_M_want a_M_text a_M_read a_M_row a_M_foldSet a_M_foldEdges a_M_foldNeeds a_M_foldYards a_M_least a_M_ways a_M_price a_M_rowBy a_M_columnBy a_M_rowOf a_M_wayBack a_M_slack a_M_isUsed a_M_lifted a_M_freed a_M_path M_wide M_high M_hedges M_hurdles M_wants M_rest M_frozen M_bytes M_position M_tokenAt M_token M_digits M_number M_faultAt M_readMany M_readWide M_readHigh M_nights M_why M_folds M_square M_want M_text M_read M_row M_foldSet M_foldEdges M_foldNeeds M_foldYards M_least M_ways M_price M_rowBy M_columnBy M_rowOf M_wayBack M_slack M_isUsed M_lifted M_freed M_path) [(0, .ref a_M), (1, .int p1), (2, .int p2)] 7 [.int r1]
  refine j_if_eq cx 19 dX11_few_7 (pn := 10) rfl rfl (fun c2 => ?_) (fun c2 => ?_)
  · have h := h.1 c2
    refine j_bipush cx (v := (-3)) (by decide) dX11_few_19 (pn := 21) rfl ?_
    exact hR (-3) (M_folds, M_foldSet, M_foldEdges, M_foldNeeds, M_foldYards) 21 _ dX11_few_21 h
  · have h := h.2 c2
    refine j_iload_n cx 2 rfl rfl dX11_few_10 (pn := 11) rfl ?_
    refine j_iconst cx (v := 0) (by decide) dX11_few_11 (pn := 12) rfl ?_
    refine j_iconst cx (v := 1) (by decide) dX11_few_12 (pn := 13) rfl ?_
    refine j_calleI cx q_stat_X11_in (As := [.int p2, .int 0, .int 1]) (rest := []) (c_X11_in h) ⟨q_code_X11_in, q_ml_X11_90, q_init_X11, hd_X11_in, ⟨Nat.le_of_ble_eq_true rfl, Nat.le_of_ble_eq_true rfl⟩, Nat.le_of_ble_eq_true rfl, Nat.le_of_ble_eq_true rfl⟩ rfl rfl (Nat.le_of_ble_eq_true rfl) dX11_few_13 (pn := 16) rfl (fun r3 h => ?_)
    show J x 0 0 5 (W_Model cyI cyJ cyZ a_M a_M_square a_M_want a_M_text a_M_read a_M_row a_M_foldSet a_M_foldEdges a_M_foldNeeds a_M_foldYards a_M_least a_M_ways a_M_price a_M_rowBy a_M_columnBy a_M_rowOf a_M_wayBack a_M_slack a_M_isUsed a_M_lifted a_M_freed a_M_path M_wide M_high M_hedges M_hurdles M_wants M_rest M_frozen M_bytes M_position M_tokenAt M_token M_digits M_number M_faultAt M_readMany M_readWide M_readHigh M_nights M_why M_folds M_square M_want M_text M_read M_row M_foldSet M_foldEdges M_foldNeeds M_foldYards M_least M_ways M_price M_rowBy M_columnBy M_rowOf M_wayBack M_slack M_isUsed M_lifted M_freed M_path) [(0, .ref a_M), (1, .int p1), (2, .int p2)] 16 [.int r3]
    refine j_if_ne cx 22 dX11_few_16 (pn := 19) rfl rfl (fun c4 => ?_) (fun c4 => ?_)
    · have h := h.1 c4
      refine j_aload_n cx 0 rfl rfl dX11_few_22 (pn := 23) rfl ?_
      refine j_callvV0 cx q_inst_X11_findFolds q_sel_X11_findFolds (b := a_M) (As := []) (rest := []) (c_X11_findFolds h) ⟨q_code_X11_findFolds, q_ml_X11_287, q_init_X11, hd_X11_findFolds, ⟨Nat.le_of_ble_eq_true rfl, Nat.le_of_ble_eq_true rfl⟩, Nat.le_of_ble_eq_true rfl, Nat.le_of_ble_eq_true rfl⟩ (q0 := 0) rfl rfl rfl rfl (Nat.le_of_ble_eq_true rfl) dX11_few_23 (pn := 26) rfl (fun u5 h => ?_)
      show J x 0 0 5 (W_Model cyI cyJ cyZ a_M a_M_square a_M_want a_M_text a_M_read a_M_row a_M_foldSet a_M_foldEdges a_M_foldNeeds a_M_foldYards a_M_least a_M_ways a_M_price a_M_rowBy a_M_columnBy a_M_rowOf a_M_wayBack a_M_slack a_M_isUsed a_M_lifted a_M_freed a_M_path M_wide M_high M_hedges M_hurdles M_wants M_rest M_frozen M_bytes M_position M_tokenAt M_token M_digits M_number M_faultAt M_readMany M_readWide M_readHigh M_nights M_why u5.1 M_square M_want M_text M_read M_row u5.2.1 u5.2.2.1 u5.2.2.2.1 u5.2.2.2.2 M_least M_ways M_price M_rowBy M_columnBy M_rowOf M_wayBack M_slack M_isUsed M_lifted M_freed M_path) [(0, .ref a_M), (1, .int p1), (2, .int p2)] 26 []
      refine j_iconst cx (v := (-1)) (by decide) dX11_few_26 (pn := 27) rfl ?_
      refine j_istore_n cx rfl [(3, .int (-1)), (0, .ref a_M), (1, .int p1), (2, .int p2)] (by decide) rfl dX11_few_27 (pn := 28) rfl ?_
      refine j_iconst cx (v := 0) (by decide) dX11_few_28 (pn := 29) rfl ?_
      refine j_istore cx [(4, .int 0), (3, .int (-1)), (0, .ref a_M), (1, .int p1), (2, .int p2)] (by decide) rfl dX11_few_29 (pn := 31) rfl ?_
      refine j_sub [2, 3, 4, 1, 0] [(0, .ref a_M), (1, .int p1), (2, .int p2), (3, .int (-1)), (4, .int 0)] rfl ?_
      exact J_X11_few_31 cx hR h
    · have h := h.2 c4
      refine j_bipush cx (v := (-3)) (by decide) dX11_few_19 (pn := 21) rfl ?_
      exact hR (-3) (M_folds, M_foldSet, M_foldEdges, M_foldNeeds, M_foldYards) 21 _ dX11_few_21 h
theorem dX11_two_0 : decode cX11_two 0 = .ok (.iload_n 1, 1) := by decide +kernel
theorem dX11_two_1 : decode cX11_two 1 = .ok (.iconst 0, 1) := by decide +kernel
theorem dX11_two_2 : decode cX11_two 2 = .ok (.bipush 90, 2) := by decide +kernel
theorem dX11_two_4 : decode cX11_two 4 = .ok (.invokestatic 90, 3) := by decide +kernel
theorem dX11_two_7 : decode cX11_two 7 = .ok (.ifCond .eq 22, 3) := by decide +kernel
theorem dX11_two_10 : decode cX11_two 10 = .ok (.iload_n 2, 1) := by decide +kernel
theorem dX11_two_11 : decode cX11_two 11 = .ok (.iconst 0, 1) := by decide +kernel
theorem dX11_two_12 : decode cX11_two 12 = .ok (.bipush 90, 2) := by decide +kernel
theorem dX11_two_14 : decode cX11_two 14 = .ok (.invokestatic 90, 3) := by decide +kernel
theorem dX11_two_17 : decode cX11_two 17 = .ok (.ifCond .eq 12, 3) := by decide +kernel
theorem dX11_two_20 : decode cX11_two 20 = .ok (.iload_n 3, 1) := by decide +kernel
theorem dX11_two_21 : decode cX11_two 21 = .ok (.iconst 0, 1) := by decide +kernel
theorem dX11_two_22 : decode cX11_two 22 = .ok (.iconst 2, 1) := by decide +kernel
theorem dX11_two_23 : decode cX11_two 23 = .ok (.invokestatic 90, 3) := by decide +kernel
theorem dX11_two_26 : decode cX11_two 26 = .ok (.ifCond .ne 6, 3) := by decide +kernel
theorem dX11_two_29 : decode cX11_two 29 = .ok (.bipush (-3), 2) := by decide +kernel
theorem dX11_two_31 : decode cX11_two 31 = .ok (.ireturn, 1) := by decide +kernel
theorem dX11_two_32 : decode cX11_two 32 = .ok (.aload_n 0, 1) := by decide +kernel
theorem dX11_two_33 : decode cX11_two 33 = .ok (.invokevirtual 287, 3) := by decide +kernel
theorem dX11_two_36 : decode cX11_two 36 = .ok (.iconst (-1), 1) := by decide +kernel
theorem dX11_two_37 : decode cX11_two 37 = .ok (.istore 4, 2) := by decide +kernel
theorem dX11_two_39 : decode cX11_two 39 = .ok (.iconst (-1), 1) := by decide +kernel
theorem dX11_two_40 : decode cX11_two 40 = .ok (.istore 5, 2) := by decide +kernel
theorem dX11_two_42 : decode cX11_two 42 = .ok (.ldc_w 267, 3) := by decide +kernel
theorem dX11_two_45 : decode cX11_two 45 = .ok (.istore 6, 2) := by decide +kernel
theorem dX11_two_47 : decode cX11_two 47 = .ok (.iconst 0, 1) := by decide +kernel
theorem dX11_two_48 : decode cX11_two 48 = .ok (.istore 7, 2) := by decide +kernel
theorem dX11_two_50 : decode cX11_two 50 = .ok (.iload 7, 2) := by decide +kernel
theorem dX11_two_52 : decode cX11_two 52 = .ok (.aload_n 0, 1) := by decide +kernel
theorem dX11_two_53 : decode cX11_two 53 = .ok (.getfield 284, 3) := by decide +kernel
theorem dX11_two_56 : decode cX11_two 56 = .ok (.if_icmp .ge 106, 3) := by decide +kernel
theorem dX11_two_59 : decode cX11_two 59 = .ok (.iconst 0, 1) := by decide +kernel
theorem dX11_two_60 : decode cX11_two 60 = .ok (.istore 8, 2) := by decide +kernel
theorem dX11_two_62 : decode cX11_two 62 = .ok (.iload 8, 2) := by decide +kernel
theorem dX11_two_64 : decode cX11_two 64 = .ok (.aload_n 0, 1) := by decide +kernel
theorem dX11_two_65 : decode cX11_two 65 = .ok (.getfield 284, 3) := by decide +kernel
theorem dX11_two_68 : decode cX11_two 68 = .ok (.if_icmp .ge 88, 3) := by decide +kernel
theorem dX11_two_71 : decode cX11_two 71 = .ok (.aload_n 0, 1) := by decide +kernel
theorem dX11_two_72 : decode cX11_two 72 = .ok (.getfield 45, 3) := by decide +kernel
theorem dX11_two_75 : decode cX11_two 75 = .ok (.iload 7, 2) := by decide +kernel
theorem dX11_two_77 : decode cX11_two 77 = .ok (.iaload, 1) := by decide +kernel
theorem dX11_two_78 : decode cX11_two 78 = .ok (.iload_n 1, 1) := by decide +kernel
theorem dX11_two_79 : decode cX11_two 79 = .ok (.if_icmp .lt 71, 3) := by decide +kernel
theorem dX11_two_82 : decode cX11_two 82 = .ok (.aload_n 0, 1) := by decide +kernel
theorem dX11_two_83 : decode cX11_two 83 = .ok (.getfield 45, 3) := by decide +kernel
theorem dX11_two_86 : decode cX11_two 86 = .ok (.iload 8, 2) := by decide +kernel
theorem dX11_two_88 : decode cX11_two 88 = .ok (.iaload, 1) := by decide +kernel
theorem dX11_two_89 : decode cX11_two 89 = .ok (.iload_n 2, 1) := by decide +kernel
theorem dX11_two_90 : decode cX11_two 90 = .ok (.if_icmp .lt 60, 3) := by decide +kernel
theorem dX11_two_93 : decode cX11_two 93 = .ok (.aload_n 0, 1) := by decide +kernel
theorem dX11_two_94 : decode cX11_two 94 = .ok (.getfield 35, 3) := by decide +kernel
theorem dX11_two_97 : decode cX11_two 97 = .ok (.iload 7, 2) := by decide +kernel
theorem dX11_two_99 : decode cX11_two 99 = .ok (.iaload, 1) := by decide +kernel
theorem dX11_two_100 : decode cX11_two 100 = .ok (.aload_n 0, 1) := by decide +kernel
theorem dX11_two_101 : decode cX11_two 101 = .ok (.getfield 35, 3) := by decide +kernel
theorem dX11_two_104 : decode cX11_two 104 = .ok (.iload 8, 2) := by decide +kernel
theorem dX11_two_106 : decode cX11_two 106 = .ok (.iaload, 1) := by decide +kernel
theorem dX11_two_107 : decode cX11_two 107 = .ok (.iand, 1) := by decide +kernel
theorem dX11_two_108 : decode cX11_two 108 = .ok (.ifCond .ne 42, 3) := by decide +kernel
theorem dX11_two_111 : decode cX11_two 111 = .ok (.aload_n 0, 1) := by decide +kernel
theorem dX11_two_112 : decode cX11_two 112 = .ok (.getfield 38, 3) := by decide +kernel
theorem dX11_two_115 : decode cX11_two 115 = .ok (.iload 7, 2) := by decide +kernel
theorem dX11_two_117 : decode cX11_two 117 = .ok (.laload, 1) := by decide +kernel
theorem dX11_two_118 : decode cX11_two 118 = .ok (.aload_n 0, 1) := by decide +kernel
theorem dX11_two_119 : decode cX11_two 119 = .ok (.getfield 38, 3) := by decide +kernel
theorem dX11_two_122 : decode cX11_two 122 = .ok (.iload 8, 2) := by decide +kernel
theorem dX11_two_124 : decode cX11_two 124 = .ok (.laload, 1) := by decide +kernel
theorem dX11_two_125 : decode cX11_two 125 = .ok (.lor, 1) := by decide +kernel
theorem dX11_two_126 : decode cX11_two 126 = .ok (.invokestatic 244, 3) := by decide +kernel
theorem dX11_two_129 : decode cX11_two 129 = .ok (.istore 9, 2) := by decide +kernel
theorem dX11_two_131 : decode cX11_two 131 = .ok (.iload 9, 2) := by decide +kernel
theorem dX11_two_133 : decode cX11_two 133 = .ok (.iload 6, 2) := by decide +kernel
theorem dX11_two_135 : decode cX11_two 135 = .ok (.if_icmp .ge 15, 3) := by decide +kernel
theorem dX11_two_138 : decode cX11_two 138 = .ok (.iload 9, 2) := by decide +kernel
theorem dX11_two_140 : decode cX11_two 140 = .ok (.istore 6, 2) := by decide +kernel
theorem dX11_two_142 : decode cX11_two 142 = .ok (.iload 7, 2) := by decide +kernel
theorem dX11_two_144 : decode cX11_two 144 = .ok (.istore 4, 2) := by decide +kernel
theorem dX11_two_146 : decode cX11_two 146 = .ok (.iload 8, 2) := by decide +kernel
theorem dX11_two_148 : decode cX11_two 148 = .ok (.istore 5, 2) := by decide +kernel
theorem dX11_two_150 : decode cX11_two 150 = .ok (.iinc 8 1, 3) := by decide +kernel
theorem dX11_two_153 : decode cX11_two 153 = .ok (.goto (-91), 3) := by decide +kernel
theorem dX11_two_156 : decode cX11_two 156 = .ok (.iinc 7 1, 3) := by decide +kernel
theorem dX11_two_159 : decode cX11_two 159 = .ok (.goto (-109), 3) := by decide +kernel
theorem dX11_two_162 : decode cX11_two 162 = .ok (.iload 4, 2) := by decide +kernel
theorem dX11_two_164 : decode cX11_two 164 = .ok (.iconst (-1), 1) := by decide +kernel
theorem dX11_two_165 : decode cX11_two 165 = .ok (.if_icmp .ne 7, 3) := by decide +kernel
theorem dX11_two_168 : decode cX11_two 168 = .ok (.iconst (-1), 1) := by decide +kernel
theorem dX11_two_169 : decode cX11_two 169 = .ok (.goto 34, 3) := by decide +kernel
theorem dX11_two_172 : decode cX11_two 172 = .ok (.iload_n 3, 1) := by decide +kernel
theorem dX11_two_173 : decode cX11_two 173 = .ok (.ifCond .ne 13, 3) := by decide +kernel
theorem dX11_two_176 : decode cX11_two 176 = .ok (.aload_n 0, 1) := by decide +kernel
theorem dX11_two_177 : decode cX11_two 177 = .ok (.getfield 35, 3) := by decide +kernel
theorem dX11_two_180 : decode cX11_two 180 = .ok (.iload 4, 2) := by decide +kernel
theorem dX11_two_182 : decode cX11_two 182 = .ok (.iaload, 1) := by decide +kernel
theorem dX11_two_183 : decode cX11_two 183 = .ok (.goto 20, 3) := by decide +kernel
theorem dX11_two_186 : decode cX11_two 186 = .ok (.iload_n 3, 1) := by decide +kernel
theorem dX11_two_187 : decode cX11_two 187 = .ok (.iconst 1, 1) := by decide +kernel
theorem dX11_two_188 : decode cX11_two 188 = .ok (.if_icmp .ne 13, 3) := by decide +kernel
theorem dX11_two_191 : decode cX11_two 191 = .ok (.aload_n 0, 1) := by decide +kernel
theorem dX11_two_192 : decode cX11_two 192 = .ok (.getfield 35, 3) := by decide +kernel
theorem dX11_two_195 : decode cX11_two 195 = .ok (.iload 5, 2) := by decide +kernel
theorem dX11_two_197 : decode cX11_two 197 = .ok (.iaload, 1) := by decide +kernel
theorem dX11_two_198 : decode cX11_two 198 = .ok (.goto 5, 3) := by decide +kernel
theorem dX11_two_201 : decode cX11_two 201 = .ok (.iload 6, 2) := by decide +kernel
theorem dX11_two_203 : decode cX11_two 203 = .ok (.ireturn, 1) := by decide +kernel
abbrev rm_X11_two : Room := { frames := 5, cells := 0, slots := 0, locals := 115 }
theorem hd_X11_two : yX11_two.cls ≠ "java/lang/invoke/MethodHandle" ∧ yX11_two.cls ≠ "java/lang/invoke/VarHandle" ∧ (parseMethodDescriptor yX11_two.desc).map (fun d => d.parameters.length) = some 3 := by decide +kernel
def bk_X11_two_150 (Q : Int32 → (Int32 × (Nat → Int32) × (Nat → Int64) × (Nat → Int32) × (Nat → Int32)) → Prop) (B50 : Int32 → Int32 → Int32 → Int32 → Prop) (B62 : Int32 → Int32 → Int32 → Int32 → Prop) (x4 : Int32) (x5 : Int32) (x6 : Int32) (x8 : Int32) : Prop :=
∀ y15 : Int32, y15 = (x8 + 1) →
B62 x4 x5 x6 y15
def bd_X11_two_62 (Q : Int32 → (Int32 × (Nat → Int32) × (Nat → Int64) × (Nat → Int32) × (Nat → Int32)) → Prop) (B50 : Int32 → Int32 → Int32 → Int32 → Prop) (B62 : Int32 → Int32 → Int32 → Int32 → Prop) (p1 : Int32) (p2 : Int32) (x7 : Int32) (M_folds : Int32) (M_foldSet : Nat → Int32) (M_foldEdges : Nat → Int64) (M_foldYards : Nat → Int32) (x4 : Int32) (x5 : Int32) (x6 : Int32) (x8 : Int32) : Prop :=
((M_folds ≤ x8 → ∀ y13 : Int32, y13 = (x7 + 1) →
B50 x4 x5 x6 y13) ∧
(¬ M_folds ≤ x8 → vp_in x7 280 ∧ (((M_foldYards x7.toNatClampNeg) < p1 → bk_X11_two_150 Q B50 B62 x4 x5 x6 x8) ∧
(¬ (M_foldYards x7.toNatClampNeg) < p1 → vp_in x8 280 ∧ (((M_foldYards x8.toNatClampNeg) < p2 → bk_X11_two_150 Q B50 B62 x4 x5 x6 x8) ∧
(¬ (M_foldYards x8.toNatClampNeg) < p2 → vp_in x7 280 ∧ vp_in x8 280 ∧ ((¬ ((M_foldSet x7.toNatClampNeg) &&& (M_foldSet x8.toNatClampNeg)) = 0 → bk_X11_two_150 Q B50 B62 x4 x5 x6 x8) ∧
(((M_foldSet x7.toNatClampNeg) &&& (M_foldSet x8.toNatClampNeg)) = 0 → vp_in x7 280 ∧ vp_in x8 280 ∧ wp_X11_bits ((M_foldEdges x7.toNatClampNeg) ||| (M_foldEdges x8.toNatClampNeg)) (fun (r18 : Int32) => ((x6 ≤ r18 → bk_X11_two_150 Q B50 B62 x4 x5 x6 x8) ∧
(¬ x6 ≤ r18 → bk_X11_two_150 Q B50 B62 x7 x8 r18 x8)))))))))))
def lp_X11_two_62 (Q : Int32 → (Int32 × (Nat → Int32) × (Nat → Int64) × (Nat → Int32) × (Nat → Int32)) → Prop) (B50 : Int32 → Int32 → Int32 → Int32 → Prop) (p1 : Int32) (p2 : Int32) (x7 : Int32) (M_folds : Int32) (M_foldSet : Nat → Int32) (M_foldEdges : Nat → Int64) (M_foldYards : Nat → Int32) (x4 : Int32) (x5 : Int32) (x6 : Int32) (x8 : Int32) : Prop :=
∃ I : Nat → Int32 → Int32 → Int32 → Int32 → Prop, (∃ n, I n x4 x5 x6 x8) ∧ ∀ n x4 x5 x6 x8, I n x4 x5 x6 x8 → bd_X11_two_62 Q B50 (fun x4' x5' x6' x8' => ∃ n', n' < n ∧ I n' x4' x5' x6' x8') p1 p2 x7 M_folds M_foldSet M_foldEdges M_foldYards x4 x5 x6 x8
def bd_X11_two_50 (Q : Int32 → (Int32 × (Nat → Int32) × (Nat → Int64) × (Nat → Int32) × (Nat → Int32)) → Prop) (B50 : Int32 → Int32 → Int32 → Int32 → Prop) (p1 : Int32) (p2 : Int32) (p3 : Int32) (M_folds : Int32) (M_foldSet : Nat → Int32) (M_foldEdges : Nat → Int64) (M_foldNeeds : Nat → Int32) (M_foldYards : Nat → Int32) (x4 : Int32) (x5 : Int32) (x6 : Int32) (x7 : Int32) : Prop :=
((M_folds ≤ x7 → ((¬ x4 = (-1) → ((¬ p3 = 0 → ((¬ p3 = 1 → Q x6 (M_folds, M_foldSet, M_foldEdges, M_foldNeeds, M_foldYards)) ∧
(p3 = 1 → vp_in x5 280 ∧ Q (M_foldSet x5.toNatClampNeg) (M_folds, M_foldSet, M_foldEdges, M_foldNeeds, M_foldYards)))) ∧
(p3 = 0 → vp_in x4 280 ∧ Q (M_foldSet x4.toNatClampNeg) (M_folds, M_foldSet, M_foldEdges, M_foldNeeds, M_foldYards)))) ∧
(x4 = (-1) → Q (-1) (M_folds, M_foldSet, M_foldEdges, M_foldNeeds, M_foldYards)))) ∧
(¬ M_folds ≤ x7 → lp_X11_two_62 Q B50 p1 p2 x7 M_folds M_foldSet M_foldEdges M_foldYards x4 x5 x6 0))
def lp_X11_two_50 (Q : Int32 → (Int32 × (Nat → Int32) × (Nat → Int64) × (Nat → Int32) × (Nat → Int32)) → Prop) (p1 : Int32) (p2 : Int32) (p3 : Int32) (M_folds : Int32) (M_foldSet : Nat → Int32) (M_foldEdges : Nat → Int64) (M_foldNeeds : Nat → Int32) (M_foldYards : Nat → Int32) (x4 : Int32) (x5 : Int32) (x6 : Int32) (x7 : Int32) : Prop :=
∃ I : Nat → Int32 → Int32 → Int32 → Int32 → Prop, (∃ n, I n x4 x5 x6 x7) ∧ ∀ n x4 x5 x6 x7, I n x4 x5 x6 x7 → bd_X11_two_50 Q  (fun x4' x5' x6' x7' => ∃ n', n' < n ∧ I n' x4' x5' x6' x7') p1 p2 p3 M_folds M_foldSet M_foldEdges M_foldNeeds M_foldYards x4 x5 x6 x7
def wp_X11_two (p1 : Int32) (p2 : Int32) (p3 : Int32) (M_wide : Int32) (M_high : Int32) (M_hedges : Int64) (M_folds : Int32) (M_square : Nat → Int32) (M_foldSet : Nat → Int32) (M_foldEdges : Nat → Int64) (M_foldNeeds : Nat → Int32) (M_foldYards : Nat → Int32) (Q : Int32 → (Int32 × (Nat → Int32) × (Nat → Int64) × (Nat → Int32) × (Nat → Int32)) → Prop) : Prop :=
wp_X11_in p1 0 90 (fun (r1 : Int32) => ((r1 = 0 → Q (-3) (M_folds, M_foldSet, M_foldEdges, M_foldNeeds, M_foldYards)) ∧
(¬ r1 = 0 → wp_X11_in p2 0 90 (fun (r3 : Int32) => ((r3 = 0 → Q (-3) (M_folds, M_foldSet, M_foldEdges, M_foldNeeds, M_foldYards)) ∧
(¬ r3 = 0 → wp_X11_in p3 0 2 (fun (r5 : Int32) => ((¬ r5 = 0 → wp_X11_findFolds M_wide M_high M_hedges M_square M_foldSet M_foldEdges M_foldNeeds M_foldYards (fun (u7 : Int32 × (Nat → Int32) × (Nat → Int64) × (Nat → Int32) × (Nat → Int32)) => lp_X11_two_50 Q p1 p2 p3 u7.1 u7.2.1 u7.2.2.1 u7.2.2.2.1 u7.2.2.2.2 (-1) (-1) 100000 0)) ∧
(r5 = 0 → Q (-3) (M_folds, M_foldSet, M_foldEdges, M_foldNeeds, M_foldYards))))))))))
set_option maxHeartbeats 4000000 in
set_option maxRecDepth 100000 in
theorem J_X11_two_150 {x : CX} {D : DG} {cyI cyJ cyZ : ClassId} {a_M a_M_square a_M_want a_M_text a_M_read a_M_row a_M_foldSet a_M_foldEdges a_M_foldNeeds a_M_foldYards a_M_least a_M_ways a_M_price a_M_rowBy a_M_columnBy a_M_rowOf a_M_wayBack a_M_slack a_M_isUsed a_M_lifted a_M_freed a_M_path : Nat} {M_wide : Int32} {M_high : Int32} {M_hedges : Int64} {M_hurdles : Int32} {M_wants : Int32} {M_rest : Int32} {M_frozen : Int32} {M_bytes : Int32} {M_position : Int32} {M_tokenAt : Int32} {M_token : Int64} {M_digits : Int32} {M_number : Int32} {M_faultAt : Int32} {M_readMany : Int32} {M_readWide : Int32} {M_readHigh : Int32} {M_nights : Int32} {M_why : Int32} {M_folds : Int32} {M_square : Nat → Int32} {M_want : Nat → Int32} {M_text : Nat → Int32} {M_read : Nat → Int32} {M_row : Nat → Int32} {M_foldSet : Nat → Int32} {M_foldEdges : Nat → Int64} {M_foldNeeds : Nat → Int32} {M_foldYards : Nat → Int32} {M_least : Nat → Int32} {M_ways : Nat → Int32} {M_price : Nat → Int32} {M_rowBy : Nat → Int32} {M_columnBy : Nat → Int32} {M_rowOf : Nat → Int32} {M_wayBack : Nat → Int32} {M_slack : Nat → Int32} {M_isUsed : Nat → Int32} {M_lifted : Nat → Int32} {M_freed : Nat → Int32} {M_path : Nat → Int32} {p1 : Int32} {p2 : Int32} {p3 : Int32} {x4 : Int32} {x5 : Int32} {x6 : Int32} {x7 : Int32} {x8 : Int32} {Q : Int32 → (Int32 × (Nat → Int32) × (Nat → Int64) × (Nat → Int32) × (Nat → Int32)) → Prop} {B50 : Int32 → Int32 → Int32 → Int32 → Prop} {B62 : Int32 → Int32 → Int32 → Int32 → Prop} (cx : Cx x cX11_two 10 RX11 rm_X11_two D [(cyI, .int), (cyJ, .long), (cyZ, .boolean)]) (hR : ∀ (v : Int32) (u : Int32 × (Nat → Int32) × (Nat → Int64) × (Nat → Int32) × (Nat → Int32)) (pc : Nat) (lv : List (Nat × Value)), decode cX11_two pc = .ok (.ireturn, 1) → Q v u → J x 0 0 10 (W_Model cyI cyJ cyZ a_M a_M_square a_M_want a_M_text a_M_read a_M_row a_M_foldSet a_M_foldEdges a_M_foldNeeds a_M_foldYards a_M_least a_M_ways a_M_price a_M_rowBy a_M_columnBy a_M_rowOf a_M_wayBack a_M_slack a_M_isUsed a_M_lifted a_M_freed a_M_path M_wide M_high M_hedges M_hurdles M_wants M_rest M_frozen M_bytes M_position M_tokenAt M_token M_digits M_number M_faultAt M_readMany M_readWide M_readHigh M_nights M_why u.1 M_square M_want M_text M_read M_row u.2.1 u.2.2.1 u.2.2.2.1 u.2.2.2.2 M_least M_ways M_price M_rowBy M_columnBy M_rowOf M_wayBack M_slack M_isUsed M_lifted M_freed M_path) lv pc [.int v]) (hB50 : ∀ (x4 : Int32) (x5 : Int32) (x6 : Int32) (x7 : Int32), B50 x4 x5 x6 x7 → J x 0 0 10 (W_Model cyI cyJ cyZ a_M a_M_square a_M_want a_M_text a_M_read a_M_row a_M_foldSet a_M_foldEdges a_M_foldNeeds a_M_foldYards a_M_least a_M_ways a_M_price a_M_rowBy a_M_columnBy a_M_rowOf a_M_wayBack a_M_slack a_M_isUsed a_M_lifted a_M_freed a_M_path M_wide M_high M_hedges M_hurdles M_wants M_rest M_frozen M_bytes M_position M_tokenAt M_token M_digits M_number M_faultAt M_readMany M_readWide M_readHigh M_nights M_why M_folds M_square M_want M_text M_read M_row M_foldSet M_foldEdges M_foldNeeds M_foldYards M_least M_ways M_price M_rowBy M_columnBy M_rowOf M_wayBack M_slack M_isUsed M_lifted M_freed M_path) [(0, .ref a_M), (1, .int p1), (2, .int p2), (3, .int p3), (4, .int x4), (5, .int x5), (6, .int x6), (7, .int x7)] 50 []) (hB62 : ∀ (x4 : Int32) (x5 : Int32) (x6 : Int32) (x8 : Int32), B62 x4 x5 x6 x8 → J x 0 0 10 (W_Model cyI cyJ cyZ a_M a_M_square a_M_want a_M_text a_M_read a_M_row a_M_foldSet a_M_foldEdges a_M_foldNeeds a_M_foldYards a_M_least a_M_ways a_M_price a_M_rowBy a_M_columnBy a_M_rowOf a_M_wayBack a_M_slack a_M_isUsed a_M_lifted a_M_freed a_M_path M_wide M_high M_hedges M_hurdles M_wants M_rest M_frozen M_bytes M_position M_tokenAt M_token M_digits M_number M_faultAt M_readMany M_readWide M_readHigh M_nights M_why M_folds M_square M_want M_text M_read M_row M_foldSet M_foldEdges M_foldNeeds M_foldYards M_least M_ways M_price M_rowBy M_columnBy M_rowOf M_wayBack M_slack M_isUsed M_lifted M_freed M_path) [(0, .ref a_M), (1, .int p1), (2, .int p2), (3, .int p3), (4, .int x4), (5, .int x5), (6, .int x6), (7, .int x7), (8, .int x8)] 62 []) (h : bk_X11_two_150 Q B50 B62 x4 x5 x6 x8) :
    J x 0 0 10 (W_Model cyI cyJ cyZ a_M a_M_square a_M_want a_M_text a_M_read a_M_row a_M_foldSet a_M_foldEdges a_M_foldNeeds a_M_foldYards a_M_least a_M_ways a_M_price a_M_rowBy a_M_columnBy a_M_rowOf a_M_wayBack a_M_slack a_M_isUsed a_M_lifted a_M_freed a_M_path M_wide M_high M_hedges M_hurdles M_wants M_rest M_frozen M_bytes M_position M_tokenAt M_token M_digits M_number M_faultAt M_readMany M_readWide M_readHigh M_nights M_why M_folds M_square M_want M_text M_read M_row M_foldSet M_foldEdges M_foldNeeds M_foldYards M_least M_ways M_price M_rowBy M_columnBy M_rowOf M_wayBack M_slack M_isUsed M_lifted M_freed M_path) [(0, .ref a_M), (1, .int p1), (2, .int p2), (3, .int p3), (4, .int x4), (5, .int x5), (6, .int x6), (7, .int x7), (8, .int x8)] 150 [] := by
  unfold bk_X11_two_150 at h
  obtain ⟨y15, ey15⟩ : ∃ z : Int32, z = x8 + 1 := ⟨_, rfl⟩
  have h := h y15 ey15
  refine j_iinc cx 8 rfl (cst := 1) (by decide) ey15 [(8, .int y15), (0, .ref a_M), (1, .int p1), (2, .int p2), (3, .int p3), (4, .int x4), (5, .int x5), (6, .int x6), (7, .int x7)] (by decide) rfl dX11_two_150 (pn := 153) rfl ?_
  refine j_goto cx 62 dX11_two_153 rfl ?_
  refine j_sub [1, 2, 3, 4, 5, 6, 7, 8, 0] [(0, .ref a_M), (1, .int p1), (2, .int p2), (3, .int p3), (4, .int x4), (5, .int x5), (6, .int x6), (7, .int x7), (8, .int y15)] rfl ?_
  exact hB62 _ _ _ _ h
set_option maxHeartbeats 4000000 in
set_option maxRecDepth 100000 in
theorem B_X11_two_62 {x : CX} {D : DG} {cyI cyJ cyZ : ClassId} {a_M a_M_square a_M_want a_M_text a_M_read a_M_row a_M_foldSet a_M_foldEdges a_M_foldNeeds a_M_foldYards a_M_least a_M_ways a_M_price a_M_rowBy a_M_columnBy a_M_rowOf a_M_wayBack a_M_slack a_M_isUsed a_M_lifted a_M_freed a_M_path : Nat} {M_wide : Int32} {M_high : Int32} {M_hedges : Int64} {M_hurdles : Int32} {M_wants : Int32} {M_rest : Int32} {M_frozen : Int32} {M_bytes : Int32} {M_position : Int32} {M_tokenAt : Int32} {M_token : Int64} {M_digits : Int32} {M_number : Int32} {M_faultAt : Int32} {M_readMany : Int32} {M_readWide : Int32} {M_readHigh : Int32} {M_nights : Int32} {M_why : Int32} {M_folds : Int32} {M_square : Nat → Int32} {M_want : Nat → Int32} {M_text : Nat → Int32} {M_read : Nat → Int32} {M_row : Nat → Int32} {M_foldSet : Nat → Int32} {M_foldEdges : Nat → Int64} {M_foldNeeds : Nat → Int32} {M_foldYards : Nat → Int32} {M_least : Nat → Int32} {M_ways : Nat → Int32} {M_price : Nat → Int32} {M_rowBy : Nat → Int32} {M_columnBy : Nat → Int32} {M_rowOf : Nat → Int32} {M_wayBack : Nat → Int32} {M_slack : Nat → Int32} {M_isUsed : Nat → Int32} {M_lifted : Nat → Int32} {M_freed : Nat → Int32} {M_path : Nat → Int32} {p1 : Int32} {p2 : Int32} {p3 : Int32} {x4 : Int32} {x5 : Int32} {x6 : Int32} {x7 : Int32} {x8 : Int32} {Q : Int32 → (Int32 × (Nat → Int32) × (Nat → Int64) × (Nat → Int32) × (Nat → Int32)) → Prop} {B50 : Int32 → Int32 → Int32 → Int32 → Prop} {B62 : Int32 → Int32 → Int32 → Int32 → Prop} (cx : Cx x cX11_two 10 RX11 rm_X11_two D [(cyI, .int), (cyJ, .long), (cyZ, .boolean)]) (hR : ∀ (v : Int32) (u : Int32 × (Nat → Int32) × (Nat → Int64) × (Nat → Int32) × (Nat → Int32)) (pc : Nat) (lv : List (Nat × Value)), decode cX11_two pc = .ok (.ireturn, 1) → Q v u → J x 0 0 10 (W_Model cyI cyJ cyZ a_M a_M_square a_M_want a_M_text a_M_read a_M_row a_M_foldSet a_M_foldEdges a_M_foldNeeds a_M_foldYards a_M_least a_M_ways a_M_price a_M_rowBy a_M_columnBy a_M_rowOf a_M_wayBack a_M_slack a_M_isUsed a_M_lifted a_M_freed a_M_path M_wide M_high M_hedges M_hurdles M_wants M_rest M_frozen M_bytes M_position M_tokenAt M_token M_digits M_number M_faultAt M_readMany M_readWide M_readHigh M_nights M_why u.1 M_square M_want M_text M_read M_row u.2.1 u.2.2.1 u.2.2.2.1 u.2.2.2.2 M_least M_ways M_price M_rowBy M_columnBy M_rowOf M_wayBack M_slack M_isUsed M_lifted M_freed M_path) lv pc [.int v]) (hB50 : ∀ (x4 : Int32) (x5 : Int32) (x6 : Int32) (x7 : Int32), B50 x4 x5 x6 x7 → J x 0 0 10 (W_Model cyI cyJ cyZ a_M a_M_square a_M_want a_M_text a_M_read a_M_row a_M_foldSet a_M_foldEdges a_M_foldNeeds a_M_foldYards a_M_least a_M_ways a_M_price a_M_rowBy a_M_columnBy a_M_rowOf a_M_wayBack a_M_slack a_M_isUsed a_M_lifted a_M_freed a_M_path M_wide M_high M_hedges M_hurdles M_wants M_rest M_frozen M_bytes M_position M_tokenAt M_token M_digits M_number M_faultAt M_readMany M_readWide M_readHigh M_nights M_why M_folds M_square M_want M_text M_read M_row M_foldSet M_foldEdges M_foldNeeds M_foldYards M_least M_ways M_price M_rowBy M_columnBy M_rowOf M_wayBack M_slack M_isUsed M_lifted M_freed M_path) [(0, .ref a_M), (1, .int p1), (2, .int p2), (3, .int p3), (4, .int x4), (5, .int x5), (6, .int x6), (7, .int x7)] 50 []) (hB62 : ∀ (x4 : Int32) (x5 : Int32) (x6 : Int32) (x8 : Int32), B62 x4 x5 x6 x8 → J x 0 0 10 (W_Model cyI cyJ cyZ a_M a_M_square a_M_want a_M_text a_M_read a_M_row a_M_foldSet a_M_foldEdges a_M_foldNeeds a_M_foldYards a_M_least a_M_ways a_M_price a_M_rowBy a_M_columnBy a_M_rowOf a_M_wayBack a_M_slack a_M_isUsed a_M_lifted a_M_freed a_M_path M_wide M_high M_hedges M_hurdles M_wants M_rest M_frozen M_bytes M_position M_tokenAt M_token M_digits M_number M_faultAt M_readMany M_readWide M_readHigh M_nights M_why M_folds M_square M_want M_text M_read M_row M_foldSet M_foldEdges M_foldNeeds M_foldYards M_least M_ways M_price M_rowBy M_columnBy M_rowOf M_wayBack M_slack M_isUsed M_lifted M_freed M_path) [(0, .ref a_M), (1, .int p1), (2, .int p2), (3, .int p3), (4, .int x4), (5, .int x5), (6, .int x6), (7, .int x7), (8, .int x8)] 62 []) (h : bd_X11_two_62 Q B50 B62 p1 p2 x7 M_folds M_foldSet M_foldEdges M_foldYards x4 x5 x6 x8) :
    J x 0 0 10 (W_Model cyI cyJ cyZ a_M a_M_square a_M_want a_M_text a_M_read a_M_row a_M_foldSet a_M_foldEdges a_M_foldNeeds a_M_foldYards a_M_least a_M_ways a_M_price a_M_rowBy a_M_columnBy a_M_rowOf a_M_wayBack a_M_slack a_M_isUsed a_M_lifted a_M_freed a_M_path M_wide M_high M_hedges M_hurdles M_wants M_rest M_frozen M_bytes M_position M_tokenAt M_token M_digits M_number M_faultAt M_readMany M_readWide M_readHigh M_nights M_why M_folds M_square M_want M_text M_read M_row M_foldSet M_foldEdges M_foldNeeds M_foldYards M_least M_ways M_price M_rowBy M_columnBy M_rowOf M_wayBack M_slack M_isUsed M_lifted M_freed M_path) [(0, .ref a_M), (1, .int p1), (2, .int p2), (3, .int p3), (4, .int x4), (5, .int x5), (6, .int x6), (7, .int x7), (8, .int x8)] 62 [] := by
  unfold bd_X11_two_62 at h
  refine j_iload cx 8 rfl dX11_two_62 (pn := 64) rfl ?_
  refine j_aload_n cx 0 rfl rfl dX11_two_64 (pn := 65) rfl ?_
  refine j_get cx inGX11 0 rfl rfl 24 (by decide) q_fl_X11_284 rfl rfl dX11_two_65 (pn := 68) rfl ?_
  refine j_icmp_ge cx 156 dX11_two_68 (pn := 71) rfl rfl (fun c12 => ?_) (fun c12 => ?_)
  · have h := h.1 c12
    obtain ⟨y13, ey13⟩ : ∃ z : Int32, z = x7 + 1 := ⟨_, rfl⟩
    have h := h y13 ey13
    refine j_iinc cx 7 rfl (cst := 1) (by decide) ey13 [(7, .int y13), (0, .ref a_M), (1, .int p1), (2, .int p2), (3, .int p3), (4, .int x4), (5, .int x5), (6, .int x6), (8, .int x8)] (by decide) rfl dX11_two_156 (pn := 159) rfl ?_
    refine j_goto cx 50 dX11_two_159 rfl ?_
    refine j_sub [1, 2, 3, 4, 5, 6, 7, 0] [(0, .ref a_M), (1, .int p1), (2, .int p2), (3, .int p3), (4, .int x4), (5, .int x5), (6, .int x6), (7, .int y13)] rfl ?_
    exact hB50 _ _ _ _ h
  · have h := h.2 c12
    refine j_aload_n cx 0 rfl rfl dX11_two_71 (pn := 72) rfl ?_
    refine j_get cx inGX11 0 rfl rfl 28 (by decide) q_fl_X11_45 rfl rfl dX11_two_72 (pn := 75) rfl ?_
    refine j_iload cx 7 rfl dX11_two_75 (pn := 77) rfl ?_
    refine j_iald cx 9 0 rfl rfl h.1 dX11_two_77 (pn := 78) rfl ?_
    have h := h.2
    refine j_iload_n cx 1 rfl rfl dX11_two_78 (pn := 79) rfl ?_
    refine j_icmp_lt cx 150 dX11_two_79 (pn := 82) rfl rfl (fun c14 => ?_) (fun c14 => ?_)
    · have h := h.1 c14
      exact J_X11_two_150 cx hR hB50 hB62 h
    · have h := h.2 c14
      refine j_aload_n cx 0 rfl rfl dX11_two_82 (pn := 83) rfl ?_
      refine j_get cx inGX11 0 rfl rfl 28 (by decide) q_fl_X11_45 rfl rfl dX11_two_83 (pn := 86) rfl ?_
      refine j_iload cx 8 rfl dX11_two_86 (pn := 88) rfl ?_
      refine j_iald cx 9 0 rfl rfl h.1 dX11_two_88 (pn := 89) rfl ?_
      have h := h.2
      refine j_iload_n cx 2 rfl rfl dX11_two_89 (pn := 90) rfl ?_
      refine j_icmp_lt cx 150 dX11_two_90 (pn := 93) rfl rfl (fun c16 => ?_) (fun c16 => ?_)
      · have h := h.1 c16
        exact J_X11_two_150 cx hR hB50 hB62 h
      · have h := h.2 c16
        refine j_aload_n cx 0 rfl rfl dX11_two_93 (pn := 94) rfl ?_
        refine j_get cx inGX11 0 rfl rfl 25 (by decide) q_fl_X11_35 rfl rfl dX11_two_94 (pn := 97) rfl ?_
        refine j_iload cx 7 rfl dX11_two_97 (pn := 99) rfl ?_
        refine j_iald cx 6 0 rfl rfl h.1 dX11_two_99 (pn := 100) rfl ?_
        have h := h.2
        refine j_aload_n cx 0 rfl rfl dX11_two_100 (pn := 101) rfl ?_
        refine j_get cx inGX11 0 rfl rfl 25 (by decide) q_fl_X11_35 rfl rfl dX11_two_101 (pn := 104) rfl ?_
        refine j_iload cx 8 rfl dX11_two_104 (pn := 106) rfl ?_
        refine j_iald cx 6 0 rfl rfl h.1 dX11_two_106 (pn := 107) rfl ?_
        have h := h.2
        refine j_iand cx dX11_two_107 (pn := 108) rfl ?_
        refine j_if_ne cx 150 dX11_two_108 (pn := 111) rfl rfl (fun c17 => ?_) (fun c17 => ?_)
        · have h := h.1 c17
          exact J_X11_two_150 cx hR hB50 hB62 h
        · have h := h.2 c17
          refine j_aload_n cx 0 rfl rfl dX11_two_111 (pn := 112) rfl ?_
          refine j_get cx inGX11 0 rfl rfl 26 (by decide) q_fl_X11_38 rfl rfl dX11_two_112 (pn := 115) rfl ?_
          refine j_iload cx 7 rfl dX11_two_115 (pn := 117) rfl ?_
          refine j_lald cx 7 1 rfl rfl h.1 dX11_two_117 (pn := 118) rfl ?_
          have h := h.2
          refine j_aload_n cx 0 rfl rfl dX11_two_118 (pn := 119) rfl ?_
          refine j_get cx inGX11 0 rfl rfl 26 (by decide) q_fl_X11_38 rfl rfl dX11_two_119 (pn := 122) rfl ?_
          refine j_iload cx 8 rfl dX11_two_122 (pn := 124) rfl ?_
          refine j_lald cx 7 1 rfl rfl h.1 dX11_two_124 (pn := 125) rfl ?_
          have h := h.2
          refine j_lor cx dX11_two_125 (pn := 126) rfl ?_
          refine j_calleI cx q_stat_X11_bits (As := [.long ((M_foldEdges x7.toNatClampNeg) ||| (M_foldEdges x8.toNatClampNeg))]) (rest := []) (c_X11_bits h) ⟨q_code_X11_bits, q_ml_X11_244, q_init_X11, hd_X11_bits, ⟨Nat.le_of_ble_eq_true rfl, Nat.le_of_ble_eq_true rfl⟩, Nat.le_of_ble_eq_true rfl, Nat.le_of_ble_eq_true rfl⟩ rfl rfl (Nat.le_of_ble_eq_true rfl) dX11_two_126 (pn := 129) rfl (fun r18 h => ?_)
          show J x 0 0 10 (W_Model cyI cyJ cyZ a_M a_M_square a_M_want a_M_text a_M_read a_M_row a_M_foldSet a_M_foldEdges a_M_foldNeeds a_M_foldYards a_M_least a_M_ways a_M_price a_M_rowBy a_M_columnBy a_M_rowOf a_M_wayBack a_M_slack a_M_isUsed a_M_lifted a_M_freed a_M_path M_wide M_high M_hedges M_hurdles M_wants M_rest M_frozen M_bytes M_position M_tokenAt M_token M_digits M_number M_faultAt M_readMany M_readWide M_readHigh M_nights M_why M_folds M_square M_want M_text M_read M_row M_foldSet M_foldEdges M_foldNeeds M_foldYards M_least M_ways M_price M_rowBy M_columnBy M_rowOf M_wayBack M_slack M_isUsed M_lifted M_freed M_path) [(0, .ref a_M), (1, .int p1), (2, .int p2), (3, .int p3), (4, .int x4), (5, .int x5), (6, .int x6), (7, .int x7), (8, .int x8)] 129 [.int r18]
          refine j_istore cx [(9, .int r18), (0, .ref a_M), (1, .int p1), (2, .int p2), (3, .int p3), (4, .int x4), (5, .int x5), (6, .int x6), (7, .int x7), (8, .int x8)] (by decide) rfl dX11_two_129 (pn := 131) rfl ?_
          refine j_iload cx 0 rfl dX11_two_131 (pn := 133) rfl ?_
          refine j_iload cx 7 rfl dX11_two_133 (pn := 135) rfl ?_
          refine j_icmp_ge cx 150 dX11_two_135 (pn := 138) rfl rfl (fun c19 => ?_) (fun c19 => ?_)
          · have h := h.1 c19
            refine j_sub [1, 2, 3, 4, 5, 6, 7, 8, 9] [(0, .ref a_M), (1, .int p1), (2, .int p2), (3, .int p3), (4, .int x4), (5, .int x5), (6, .int x6), (7, .int x7), (8, .int x8)] rfl ?_
            exact J_X11_two_150 cx hR hB50 hB62 h
          · have h := h.2 c19
            refine j_iload cx 0 rfl dX11_two_138 (pn := 140) rfl ?_
            refine j_istore cx [(6, .int r18), (9, .int r18), (0, .ref a_M), (1, .int p1), (2, .int p2), (3, .int p3), (4, .int x4), (5, .int x5), (7, .int x7), (8, .int x8)] (by decide) rfl dX11_two_140 (pn := 142) rfl ?_
            refine j_iload cx 8 rfl dX11_two_142 (pn := 144) rfl ?_
            refine j_istore cx [(4, .int x7), (6, .int r18), (9, .int r18), (0, .ref a_M), (1, .int p1), (2, .int p2), (3, .int p3), (5, .int x5), (7, .int x7), (8, .int x8)] (by decide) rfl dX11_two_144 (pn := 146) rfl ?_
            refine j_iload cx 9 rfl dX11_two_146 (pn := 148) rfl ?_
            refine j_istore cx [(5, .int x8), (4, .int x7), (6, .int r18), (9, .int r18), (0, .ref a_M), (1, .int p1), (2, .int p2), (3, .int p3), (7, .int x7), (8, .int x8)] (by decide) rfl dX11_two_148 (pn := 150) rfl ?_
            refine j_sub [4, 5, 6, 7, 1, 0, 2, 8, 9] [(0, .ref a_M), (1, .int p1), (2, .int p2), (3, .int p3), (4, .int x7), (5, .int x8), (6, .int r18), (7, .int x7), (8, .int x8)] rfl ?_
            exact J_X11_two_150 cx hR hB50 hB62 h
set_option maxHeartbeats 4000000 in
set_option maxRecDepth 100000 in
theorem J_X11_two_62 {x : CX} {D : DG} {cyI cyJ cyZ : ClassId} {a_M a_M_square a_M_want a_M_text a_M_read a_M_row a_M_foldSet a_M_foldEdges a_M_foldNeeds a_M_foldYards a_M_least a_M_ways a_M_price a_M_rowBy a_M_columnBy a_M_rowOf a_M_wayBack a_M_slack a_M_isUsed a_M_lifted a_M_freed a_M_path : Nat} {M_wide : Int32} {M_high : Int32} {M_hedges : Int64} {M_hurdles : Int32} {M_wants : Int32} {M_rest : Int32} {M_frozen : Int32} {M_bytes : Int32} {M_position : Int32} {M_tokenAt : Int32} {M_token : Int64} {M_digits : Int32} {M_number : Int32} {M_faultAt : Int32} {M_readMany : Int32} {M_readWide : Int32} {M_readHigh : Int32} {M_nights : Int32} {M_why : Int32} {M_folds : Int32} {M_square : Nat → Int32} {M_want : Nat → Int32} {M_text : Nat → Int32} {M_read : Nat → Int32} {M_row : Nat → Int32} {M_foldSet : Nat → Int32} {M_foldEdges : Nat → Int64} {M_foldNeeds : Nat → Int32} {M_foldYards : Nat → Int32} {M_least : Nat → Int32} {M_ways : Nat → Int32} {M_price : Nat → Int32} {M_rowBy : Nat → Int32} {M_columnBy : Nat → Int32} {M_rowOf : Nat → Int32} {M_wayBack : Nat → Int32} {M_slack : Nat → Int32} {M_isUsed : Nat → Int32} {M_lifted : Nat → Int32} {M_freed : Nat → Int32} {M_path : Nat → Int32} {p1 : Int32} {p2 : Int32} {p3 : Int32} {x4 : Int32} {x5 : Int32} {x6 : Int32} {x7 : Int32} {x8 : Int32} {Q : Int32 → (Int32 × (Nat → Int32) × (Nat → Int64) × (Nat → Int32) × (Nat → Int32)) → Prop} {B50 : Int32 → Int32 → Int32 → Int32 → Prop} (cx : Cx x cX11_two 10 RX11 rm_X11_two D [(cyI, .int), (cyJ, .long), (cyZ, .boolean)]) (hR : ∀ (v : Int32) (u : Int32 × (Nat → Int32) × (Nat → Int64) × (Nat → Int32) × (Nat → Int32)) (pc : Nat) (lv : List (Nat × Value)), decode cX11_two pc = .ok (.ireturn, 1) → Q v u → J x 0 0 10 (W_Model cyI cyJ cyZ a_M a_M_square a_M_want a_M_text a_M_read a_M_row a_M_foldSet a_M_foldEdges a_M_foldNeeds a_M_foldYards a_M_least a_M_ways a_M_price a_M_rowBy a_M_columnBy a_M_rowOf a_M_wayBack a_M_slack a_M_isUsed a_M_lifted a_M_freed a_M_path M_wide M_high M_hedges M_hurdles M_wants M_rest M_frozen M_bytes M_position M_tokenAt M_token M_digits M_number M_faultAt M_readMany M_readWide M_readHigh M_nights M_why u.1 M_square M_want M_text M_read M_row u.2.1 u.2.2.1 u.2.2.2.1 u.2.2.2.2 M_least M_ways M_price M_rowBy M_columnBy M_rowOf M_wayBack M_slack M_isUsed M_lifted M_freed M_path) lv pc [.int v]) (hB50 : ∀ (x4 : Int32) (x5 : Int32) (x6 : Int32) (x7 : Int32), B50 x4 x5 x6 x7 → J x 0 0 10 (W_Model cyI cyJ cyZ a_M a_M_square a_M_want a_M_text a_M_read a_M_row a_M_foldSet a_M_foldEdges a_M_foldNeeds a_M_foldYards a_M_least a_M_ways a_M_price a_M_rowBy a_M_columnBy a_M_rowOf a_M_wayBack a_M_slack a_M_isUsed a_M_lifted a_M_freed a_M_path M_wide M_high M_hedges M_hurdles M_wants M_rest M_frozen M_bytes M_position M_tokenAt M_token M_digits M_number M_faultAt M_readMany M_readWide M_readHigh M_nights M_why M_folds M_square M_want M_text M_read M_row M_foldSet M_foldEdges M_foldNeeds M_foldYards M_least M_ways M_price M_rowBy M_columnBy M_rowOf M_wayBack M_slack M_isUsed M_lifted M_freed M_path) [(0, .ref a_M), (1, .int p1), (2, .int p2), (3, .int p3), (4, .int x4), (5, .int x5), (6, .int x6), (7, .int x7)] 50 []) (h : lp_X11_two_62 Q B50 p1 p2 x7 M_folds M_foldSet M_foldEdges M_foldYards x4 x5 x6 x8) :
    J x 0 0 10 (W_Model cyI cyJ cyZ a_M a_M_square a_M_want a_M_text a_M_read a_M_row a_M_foldSet a_M_foldEdges a_M_foldNeeds a_M_foldYards a_M_least a_M_ways a_M_price a_M_rowBy a_M_columnBy a_M_rowOf a_M_wayBack a_M_slack a_M_isUsed a_M_lifted a_M_freed a_M_path M_wide M_high M_hedges M_hurdles M_wants M_rest M_frozen M_bytes M_position M_tokenAt M_token M_digits M_number M_faultAt M_readMany M_readWide M_readHigh M_nights M_why M_folds M_square M_want M_text M_read M_row M_foldSet M_foldEdges M_foldNeeds M_foldYards M_least M_ways M_price M_rowBy M_columnBy M_rowOf M_wayBack M_slack M_isUsed M_lifted M_freed M_path) [(0, .ref a_M), (1, .int p1), (2, .int p2), (3, .int p3), (4, .int x4), (5, .int x5), (6, .int x6), (7, .int x7), (8, .int x8)] 62 [] := by
  obtain ⟨I, ⟨n, h0⟩, hb⟩ := h
  revert x4 x5 x6 x8
  induction n using Nat.strongRecOn with
  | _ n ih =>
    intro x4 x5 x6 x8 h0
    exact B_X11_two_62 cx hR hB50 (fun _ _ _ _ hz => by obtain ⟨n2, hlt, hI⟩ := hz; exact ih n2 hlt hI) (hb n x4 x5 x6 x8 h0)
set_option maxHeartbeats 4000000 in
set_option maxRecDepth 100000 in
theorem B_X11_two_50 {x : CX} {D : DG} {cyI cyJ cyZ : ClassId} {a_M a_M_square a_M_want a_M_text a_M_read a_M_row a_M_foldSet a_M_foldEdges a_M_foldNeeds a_M_foldYards a_M_least a_M_ways a_M_price a_M_rowBy a_M_columnBy a_M_rowOf a_M_wayBack a_M_slack a_M_isUsed a_M_lifted a_M_freed a_M_path : Nat} {M_wide : Int32} {M_high : Int32} {M_hedges : Int64} {M_hurdles : Int32} {M_wants : Int32} {M_rest : Int32} {M_frozen : Int32} {M_bytes : Int32} {M_position : Int32} {M_tokenAt : Int32} {M_token : Int64} {M_digits : Int32} {M_number : Int32} {M_faultAt : Int32} {M_readMany : Int32} {M_readWide : Int32} {M_readHigh : Int32} {M_nights : Int32} {M_why : Int32} {M_folds : Int32} {M_square : Nat → Int32} {M_want : Nat → Int32} {M_text : Nat → Int32} {M_read : Nat → Int32} {M_row : Nat → Int32} {M_foldSet : Nat → Int32} {M_foldEdges : Nat → Int64} {M_foldNeeds : Nat → Int32} {M_foldYards : Nat → Int32} {M_least : Nat → Int32} {M_ways : Nat → Int32} {M_price : Nat → Int32} {M_rowBy : Nat → Int32} {M_columnBy : Nat → Int32} {M_rowOf : Nat → Int32} {M_wayBack : Nat → Int32} {M_slack : Nat → Int32} {M_isUsed : Nat → Int32} {M_lifted : Nat → Int32} {M_freed : Nat → Int32} {M_path : Nat → Int32} {p1 : Int32} {p2 : Int32} {p3 : Int32} {x4 : Int32} {x5 : Int32} {x6 : Int32} {x7 : Int32} {Q : Int32 → (Int32 × (Nat → Int32) × (Nat → Int64) × (Nat → Int32) × (Nat → Int32)) → Prop} {B50 : Int32 → Int32 → Int32 → Int32 → Prop} (cx : Cx x cX11_two 10 RX11 rm_X11_two D [(cyI, .int), (cyJ, .long), (cyZ, .boolean)]) (hR : ∀ (v : Int32) (u : Int32 × (Nat → Int32) × (Nat → Int64) × (Nat → Int32) × (Nat → Int32)) (pc : Nat) (lv : List (Nat × Value)), decode cX11_two pc = .ok (.ireturn, 1) → Q v u → J x 0 0 10 (W_Model cyI cyJ cyZ a_M a_M_square a_M_want a_M_text a_M_read a_M_row a_M_foldSet a_M_foldEdges a_M_foldNeeds a_M_foldYards a_M_least a_M_ways a_M_price a_M_rowBy a_M_columnBy a_M_rowOf a_M_wayBack a_M_slack a_M_isUsed a_M_lifted a_M_freed a_M_path M_wide M_high M_hedges M_hurdles M_wants M_rest M_frozen M_bytes M_position M_tokenAt M_token M_digits M_number M_faultAt M_readMany M_readWide M_readHigh M_nights M_why u.1 M_square M_want M_text M_read M_row u.2.1 u.2.2.1 u.2.2.2.1 u.2.2.2.2 M_least M_ways M_price M_rowBy M_columnBy M_rowOf M_wayBack M_slack M_isUsed M_lifted M_freed M_path) lv pc [.int v]) (hB50 : ∀ (x4 : Int32) (x5 : Int32) (x6 : Int32) (x7 : Int32), B50 x4 x5 x6 x7 → J x 0 0 10 (W_Model cyI cyJ cyZ a_M a_M_square a_M_want a_M_text a_M_read a_M_row a_M_foldSet a_M_foldEdges a_M_foldNeeds a_M_foldYards a_M_least a_M_ways a_M_price a_M_rowBy a_M_columnBy a_M_rowOf a_M_wayBack a_M_slack a_M_isUsed a_M_lifted a_M_freed a_M_path M_wide M_high M_hedges M_hurdles M_wants M_rest M_frozen M_bytes M_position M_tokenAt M_token M_digits M_number M_faultAt M_readMany M_readWide M_readHigh M_nights M_why M_folds M_square M_want M_text M_read M_row M_foldSet M_foldEdges M_foldNeeds M_foldYards M_least M_ways M_price M_rowBy M_columnBy M_rowOf M_wayBack M_slack M_isUsed M_lifted M_freed M_path) [(0, .ref a_M), (1, .int p1), (2, .int p2), (3, .int p3), (4, .int x4), (5, .int x5), (6, .int x6), (7, .int x7)] 50 []) (h : bd_X11_two_50 Q B50 p1 p2 p3 M_folds M_foldSet M_foldEdges M_foldNeeds M_foldYards x4 x5 x6 x7) :
    J x 0 0 10 (W_Model cyI cyJ cyZ a_M a_M_square a_M_want a_M_text a_M_read a_M_row a_M_foldSet a_M_foldEdges a_M_foldNeeds a_M_foldYards a_M_least a_M_ways a_M_price a_M_rowBy a_M_columnBy a_M_rowOf a_M_wayBack a_M_slack a_M_isUsed a_M_lifted a_M_freed a_M_path M_wide M_high M_hedges M_hurdles M_wants M_rest M_frozen M_bytes M_position M_tokenAt M_token M_digits M_number M_faultAt M_readMany M_readWide M_readHigh M_nights M_why M_folds M_square M_want M_text M_read M_row M_foldSet M_foldEdges M_foldNeeds M_foldYards M_least M_ways M_price M_rowBy M_columnBy M_rowOf M_wayBack M_slack M_isUsed M_lifted M_freed M_path) [(0, .ref a_M), (1, .int p1), (2, .int p2), (3, .int p3), (4, .int x4), (5, .int x5), (6, .int x6), (7, .int x7)] 50 [] := by
  unfold bd_X11_two_50 at h
  refine j_iload cx 7 rfl dX11_two_50 (pn := 52) rfl ?_
  refine j_aload_n cx 0 rfl rfl dX11_two_52 (pn := 53) rfl ?_
  refine j_get cx inGX11 0 rfl rfl 24 (by decide) q_fl_X11_284 rfl rfl dX11_two_53 (pn := 56) rfl ?_
  refine j_icmp_ge cx 162 dX11_two_56 (pn := 59) rfl rfl (fun c8 => ?_) (fun c8 => ?_)
  · have h := h.1 c8
    refine j_iload cx 4 rfl dX11_two_162 (pn := 164) rfl ?_
    refine j_iconst cx (v := (-1)) (by decide) dX11_two_164 (pn := 165) rfl ?_
    refine j_icmp_ne cx 172 dX11_two_165 (pn := 168) rfl rfl (fun c9 => ?_) (fun c9 => ?_)
    · have h := h.1 c9
      refine j_iload_n cx 3 rfl rfl dX11_two_172 (pn := 173) rfl ?_
      refine j_if_ne cx 186 dX11_two_173 (pn := 176) rfl rfl (fun c10 => ?_) (fun c10 => ?_)
      · have h := h.1 c10
        refine j_iload_n cx 3 rfl rfl dX11_two_186 (pn := 187) rfl ?_
        refine j_iconst cx (v := 1) (by decide) dX11_two_187 (pn := 188) rfl ?_
        refine j_icmp_ne cx 201 dX11_two_188 (pn := 191) rfl rfl (fun c11 => ?_) (fun c11 => ?_)
        · have h := h.1 c11
          refine j_iload cx 6 rfl dX11_two_201 (pn := 203) rfl ?_
          exact hR x6 (M_folds, M_foldSet, M_foldEdges, M_foldNeeds, M_foldYards) 203 _ dX11_two_203 h
        · have h := h.2 c11
          refine j_aload_n cx 0 rfl rfl dX11_two_191 (pn := 192) rfl ?_
          refine j_get cx inGX11 0 rfl rfl 25 (by decide) q_fl_X11_35 rfl rfl dX11_two_192 (pn := 195) rfl ?_
          refine j_iload cx 5 rfl dX11_two_195 (pn := 197) rfl ?_
          refine j_iald cx 6 0 rfl rfl h.1 dX11_two_197 (pn := 198) rfl ?_
          have h := h.2
          refine j_goto cx 203 dX11_two_198 rfl ?_
          exact hR (M_foldSet x5.toNatClampNeg) (M_folds, M_foldSet, M_foldEdges, M_foldNeeds, M_foldYards) 203 _ dX11_two_203 h
      · have h := h.2 c10
        refine j_aload_n cx 0 rfl rfl dX11_two_176 (pn := 177) rfl ?_
        refine j_get cx inGX11 0 rfl rfl 25 (by decide) q_fl_X11_35 rfl rfl dX11_two_177 (pn := 180) rfl ?_
        refine j_iload cx 4 rfl dX11_two_180 (pn := 182) rfl ?_
        refine j_iald cx 6 0 rfl rfl h.1 dX11_two_182 (pn := 183) rfl ?_
        have h := h.2
        refine j_goto cx 203 dX11_two_183 rfl ?_
        exact hR (M_foldSet x4.toNatClampNeg) (M_folds, M_foldSet, M_foldEdges, M_foldNeeds, M_foldYards) 203 _ dX11_two_203 h
    · have h := h.2 c9
      refine j_iconst cx (v := (-1)) (by decide) dX11_two_168 (pn := 169) rfl ?_
      refine j_goto cx 203 dX11_two_169 rfl ?_
      exact hR (-1) (M_folds, M_foldSet, M_foldEdges, M_foldNeeds, M_foldYards) 203 _ dX11_two_203 h
  · have h := h.2 c8
    refine j_iconst cx (v := 0) (by decide) dX11_two_59 (pn := 60) rfl ?_
    refine j_istore cx [(8, .int 0), (0, .ref a_M), (1, .int p1), (2, .int p2), (3, .int p3), (4, .int x4), (5, .int x5), (6, .int x6), (7, .int x7)] (by decide) rfl dX11_two_60 (pn := 62) rfl ?_
    refine j_sub [1, 2, 3, 4, 5, 6, 7, 8, 0] [(0, .ref a_M), (1, .int p1), (2, .int p2), (3, .int p3), (4, .int x4), (5, .int x5), (6, .int x6), (7, .int x7), (8, .int 0)] rfl ?_
    exact J_X11_two_62 cx hR hB50 h
set_option maxHeartbeats 4000000 in
set_option maxRecDepth 100000 in
theorem J_X11_two_50 {x : CX} {D : DG} {cyI cyJ cyZ : ClassId} {a_M a_M_square a_M_want a_M_text a_M_read a_M_row a_M_foldSet a_M_foldEdges a_M_foldNeeds a_M_foldYards a_M_least a_M_ways a_M_price a_M_rowBy a_M_columnBy a_M_rowOf a_M_wayBack a_M_slack a_M_isUsed a_M_lifted a_M_freed a_M_path : Nat} {M_wide : Int32} {M_high : Int32} {M_hedges : Int64} {M_hurdles : Int32} {M_wants : Int32} {M_rest : Int32} {M_frozen : Int32} {M_bytes : Int32} {M_position : Int32} {M_tokenAt : Int32} {M_token : Int64} {M_digits : Int32} {M_number : Int32} {M_faultAt : Int32} {M_readMany : Int32} {M_readWide : Int32} {M_readHigh : Int32} {M_nights : Int32} {M_why : Int32} {M_folds : Int32} {M_square : Nat → Int32} {M_want : Nat → Int32} {M_text : Nat → Int32} {M_read : Nat → Int32} {M_row : Nat → Int32} {M_foldSet : Nat → Int32} {M_foldEdges : Nat → Int64} {M_foldNeeds : Nat → Int32} {M_foldYards : Nat → Int32} {M_least : Nat → Int32} {M_ways : Nat → Int32} {M_price : Nat → Int32} {M_rowBy : Nat → Int32} {M_columnBy : Nat → Int32} {M_rowOf : Nat → Int32} {M_wayBack : Nat → Int32} {M_slack : Nat → Int32} {M_isUsed : Nat → Int32} {M_lifted : Nat → Int32} {M_freed : Nat → Int32} {M_path : Nat → Int32} {p1 : Int32} {p2 : Int32} {p3 : Int32} {x4 : Int32} {x5 : Int32} {x6 : Int32} {x7 : Int32} {Q : Int32 → (Int32 × (Nat → Int32) × (Nat → Int64) × (Nat → Int32) × (Nat → Int32)) → Prop} (cx : Cx x cX11_two 10 RX11 rm_X11_two D [(cyI, .int), (cyJ, .long), (cyZ, .boolean)]) (hR : ∀ (v : Int32) (u : Int32 × (Nat → Int32) × (Nat → Int64) × (Nat → Int32) × (Nat → Int32)) (pc : Nat) (lv : List (Nat × Value)), decode cX11_two pc = .ok (.ireturn, 1) → Q v u → J x 0 0 10 (W_Model cyI cyJ cyZ a_M a_M_square a_M_want a_M_text a_M_read a_M_row a_M_foldSet a_M_foldEdges a_M_foldNeeds a_M_foldYards a_M_least a_M_ways a_M_price a_M_rowBy a_M_columnBy a_M_rowOf a_M_wayBack a_M_slack a_M_isUsed a_M_lifted a_M_freed a_M_path M_wide M_high M_hedges M_hurdles M_wants M_rest M_frozen M_bytes M_position M_tokenAt M_token M_digits M_number M_faultAt M_readMany M_readWide M_readHigh M_nights M_why u.1 M_square M_want M_text M_read M_row u.2.1 u.2.2.1 u.2.2.2.1 u.2.2.2.2 M_least M_ways M_price M_rowBy M_columnBy M_rowOf M_wayBack M_slack M_isUsed M_lifted M_freed M_path) lv pc [.int v]) (h : lp_X11_two_50 Q  p1 p2 p3 M_folds M_foldSet M_foldEdges M_foldNeeds M_foldYards x4 x5 x6 x7) :
    J x 0 0 10 (W_Model cyI cyJ cyZ a_M a_M_square a_M_want a_M_text a_M_read a_M_row a_M_foldSet a_M_foldEdges a_M_foldNeeds a_M_foldYards a_M_least a_M_ways a_M_price a_M_rowBy a_M_columnBy a_M_rowOf a_M_wayBack a_M_slack a_M_isUsed a_M_lifted a_M_freed a_M_path M_wide M_high M_hedges M_hurdles M_wants M_rest M_frozen M_bytes M_position M_tokenAt M_token M_digits M_number M_faultAt M_readMany M_readWide M_readHigh M_nights M_why M_folds M_square M_want M_text M_read M_row M_foldSet M_foldEdges M_foldNeeds M_foldYards M_least M_ways M_price M_rowBy M_columnBy M_rowOf M_wayBack M_slack M_isUsed M_lifted M_freed M_path) [(0, .ref a_M), (1, .int p1), (2, .int p2), (3, .int p3), (4, .int x4), (5, .int x5), (6, .int x6), (7, .int x7)] 50 [] := by
  obtain ⟨I, ⟨n, h0⟩, hb⟩ := h
  revert x4 x5 x6 x7
  induction n using Nat.strongRecOn with
  | _ n ih =>
    intro x4 x5 x6 x7 h0
    exact B_X11_two_50 cx hR (fun _ _ _ _ hz => by obtain ⟨n2, hlt, hI⟩ := hz; exact ih n2 hlt hI) (hb n x4 x5 x6 x7 h0)
set_option maxHeartbeats 4000000 in
set_option maxRecDepth 100000 in
theorem c_X11_two {D : DG} {cyI cyJ cyZ : ClassId} {a_M a_M_square a_M_want a_M_text a_M_read a_M_row a_M_foldSet a_M_foldEdges a_M_foldNeeds a_M_foldYards a_M_least a_M_ways a_M_price a_M_rowBy a_M_columnBy a_M_rowOf a_M_wayBack a_M_slack a_M_isUsed a_M_lifted a_M_freed a_M_path : Nat} {M_wide : Int32} {M_high : Int32} {M_hedges : Int64} {M_hurdles : Int32} {M_wants : Int32} {M_rest : Int32} {M_frozen : Int32} {M_bytes : Int32} {M_position : Int32} {M_tokenAt : Int32} {M_token : Int64} {M_digits : Int32} {M_number : Int32} {M_faultAt : Int32} {M_readMany : Int32} {M_readWide : Int32} {M_readHigh : Int32} {M_nights : Int32} {M_why : Int32} {M_folds : Int32} {M_square : Nat → Int32} {M_want : Nat → Int32} {M_text : Nat → Int32} {M_read : Nat → Int32} {M_row : Nat → Int32} {M_foldSet : Nat → Int32} {M_foldEdges : Nat → Int64} {M_foldNeeds : Nat → Int32} {M_foldYards : Nat → Int32} {M_least : Nat → Int32} {M_ways : Nat → Int32} {M_price : Nat → Int32} {M_rowBy : Nat → Int32} {M_columnBy : Nat → Int32} {M_rowOf : Nat → Int32} {M_wayBack : Nat → Int32} {M_slack : Nat → Int32} {M_isUsed : Nat → Int32} {M_lifted : Nat → Int32} {M_freed : Nat → Int32} {M_path : Nat → Int32} {p1 : Int32} {p2 : Int32} {p3 : Int32} {Q : Int32 → (Int32 × (Nat → Int32) × (Nat → Int64) × (Nat → Int32) × (Nat → Int32)) → Prop} (h : wp_X11_two p1 p2 p3 M_wide M_high M_hedges M_folds M_square M_foldSet M_foldEdges M_foldNeeds M_foldYards Q) :
    MetI yX11_two cX11_two 10 (some .int) rm_X11_two D [(cyI, .int), (cyJ, .long), (cyZ, .boolean)] [.ref a_M, .int p1, .int p2, .int p3] (W_Model cyI cyJ cyZ a_M a_M_square a_M_want a_M_text a_M_read a_M_row a_M_foldSet a_M_foldEdges a_M_foldNeeds a_M_foldYards a_M_least a_M_ways a_M_price a_M_rowBy a_M_columnBy a_M_rowOf a_M_wayBack a_M_slack a_M_isUsed a_M_lifted a_M_freed a_M_path M_wide M_high M_hedges M_hurdles M_wants M_rest M_frozen M_bytes M_position M_tokenAt M_token M_digits M_number M_faultAt M_readMany M_readWide M_readHigh M_nights M_why M_folds M_square M_want M_text M_read M_row M_foldSet M_foldEdges M_foldNeeds M_foldYards M_least M_ways M_price M_rowBy M_columnBy M_rowOf M_wayBack M_slack M_isUsed M_lifted M_freed M_path) (fun u : Int32 × (Nat → Int32) × (Nat → Int64) × (Nat → Int32) × (Nat → Int32) => (W_Model cyI cyJ cyZ a_M a_M_square a_M_want a_M_text a_M_read a_M_row a_M_foldSet a_M_foldEdges a_M_foldNeeds a_M_foldYards a_M_least a_M_ways a_M_price a_M_rowBy a_M_columnBy a_M_rowOf a_M_wayBack a_M_slack a_M_isUsed a_M_lifted a_M_freed a_M_path M_wide M_high M_hedges M_hurdles M_wants M_rest M_frozen M_bytes M_position M_tokenAt M_token M_digits M_number M_faultAt M_readMany M_readWide M_readHigh M_nights M_why u.1 M_square M_want M_text M_read M_row u.2.1 u.2.2.1 u.2.2.2.1 u.2.2.2.2 M_least M_ways M_price M_rowBy M_columnBy M_rowOf M_wayBack M_slack M_isUsed M_lifted M_freed M_path)) (fun v u => Q v u) := by
  unfold wp_X11_two at h
  refine metI_of (by decide) (Nat.le_of_ble_eq_true rfl) (fun x cx0 hR0 => ?_)
  have cx : Cx x cX11_two 10 RX11 rm_X11_two D [(cyI, .int), (cyJ, .long), (cyZ, .boolean)] := cx0
  have hR : ∀ (v : Int32) (u : Int32 × (Nat → Int32) × (Nat → Int64) × (Nat → Int32) × (Nat → Int32)) (pc : Nat) (lv : List (Nat × Value)), decode cX11_two pc = .ok (.ireturn, 1) → Q v u → J x 0 0 10 (W_Model cyI cyJ cyZ a_M a_M_square a_M_want a_M_text a_M_read a_M_row a_M_foldSet a_M_foldEdges a_M_foldNeeds a_M_foldYards a_M_least a_M_ways a_M_price a_M_rowBy a_M_columnBy a_M_rowOf a_M_wayBack a_M_slack a_M_isUsed a_M_lifted a_M_freed a_M_path M_wide M_high M_hedges M_hurdles M_wants M_rest M_frozen M_bytes M_position M_tokenAt M_token M_digits M_number M_faultAt M_readMany M_readWide M_readHigh M_nights M_why u.1 M_square M_want M_text M_read M_row u.2.1 u.2.2.1 u.2.2.2.1 u.2.2.2.2 M_least M_ways M_price M_rowBy M_columnBy M_rowOf M_wayBack M_slack M_isUsed M_lifted M_freed M_path) lv pc [.int v] := (fun v u pc lv d hq => hR0 v u pc lv d hq)
  show J x 0 0 10 (W_Model cyI cyJ cyZ a_M a_M_square a_M_want a_M_text a_M_read a_M_row a_M_foldSet a_M_foldEdges a_M_foldNeeds a_M_foldYards a_M_least a_M_ways a_M_price a_M_rowBy a_M_columnBy a_M_rowOf a_M_wayBack a_M_slack a_M_isUsed a_M_lifted a_M_freed a_M_path M_wide M_high M_hedges M_hurdles M_wants M_rest M_frozen M_bytes M_position M_tokenAt M_token M_digits M_number M_faultAt M_readMany M_readWide M_readHigh M_nights M_why M_folds M_square M_want M_text M_read M_row M_foldSet M_foldEdges M_foldNeeds M_foldYards M_least M_ways M_price M_rowBy M_columnBy M_rowOf M_wayBack M_slack M_isUsed M_lifted M_freed M_path) [(0, .ref a_M), (1, .int p1), (2, .int p2), (3, .int p3)] 0 []
  refine j_iload_n cx 1 rfl rfl dX11_two_0 (pn := 1) rfl ?_
  refine j_iconst cx (v := 0) (by decide) dX11_two_1 (pn := 2) rfl ?_
  refine j_bipush cx (v := 90) (by decide) dX11_two_2 (pn := 4) rfl ?_
  refine j_calleI cx q_stat_X11_in (As := [.int p1, .int 0, .int 90]) (rest := []) (c_X11_in h) ⟨q_code_X11_in, q_ml_X11_90, q_init_X11, hd_X11_in, ⟨Nat.le_of_ble_eq_true rfl, Nat.le_of_ble_eq_true rfl⟩, Nat.le_of_ble_eq_true rfl, Nat.le_of_ble_eq_true rfl⟩ rfl rfl (Nat.le_of_ble_eq_true rfl) dX11_two_4 (pn := 7) rfl (fun r1 h => ?_)
  show J x 0 0 10 (W_Model cyI cyJ cyZ a_M a_M_square a_M_want a_M_text a_M_read a_M_row a_M_foldSet a_M_foldEdges a_M_foldNeeds a_M_foldYards a_M_least a_M_ways a_M_price a_M_rowBy a_M_columnBy a_M_rowOf a_M_wayBack a_M_slack a_M_isUsed a_M_lifted a_M_freed a_M_path M_wide M_high M_hedges M_hurdles M_wants M_rest M_frozen M_bytes M_position M_tokenAt M_token M_digits M_number M_faultAt M_readMany M_readWide M_readHigh M_nights M_why M_folds M_square M_want M_text M_read M_row M_foldSet M_foldEdges M_foldNeeds M_foldYards M_least M_ways M_price M_rowBy M_columnBy M_rowOf M_wayBack M_slack M_isUsed M_lifted M_freed M_path) [(0, .ref a_M), (1, .int p1), (2, .int p2), (3, .int p3)] 7 [.int r1]
  refine j_if_eq cx 29 dX11_two_7 (pn := 10) rfl rfl (fun c2 => ?_) (fun c2 => ?_)
  · have h := h.1 c2
    refine j_bipush cx (v := (-3)) (by decide) dX11_two_29 (pn := 31) rfl ?_
    exact hR (-3) (M_folds, M_foldSet, M_foldEdges, M_foldNeeds, M_foldYards) 31 _ dX11_two_31 h
  · have h := h.2 c2
    refine j_iload_n cx 2 rfl rfl dX11_two_10 (pn := 11) rfl ?_
    refine j_iconst cx (v := 0) (by decide) dX11_two_11 (pn := 12) rfl ?_
    refine j_bipush cx (v := 90) (by decide) dX11_two_12 (pn := 14) rfl ?_
    refine j_calleI cx q_stat_X11_in (As := [.int p2, .int 0, .int 90]) (rest := []) (c_X11_in h) ⟨q_code_X11_in, q_ml_X11_90, q_init_X11, hd_X11_in, ⟨Nat.le_of_ble_eq_true rfl, Nat.le_of_ble_eq_true rfl⟩, Nat.le_of_ble_eq_true rfl, Nat.le_of_ble_eq_true rfl⟩ rfl rfl (Nat.le_of_ble_eq_true rfl) dX11_two_14 (pn := 17) rfl (fun r3 h => ?_)
    show J x 0 0 10 (W_Model cyI cyJ cyZ a_M a_M_square a_M_want a_M_text a_M_read a_M_row a_M_foldSet a_M_foldEdges a_M_foldNeeds a_M_foldYards a_M_least a_M_ways a_M_price a_M_rowBy a_M_columnBy a_M_rowOf a_M_wayBack a_M_slack a_M_isUsed a_M_lifted a_M_freed a_M_path M_wide M_high M_hedges M_hurdles M_wants M_rest M_frozen M_bytes M_position M_tokenAt M_token M_digits M_number M_faultAt M_readMany M_readWide M_readHigh M_nights M_why M_folds M_square M_want M_text M_read M_row M_foldSet M_foldEdges M_foldNeeds M_foldYards M_least M_ways M_price M_rowBy M_columnBy M_rowOf M_wayBack M_slack M_isUsed M_lifted M_freed M_path) [(0, .ref a_M), (1, .int p1), (2, .int p2), (3, .int p3)] 17 [.int r3]
    refine j_if_eq cx 29 dX11_two_17 (pn := 20) rfl rfl (fun c4 => ?_) (fun c4 => ?_)
    · have h := h.1 c4
      refine j_bipush cx (v := (-3)) (by decide) dX11_two_29 (pn := 31) rfl ?_
      exact hR (-3) (M_folds, M_foldSet, M_foldEdges, M_foldNeeds, M_foldYards) 31 _ dX11_two_31 h
    · have h := h.2 c4
      refine j_iload_n cx 3 rfl rfl dX11_two_20 (pn := 21) rfl ?_
      refine j_iconst cx (v := 0) (by decide) dX11_two_21 (pn := 22) rfl ?_
      refine j_iconst cx (v := 2) (by decide) dX11_two_22 (pn := 23) rfl ?_
      refine j_calleI cx q_stat_X11_in (As := [.int p3, .int 0, .int 2]) (rest := []) (c_X11_in h) ⟨q_code_X11_in, q_ml_X11_90, q_init_X11, hd_X11_in, ⟨Nat.le_of_ble_eq_true rfl, Nat.le_of_ble_eq_true rfl⟩, Nat.le_of_ble_eq_true rfl, Nat.le_of_ble_eq_true rfl⟩ rfl rfl (Nat.le_of_ble_eq_true rfl) dX11_two_23 (pn := 26) rfl (fun r5 h => ?_)
      show J x 0 0 10 (W_Model cyI cyJ cyZ a_M a_M_square a_M_want a_M_text a_M_read a_M_row a_M_foldSet a_M_foldEdges a_M_foldNeeds a_M_foldYards a_M_least a_M_ways a_M_price a_M_rowBy a_M_columnBy a_M_rowOf a_M_wayBack a_M_slack a_M_isUsed a_M_lifted a_M_freed a_M_path M_wide M_high M_hedges M_hurdles M_wants M_rest M_frozen M_bytes M_position M_tokenAt M_token M_digits M_number M_faultAt M_readMany M_readWide M_readHigh M_nights M_why M_folds M_square M_want M_text M_read M_row M_foldSet M_foldEdges M_foldNeeds M_foldYards M_least M_ways M_price M_rowBy M_columnBy M_rowOf M_wayBack M_slack M_isUsed M_lifted M_freed M_path) [(0, .ref a_M), (1, .int p1), (2, .int p2), (3, .int p3)] 26 [.int r5]
      refine j_if_ne cx 32 dX11_two_26 (pn := 29) rfl rfl (fun c6 => ?_) (fun c6 => ?_)
      · have h := h.1 c6
        refine j_aload_n cx 0 rfl rfl dX11_two_32 (pn := 33) rfl ?_
        refine j_callvV0 cx q_inst_X11_findFolds q_sel_X11_findFolds (b := a_M) (As := []) (rest := []) (c_X11_findFolds h) ⟨q_code_X11_findFolds, q_ml_X11_287, q_init_X11, hd_X11_findFolds, ⟨Nat.le_of_ble_eq_true rfl, Nat.le_of_ble_eq_true rfl⟩, Nat.le_of_ble_eq_true rfl, Nat.le_of_ble_eq_true rfl⟩ (q0 := 0) rfl rfl rfl rfl (Nat.le_of_ble_eq_true rfl) dX11_two_33 (pn := 36) rfl (fun u7 h => ?_)
        show J x 0 0 10 (W_Model cyI cyJ cyZ a_M a_M_square a_M_want a_M_text a_M_read a_M_row a_M_foldSet a_M_foldEdges a_M_foldNeeds a_M_foldYards a_M_least a_M_ways a_M_price a_M_rowBy a_M_columnBy a_M_rowOf a_M_wayBack a_M_slack a_M_isUsed a_M_lifted a_M_freed a_M_path M_wide M_high M_hedges M_hurdles M_wants M_rest M_frozen M_bytes M_position M_tokenAt M_token M_digits M_number M_faultAt M_readMany M_readWide M_readHigh M_nights M_why u7.1 M_square M_want M_text M_read M_row u7.2.1 u7.2.2.1 u7.2.2.2.1 u7.2.2.2.2 M_least M_ways M_price M_rowBy M_columnBy M_rowOf M_wayBack M_slack M_isUsed M_lifted M_freed M_path) [(0, .ref a_M), (1, .int p1), (2, .int p2), (3, .int p3)] 36 []
        refine j_iconst cx (v := (-1)) (by decide) dX11_two_36 (pn := 37) rfl ?_
        refine j_istore cx [(4, .int (-1)), (0, .ref a_M), (1, .int p1), (2, .int p2), (3, .int p3)] (by decide) rfl dX11_two_37 (pn := 39) rfl ?_
        refine j_iconst cx (v := (-1)) (by decide) dX11_two_39 (pn := 40) rfl ?_
        refine j_istore cx [(5, .int (-1)), (4, .int (-1)), (0, .ref a_M), (1, .int p1), (2, .int p2), (3, .int p3)] (by decide) rfl dX11_two_40 (pn := 42) rfl ?_
        refine j_ldcw cx q_c_X11_267 dX11_two_42 (pn := 45) rfl ?_
        refine j_istore cx [(6, .int 100000), (5, .int (-1)), (4, .int (-1)), (0, .ref a_M), (1, .int p1), (2, .int p2), (3, .int p3)] (by decide) rfl dX11_two_45 (pn := 47) rfl ?_
        refine j_iconst cx (v := 0) (by decide) dX11_two_47 (pn := 48) rfl ?_
        refine j_istore cx [(7, .int 0), (6, .int 100000), (5, .int (-1)), (4, .int (-1)), (0, .ref a_M), (1, .int p1), (2, .int p2), (3, .int p3)] (by decide) rfl dX11_two_48 (pn := 50) rfl ?_
        refine j_sub [4, 5, 6, 7, 3, 2, 1, 0] [(0, .ref a_M), (1, .int p1), (2, .int p2), (3, .int p3), (4, .int (-1)), (5, .int (-1)), (6, .int 100000), (7, .int 0)] rfl ?_
        exact J_X11_two_50 cx hR h
      · have h := h.2 c6
        refine j_bipush cx (v := (-3)) (by decide) dX11_two_29 (pn := 31) rfl ?_
        exact hR (-3) (M_folds, M_foldSet, M_foldEdges, M_foldNeeds, M_foldYards) 31 _ dX11_two_31 h
theorem dX11_rich_0 : decode cX11_rich 0 = .ok (.iconst 0, 1) := by decide +kernel
theorem dX11_rich_1 : decode cX11_rich 1 = .ok (.istore_n 1, 1) := by decide +kernel
theorem dX11_rich_2 : decode cX11_rich 2 = .ok (.iconst 0, 1) := by decide +kernel
theorem dX11_rich_3 : decode cX11_rich 3 = .ok (.istore_n 2, 1) := by decide +kernel
theorem dX11_rich_4 : decode cX11_rich 4 = .ok (.iload_n 2, 1) := by decide +kernel
theorem dX11_rich_5 : decode cX11_rich 5 = .ok (.aload_n 0, 1) := by decide +kernel
theorem dX11_rich_6 : decode cX11_rich 6 = .ok (.invokevirtual 86, 3) := by decide +kernel
theorem dX11_rich_9 : decode cX11_rich 9 = .ok (.if_icmp .ge 34, 3) := by decide +kernel
theorem dX11_rich_12 : decode cX11_rich 12 = .ok (.iload_n 1, 1) := by decide +kernel
theorem dX11_rich_13 : decode cX11_rich 13 = .ok (.aload_n 0, 1) := by decide +kernel
theorem dX11_rich_14 : decode cX11_rich 14 = .ok (.getfield 16, 3) := by decide +kernel
theorem dX11_rich_17 : decode cX11_rich 17 = .ok (.iload_n 2, 1) := by decide +kernel
theorem dX11_rich_18 : decode cX11_rich 18 = .ok (.iaload, 1) := by decide +kernel
theorem dX11_rich_19 : decode cX11_rich 19 = .ok (.iconst 1, 1) := by decide +kernel
theorem dX11_rich_20 : decode cX11_rich 20 = .ok (.bipush 9, 2) := by decide +kernel
theorem dX11_rich_22 : decode cX11_rich 22 = .ok (.invokestatic 90, 3) := by decide +kernel
theorem dX11_rich_25 : decode cX11_rich 25 = .ok (.ifCond .eq 9, 3) := by decide +kernel
theorem dX11_rich_28 : decode cX11_rich 28 = .ok (.iconst 1, 1) := by decide +kernel
theorem dX11_rich_29 : decode cX11_rich 29 = .ok (.iload_n 2, 1) := by decide +kernel
theorem dX11_rich_30 : decode cX11_rich 30 = .ok (.ishl, 1) := by decide +kernel
theorem dX11_rich_31 : decode cX11_rich 31 = .ok (.goto 4, 3) := by decide +kernel
theorem dX11_rich_34 : decode cX11_rich 34 = .ok (.iconst 0, 1) := by decide +kernel
theorem dX11_rich_35 : decode cX11_rich 35 = .ok (.ior, 1) := by decide +kernel
theorem dX11_rich_36 : decode cX11_rich 36 = .ok (.istore_n 1, 1) := by decide +kernel
theorem dX11_rich_37 : decode cX11_rich 37 = .ok (.iinc 2 1, 3) := by decide +kernel
theorem dX11_rich_40 : decode cX11_rich 40 = .ok (.goto (-36), 3) := by decide +kernel
theorem dX11_rich_43 : decode cX11_rich 43 = .ok (.iload_n 1, 1) := by decide +kernel
theorem dX11_rich_44 : decode cX11_rich 44 = .ok (.ireturn, 1) := by decide +kernel
abbrev rm_X11_rich : Room := { frames := 1, cells := 0, slots := 0, locals := 22 }
theorem hd_X11_rich : yX11_rich.cls ≠ "java/lang/invoke/MethodHandle" ∧ yX11_rich.cls ≠ "java/lang/invoke/VarHandle" ∧ (parseMethodDescriptor yX11_rich.desc).map (fun d => d.parameters.length) = some 0 := by decide +kernel
def bk_X11_rich_35 (Q : Int32 → Prop) (B4 : Int32 → Int32 → Prop) (x2 : Int32) (s0 : Int32) (s1 : Int32) : Prop :=
∀ y5 : Int32, y5 = (s1 ||| s0) →
∀ y6 : Int32, y6 = (x2 + 1) →
B4 y5 y6
def bd_X11_rich_4 (Q : Int32 → Prop) (B4 : Int32 → Int32 → Prop) (M_wide : Int32) (M_high : Int32) (M_square : Nat → Int32) (x1 : Int32) (x2 : Int32) : Prop :=
wp_X11_squares M_wide M_high (fun (r1 : Int32) => ((r1 ≤ x2 → Q x1) ∧
(¬ r1 ≤ x2 → vp_in x2 10 ∧ wp_X11_in (M_square x2.toNatClampNeg) 1 9 (fun (r3 : Int32) => ((r3 = 0 → bk_X11_rich_35 Q B4 x2 0 x1) ∧
(¬ r3 = 0 → bk_X11_rich_35 Q B4 x2 (1 <<< (x2 &&& 31)) x1))))))
def lp_X11_rich_4 (Q : Int32 → Prop) (M_wide : Int32) (M_high : Int32) (M_square : Nat → Int32) (x1 : Int32) (x2 : Int32) : Prop :=
∃ I : Nat → Int32 → Int32 → Prop, (∃ n, I n x1 x2) ∧ ∀ n x1 x2, I n x1 x2 → bd_X11_rich_4 Q  (fun x1' x2' => ∃ n', n' < n ∧ I n' x1' x2') M_wide M_high M_square x1 x2
def wp_X11_rich (M_wide : Int32) (M_high : Int32) (M_square : Nat → Int32) (Q : Int32 → Prop) : Prop :=
lp_X11_rich_4 Q M_wide M_high M_square 0 0
set_option maxHeartbeats 4000000 in
set_option maxRecDepth 100000 in
theorem J_X11_rich_35 {x : CX} {D : DG} {cyI cyJ cyZ : ClassId} {a_M a_M_square a_M_want a_M_text a_M_read a_M_row a_M_foldSet a_M_foldEdges a_M_foldNeeds a_M_foldYards a_M_least a_M_ways a_M_price a_M_rowBy a_M_columnBy a_M_rowOf a_M_wayBack a_M_slack a_M_isUsed a_M_lifted a_M_freed a_M_path : Nat} {M_wide : Int32} {M_high : Int32} {M_hedges : Int64} {M_hurdles : Int32} {M_wants : Int32} {M_rest : Int32} {M_frozen : Int32} {M_bytes : Int32} {M_position : Int32} {M_tokenAt : Int32} {M_token : Int64} {M_digits : Int32} {M_number : Int32} {M_faultAt : Int32} {M_readMany : Int32} {M_readWide : Int32} {M_readHigh : Int32} {M_nights : Int32} {M_why : Int32} {M_folds : Int32} {M_square : Nat → Int32} {M_want : Nat → Int32} {M_text : Nat → Int32} {M_read : Nat → Int32} {M_row : Nat → Int32} {M_foldSet : Nat → Int32} {M_foldEdges : Nat → Int64} {M_foldNeeds : Nat → Int32} {M_foldYards : Nat → Int32} {M_least : Nat → Int32} {M_ways : Nat → Int32} {M_price : Nat → Int32} {M_rowBy : Nat → Int32} {M_columnBy : Nat → Int32} {M_rowOf : Nat → Int32} {M_wayBack : Nat → Int32} {M_slack : Nat → Int32} {M_isUsed : Nat → Int32} {M_lifted : Nat → Int32} {M_freed : Nat → Int32} {M_path : Nat → Int32} {x2 : Int32} {s0 : Int32} {s1 : Int32} {Q : Int32 → Prop} {B4 : Int32 → Int32 → Prop} (cx : Cx x cX11_rich 3 RX11 rm_X11_rich D [(cyI, .int), (cyJ, .long), (cyZ, .boolean)]) (hR : ∀ (v : Int32) (pc : Nat) (lv : List (Nat × Value)), decode cX11_rich pc = .ok (.ireturn, 1) → Q v → J x 0 0 3 (W_Model cyI cyJ cyZ a_M a_M_square a_M_want a_M_text a_M_read a_M_row a_M_foldSet a_M_foldEdges a_M_foldNeeds a_M_foldYards a_M_least a_M_ways a_M_price a_M_rowBy a_M_columnBy a_M_rowOf a_M_wayBack a_M_slack a_M_isUsed a_M_lifted a_M_freed a_M_path M_wide M_high M_hedges M_hurdles M_wants M_rest M_frozen M_bytes M_position M_tokenAt M_token M_digits M_number M_faultAt M_readMany M_readWide M_readHigh M_nights M_why M_folds M_square M_want M_text M_read M_row M_foldSet M_foldEdges M_foldNeeds M_foldYards M_least M_ways M_price M_rowBy M_columnBy M_rowOf M_wayBack M_slack M_isUsed M_lifted M_freed M_path) lv pc [.int v]) (hB4 : ∀ (x1 : Int32) (x2 : Int32), B4 x1 x2 → J x 0 0 3 (W_Model cyI cyJ cyZ a_M a_M_square a_M_want a_M_text a_M_read a_M_row a_M_foldSet a_M_foldEdges a_M_foldNeeds a_M_foldYards a_M_least a_M_ways a_M_price a_M_rowBy a_M_columnBy a_M_rowOf a_M_wayBack a_M_slack a_M_isUsed a_M_lifted a_M_freed a_M_path M_wide M_high M_hedges M_hurdles M_wants M_rest M_frozen M_bytes M_position M_tokenAt M_token M_digits M_number M_faultAt M_readMany M_readWide M_readHigh M_nights M_why M_folds M_square M_want M_text M_read M_row M_foldSet M_foldEdges M_foldNeeds M_foldYards M_least M_ways M_price M_rowBy M_columnBy M_rowOf M_wayBack M_slack M_isUsed M_lifted M_freed M_path) [(0, .ref a_M), (1, .int x1), (2, .int x2)] 4 []) (h : bk_X11_rich_35 Q B4 x2 s0 s1) :
    J x 0 0 3 (W_Model cyI cyJ cyZ a_M a_M_square a_M_want a_M_text a_M_read a_M_row a_M_foldSet a_M_foldEdges a_M_foldNeeds a_M_foldYards a_M_least a_M_ways a_M_price a_M_rowBy a_M_columnBy a_M_rowOf a_M_wayBack a_M_slack a_M_isUsed a_M_lifted a_M_freed a_M_path M_wide M_high M_hedges M_hurdles M_wants M_rest M_frozen M_bytes M_position M_tokenAt M_token M_digits M_number M_faultAt M_readMany M_readWide M_readHigh M_nights M_why M_folds M_square M_want M_text M_read M_row M_foldSet M_foldEdges M_foldNeeds M_foldYards M_least M_ways M_price M_rowBy M_columnBy M_rowOf M_wayBack M_slack M_isUsed M_lifted M_freed M_path) [(0, .ref a_M), (2, .int x2)] 35 [.int s0, .int s1] := by
  unfold bk_X11_rich_35 at h
  refine j_ior cx dX11_rich_35 (pn := 36) rfl ?_
  refine j_topi (fun y5 ey5 => ?_)
  have h := h y5 ey5
  refine j_istore_n cx rfl [(1, .int y5), (0, .ref a_M), (2, .int x2)] (by decide) rfl dX11_rich_36 (pn := 37) rfl ?_
  obtain ⟨y6, ey6⟩ : ∃ z : Int32, z = x2 + 1 := ⟨_, rfl⟩
  have h := h y6 ey6
  refine j_iinc cx 2 rfl (cst := 1) (by decide) ey6 [(2, .int y6), (1, .int y5), (0, .ref a_M)] (by decide) rfl dX11_rich_37 (pn := 40) rfl ?_
  refine j_goto cx 4 dX11_rich_40 rfl ?_
  refine j_sub [2, 1, 0] [(0, .ref a_M), (1, .int y5), (2, .int y6)] rfl ?_
  exact hB4 _ _ h
set_option maxHeartbeats 4000000 in
set_option maxRecDepth 100000 in
theorem B_X11_rich_4 {x : CX} {D : DG} {cyI cyJ cyZ : ClassId} {a_M a_M_square a_M_want a_M_text a_M_read a_M_row a_M_foldSet a_M_foldEdges a_M_foldNeeds a_M_foldYards a_M_least a_M_ways a_M_price a_M_rowBy a_M_columnBy a_M_rowOf a_M_wayBack a_M_slack a_M_isUsed a_M_lifted a_M_freed a_M_path : Nat} {M_wide : Int32} {M_high : Int32} {M_hedges : Int64} {M_hurdles : Int32} {M_wants : Int32} {M_rest : Int32} {M_frozen : Int32} {M_bytes : Int32} {M_position : Int32} {M_tokenAt : Int32} {M_token : Int64} {M_digits : Int32} {M_number : Int32} {M_faultAt : Int32} {M_readMany : Int32} {M_readWide : Int32} {M_readHigh : Int32} {M_nights : Int32} {M_why : Int32} {M_folds : Int32} {M_square : Nat → Int32} {M_want : Nat → Int32} {M_text : Nat → Int32} {M_read : Nat → Int32} {M_row : Nat → Int32} {M_foldSet : Nat → Int32} {M_foldEdges : Nat → Int64} {M_foldNeeds : Nat → Int32} {M_foldYards : Nat → Int32} {M_least : Nat → Int32} {M_ways : Nat → Int32} {M_price : Nat → Int32} {M_rowBy : Nat → Int32} {M_columnBy : Nat → Int32} {M_rowOf : Nat → Int32} {M_wayBack : Nat → Int32} {M_slack : Nat → Int32} {M_isUsed : Nat → Int32} {M_lifted : Nat → Int32} {M_freed : Nat → Int32} {M_path : Nat → Int32} {x1 : Int32} {x2 : Int32} {Q : Int32 → Prop} {B4 : Int32 → Int32 → Prop} (cx : Cx x cX11_rich 3 RX11 rm_X11_rich D [(cyI, .int), (cyJ, .long), (cyZ, .boolean)]) (hR : ∀ (v : Int32) (pc : Nat) (lv : List (Nat × Value)), decode cX11_rich pc = .ok (.ireturn, 1) → Q v → J x 0 0 3 (W_Model cyI cyJ cyZ a_M a_M_square a_M_want a_M_text a_M_read a_M_row a_M_foldSet a_M_foldEdges a_M_foldNeeds a_M_foldYards a_M_least a_M_ways a_M_price a_M_rowBy a_M_columnBy a_M_rowOf a_M_wayBack a_M_slack a_M_isUsed a_M_lifted a_M_freed a_M_path M_wide M_high M_hedges M_hurdles M_wants M_rest M_frozen M_bytes M_position M_tokenAt M_token M_digits M_number M_faultAt M_readMany M_readWide M_readHigh M_nights M_why M_folds M_square M_want M_text M_read M_row M_foldSet M_foldEdges M_foldNeeds M_foldYards M_least M_ways M_price M_rowBy M_columnBy M_rowOf M_wayBack M_slack M_isUsed M_lifted M_freed M_path) lv pc [.int v]) (hB4 : ∀ (x1 : Int32) (x2 : Int32), B4 x1 x2 → J x 0 0 3 (W_Model cyI cyJ cyZ a_M a_M_square a_M_want a_M_text a_M_read a_M_row a_M_foldSet a_M_foldEdges a_M_foldNeeds a_M_foldYards a_M_least a_M_ways a_M_price a_M_rowBy a_M_columnBy a_M_rowOf a_M_wayBack a_M_slack a_M_isUsed a_M_lifted a_M_freed a_M_path M_wide M_high M_hedges M_hurdles M_wants M_rest M_frozen M_bytes M_position M_tokenAt M_token M_digits M_number M_faultAt M_readMany M_readWide M_readHigh M_nights M_why M_folds M_square M_want M_text M_read M_row M_foldSet M_foldEdges M_foldNeeds M_foldYards M_least M_ways M_price M_rowBy M_columnBy M_rowOf M_wayBack M_slack M_isUsed M_lifted M_freed M_path) [(0, .ref a_M), (1, .int x1), (2, .int x2)] 4 []) (h : bd_X11_rich_4 Q B4 M_wide M_high M_square x1 x2) :
    J x 0 0 3 (W_Model cyI cyJ cyZ a_M a_M_square a_M_want a_M_text a_M_read a_M_row a_M_foldSet a_M_foldEdges a_M_foldNeeds a_M_foldYards a_M_least a_M_ways a_M_price a_M_rowBy a_M_columnBy a_M_rowOf a_M_wayBack a_M_slack a_M_isUsed a_M_lifted a_M_freed a_M_path M_wide M_high M_hedges M_hurdles M_wants M_rest M_frozen M_bytes M_position M_tokenAt M_token M_digits M_number M_faultAt M_readMany M_readWide M_readHigh M_nights M_why M_folds M_square M_want M_text M_read M_row M_foldSet M_foldEdges M_foldNeeds M_foldYards M_least M_ways M_price M_rowBy M_columnBy M_rowOf M_wayBack M_slack M_isUsed M_lifted M_freed M_path) [(0, .ref a_M), (1, .int x1), (2, .int x2)] 4 [] := by
  unfold bd_X11_rich_4 at h
  refine j_iload_n cx 2 rfl rfl dX11_rich_4 (pn := 5) rfl ?_
  refine j_aload_n cx 0 rfl rfl dX11_rich_5 (pn := 6) rfl ?_
  refine j_callvI0 cx q_inst_X11_squares q_sel_X11_squares (b := a_M) (As := []) (rest := [.int x2]) (c_X11_squares h) ⟨q_code_X11_squares, q_ml_X11_86, q_init_X11, hd_X11_squares, ⟨Nat.le_of_ble_eq_true rfl, Nat.le_of_ble_eq_true rfl⟩, Nat.le_of_ble_eq_true rfl, Nat.le_of_ble_eq_true rfl⟩ (q0 := 0) rfl rfl rfl rfl (Nat.le_of_ble_eq_true rfl) dX11_rich_6 (pn := 9) rfl (fun r1 _ h => ?_)
  show J x 0 0 3 (W_Model cyI cyJ cyZ a_M a_M_square a_M_want a_M_text a_M_read a_M_row a_M_foldSet a_M_foldEdges a_M_foldNeeds a_M_foldYards a_M_least a_M_ways a_M_price a_M_rowBy a_M_columnBy a_M_rowOf a_M_wayBack a_M_slack a_M_isUsed a_M_lifted a_M_freed a_M_path M_wide M_high M_hedges M_hurdles M_wants M_rest M_frozen M_bytes M_position M_tokenAt M_token M_digits M_number M_faultAt M_readMany M_readWide M_readHigh M_nights M_why M_folds M_square M_want M_text M_read M_row M_foldSet M_foldEdges M_foldNeeds M_foldYards M_least M_ways M_price M_rowBy M_columnBy M_rowOf M_wayBack M_slack M_isUsed M_lifted M_freed M_path) [(0, .ref a_M), (1, .int x1), (2, .int x2)] 9 [.int r1, .int x2]
  refine j_icmp_ge cx 43 dX11_rich_9 (pn := 12) rfl rfl (fun c2 => ?_) (fun c2 => ?_)
  · have h := h.1 c2
    refine j_iload_n cx 1 rfl rfl dX11_rich_43 (pn := 44) rfl ?_
    exact hR x1 44 _ dX11_rich_44 h
  · have h := h.2 c2
    refine j_iload_n cx 1 rfl rfl dX11_rich_12 (pn := 13) rfl ?_
    refine j_aload_n cx 0 rfl rfl dX11_rich_13 (pn := 14) rfl ?_
    refine j_get cx inGX11 0 rfl rfl 2 (by decide) q_fl_X11_16 rfl rfl dX11_rich_14 (pn := 17) rfl ?_
    refine j_iload_n cx 2 rfl rfl dX11_rich_17 (pn := 18) rfl ?_
    refine j_iald cx 1 0 rfl rfl h.1 dX11_rich_18 (pn := 19) rfl ?_
    have h := h.2
    refine j_iconst cx (v := 1) (by decide) dX11_rich_19 (pn := 20) rfl ?_
    refine j_bipush cx (v := 9) (by decide) dX11_rich_20 (pn := 22) rfl ?_
    refine j_calleI cx q_stat_X11_in (As := [.int (M_square x2.toNatClampNeg), .int 1, .int 9]) (rest := [.int x1]) (c_X11_in h) ⟨q_code_X11_in, q_ml_X11_90, q_init_X11, hd_X11_in, ⟨Nat.le_of_ble_eq_true rfl, Nat.le_of_ble_eq_true rfl⟩, Nat.le_of_ble_eq_true rfl, Nat.le_of_ble_eq_true rfl⟩ rfl rfl (Nat.le_of_ble_eq_true rfl) dX11_rich_22 (pn := 25) rfl (fun r3 h => ?_)
    show J x 0 0 3 (W_Model cyI cyJ cyZ a_M a_M_square a_M_want a_M_text a_M_read a_M_row a_M_foldSet a_M_foldEdges a_M_foldNeeds a_M_foldYards a_M_least a_M_ways a_M_price a_M_rowBy a_M_columnBy a_M_rowOf a_M_wayBack a_M_slack a_M_isUsed a_M_lifted a_M_freed a_M_path M_wide M_high M_hedges M_hurdles M_wants M_rest M_frozen M_bytes M_position M_tokenAt M_token M_digits M_number M_faultAt M_readMany M_readWide M_readHigh M_nights M_why M_folds M_square M_want M_text M_read M_row M_foldSet M_foldEdges M_foldNeeds M_foldYards M_least M_ways M_price M_rowBy M_columnBy M_rowOf M_wayBack M_slack M_isUsed M_lifted M_freed M_path) [(0, .ref a_M), (1, .int x1), (2, .int x2)] 25 [.int r3, .int x1]
    refine j_if_eq cx 34 dX11_rich_25 (pn := 28) rfl rfl (fun c4 => ?_) (fun c4 => ?_)
    · have h := h.1 c4
      refine j_iconst cx (v := 0) (by decide) dX11_rich_34 (pn := 35) rfl ?_
      refine j_sub [0, 2] [(0, .ref a_M), (2, .int x2)] rfl ?_
      exact J_X11_rich_35 cx hR hB4 h
    · have h := h.2 c4
      refine j_iconst cx (v := 1) (by decide) dX11_rich_28 (pn := 29) rfl ?_
      refine j_iload_n cx 2 rfl rfl dX11_rich_29 (pn := 30) rfl ?_
      refine j_ishl cx dX11_rich_30 (pn := 31) rfl ?_
      refine j_goto cx 35 dX11_rich_31 rfl ?_
      refine j_sub [0, 2] [(0, .ref a_M), (2, .int x2)] rfl ?_
      exact J_X11_rich_35 cx hR hB4 h
set_option maxHeartbeats 4000000 in
set_option maxRecDepth 100000 in
theorem J_X11_rich_4 {x : CX} {D : DG} {cyI cyJ cyZ : ClassId} {a_M a_M_square a_M_want a_M_text a_M_read a_M_row a_M_foldSet a_M_foldEdges a_M_foldNeeds a_M_foldYards a_M_least a_M_ways a_M_price a_M_rowBy a_M_columnBy a_M_rowOf a_M_wayBack a_M_slack a_M_isUsed a_M_lifted a_M_freed a_M_path : Nat} {M_wide : Int32} {M_high : Int32} {M_hedges : Int64} {M_hurdles : Int32} {M_wants : Int32} {M_rest : Int32} {M_frozen : Int32} {M_bytes : Int32} {M_position : Int32} {M_tokenAt : Int32} {M_token : Int64} {M_digits : Int32} {M_number : Int32} {M_faultAt : Int32} {M_readMany : Int32} {M_readWide : Int32} {M_readHigh : Int32} {M_nights : Int32} {M_why : Int32} {M_folds : Int32} {M_square : Nat → Int32} {M_want : Nat → Int32} {M_text : Nat → Int32} {M_read : Nat → Int32} {M_row : Nat → Int32} {M_foldSet : Nat → Int32} {M_foldEdges : Nat → Int64} {M_foldNeeds : Nat → Int32} {M_foldYards : Nat → Int32} {M_least : Nat → Int32} {M_ways : Nat → Int32} {M_price : Nat → Int32} {M_rowBy : Nat → Int32} {M_columnBy : Nat → Int32} {M_rowOf : Nat → Int32} {M_wayBack : Nat → Int32} {M_slack : Nat → Int32} {M_isUsed : Nat → Int32} {M_lifted : Nat → Int32} {M_freed : Nat → Int32} {M_path : Nat → Int32} {x1 : Int32} {x2 : Int32} {Q : Int32 → Prop} (cx : Cx x cX11_rich 3 RX11 rm_X11_rich D [(cyI, .int), (cyJ, .long), (cyZ, .boolean)]) (hR : ∀ (v : Int32) (pc : Nat) (lv : List (Nat × Value)), decode cX11_rich pc = .ok (.ireturn, 1) → Q v → J x 0 0 3 (W_Model cyI cyJ cyZ a_M a_M_square a_M_want a_M_text a_M_read a_M_row a_M_foldSet a_M_foldEdges a_M_foldNeeds a_M_foldYards a_M_least a_M_ways a_M_price a_M_rowBy a_M_columnBy a_M_rowOf a_M_wayBack a_M_slack a_M_isUsed a_M_lifted a_M_freed a_M_path M_wide M_high M_hedges M_hurdles M_wants M_rest M_frozen M_bytes M_position M_tokenAt M_token M_digits M_number M_faultAt M_readMany M_readWide M_readHigh M_nights M_why M_folds M_square M_want M_text M_read M_row M_foldSet M_foldEdges M_foldNeeds M_foldYards M_least M_ways M_price M_rowBy M_columnBy M_rowOf M_wayBack M_slack M_isUsed M_lifted M_freed M_path) lv pc [.int v]) (h : lp_X11_rich_4 Q  M_wide M_high M_square x1 x2) :
    J x 0 0 3 (W_Model cyI cyJ cyZ a_M a_M_square a_M_want a_M_text a_M_read a_M_row a_M_foldSet a_M_foldEdges a_M_foldNeeds a_M_foldYards a_M_least a_M_ways a_M_price a_M_rowBy a_M_columnBy a_M_rowOf a_M_wayBack a_M_slack a_M_isUsed a_M_lifted a_M_freed a_M_path M_wide M_high M_hedges M_hurdles M_wants M_rest M_frozen M_bytes M_position M_tokenAt M_token M_digits M_number M_faultAt M_readMany M_readWide M_readHigh M_nights M_why M_folds M_square M_want M_text M_read M_row M_foldSet M_foldEdges M_foldNeeds M_foldYards M_least M_ways M_price M_rowBy M_columnBy M_rowOf M_wayBack M_slack M_isUsed M_lifted M_freed M_path) [(0, .ref a_M), (1, .int x1), (2, .int x2)] 4 [] := by
  obtain ⟨I, ⟨n, h0⟩, hb⟩ := h
  revert x1 x2
  induction n using Nat.strongRecOn with
  | _ n ih =>
    intro x1 x2 h0
    exact B_X11_rich_4 cx hR (fun _ _ hz => by obtain ⟨n2, hlt, hI⟩ := hz; exact ih n2 hlt hI) (hb n x1 x2 h0)
set_option maxHeartbeats 4000000 in
set_option maxRecDepth 100000 in
theorem c_X11_rich {D : DG} {cyI cyJ cyZ : ClassId} {a_M a_M_square a_M_want a_M_text a_M_read a_M_row a_M_foldSet a_M_foldEdges a_M_foldNeeds a_M_foldYards a_M_least a_M_ways a_M_price a_M_rowBy a_M_columnBy a_M_rowOf a_M_wayBack a_M_slack a_M_isUsed a_M_lifted a_M_freed a_M_path : Nat} {M_wide : Int32} {M_high : Int32} {M_hedges : Int64} {M_hurdles : Int32} {M_wants : Int32} {M_rest : Int32} {M_frozen : Int32} {M_bytes : Int32} {M_position : Int32} {M_tokenAt : Int32} {M_token : Int64} {M_digits : Int32} {M_number : Int32} {M_faultAt : Int32} {M_readMany : Int32} {M_readWide : Int32} {M_readHigh : Int32} {M_nights : Int32} {M_why : Int32} {M_folds : Int32} {M_square : Nat → Int32} {M_want : Nat → Int32} {M_text : Nat → Int32} {M_read : Nat → Int32} {M_row : Nat → Int32} {M_foldSet : Nat → Int32} {M_foldEdges : Nat → Int64} {M_foldNeeds : Nat → Int32} {M_foldYards : Nat → Int32} {M_least : Nat → Int32} {M_ways : Nat → Int32} {M_price : Nat → Int32} {M_rowBy : Nat → Int32} {M_columnBy : Nat → Int32} {M_rowOf : Nat → Int32} {M_wayBack : Nat → Int32} {M_slack : Nat → Int32} {M_isUsed : Nat → Int32} {M_lifted : Nat → Int32} {M_freed : Nat → Int32} {M_path : Nat → Int32} {Q : Int32 → Prop} (h : wp_X11_rich M_wide M_high M_square Q) :
    MetI yX11_rich cX11_rich 3 (some .int) rm_X11_rich D [(cyI, .int), (cyJ, .long), (cyZ, .boolean)] [.ref a_M] (W_Model cyI cyJ cyZ a_M a_M_square a_M_want a_M_text a_M_read a_M_row a_M_foldSet a_M_foldEdges a_M_foldNeeds a_M_foldYards a_M_least a_M_ways a_M_price a_M_rowBy a_M_columnBy a_M_rowOf a_M_wayBack a_M_slack a_M_isUsed a_M_lifted a_M_freed a_M_path M_wide M_high M_hedges M_hurdles M_wants M_rest M_frozen M_bytes M_position M_tokenAt M_token M_digits M_number M_faultAt M_readMany M_readWide M_readHigh M_nights M_why M_folds M_square M_want M_text M_read M_row M_foldSet M_foldEdges M_foldNeeds M_foldYards M_least M_ways M_price M_rowBy M_columnBy M_rowOf M_wayBack M_slack M_isUsed M_lifted M_freed M_path) (fun _ : Unit => (W_Model cyI cyJ cyZ a_M a_M_square a_M_want a_M_text a_M_read a_M_row a_M_foldSet a_M_foldEdges a_M_foldNeeds a_M_foldYards a_M_least a_M_ways a_M_price a_M_rowBy a_M_columnBy a_M_rowOf a_M_wayBack a_M_slack a_M_isUsed a_M_lifted a_M_freed a_M_path M_wide M_high M_hedges M_hurdles M_wants M_rest M_frozen M_bytes M_position M_tokenAt M_token M_digits M_number M_faultAt M_readMany M_readWide M_readHigh M_nights M_why M_folds M_square M_want M_text M_read M_row M_foldSet M_foldEdges M_foldNeeds M_foldYards M_least M_ways M_price M_rowBy M_columnBy M_rowOf M_wayBack M_slack M_isUsed M_lifted M_freed M_path)) (fun v _ => Q v ) := by
  unfold wp_X11_rich at h
  refine metI_of (by decide) (Nat.le_of_ble_eq_true rfl) (fun x cx0 hR0 => ?_)
  have cx : Cx x cX11_rich 3 RX11 rm_X11_rich D [(cyI, .int), (cyJ, .long), (cyZ, .boolean)] := cx0
  have hR : ∀ (v : Int32) (pc : Nat) (lv : List (Nat × Value)), decode cX11_rich pc = .ok (.ireturn, 1) → Q v → J x 0 0 3 (W_Model cyI cyJ cyZ a_M a_M_square a_M_want a_M_text a_M_read a_M_row a_M_foldSet a_M_foldEdges a_M_foldNeeds a_M_foldYards a_M_least a_M_ways a_M_price a_M_rowBy a_M_columnBy a_M_rowOf a_M_wayBack a_M_slack a_M_isUsed a_M_lifted a_M_freed a_M_path M_wide M_high M_hedges M_hurdles M_wants M_rest M_frozen M_bytes M_position M_tokenAt M_token M_digits M_number M_faultAt M_readMany M_readWide M_readHigh M_nights M_why M_folds M_square M_want M_text M_read M_row M_foldSet M_foldEdges M_foldNeeds M_foldYards M_least M_ways M_price M_rowBy M_columnBy M_rowOf M_wayBack M_slack M_isUsed M_lifted M_freed M_path) lv pc [.int v] := (fun v pc lv d hq => hR0 v () pc lv d hq)
  show J x 0 0 3 (W_Model cyI cyJ cyZ a_M a_M_square a_M_want a_M_text a_M_read a_M_row a_M_foldSet a_M_foldEdges a_M_foldNeeds a_M_foldYards a_M_least a_M_ways a_M_price a_M_rowBy a_M_columnBy a_M_rowOf a_M_wayBack a_M_slack a_M_isUsed a_M_lifted a_M_freed a_M_path M_wide M_high M_hedges M_hurdles M_wants M_rest M_frozen M_bytes M_position M_tokenAt M_token M_digits M_number M_faultAt M_readMany M_readWide M_readHigh M_nights M_why M_folds M_square M_want M_text M_read M_row M_foldSet M_foldEdges M_foldNeeds M_foldYards M_least M_ways M_price M_rowBy M_columnBy M_rowOf M_wayBack M_slack M_isUsed M_lifted M_freed M_path) [(0, .ref a_M)] 0 []
  refine j_iconst cx (v := 0) (by decide) dX11_rich_0 (pn := 1) rfl ?_
  refine j_istore_n cx rfl [(1, .int 0), (0, .ref a_M)] (by decide) rfl dX11_rich_1 (pn := 2) rfl ?_
  refine j_iconst cx (v := 0) (by decide) dX11_rich_2 (pn := 3) rfl ?_
  refine j_istore_n cx rfl [(2, .int 0), (1, .int 0), (0, .ref a_M)] (by decide) rfl dX11_rich_3 (pn := 4) rfl ?_
  refine j_sub [2, 1, 0] [(0, .ref a_M), (1, .int 0), (2, .int 0)] rfl ?_
  exact J_X11_rich_4 cx hR h
theorem dX11_canFollow_0 : decode cX11_canFollow 0 = .ok (.aload_n 0, 1) := by decide +kernel
theorem dX11_canFollow_1 : decode cX11_canFollow 1 = .ok (.getfield 35, 3) := by decide +kernel
theorem dX11_canFollow_4 : decode cX11_canFollow 4 = .ok (.iload_n 3, 1) := by decide +kernel
theorem dX11_canFollow_5 : decode cX11_canFollow 5 = .ok (.iaload, 1) := by decide +kernel
theorem dX11_canFollow_6 : decode cX11_canFollow 6 = .ok (.iload_n 1, 1) := by decide +kernel
theorem dX11_canFollow_7 : decode cX11_canFollow 7 = .ok (.iand, 1) := by decide +kernel
theorem dX11_canFollow_8 : decode cX11_canFollow 8 = .ok (.ifCond .ne 27, 3) := by decide +kernel
theorem dX11_canFollow_11 : decode cX11_canFollow 11 = .ok (.aload_n 0, 1) := by decide +kernel
theorem dX11_canFollow_12 : decode cX11_canFollow 12 = .ok (.aload_n 0, 1) := by decide +kernel
theorem dX11_canFollow_13 : decode cX11_canFollow 13 = .ok (.getfield 35, 3) := by decide +kernel
theorem dX11_canFollow_16 : decode cX11_canFollow 16 = .ok (.iload_n 2, 1) := by decide +kernel
theorem dX11_canFollow_17 : decode cX11_canFollow 17 = .ok (.iaload, 1) := by decide +kernel
theorem dX11_canFollow_18 : decode cX11_canFollow 18 = .ok (.invokevirtual 234, 3) := by decide +kernel
theorem dX11_canFollow_21 : decode cX11_canFollow 21 = .ok (.aload_n 0, 1) := by decide +kernel
theorem dX11_canFollow_22 : decode cX11_canFollow 22 = .ok (.getfield 35, 3) := by decide +kernel
theorem dX11_canFollow_25 : decode cX11_canFollow 25 = .ok (.iload_n 3, 1) := by decide +kernel
theorem dX11_canFollow_26 : decode cX11_canFollow 26 = .ok (.iaload, 1) := by decide +kernel
theorem dX11_canFollow_27 : decode cX11_canFollow 27 = .ok (.iand, 1) := by decide +kernel
theorem dX11_canFollow_28 : decode cX11_canFollow 28 = .ok (.ifCond .eq 7, 3) := by decide +kernel
theorem dX11_canFollow_31 : decode cX11_canFollow 31 = .ok (.iconst 1, 1) := by decide +kernel
theorem dX11_canFollow_32 : decode cX11_canFollow 32 = .ok (.goto 4, 3) := by decide +kernel
theorem dX11_canFollow_35 : decode cX11_canFollow 35 = .ok (.iconst 0, 1) := by decide +kernel
theorem dX11_canFollow_36 : decode cX11_canFollow 36 = .ok (.ireturn, 1) := by decide +kernel
abbrev rm_X11_canFollow : Room := { frames := 3, cells := 0, slots := 0, locals := 71 }
theorem hd_X11_canFollow : yX11_canFollow.cls ≠ "java/lang/invoke/MethodHandle" ∧ yX11_canFollow.cls ≠ "java/lang/invoke/VarHandle" ∧ (parseMethodDescriptor yX11_canFollow.desc).map (fun d => d.parameters.length) = some 3 := by decide +kernel
def wp_X11_canFollow (p1 : Int32) (p2 : Int32) (p3 : Int32) (M_wide : Int32) (M_high : Int32) (M_foldSet : Nat → Int32) (Q : Int32 → Prop) : Prop :=
vp_in p3 280 ∧ ((¬ ((M_foldSet p3.toNatClampNeg) &&& p1) = 0 → Q 0) ∧
(((M_foldSet p3.toNatClampNeg) &&& p1) = 0 → vp_in p2 280 ∧ wp_X11_besides (M_foldSet p2.toNatClampNeg) M_wide M_high (fun (r2 : Int32) => vp_in p3 280 ∧ (((r2 &&& (M_foldSet p3.toNatClampNeg)) = 0 → Q 0) ∧
(¬ (r2 &&& (M_foldSet p3.toNatClampNeg)) = 0 → Q 1)))))
set_option maxHeartbeats 4000000 in
set_option maxRecDepth 100000 in
theorem c_X11_canFollow {D : DG} {cyI cyJ cyZ : ClassId} {a_M a_M_square a_M_want a_M_text a_M_read a_M_row a_M_foldSet a_M_foldEdges a_M_foldNeeds a_M_foldYards a_M_least a_M_ways a_M_price a_M_rowBy a_M_columnBy a_M_rowOf a_M_wayBack a_M_slack a_M_isUsed a_M_lifted a_M_freed a_M_path : Nat} {M_wide : Int32} {M_high : Int32} {M_hedges : Int64} {M_hurdles : Int32} {M_wants : Int32} {M_rest : Int32} {M_frozen : Int32} {M_bytes : Int32} {M_position : Int32} {M_tokenAt : Int32} {M_token : Int64} {M_digits : Int32} {M_number : Int32} {M_faultAt : Int32} {M_readMany : Int32} {M_readWide : Int32} {M_readHigh : Int32} {M_nights : Int32} {M_why : Int32} {M_folds : Int32} {M_square : Nat → Int32} {M_want : Nat → Int32} {M_text : Nat → Int32} {M_read : Nat → Int32} {M_row : Nat → Int32} {M_foldSet : Nat → Int32} {M_foldEdges : Nat → Int64} {M_foldNeeds : Nat → Int32} {M_foldYards : Nat → Int32} {M_least : Nat → Int32} {M_ways : Nat → Int32} {M_price : Nat → Int32} {M_rowBy : Nat → Int32} {M_columnBy : Nat → Int32} {M_rowOf : Nat → Int32} {M_wayBack : Nat → Int32} {M_slack : Nat → Int32} {M_isUsed : Nat → Int32} {M_lifted : Nat → Int32} {M_freed : Nat → Int32} {M_path : Nat → Int32} {p1 : Int32} {p2 : Int32} {p3 : Int32} {Q : Int32 → Prop} (h : wp_X11_canFollow p1 p2 p3 M_wide M_high M_foldSet Q) :
    MetI yX11_canFollow cX11_canFollow 4 (some .boolean) rm_X11_canFollow D [(cyI, .int), (cyJ, .long), (cyZ, .boolean)] [.ref a_M, .int p1, .int p2, .int p3] (W_Model cyI cyJ cyZ a_M a_M_square a_M_want a_M_text a_M_read a_M_row a_M_foldSet a_M_foldEdges a_M_foldNeeds a_M_foldYards a_M_least a_M_ways a_M_price a_M_rowBy a_M_columnBy a_M_rowOf a_M_wayBack a_M_slack a_M_isUsed a_M_lifted a_M_freed a_M_path M_wide M_high M_hedges M_hurdles M_wants M_rest M_frozen M_bytes M_position M_tokenAt M_token M_digits M_number M_faultAt M_readMany M_readWide M_readHigh M_nights M_why M_folds M_square M_want M_text M_read M_row M_foldSet M_foldEdges M_foldNeeds M_foldYards M_least M_ways M_price M_rowBy M_columnBy M_rowOf M_wayBack M_slack M_isUsed M_lifted M_freed M_path) (fun _ : Unit => (W_Model cyI cyJ cyZ a_M a_M_square a_M_want a_M_text a_M_read a_M_row a_M_foldSet a_M_foldEdges a_M_foldNeeds a_M_foldYards a_M_least a_M_ways a_M_price a_M_rowBy a_M_columnBy a_M_rowOf a_M_wayBack a_M_slack a_M_isUsed a_M_lifted a_M_freed a_M_path M_wide M_high M_hedges M_hurdles M_wants M_rest M_frozen M_bytes M_position M_tokenAt M_token M_digits M_number M_faultAt M_readMany M_readWide M_readHigh M_nights M_why M_folds M_square M_want M_text M_read M_row M_foldSet M_foldEdges M_foldNeeds M_foldYards M_least M_ways M_price M_rowBy M_columnBy M_rowOf M_wayBack M_slack M_isUsed M_lifted M_freed M_path)) (fun v _ => Q v ) := by
  unfold wp_X11_canFollow at h
  refine metZ_of (by decide) (Nat.le_of_ble_eq_true rfl) (fun x cx0 hR0 => ?_)
  have cx : Cx x cX11_canFollow 4 RX11 rm_X11_canFollow D [(cyI, .int), (cyJ, .long), (cyZ, .boolean)] := cx0
  have hR : ∀ (v : Int32) (pc : Nat) (lv : List (Nat × Value)), decode cX11_canFollow pc = .ok (.ireturn, 1) → (v = 0 ∨ v = 1) → Q v → J x 0 0 4 (W_Model cyI cyJ cyZ a_M a_M_square a_M_want a_M_text a_M_read a_M_row a_M_foldSet a_M_foldEdges a_M_foldNeeds a_M_foldYards a_M_least a_M_ways a_M_price a_M_rowBy a_M_columnBy a_M_rowOf a_M_wayBack a_M_slack a_M_isUsed a_M_lifted a_M_freed a_M_path M_wide M_high M_hedges M_hurdles M_wants M_rest M_frozen M_bytes M_position M_tokenAt M_token M_digits M_number M_faultAt M_readMany M_readWide M_readHigh M_nights M_why M_folds M_square M_want M_text M_read M_row M_foldSet M_foldEdges M_foldNeeds M_foldYards M_least M_ways M_price M_rowBy M_columnBy M_rowOf M_wayBack M_slack M_isUsed M_lifted M_freed M_path) lv pc [.int v] := (fun v pc lv d hz hq => hR0 v () pc lv d hz hq)
  show J x 0 0 4 (W_Model cyI cyJ cyZ a_M a_M_square a_M_want a_M_text a_M_read a_M_row a_M_foldSet a_M_foldEdges a_M_foldNeeds a_M_foldYards a_M_least a_M_ways a_M_price a_M_rowBy a_M_columnBy a_M_rowOf a_M_wayBack a_M_slack a_M_isUsed a_M_lifted a_M_freed a_M_path M_wide M_high M_hedges M_hurdles M_wants M_rest M_frozen M_bytes M_position M_tokenAt M_token M_digits M_number M_faultAt M_readMany M_readWide M_readHigh M_nights M_why M_folds M_square M_want M_text M_read M_row M_foldSet M_foldEdges M_foldNeeds M_foldYards M_least M_ways M_price M_rowBy M_columnBy M_rowOf M_wayBack M_slack M_isUsed M_lifted M_freed M_path) [(0, .ref a_M), (1, .int p1), (2, .int p2), (3, .int p3)] 0 []
  refine j_aload_n cx 0 rfl rfl dX11_canFollow_0 (pn := 1) rfl ?_
  refine j_get cx inGX11 0 rfl rfl 25 (by decide) q_fl_X11_35 rfl rfl dX11_canFollow_1 (pn := 4) rfl ?_
  refine j_iload_n cx 3 rfl rfl dX11_canFollow_4 (pn := 5) rfl ?_
  refine j_iald cx 6 0 rfl rfl h.1 dX11_canFollow_5 (pn := 6) rfl ?_
  have h := h.2
  refine j_iload_n cx 1 rfl rfl dX11_canFollow_6 (pn := 7) rfl ?_
  refine j_iand cx dX11_canFollow_7 (pn := 8) rfl ?_
  refine j_if_ne cx 35 dX11_canFollow_8 (pn := 11) rfl rfl (fun c1 => ?_) (fun c1 => ?_)
  · have h := h.1 c1
    refine j_iconst cx (v := 0) (by decide) dX11_canFollow_35 (pn := 36) rfl ?_
    exact hR 0 36 _ dX11_canFollow_36 (Or.inl rfl) h
  · have h := h.2 c1
    refine j_aload_n cx 0 rfl rfl dX11_canFollow_11 (pn := 12) rfl ?_
    refine j_aload_n cx 0 rfl rfl dX11_canFollow_12 (pn := 13) rfl ?_
    refine j_get cx inGX11 0 rfl rfl 25 (by decide) q_fl_X11_35 rfl rfl dX11_canFollow_13 (pn := 16) rfl ?_
    refine j_iload_n cx 2 rfl rfl dX11_canFollow_16 (pn := 17) rfl ?_
    refine j_iald cx 6 0 rfl rfl h.1 dX11_canFollow_17 (pn := 18) rfl ?_
    have h := h.2
    refine j_callvI0 cx q_inst_X11_besides q_sel_X11_besides (b := a_M) (As := [.int (M_foldSet p2.toNatClampNeg)]) (rest := []) (c_X11_besides h) ⟨q_code_X11_besides, q_ml_X11_234, q_init_X11, hd_X11_besides, ⟨Nat.le_of_ble_eq_true rfl, Nat.le_of_ble_eq_true rfl⟩, Nat.le_of_ble_eq_true rfl, Nat.le_of_ble_eq_true rfl⟩ (q0 := 0) rfl rfl rfl rfl (Nat.le_of_ble_eq_true rfl) dX11_canFollow_18 (pn := 21) rfl (fun r2 _ h => ?_)
    show J x 0 0 4 (W_Model cyI cyJ cyZ a_M a_M_square a_M_want a_M_text a_M_read a_M_row a_M_foldSet a_M_foldEdges a_M_foldNeeds a_M_foldYards a_M_least a_M_ways a_M_price a_M_rowBy a_M_columnBy a_M_rowOf a_M_wayBack a_M_slack a_M_isUsed a_M_lifted a_M_freed a_M_path M_wide M_high M_hedges M_hurdles M_wants M_rest M_frozen M_bytes M_position M_tokenAt M_token M_digits M_number M_faultAt M_readMany M_readWide M_readHigh M_nights M_why M_folds M_square M_want M_text M_read M_row M_foldSet M_foldEdges M_foldNeeds M_foldYards M_least M_ways M_price M_rowBy M_columnBy M_rowOf M_wayBack M_slack M_isUsed M_lifted M_freed M_path) [(0, .ref a_M), (1, .int p1), (2, .int p2), (3, .int p3)] 21 [.int r2]
    refine j_aload_n cx 0 rfl rfl dX11_canFollow_21 (pn := 22) rfl ?_
    refine j_get cx inGX11 0 rfl rfl 25 (by decide) q_fl_X11_35 rfl rfl dX11_canFollow_22 (pn := 25) rfl ?_
    refine j_iload_n cx 3 rfl rfl dX11_canFollow_25 (pn := 26) rfl ?_
    refine j_iald cx 6 0 rfl rfl h.1 dX11_canFollow_26 (pn := 27) rfl ?_
    have h := h.2
    refine j_iand cx dX11_canFollow_27 (pn := 28) rfl ?_
    refine j_if_eq cx 35 dX11_canFollow_28 (pn := 31) rfl rfl (fun c3 => ?_) (fun c3 => ?_)
    · have h := h.1 c3
      refine j_iconst cx (v := 0) (by decide) dX11_canFollow_35 (pn := 36) rfl ?_
      exact hR 0 36 _ dX11_canFollow_36 (Or.inl rfl) h
    · have h := h.2 c3
      refine j_iconst cx (v := 1) (by decide) dX11_canFollow_31 (pn := 32) rfl ?_
      refine j_goto cx 36 dX11_canFollow_32 rfl ?_
      exact hR 1 36 _ dX11_canFollow_36 (Or.inr rfl) h
theorem dX11_goOn_0 : decode cX11_goOn 0 = .ok (.aload_n 0, 1) := by decide +kernel
theorem dX11_goOn_1 : decode cX11_goOn 1 = .ok (.aload_n 0, 1) := by decide +kernel
theorem dX11_goOn_2 : decode cX11_goOn 2 = .ok (.getfield 35, 3) := by decide +kernel
theorem dX11_goOn_5 : decode cX11_goOn 5 = .ok (.iload_n 3, 1) := by decide +kernel
theorem dX11_goOn_6 : decode cX11_goOn 6 = .ok (.iaload, 1) := by decide +kernel
theorem dX11_goOn_7 : decode cX11_goOn 7 = .ok (.invokevirtual 234, 3) := by decide +kernel
theorem dX11_goOn_10 : decode cX11_goOn 10 = .ok (.iload_n 2, 1) := by decide +kernel
theorem dX11_goOn_11 : decode cX11_goOn 11 = .ok (.iconst (-1), 1) := by decide +kernel
theorem dX11_goOn_12 : decode cX11_goOn 12 = .ok (.ixor, 1) := by decide +kernel
theorem dX11_goOn_13 : decode cX11_goOn 13 = .ok (.iand, 1) := by decide +kernel
theorem dX11_goOn_14 : decode cX11_goOn 14 = .ok (.istore 6, 2) := by decide +kernel
theorem dX11_goOn_16 : decode cX11_goOn 16 = .ok (.aload_n 0, 1) := by decide +kernel
theorem dX11_goOn_17 : decode cX11_goOn 17 = .ok (.getfield 52, 3) := by decide +kernel
theorem dX11_goOn_20 : decode cX11_goOn 20 = .ok (.iload_n 1, 1) := by decide +kernel
theorem dX11_goOn_21 : decode cX11_goOn 21 = .ok (.iaload, 1) := by decide +kernel
theorem dX11_goOn_22 : decode cX11_goOn 22 = .ok (.i2l, 1) := by decide +kernel
theorem dX11_goOn_23 : decode cX11_goOn 23 = .ok (.lstore 7, 2) := by decide +kernel
theorem dX11_goOn_25 : decode cX11_goOn 25 = .ok (.iconst 0, 1) := by decide +kernel
theorem dX11_goOn_26 : decode cX11_goOn 26 = .ok (.istore 9, 2) := by decide +kernel
theorem dX11_goOn_28 : decode cX11_goOn 28 = .ok (.iload 9, 2) := by decide +kernel
theorem dX11_goOn_30 : decode cX11_goOn 30 = .ok (.aload_n 0, 1) := by decide +kernel
theorem dX11_goOn_31 : decode cX11_goOn 31 = .ok (.getfield 284, 3) := by decide +kernel
theorem dX11_goOn_34 : decode cX11_goOn 34 = .ok (.if_icmp .ge 178, 3) := by decide +kernel
theorem dX11_goOn_37 : decode cX11_goOn 37 = .ok (.aload_n 0, 1) := by decide +kernel
theorem dX11_goOn_38 : decode cX11_goOn 38 = .ok (.getfield 35, 3) := by decide +kernel
theorem dX11_goOn_41 : decode cX11_goOn 41 = .ok (.iload 9, 2) := by decide +kernel
theorem dX11_goOn_43 : decode cX11_goOn 43 = .ok (.iaload, 1) := by decide +kernel
theorem dX11_goOn_44 : decode cX11_goOn 44 = .ok (.iload_n 2, 1) := by decide +kernel
theorem dX11_goOn_45 : decode cX11_goOn 45 = .ok (.iand, 1) := by decide +kernel
theorem dX11_goOn_46 : decode cX11_goOn 46 = .ok (.ifCond .ne 160, 3) := by decide +kernel
theorem dX11_goOn_49 : decode cX11_goOn 49 = .ok (.aload_n 0, 1) := by decide +kernel
theorem dX11_goOn_50 : decode cX11_goOn 50 = .ok (.getfield 35, 3) := by decide +kernel
theorem dX11_goOn_53 : decode cX11_goOn 53 = .ok (.iload 9, 2) := by decide +kernel
theorem dX11_goOn_55 : decode cX11_goOn 55 = .ok (.iaload, 1) := by decide +kernel
theorem dX11_goOn_56 : decode cX11_goOn 56 = .ok (.iload 6, 2) := by decide +kernel
theorem dX11_goOn_58 : decode cX11_goOn 58 = .ok (.iand, 1) := by decide +kernel
theorem dX11_goOn_59 : decode cX11_goOn 59 = .ok (.ifCond .eq 147, 3) := by decide +kernel
theorem dX11_goOn_62 : decode cX11_goOn 62 = .ok (.aload_n 0, 1) := by decide +kernel
theorem dX11_goOn_63 : decode cX11_goOn 63 = .ok (.getfield 42, 3) := by decide +kernel
theorem dX11_goOn_66 : decode cX11_goOn 66 = .ok (.iload 9, 2) := by decide +kernel
theorem dX11_goOn_68 : decode cX11_goOn 68 = .ok (.iaload, 1) := by decide +kernel
theorem dX11_goOn_69 : decode cX11_goOn 69 = .ok (.iload 4, 2) := by decide +kernel
theorem dX11_goOn_71 : decode cX11_goOn 71 = .ok (.if_icmp .gt 135, 3) := by decide +kernel
theorem dX11_goOn_74 : decode cX11_goOn 74 = .ok (.sipush 280, 3) := by decide +kernel
theorem dX11_goOn_77 : decode cX11_goOn 77 = .ok (.iload_n 2, 1) := by decide +kernel
theorem dX11_goOn_78 : decode cX11_goOn 78 = .ok (.aload_n 0, 1) := by decide +kernel
theorem dX11_goOn_79 : decode cX11_goOn 79 = .ok (.getfield 35, 3) := by decide +kernel
theorem dX11_goOn_82 : decode cX11_goOn 82 = .ok (.iload 9, 2) := by decide +kernel
theorem dX11_goOn_84 : decode cX11_goOn 84 = .ok (.iaload, 1) := by decide +kernel
theorem dX11_goOn_85 : decode cX11_goOn 85 = .ok (.ior, 1) := by decide +kernel
theorem dX11_goOn_86 : decode cX11_goOn 86 = .ok (.imul, 1) := by decide +kernel
theorem dX11_goOn_87 : decode cX11_goOn 87 = .ok (.iload 9, 2) := by decide +kernel
theorem dX11_goOn_89 : decode cX11_goOn 89 = .ok (.iadd, 1) := by decide +kernel
theorem dX11_goOn_90 : decode cX11_goOn 90 = .ok (.istore 10, 2) := by decide +kernel
theorem dX11_goOn_92 : decode cX11_goOn 92 = .ok (.iload 5, 2) := by decide +kernel
theorem dX11_goOn_94 : decode cX11_goOn 94 = .ok (.ifCond .eq 35, 3) := by decide +kernel
theorem dX11_goOn_97 : decode cX11_goOn 97 = .ok (.aload_n 0, 1) := by decide +kernel
theorem dX11_goOn_98 : decode cX11_goOn 98 = .ok (.getfield 38, 3) := by decide +kernel
theorem dX11_goOn_101 : decode cX11_goOn 101 = .ok (.iload 9, 2) := by decide +kernel
theorem dX11_goOn_103 : decode cX11_goOn 103 = .ok (.laload, 1) := by decide +kernel
theorem dX11_goOn_104 : decode cX11_goOn 104 = .ok (.aload_n 0, 1) := by decide +kernel
theorem dX11_goOn_105 : decode cX11_goOn 105 = .ok (.getfield 38, 3) := by decide +kernel
theorem dX11_goOn_108 : decode cX11_goOn 108 = .ok (.iload_n 3, 1) := by decide +kernel
theorem dX11_goOn_109 : decode cX11_goOn 109 = .ok (.laload, 1) := by decide +kernel
theorem dX11_goOn_110 : decode cX11_goOn 110 = .ok (.ldc2_w 123, 3) := by decide +kernel
theorem dX11_goOn_113 : decode cX11_goOn 113 = .ok (.lxor, 1) := by decide +kernel
theorem dX11_goOn_114 : decode cX11_goOn 114 = .ok (.land, 1) := by decide +kernel
theorem dX11_goOn_115 : decode cX11_goOn 115 = .ok (.invokestatic 244, 3) := by decide +kernel
theorem dX11_goOn_118 : decode cX11_goOn 118 = .ok (.aload_n 0, 1) := by decide +kernel
theorem dX11_goOn_119 : decode cX11_goOn 119 = .ok (.getfield 49, 3) := by decide +kernel
theorem dX11_goOn_122 : decode cX11_goOn 122 = .ok (.iload 10, 2) := by decide +kernel
theorem dX11_goOn_124 : decode cX11_goOn 124 = .ok (.iaload, 1) := by decide +kernel
theorem dX11_goOn_125 : decode cX11_goOn 125 = .ok (.iadd, 1) := by decide +kernel
theorem dX11_goOn_126 : decode cX11_goOn 126 = .ok (.goto 37, 3) := by decide +kernel
theorem dX11_goOn_129 : decode cX11_goOn 129 = .ok (.aload_n 0, 1) := by decide +kernel
theorem dX11_goOn_130 : decode cX11_goOn 130 = .ok (.getfield 42, 3) := by decide +kernel
theorem dX11_goOn_133 : decode cX11_goOn 133 = .ok (.iload 9, 2) := by decide +kernel
theorem dX11_goOn_135 : decode cX11_goOn 135 = .ok (.iaload, 1) := by decide +kernel
theorem dX11_goOn_136 : decode cX11_goOn 136 = .ok (.aload_n 0, 1) := by decide +kernel
theorem dX11_goOn_137 : decode cX11_goOn 137 = .ok (.getfield 49, 3) := by decide +kernel
theorem dX11_goOn_140 : decode cX11_goOn 140 = .ok (.iload 10, 2) := by decide +kernel
theorem dX11_goOn_142 : decode cX11_goOn 142 = .ok (.iaload, 1) := by decide +kernel
theorem dX11_goOn_143 : decode cX11_goOn 143 = .ok (.if_icmp .le 13, 3) := by decide +kernel
theorem dX11_goOn_146 : decode cX11_goOn 146 = .ok (.aload_n 0, 1) := by decide +kernel
theorem dX11_goOn_147 : decode cX11_goOn 147 = .ok (.getfield 42, 3) := by decide +kernel
theorem dX11_goOn_150 : decode cX11_goOn 150 = .ok (.iload 9, 2) := by decide +kernel
theorem dX11_goOn_152 : decode cX11_goOn 152 = .ok (.iaload, 1) := by decide +kernel
theorem dX11_goOn_153 : decode cX11_goOn 153 = .ok (.goto 10, 3) := by decide +kernel
theorem dX11_goOn_156 : decode cX11_goOn 156 = .ok (.aload_n 0, 1) := by decide +kernel
theorem dX11_goOn_157 : decode cX11_goOn 157 = .ok (.getfield 49, 3) := by decide +kernel
theorem dX11_goOn_160 : decode cX11_goOn 160 = .ok (.iload 10, 2) := by decide +kernel
theorem dX11_goOn_162 : decode cX11_goOn 162 = .ok (.iaload, 1) := by decide +kernel
theorem dX11_goOn_163 : decode cX11_goOn 163 = .ok (.istore 11, 2) := by decide +kernel
theorem dX11_goOn_165 : decode cX11_goOn 165 = .ok (.aload_n 0, 1) := by decide +kernel
theorem dX11_goOn_166 : decode cX11_goOn 166 = .ok (.getfield 49, 3) := by decide +kernel
theorem dX11_goOn_169 : decode cX11_goOn 169 = .ok (.iload_n 1, 1) := by decide +kernel
theorem dX11_goOn_170 : decode cX11_goOn 170 = .ok (.iload 11, 2) := by decide +kernel
theorem dX11_goOn_172 : decode cX11_goOn 172 = .ok (.aload_n 0, 1) := by decide +kernel
theorem dX11_goOn_173 : decode cX11_goOn 173 = .ok (.getfield 49, 3) := by decide +kernel
theorem dX11_goOn_176 : decode cX11_goOn 176 = .ok (.iload_n 1, 1) := by decide +kernel
theorem dX11_goOn_177 : decode cX11_goOn 177 = .ok (.iaload, 1) := by decide +kernel
theorem dX11_goOn_178 : decode cX11_goOn 178 = .ok (.if_icmp .ge 8, 3) := by decide +kernel
theorem dX11_goOn_181 : decode cX11_goOn 181 = .ok (.iload 11, 2) := by decide +kernel
theorem dX11_goOn_183 : decode cX11_goOn 183 = .ok (.goto 9, 3) := by decide +kernel
theorem dX11_goOn_186 : decode cX11_goOn 186 = .ok (.aload_n 0, 1) := by decide +kernel
theorem dX11_goOn_187 : decode cX11_goOn 187 = .ok (.getfield 49, 3) := by decide +kernel
theorem dX11_goOn_190 : decode cX11_goOn 190 = .ok (.iload_n 1, 1) := by decide +kernel
theorem dX11_goOn_191 : decode cX11_goOn 191 = .ok (.iaload, 1) := by decide +kernel
theorem dX11_goOn_192 : decode cX11_goOn 192 = .ok (.iastore, 1) := by decide +kernel
theorem dX11_goOn_193 : decode cX11_goOn 193 = .ok (.lload 7, 2) := by decide +kernel
theorem dX11_goOn_195 : decode cX11_goOn 195 = .ok (.aload_n 0, 1) := by decide +kernel
theorem dX11_goOn_196 : decode cX11_goOn 196 = .ok (.getfield 52, 3) := by decide +kernel
theorem dX11_goOn_199 : decode cX11_goOn 199 = .ok (.iload 10, 2) := by decide +kernel
theorem dX11_goOn_201 : decode cX11_goOn 201 = .ok (.iaload, 1) := by decide +kernel
theorem dX11_goOn_202 : decode cX11_goOn 202 = .ok (.i2l, 1) := by decide +kernel
theorem dX11_goOn_203 : decode cX11_goOn 203 = .ok (.ladd, 1) := by decide +kernel
theorem dX11_goOn_204 : decode cX11_goOn 204 = .ok (.lstore 7, 2) := by decide +kernel
theorem dX11_goOn_206 : decode cX11_goOn 206 = .ok (.iinc 9 1, 3) := by decide +kernel
theorem dX11_goOn_209 : decode cX11_goOn 209 = .ok (.goto (-181), 3) := by decide +kernel
theorem dX11_goOn_212 : decode cX11_goOn 212 = .ok (.aload_n 0, 1) := by decide +kernel
theorem dX11_goOn_213 : decode cX11_goOn 213 = .ok (.getfield 52, 3) := by decide +kernel
theorem dX11_goOn_216 : decode cX11_goOn 216 = .ok (.iload_n 1, 1) := by decide +kernel
theorem dX11_goOn_217 : decode cX11_goOn 217 = .ok (.lload 7, 2) := by decide +kernel
theorem dX11_goOn_219 : decode cX11_goOn 219 = .ok (.ldc2_w 297, 3) := by decide +kernel
theorem dX11_goOn_222 : decode cX11_goOn 222 = .ok (.lrem, 1) := by decide +kernel
theorem dX11_goOn_223 : decode cX11_goOn 223 = .ok (.l2i, 1) := by decide +kernel
theorem dX11_goOn_224 : decode cX11_goOn 224 = .ok (.iastore, 1) := by decide +kernel
theorem dX11_goOn_225 : decode cX11_goOn 225 = .ok (.return_, 1) := by decide +kernel
abbrev rm_X11_goOn : Room := { frames := 3, cells := 0, slots := 0, locals := 71 }
theorem hd_X11_goOn : yX11_goOn.cls ≠ "java/lang/invoke/MethodHandle" ∧ yX11_goOn.cls ≠ "java/lang/invoke/VarHandle" ∧ (parseMethodDescriptor yX11_goOn.desc).map (fun d => d.parameters.length) = some 5 := by decide +kernel
def bk_X11_goOn_206 (Q : ((Nat → Int32) × (Nat → Int32)) → Prop) (B28 : (Nat → Int32) → Int64 → Int32 → Prop) (xl7 : Int64) (x9 : Int32) (M_least : Nat → Int32) : Prop :=
∀ y8 : Int32, y8 = (x9 + 1) →
B28 M_least xl7 y8
def bk_X11_goOn_192 (Q : ((Nat → Int32) × (Nat → Int32)) → Prop) (B28 : (Nat → Int32) → Int64 → Int32 → Prop) (xl7 : Int64) (x9 : Int32) (x10 : Int32) (M_least : Nat → Int32) (M_ways : Nat → Int32) (s0 : Int32) (s1 : Int32) : Prop :=
vp_in s1 286720 ∧ (∀ f15 : Nat → Int32, f15 = (upd M_least s1.toNatClampNeg s0) →
vp_in x10 286720 ∧ (∀ y16 : Int64, y16 = (xl7 + ((M_ways x10.toNatClampNeg).toInt64)) →
bk_X11_goOn_206 Q B28 y16 x9 f15))
def bk_X11_goOn_163 (Q : ((Nat → Int32) × (Nat → Int32)) → Prop) (B28 : (Nat → Int32) → Int64 → Int32 → Prop) (p1 : Int32) (xl7 : Int64) (x9 : Int32) (x10 : Int32) (M_least : Nat → Int32) (M_ways : Nat → Int32) (s0 : Int32) : Prop :=
vp_in p1 286720 ∧ (((M_least p1.toNatClampNeg) ≤ s0 → vp_in p1 286720 ∧ bk_X11_goOn_192 Q B28 xl7 x9 x10 M_least M_ways (M_least p1.toNatClampNeg) p1) ∧
(¬ (M_least p1.toNatClampNeg) ≤ s0 → bk_X11_goOn_192 Q B28 xl7 x9 x10 M_least M_ways s0 p1))
def bd_X11_goOn_28 (Q : ((Nat → Int32) × (Nat → Int32)) → Prop) (B28 : (Nat → Int32) → Int64 → Int32 → Prop) (p1 : Int32) (p2 : Int32) (p3 : Int32) (p4 : Int32) (p5 : Int32) (x6 : Int32) (M_folds : Int32) (M_foldSet : Nat → Int32) (M_foldEdges : Nat → Int64) (M_foldNeeds : Nat → Int32) (M_ways : Nat → Int32) (M_least : Nat → Int32) (xl7 : Int64) (x9 : Int32) : Prop :=
((M_folds ≤ x9 → ∀ y5 : Int32, y5 = ((xl7 - xl7 / 1000000007 * 1000000007).toInt32) →
vp_in p1 286720 ∧ (∀ f6 : Nat → Int32, f6 = (upd M_ways p1.toNatClampNeg y5) →
Q (M_least, f6))) ∧
(¬ M_folds ≤ x9 → vp_in x9 280 ∧ ((¬ ((M_foldSet x9.toNatClampNeg) &&& p2) = 0 → bk_X11_goOn_206 Q B28 xl7 x9 M_least) ∧
(((M_foldSet x9.toNatClampNeg) &&& p2) = 0 → vp_in x9 280 ∧ ((((M_foldSet x9.toNatClampNeg) &&& x6) = 0 → bk_X11_goOn_206 Q B28 xl7 x9 M_least) ∧
(¬ ((M_foldSet x9.toNatClampNeg) &&& x6) = 0 → vp_in x9 280 ∧ ((p4 < (M_foldNeeds x9.toNatClampNeg) → bk_X11_goOn_206 Q B28 xl7 x9 M_least) ∧
(¬ p4 < (M_foldNeeds x9.toNatClampNeg) → vp_in x9 280 ∧ (∀ y11 : Int32, y11 = ((280 * (p2 ||| (M_foldSet x9.toNatClampNeg))) + x9) →
((p5 = 0 → vp_in x9 280 ∧ vp_in y11 286720 ∧ (((M_foldNeeds x9.toNatClampNeg) ≤ (M_least y11.toNatClampNeg) → vp_in y11 286720 ∧ bk_X11_goOn_163 Q B28 p1 xl7 x9 y11 M_least M_ways (M_least y11.toNatClampNeg)) ∧
(¬ (M_foldNeeds x9.toNatClampNeg) ≤ (M_least y11.toNatClampNeg) → vp_in x9 280 ∧ bk_X11_goOn_163 Q B28 p1 xl7 x9 y11 M_least M_ways (M_foldNeeds x9.toNatClampNeg)))) ∧
(¬ p5 = 0 → vp_in x9 280 ∧ vp_in p3 280 ∧ wp_X11_bits ((M_foldEdges x9.toNatClampNeg) &&& ((M_foldEdges p3.toNatClampNeg) ^^^ (-1))) (fun (r17 : Int32) => vp_in y11 286720 ∧ bk_X11_goOn_163 Q B28 p1 xl7 x9 y11 M_least M_ways (r17 + (M_least y11.toNatClampNeg))))))))))))))
def lp_X11_goOn_28 (Q : ((Nat → Int32) × (Nat → Int32)) → Prop) (p1 : Int32) (p2 : Int32) (p3 : Int32) (p4 : Int32) (p5 : Int32) (x6 : Int32) (M_folds : Int32) (M_foldSet : Nat → Int32) (M_foldEdges : Nat → Int64) (M_foldNeeds : Nat → Int32) (M_ways : Nat → Int32) (M_least : Nat → Int32) (xl7 : Int64) (x9 : Int32) : Prop :=
∃ I : Nat → (Nat → Int32) → Int64 → Int32 → Prop, (∃ n, I n M_least xl7 x9) ∧ ∀ n M_least xl7 x9, I n M_least xl7 x9 → bd_X11_goOn_28 Q  (fun M_least' xl7' x9' => ∃ n', n' < n ∧ I n' M_least' xl7' x9') p1 p2 p3 p4 p5 x6 M_folds M_foldSet M_foldEdges M_foldNeeds M_ways M_least xl7 x9
def wp_X11_goOn (p1 : Int32) (p2 : Int32) (p3 : Int32) (p4 : Int32) (p5 : Int32) (M_wide : Int32) (M_high : Int32) (M_folds : Int32) (M_foldSet : Nat → Int32) (M_foldEdges : Nat → Int64) (M_foldNeeds : Nat → Int32) (M_least : Nat → Int32) (M_ways : Nat → Int32) (Q : ((Nat → Int32) × (Nat → Int32)) → Prop) : Prop :=
vp_in p3 280 ∧ wp_X11_besides (M_foldSet p3.toNatClampNeg) M_wide M_high (fun (r1 : Int32) => ∀ y2 : Int32, y2 = (r1 &&& (p2 ^^^ (-1))) →
vp_in p1 286720 ∧ (∀ y3 : Int64, y3 = ((M_ways p1.toNatClampNeg).toInt64) →
lp_X11_goOn_28 Q p1 p2 p3 p4 p5 y2 M_folds M_foldSet M_foldEdges M_foldNeeds M_ways M_least y3 0))
set_option maxHeartbeats 4000000 in
set_option maxRecDepth 100000 in
theorem J_X11_goOn_206 {x : CX} {D : DG} {cyI cyJ cyZ : ClassId} {a_M a_M_square a_M_want a_M_text a_M_read a_M_row a_M_foldSet a_M_foldEdges a_M_foldNeeds a_M_foldYards a_M_least a_M_ways a_M_price a_M_rowBy a_M_columnBy a_M_rowOf a_M_wayBack a_M_slack a_M_isUsed a_M_lifted a_M_freed a_M_path : Nat} {M_wide : Int32} {M_high : Int32} {M_hedges : Int64} {M_hurdles : Int32} {M_wants : Int32} {M_rest : Int32} {M_frozen : Int32} {M_bytes : Int32} {M_position : Int32} {M_tokenAt : Int32} {M_token : Int64} {M_digits : Int32} {M_number : Int32} {M_faultAt : Int32} {M_readMany : Int32} {M_readWide : Int32} {M_readHigh : Int32} {M_nights : Int32} {M_why : Int32} {M_folds : Int32} {M_square : Nat → Int32} {M_want : Nat → Int32} {M_text : Nat → Int32} {M_read : Nat → Int32} {M_row : Nat → Int32} {M_foldSet : Nat → Int32} {M_foldEdges : Nat → Int64} {M_foldNeeds : Nat → Int32} {M_foldYards : Nat → Int32} {M_least : Nat → Int32} {M_ways : Nat → Int32} {M_price : Nat → Int32} {M_rowBy : Nat → Int32} {M_columnBy : Nat → Int32} {M_rowOf : Nat → Int32} {M_wayBack : Nat → Int32} {M_slack : Nat → Int32} {M_isUsed : Nat → Int32} {M_lifted : Nat → Int32} {M_freed : Nat → Int32} {M_path : Nat → Int32} {p1 : Int32} {p2 : Int32} {p3 : Int32} {p4 : Int32} {p5 : Int32} {x6 : Int32} {xl7 : Int64} {x9 : Int32} {Q : ((Nat → Int32) × (Nat → Int32)) → Prop} {B28 : (Nat → Int32) → Int64 → Int32 → Prop} (cx : Cx x cX11_goOn 12 RX11 rm_X11_goOn D [(cyI, .int), (cyJ, .long), (cyZ, .boolean)]) (hR : ∀ (u : (Nat → Int32) × (Nat → Int32)) (pc : Nat) (lv : List (Nat × Value)), decode cX11_goOn pc = .ok (.return_, 1) → Q u → J x 0 0 12 (W_Model cyI cyJ cyZ a_M a_M_square a_M_want a_M_text a_M_read a_M_row a_M_foldSet a_M_foldEdges a_M_foldNeeds a_M_foldYards a_M_least a_M_ways a_M_price a_M_rowBy a_M_columnBy a_M_rowOf a_M_wayBack a_M_slack a_M_isUsed a_M_lifted a_M_freed a_M_path M_wide M_high M_hedges M_hurdles M_wants M_rest M_frozen M_bytes M_position M_tokenAt M_token M_digits M_number M_faultAt M_readMany M_readWide M_readHigh M_nights M_why M_folds M_square M_want M_text M_read M_row M_foldSet M_foldEdges M_foldNeeds M_foldYards u.1 u.2 M_price M_rowBy M_columnBy M_rowOf M_wayBack M_slack M_isUsed M_lifted M_freed M_path) lv pc []) (hB28 : ∀ (M_least : Nat → Int32) (xl7 : Int64) (x9 : Int32), B28 M_least xl7 x9 → J x 0 0 12 (W_Model cyI cyJ cyZ a_M a_M_square a_M_want a_M_text a_M_read a_M_row a_M_foldSet a_M_foldEdges a_M_foldNeeds a_M_foldYards a_M_least a_M_ways a_M_price a_M_rowBy a_M_columnBy a_M_rowOf a_M_wayBack a_M_slack a_M_isUsed a_M_lifted a_M_freed a_M_path M_wide M_high M_hedges M_hurdles M_wants M_rest M_frozen M_bytes M_position M_tokenAt M_token M_digits M_number M_faultAt M_readMany M_readWide M_readHigh M_nights M_why M_folds M_square M_want M_text M_read M_row M_foldSet M_foldEdges M_foldNeeds M_foldYards M_least M_ways M_price M_rowBy M_columnBy M_rowOf M_wayBack M_slack M_isUsed M_lifted M_freed M_path) [(0, .ref a_M), (1, .int p1), (2, .int p2), (3, .int p3), (4, .int p4), (5, .int p5), (6, .int x6), (7, .long xl7), (9, .int x9)] 28 []) (h : bk_X11_goOn_206 Q B28 xl7 x9 M_least) :
    J x 0 0 12 (W_Model cyI cyJ cyZ a_M a_M_square a_M_want a_M_text a_M_read a_M_row a_M_foldSet a_M_foldEdges a_M_foldNeeds a_M_foldYards a_M_least a_M_ways a_M_price a_M_rowBy a_M_columnBy a_M_rowOf a_M_wayBack a_M_slack a_M_isUsed a_M_lifted a_M_freed a_M_path M_wide M_high M_hedges M_hurdles M_wants M_rest M_frozen M_bytes M_position M_tokenAt M_token M_digits M_number M_faultAt M_readMany M_readWide M_readHigh M_nights M_why M_folds M_square M_want M_text M_read M_row M_foldSet M_foldEdges M_foldNeeds M_foldYards M_least M_ways M_price M_rowBy M_columnBy M_rowOf M_wayBack M_slack M_isUsed M_lifted M_freed M_path) [(0, .ref a_M), (1, .int p1), (2, .int p2), (3, .int p3), (4, .int p4), (5, .int p5), (6, .int x6), (7, .long xl7), (9, .int x9)] 206 [] := by
  unfold bk_X11_goOn_206 at h
  obtain ⟨y8, ey8⟩ : ∃ z : Int32, z = x9 + 1 := ⟨_, rfl⟩
  have h := h y8 ey8
  refine j_iinc cx 8 rfl (cst := 1) (by decide) ey8 [(9, .int y8), (0, .ref a_M), (1, .int p1), (2, .int p2), (3, .int p3), (4, .int p4), (5, .int p5), (6, .int x6), (7, .long xl7)] (by decide) rfl dX11_goOn_206 (pn := 209) rfl ?_
  refine j_goto cx 28 dX11_goOn_209 rfl ?_
  refine j_sub [1, 2, 3, 4, 5, 6, 7, 8, 0] [(0, .ref a_M), (1, .int p1), (2, .int p2), (3, .int p3), (4, .int p4), (5, .int p5), (6, .int x6), (7, .long xl7), (9, .int y8)] rfl ?_
  exact hB28 _ _ _ h
set_option maxHeartbeats 4000000 in
set_option maxRecDepth 100000 in
theorem J_X11_goOn_192 {x : CX} {D : DG} {cyI cyJ cyZ : ClassId} {a_M a_M_square a_M_want a_M_text a_M_read a_M_row a_M_foldSet a_M_foldEdges a_M_foldNeeds a_M_foldYards a_M_least a_M_ways a_M_price a_M_rowBy a_M_columnBy a_M_rowOf a_M_wayBack a_M_slack a_M_isUsed a_M_lifted a_M_freed a_M_path : Nat} {M_wide : Int32} {M_high : Int32} {M_hedges : Int64} {M_hurdles : Int32} {M_wants : Int32} {M_rest : Int32} {M_frozen : Int32} {M_bytes : Int32} {M_position : Int32} {M_tokenAt : Int32} {M_token : Int64} {M_digits : Int32} {M_number : Int32} {M_faultAt : Int32} {M_readMany : Int32} {M_readWide : Int32} {M_readHigh : Int32} {M_nights : Int32} {M_why : Int32} {M_folds : Int32} {M_square : Nat → Int32} {M_want : Nat → Int32} {M_text : Nat → Int32} {M_read : Nat → Int32} {M_row : Nat → Int32} {M_foldSet : Nat → Int32} {M_foldEdges : Nat → Int64} {M_foldNeeds : Nat → Int32} {M_foldYards : Nat → Int32} {M_least : Nat → Int32} {M_ways : Nat → Int32} {M_price : Nat → Int32} {M_rowBy : Nat → Int32} {M_columnBy : Nat → Int32} {M_rowOf : Nat → Int32} {M_wayBack : Nat → Int32} {M_slack : Nat → Int32} {M_isUsed : Nat → Int32} {M_lifted : Nat → Int32} {M_freed : Nat → Int32} {M_path : Nat → Int32} {p1 : Int32} {p2 : Int32} {p3 : Int32} {p4 : Int32} {p5 : Int32} {x6 : Int32} {xl7 : Int64} {x9 : Int32} {x10 : Int32} {s0 : Int32} {s1 : Int32} {Q : ((Nat → Int32) × (Nat → Int32)) → Prop} {B28 : (Nat → Int32) → Int64 → Int32 → Prop} (cx : Cx x cX11_goOn 12 RX11 rm_X11_goOn D [(cyI, .int), (cyJ, .long), (cyZ, .boolean)]) (hR : ∀ (u : (Nat → Int32) × (Nat → Int32)) (pc : Nat) (lv : List (Nat × Value)), decode cX11_goOn pc = .ok (.return_, 1) → Q u → J x 0 0 12 (W_Model cyI cyJ cyZ a_M a_M_square a_M_want a_M_text a_M_read a_M_row a_M_foldSet a_M_foldEdges a_M_foldNeeds a_M_foldYards a_M_least a_M_ways a_M_price a_M_rowBy a_M_columnBy a_M_rowOf a_M_wayBack a_M_slack a_M_isUsed a_M_lifted a_M_freed a_M_path M_wide M_high M_hedges M_hurdles M_wants M_rest M_frozen M_bytes M_position M_tokenAt M_token M_digits M_number M_faultAt M_readMany M_readWide M_readHigh M_nights M_why M_folds M_square M_want M_text M_read M_row M_foldSet M_foldEdges M_foldNeeds M_foldYards u.1 u.2 M_price M_rowBy M_columnBy M_rowOf M_wayBack M_slack M_isUsed M_lifted M_freed M_path) lv pc []) (hB28 : ∀ (M_least : Nat → Int32) (xl7 : Int64) (x9 : Int32), B28 M_least xl7 x9 → J x 0 0 12 (W_Model cyI cyJ cyZ a_M a_M_square a_M_want a_M_text a_M_read a_M_row a_M_foldSet a_M_foldEdges a_M_foldNeeds a_M_foldYards a_M_least a_M_ways a_M_price a_M_rowBy a_M_columnBy a_M_rowOf a_M_wayBack a_M_slack a_M_isUsed a_M_lifted a_M_freed a_M_path M_wide M_high M_hedges M_hurdles M_wants M_rest M_frozen M_bytes M_position M_tokenAt M_token M_digits M_number M_faultAt M_readMany M_readWide M_readHigh M_nights M_why M_folds M_square M_want M_text M_read M_row M_foldSet M_foldEdges M_foldNeeds M_foldYards M_least M_ways M_price M_rowBy M_columnBy M_rowOf M_wayBack M_slack M_isUsed M_lifted M_freed M_path) [(0, .ref a_M), (1, .int p1), (2, .int p2), (3, .int p3), (4, .int p4), (5, .int p5), (6, .int x6), (7, .long xl7), (9, .int x9)] 28 []) (h : bk_X11_goOn_192 Q B28 xl7 x9 x10 M_least M_ways s0 s1) :
    J x 0 0 12 (W_Model cyI cyJ cyZ a_M a_M_square a_M_want a_M_text a_M_read a_M_row a_M_foldSet a_M_foldEdges a_M_foldNeeds a_M_foldYards a_M_least a_M_ways a_M_price a_M_rowBy a_M_columnBy a_M_rowOf a_M_wayBack a_M_slack a_M_isUsed a_M_lifted a_M_freed a_M_path M_wide M_high M_hedges M_hurdles M_wants M_rest M_frozen M_bytes M_position M_tokenAt M_token M_digits M_number M_faultAt M_readMany M_readWide M_readHigh M_nights M_why M_folds M_square M_want M_text M_read M_row M_foldSet M_foldEdges M_foldNeeds M_foldYards M_least M_ways M_price M_rowBy M_columnBy M_rowOf M_wayBack M_slack M_isUsed M_lifted M_freed M_path) [(0, .ref a_M), (1, .int p1), (2, .int p2), (3, .int p3), (4, .int p4), (5, .int p5), (6, .int x6), (7, .long xl7), (9, .int x9), (10, .int x10)] 192 [.int s0, .int s1, .ref a_M_least] := by
  unfold bk_X11_goOn_192 at h
  have hin := h.1
  obtain ⟨f15, ef15⟩ : ∃ z, z = upd M_least s1.toNatClampNeg s0 := ⟨_, rfl⟩
  have h := h.2 f15 ef15
  refine j_iast cx 10 0 rfl rfl hin (W_Model cyI cyJ cyZ a_M a_M_square a_M_want a_M_text a_M_read a_M_row a_M_foldSet a_M_foldEdges a_M_foldNeeds a_M_foldYards a_M_least a_M_ways a_M_price a_M_rowBy a_M_columnBy a_M_rowOf a_M_wayBack a_M_slack a_M_isUsed a_M_lifted a_M_freed a_M_path M_wide M_high M_hedges M_hurdles M_wants M_rest M_frozen M_bytes M_position M_tokenAt M_token M_digits M_number M_faultAt M_readMany M_readWide M_readHigh M_nights M_why M_folds M_square M_want M_text M_read M_row M_foldSet M_foldEdges M_foldNeeds M_foldYards f15 M_ways M_price M_rowBy M_columnBy M_rowOf M_wayBack M_slack M_isUsed M_lifted M_freed M_path) (by subst ef15; rfl) dX11_goOn_192 (pn := 193) rfl ?_
  refine j_lload cx 7 rfl dX11_goOn_193 (pn := 195) rfl ?_
  refine j_aload_n cx 0 rfl rfl dX11_goOn_195 (pn := 196) rfl ?_
  refine j_get cx inGX11 0 rfl rfl 30 (by decide) q_fl_X11_52 rfl rfl dX11_goOn_196 (pn := 199) rfl ?_
  refine j_iload cx 9 rfl dX11_goOn_199 (pn := 201) rfl ?_
  refine j_iald cx 11 0 rfl rfl h.1 dX11_goOn_201 (pn := 202) rfl ?_
  have h := h.2
  refine j_i2l cx dX11_goOn_202 (pn := 203) rfl ?_
  refine j_ladd cx dX11_goOn_203 (pn := 204) rfl ?_
  refine j_topl (fun y16 ey16 => ?_)
  have h := h y16 ey16
  refine j_lstore cx [(7, .long y16), (0, .ref a_M), (1, .int p1), (2, .int p2), (3, .int p3), (4, .int p4), (5, .int p5), (6, .int x6), (9, .int x9), (10, .int x10)] (by decide) rfl dX11_goOn_204 (pn := 206) rfl ?_
  refine j_sub [1, 2, 3, 4, 5, 6, 7, 0, 8] [(0, .ref a_M), (1, .int p1), (2, .int p2), (3, .int p3), (4, .int p4), (5, .int p5), (6, .int x6), (7, .long y16), (9, .int x9)] rfl ?_
  exact J_X11_goOn_206 cx hR hB28 h
set_option maxHeartbeats 4000000 in
set_option maxRecDepth 100000 in
theorem J_X11_goOn_163 {x : CX} {D : DG} {cyI cyJ cyZ : ClassId} {a_M a_M_square a_M_want a_M_text a_M_read a_M_row a_M_foldSet a_M_foldEdges a_M_foldNeeds a_M_foldYards a_M_least a_M_ways a_M_price a_M_rowBy a_M_columnBy a_M_rowOf a_M_wayBack a_M_slack a_M_isUsed a_M_lifted a_M_freed a_M_path : Nat} {M_wide : Int32} {M_high : Int32} {M_hedges : Int64} {M_hurdles : Int32} {M_wants : Int32} {M_rest : Int32} {M_frozen : Int32} {M_bytes : Int32} {M_position : Int32} {M_tokenAt : Int32} {M_token : Int64} {M_digits : Int32} {M_number : Int32} {M_faultAt : Int32} {M_readMany : Int32} {M_readWide : Int32} {M_readHigh : Int32} {M_nights : Int32} {M_why : Int32} {M_folds : Int32} {M_square : Nat → Int32} {M_want : Nat → Int32} {M_text : Nat → Int32} {M_read : Nat → Int32} {M_row : Nat → Int32} {M_foldSet : Nat → Int32} {M_foldEdges : Nat → Int64} {M_foldNeeds : Nat → Int32} {M_foldYards : Nat → Int32} {M_least : Nat → Int32} {M_ways : Nat → Int32} {M_price : Nat → Int32} {M_rowBy : Nat → Int32} {M_columnBy : Nat → Int32} {M_rowOf : Nat → Int32} {M_wayBack : Nat → Int32} {M_slack : Nat → Int32} {M_isUsed : Nat → Int32} {M_lifted : Nat → Int32} {M_freed : Nat → Int32} {M_path : Nat → Int32} {p1 : Int32} {p2 : Int32} {p3 : Int32} {p4 : Int32} {p5 : Int32} {x6 : Int32} {xl7 : Int64} {x9 : Int32} {x10 : Int32} {s0 : Int32} {Q : ((Nat → Int32) × (Nat → Int32)) → Prop} {B28 : (Nat → Int32) → Int64 → Int32 → Prop} (cx : Cx x cX11_goOn 12 RX11 rm_X11_goOn D [(cyI, .int), (cyJ, .long), (cyZ, .boolean)]) (hR : ∀ (u : (Nat → Int32) × (Nat → Int32)) (pc : Nat) (lv : List (Nat × Value)), decode cX11_goOn pc = .ok (.return_, 1) → Q u → J x 0 0 12 (W_Model cyI cyJ cyZ a_M a_M_square a_M_want a_M_text a_M_read a_M_row a_M_foldSet a_M_foldEdges a_M_foldNeeds a_M_foldYards a_M_least a_M_ways a_M_price a_M_rowBy a_M_columnBy a_M_rowOf a_M_wayBack a_M_slack a_M_isUsed a_M_lifted a_M_freed a_M_path M_wide M_high M_hedges M_hurdles M_wants M_rest M_frozen M_bytes M_position M_tokenAt M_token M_digits M_number M_faultAt M_readMany M_readWide M_readHigh M_nights M_why M_folds M_square M_want M_text M_read M_row M_foldSet M_foldEdges M_foldNeeds M_foldYards u.1 u.2 M_price M_rowBy M_columnBy M_rowOf M_wayBack M_slack M_isUsed M_lifted M_freed M_path) lv pc []) (hB28 : ∀ (M_least : Nat → Int32) (xl7 : Int64) (x9 : Int32), B28 M_least xl7 x9 → J x 0 0 12 (W_Model cyI cyJ cyZ a_M a_M_square a_M_want a_M_text a_M_read a_M_row a_M_foldSet a_M_foldEdges a_M_foldNeeds a_M_foldYards a_M_least a_M_ways a_M_price a_M_rowBy a_M_columnBy a_M_rowOf a_M_wayBack a_M_slack a_M_isUsed a_M_lifted a_M_freed a_M_path M_wide M_high M_hedges M_hurdles M_wants M_rest M_frozen M_bytes M_position M_tokenAt M_token M_digits M_number M_faultAt M_readMany M_readWide M_readHigh M_nights M_why M_folds M_square M_want M_text M_read M_row M_foldSet M_foldEdges M_foldNeeds M_foldYards M_least M_ways M_price M_rowBy M_columnBy M_rowOf M_wayBack M_slack M_isUsed M_lifted M_freed M_path) [(0, .ref a_M), (1, .int p1), (2, .int p2), (3, .int p3), (4, .int p4), (5, .int p5), (6, .int x6), (7, .long xl7), (9, .int x9)] 28 []) (h : bk_X11_goOn_163 Q B28 p1 xl7 x9 x10 M_least M_ways s0) :
    J x 0 0 12 (W_Model cyI cyJ cyZ a_M a_M_square a_M_want a_M_text a_M_read a_M_row a_M_foldSet a_M_foldEdges a_M_foldNeeds a_M_foldYards a_M_least a_M_ways a_M_price a_M_rowBy a_M_columnBy a_M_rowOf a_M_wayBack a_M_slack a_M_isUsed a_M_lifted a_M_freed a_M_path M_wide M_high M_hedges M_hurdles M_wants M_rest M_frozen M_bytes M_position M_tokenAt M_token M_digits M_number M_faultAt M_readMany M_readWide M_readHigh M_nights M_why M_folds M_square M_want M_text M_read M_row M_foldSet M_foldEdges M_foldNeeds M_foldYards M_least M_ways M_price M_rowBy M_columnBy M_rowOf M_wayBack M_slack M_isUsed M_lifted M_freed M_path) [(0, .ref a_M), (1, .int p1), (2, .int p2), (3, .int p3), (4, .int p4), (5, .int p5), (6, .int x6), (7, .long xl7), (9, .int x9), (10, .int x10)] 163 [.int s0] := by
  unfold bk_X11_goOn_163 at h
  refine j_istore cx [(11, .int s0), (0, .ref a_M), (1, .int p1), (2, .int p2), (3, .int p3), (4, .int p4), (5, .int p5), (6, .int x6), (7, .long xl7), (9, .int x9), (10, .int x10)] (by decide) rfl dX11_goOn_163 (pn := 165) rfl ?_
  refine j_aload_n cx 1 rfl rfl dX11_goOn_165 (pn := 166) rfl ?_
  refine j_get cx inGX11 0 rfl rfl 29 (by decide) q_fl_X11_49 rfl rfl dX11_goOn_166 (pn := 169) rfl ?_
  refine j_iload_n cx 2 rfl rfl dX11_goOn_169 (pn := 170) rfl ?_
  refine j_iload cx 0 rfl dX11_goOn_170 (pn := 172) rfl ?_
  refine j_aload_n cx 1 rfl rfl dX11_goOn_172 (pn := 173) rfl ?_
  refine j_get cx inGX11 0 rfl rfl 29 (by decide) q_fl_X11_49 rfl rfl dX11_goOn_173 (pn := 176) rfl ?_
  refine j_iload_n cx 2 rfl rfl dX11_goOn_176 (pn := 177) rfl ?_
  refine j_iald cx 10 0 rfl rfl h.1 dX11_goOn_177 (pn := 178) rfl ?_
  have h := h.2
  refine j_icmp_ge cx 186 dX11_goOn_178 (pn := 181) rfl rfl (fun c14 => ?_) (fun c14 => ?_)
  · have h := h.1 c14
    refine j_aload_n cx 1 rfl rfl dX11_goOn_186 (pn := 187) rfl ?_
    refine j_get cx inGX11 0 rfl rfl 29 (by decide) q_fl_X11_49 rfl rfl dX11_goOn_187 (pn := 190) rfl ?_
    refine j_iload_n cx 2 rfl rfl dX11_goOn_190 (pn := 191) rfl ?_
    refine j_iald cx 10 0 rfl rfl h.1 dX11_goOn_191 (pn := 192) rfl ?_
    have h := h.2
    refine j_sub [1, 2, 3, 4, 5, 6, 7, 8, 9, 10] [(0, .ref a_M), (1, .int p1), (2, .int p2), (3, .int p3), (4, .int p4), (5, .int p5), (6, .int x6), (7, .long xl7), (9, .int x9), (10, .int x10)] rfl ?_
    exact J_X11_goOn_192 cx hR hB28 h
  · have h := h.2 c14
    refine j_iload cx 0 rfl dX11_goOn_181 (pn := 183) rfl ?_
    refine j_goto cx 192 dX11_goOn_183 rfl ?_
    refine j_sub [1, 2, 3, 4, 5, 6, 7, 8, 9, 10] [(0, .ref a_M), (1, .int p1), (2, .int p2), (3, .int p3), (4, .int p4), (5, .int p5), (6, .int x6), (7, .long xl7), (9, .int x9), (10, .int x10)] rfl ?_
    exact J_X11_goOn_192 cx hR hB28 h
set_option maxHeartbeats 4000000 in
set_option maxRecDepth 100000 in
theorem B_X11_goOn_28 {x : CX} {D : DG} {cyI cyJ cyZ : ClassId} {a_M a_M_square a_M_want a_M_text a_M_read a_M_row a_M_foldSet a_M_foldEdges a_M_foldNeeds a_M_foldYards a_M_least a_M_ways a_M_price a_M_rowBy a_M_columnBy a_M_rowOf a_M_wayBack a_M_slack a_M_isUsed a_M_lifted a_M_freed a_M_path : Nat} {M_wide : Int32} {M_high : Int32} {M_hedges : Int64} {M_hurdles : Int32} {M_wants : Int32} {M_rest : Int32} {M_frozen : Int32} {M_bytes : Int32} {M_position : Int32} {M_tokenAt : Int32} {M_token : Int64} {M_digits : Int32} {M_number : Int32} {M_faultAt : Int32} {M_readMany : Int32} {M_readWide : Int32} {M_readHigh : Int32} {M_nights : Int32} {M_why : Int32} {M_folds : Int32} {M_square : Nat → Int32} {M_want : Nat → Int32} {M_text : Nat → Int32} {M_read : Nat → Int32} {M_row : Nat → Int32} {M_foldSet : Nat → Int32} {M_foldEdges : Nat → Int64} {M_foldNeeds : Nat → Int32} {M_foldYards : Nat → Int32} {M_least : Nat → Int32} {M_ways : Nat → Int32} {M_price : Nat → Int32} {M_rowBy : Nat → Int32} {M_columnBy : Nat → Int32} {M_rowOf : Nat → Int32} {M_wayBack : Nat → Int32} {M_slack : Nat → Int32} {M_isUsed : Nat → Int32} {M_lifted : Nat → Int32} {M_freed : Nat → Int32} {M_path : Nat → Int32} {p1 : Int32} {p2 : Int32} {p3 : Int32} {p4 : Int32} {p5 : Int32} {x6 : Int32} {xl7 : Int64} {x9 : Int32} {Q : ((Nat → Int32) × (Nat → Int32)) → Prop} {B28 : (Nat → Int32) → Int64 → Int32 → Prop} (cx : Cx x cX11_goOn 12 RX11 rm_X11_goOn D [(cyI, .int), (cyJ, .long), (cyZ, .boolean)]) (hR : ∀ (u : (Nat → Int32) × (Nat → Int32)) (pc : Nat) (lv : List (Nat × Value)), decode cX11_goOn pc = .ok (.return_, 1) → Q u → J x 0 0 12 (W_Model cyI cyJ cyZ a_M a_M_square a_M_want a_M_text a_M_read a_M_row a_M_foldSet a_M_foldEdges a_M_foldNeeds a_M_foldYards a_M_least a_M_ways a_M_price a_M_rowBy a_M_columnBy a_M_rowOf a_M_wayBack a_M_slack a_M_isUsed a_M_lifted a_M_freed a_M_path M_wide M_high M_hedges M_hurdles M_wants M_rest M_frozen M_bytes M_position M_tokenAt M_token M_digits M_number M_faultAt M_readMany M_readWide M_readHigh M_nights M_why M_folds M_square M_want M_text M_read M_row M_foldSet M_foldEdges M_foldNeeds M_foldYards u.1 u.2 M_price M_rowBy M_columnBy M_rowOf M_wayBack M_slack M_isUsed M_lifted M_freed M_path) lv pc []) (hB28 : ∀ (M_least : Nat → Int32) (xl7 : Int64) (x9 : Int32), B28 M_least xl7 x9 → J x 0 0 12 (W_Model cyI cyJ cyZ a_M a_M_square a_M_want a_M_text a_M_read a_M_row a_M_foldSet a_M_foldEdges a_M_foldNeeds a_M_foldYards a_M_least a_M_ways a_M_price a_M_rowBy a_M_columnBy a_M_rowOf a_M_wayBack a_M_slack a_M_isUsed a_M_lifted a_M_freed a_M_path M_wide M_high M_hedges M_hurdles M_wants M_rest M_frozen M_bytes M_position M_tokenAt M_token M_digits M_number M_faultAt M_readMany M_readWide M_readHigh M_nights M_why M_folds M_square M_want M_text M_read M_row M_foldSet M_foldEdges M_foldNeeds M_foldYards M_least M_ways M_price M_rowBy M_columnBy M_rowOf M_wayBack M_slack M_isUsed M_lifted M_freed M_path) [(0, .ref a_M), (1, .int p1), (2, .int p2), (3, .int p3), (4, .int p4), (5, .int p5), (6, .int x6), (7, .long xl7), (9, .int x9)] 28 []) (h : bd_X11_goOn_28 Q B28 p1 p2 p3 p4 p5 x6 M_folds M_foldSet M_foldEdges M_foldNeeds M_ways M_least xl7 x9) :
    J x 0 0 12 (W_Model cyI cyJ cyZ a_M a_M_square a_M_want a_M_text a_M_read a_M_row a_M_foldSet a_M_foldEdges a_M_foldNeeds a_M_foldYards a_M_least a_M_ways a_M_price a_M_rowBy a_M_columnBy a_M_rowOf a_M_wayBack a_M_slack a_M_isUsed a_M_lifted a_M_freed a_M_path M_wide M_high M_hedges M_hurdles M_wants M_rest M_frozen M_bytes M_position M_tokenAt M_token M_digits M_number M_faultAt M_readMany M_readWide M_readHigh M_nights M_why M_folds M_square M_want M_text M_read M_row M_foldSet M_foldEdges M_foldNeeds M_foldYards M_least M_ways M_price M_rowBy M_columnBy M_rowOf M_wayBack M_slack M_isUsed M_lifted M_freed M_path) [(0, .ref a_M), (1, .int p1), (2, .int p2), (3, .int p3), (4, .int p4), (5, .int p5), (6, .int x6), (7, .long xl7), (9, .int x9)] 28 [] := by
  unfold bd_X11_goOn_28 at h
  refine j_iload cx 8 rfl dX11_goOn_28 (pn := 30) rfl ?_
  refine j_aload_n cx 0 rfl rfl dX11_goOn_30 (pn := 31) rfl ?_
  refine j_get cx inGX11 0 rfl rfl 24 (by decide) q_fl_X11_284 rfl rfl dX11_goOn_31 (pn := 34) rfl ?_
  refine j_icmp_ge cx 212 dX11_goOn_34 (pn := 37) rfl rfl (fun c4 => ?_) (fun c4 => ?_)
  · have h := h.1 c4
    refine j_aload_n cx 0 rfl rfl dX11_goOn_212 (pn := 213) rfl ?_
    refine j_get cx inGX11 0 rfl rfl 30 (by decide) q_fl_X11_52 rfl rfl dX11_goOn_213 (pn := 216) rfl ?_
    refine j_iload_n cx 1 rfl rfl dX11_goOn_216 (pn := 217) rfl ?_
    refine j_lload cx 7 rfl dX11_goOn_217 (pn := 219) rfl ?_
    refine j_ldc2 cx q_cl_X11_297 dX11_goOn_219 (pn := 222) rfl ?_
    refine j_lrem cx (by decide) dX11_goOn_222 (pn := 223) rfl ?_
    refine j_l2i cx dX11_goOn_223 (pn := 224) rfl ?_
    refine j_topi (fun y5 ey5 => ?_)
    have h := h y5 ey5
    have hin := h.1
    obtain ⟨f6, ef6⟩ : ∃ z, z = upd M_ways p1.toNatClampNeg y5 := ⟨_, rfl⟩
    have h := h.2 f6 ef6
    refine j_iast cx 11 0 rfl rfl hin (W_Model cyI cyJ cyZ a_M a_M_square a_M_want a_M_text a_M_read a_M_row a_M_foldSet a_M_foldEdges a_M_foldNeeds a_M_foldYards a_M_least a_M_ways a_M_price a_M_rowBy a_M_columnBy a_M_rowOf a_M_wayBack a_M_slack a_M_isUsed a_M_lifted a_M_freed a_M_path M_wide M_high M_hedges M_hurdles M_wants M_rest M_frozen M_bytes M_position M_tokenAt M_token M_digits M_number M_faultAt M_readMany M_readWide M_readHigh M_nights M_why M_folds M_square M_want M_text M_read M_row M_foldSet M_foldEdges M_foldNeeds M_foldYards M_least f6 M_price M_rowBy M_columnBy M_rowOf M_wayBack M_slack M_isUsed M_lifted M_freed M_path) (by subst ef6; rfl) dX11_goOn_224 (pn := 225) rfl ?_
    exact hR (M_least, f6) 225 _ dX11_goOn_225 h
  · have h := h.2 c4
    refine j_aload_n cx 0 rfl rfl dX11_goOn_37 (pn := 38) rfl ?_
    refine j_get cx inGX11 0 rfl rfl 25 (by decide) q_fl_X11_35 rfl rfl dX11_goOn_38 (pn := 41) rfl ?_
    refine j_iload cx 8 rfl dX11_goOn_41 (pn := 43) rfl ?_
    refine j_iald cx 6 0 rfl rfl h.1 dX11_goOn_43 (pn := 44) rfl ?_
    have h := h.2
    refine j_iload_n cx 2 rfl rfl dX11_goOn_44 (pn := 45) rfl ?_
    refine j_iand cx dX11_goOn_45 (pn := 46) rfl ?_
    refine j_if_ne cx 206 dX11_goOn_46 (pn := 49) rfl rfl (fun c7 => ?_) (fun c7 => ?_)
    · have h := h.1 c7
      exact J_X11_goOn_206 cx hR hB28 h
    · have h := h.2 c7
      refine j_aload_n cx 0 rfl rfl dX11_goOn_49 (pn := 50) rfl ?_
      refine j_get cx inGX11 0 rfl rfl 25 (by decide) q_fl_X11_35 rfl rfl dX11_goOn_50 (pn := 53) rfl ?_
      refine j_iload cx 8 rfl dX11_goOn_53 (pn := 55) rfl ?_
      refine j_iald cx 6 0 rfl rfl h.1 dX11_goOn_55 (pn := 56) rfl ?_
      have h := h.2
      refine j_iload cx 6 rfl dX11_goOn_56 (pn := 58) rfl ?_
      refine j_iand cx dX11_goOn_58 (pn := 59) rfl ?_
      refine j_if_eq cx 206 dX11_goOn_59 (pn := 62) rfl rfl (fun c9 => ?_) (fun c9 => ?_)
      · have h := h.1 c9
        exact J_X11_goOn_206 cx hR hB28 h
      · have h := h.2 c9
        refine j_aload_n cx 0 rfl rfl dX11_goOn_62 (pn := 63) rfl ?_
        refine j_get cx inGX11 0 rfl rfl 27 (by decide) q_fl_X11_42 rfl rfl dX11_goOn_63 (pn := 66) rfl ?_
        refine j_iload cx 8 rfl dX11_goOn_66 (pn := 68) rfl ?_
        refine j_iald cx 8 0 rfl rfl h.1 dX11_goOn_68 (pn := 69) rfl ?_
        have h := h.2
        refine j_iload cx 4 rfl dX11_goOn_69 (pn := 71) rfl ?_
        refine j_icmp_gt cx 206 dX11_goOn_71 (pn := 74) rfl rfl (fun c10 => ?_) (fun c10 => ?_)
        · have h := h.1 c10
          exact J_X11_goOn_206 cx hR hB28 h
        · have h := h.2 c10
          refine j_sipush cx (v := 280) (by decide) dX11_goOn_74 (pn := 77) rfl ?_
          refine j_iload_n cx 2 rfl rfl dX11_goOn_77 (pn := 78) rfl ?_
          refine j_aload_n cx 0 rfl rfl dX11_goOn_78 (pn := 79) rfl ?_
          refine j_get cx inGX11 0 rfl rfl 25 (by decide) q_fl_X11_35 rfl rfl dX11_goOn_79 (pn := 82) rfl ?_
          refine j_iload cx 8 rfl dX11_goOn_82 (pn := 84) rfl ?_
          refine j_iald cx 6 0 rfl rfl h.1 dX11_goOn_84 (pn := 85) rfl ?_
          have h := h.2
          refine j_ior cx dX11_goOn_85 (pn := 86) rfl ?_
          refine j_imul cx dX11_goOn_86 (pn := 87) rfl ?_
          refine j_iload cx 8 rfl dX11_goOn_87 (pn := 89) rfl ?_
          refine j_iadd cx dX11_goOn_89 (pn := 90) rfl ?_
          refine j_topi (fun y11 ey11 => ?_)
          have h := h y11 ey11
          refine j_istore cx [(10, .int y11), (0, .ref a_M), (1, .int p1), (2, .int p2), (3, .int p3), (4, .int p4), (5, .int p5), (6, .int x6), (7, .long xl7), (9, .int x9)] (by decide) rfl dX11_goOn_90 (pn := 92) rfl ?_
          refine j_iload cx 6 rfl dX11_goOn_92 (pn := 94) rfl ?_
          refine j_if_eq cx 129 dX11_goOn_94 (pn := 97) rfl rfl (fun c12 => ?_) (fun c12 => ?_)
          · have h := h.1 c12
            refine j_aload_n cx 1 rfl rfl dX11_goOn_129 (pn := 130) rfl ?_
            refine j_get cx inGX11 0 rfl rfl 27 (by decide) q_fl_X11_42 rfl rfl dX11_goOn_130 (pn := 133) rfl ?_
            refine j_iload cx 9 rfl dX11_goOn_133 (pn := 135) rfl ?_
            refine j_iald cx 8 0 rfl rfl h.1 dX11_goOn_135 (pn := 136) rfl ?_
            have h := h.2
            refine j_aload_n cx 1 rfl rfl dX11_goOn_136 (pn := 137) rfl ?_
            refine j_get cx inGX11 0 rfl rfl 29 (by decide) q_fl_X11_49 rfl rfl dX11_goOn_137 (pn := 140) rfl ?_
            refine j_iload cx 0 rfl dX11_goOn_140 (pn := 142) rfl ?_
            refine j_iald cx 10 0 rfl rfl h.1 dX11_goOn_142 (pn := 143) rfl ?_
            have h := h.2
            refine j_icmp_le cx 156 dX11_goOn_143 (pn := 146) rfl rfl (fun c13 => ?_) (fun c13 => ?_)
            · have h := h.1 c13
              refine j_aload_n cx 1 rfl rfl dX11_goOn_156 (pn := 157) rfl ?_
              refine j_get cx inGX11 0 rfl rfl 29 (by decide) q_fl_X11_49 rfl rfl dX11_goOn_157 (pn := 160) rfl ?_
              refine j_iload cx 0 rfl dX11_goOn_160 (pn := 162) rfl ?_
              refine j_iald cx 10 0 rfl rfl h.1 dX11_goOn_162 (pn := 163) rfl ?_
              have h := h.2
              refine j_sub [1, 2, 3, 4, 5, 6, 7, 8, 9, 0] [(0, .ref a_M), (1, .int p1), (2, .int p2), (3, .int p3), (4, .int p4), (5, .int p5), (6, .int x6), (7, .long xl7), (9, .int x9), (10, .int y11)] rfl ?_
              exact J_X11_goOn_163 cx hR hB28 h
            · have h := h.2 c13
              refine j_aload_n cx 1 rfl rfl dX11_goOn_146 (pn := 147) rfl ?_
              refine j_get cx inGX11 0 rfl rfl 27 (by decide) q_fl_X11_42 rfl rfl dX11_goOn_147 (pn := 150) rfl ?_
              refine j_iload cx 9 rfl dX11_goOn_150 (pn := 152) rfl ?_
              refine j_iald cx 8 0 rfl rfl h.1 dX11_goOn_152 (pn := 153) rfl ?_
              have h := h.2
              refine j_goto cx 163 dX11_goOn_153 rfl ?_
              refine j_sub [1, 2, 3, 4, 5, 6, 7, 8, 9, 0] [(0, .ref a_M), (1, .int p1), (2, .int p2), (3, .int p3), (4, .int p4), (5, .int p5), (6, .int x6), (7, .long xl7), (9, .int x9), (10, .int y11)] rfl ?_
              exact J_X11_goOn_163 cx hR hB28 h
          · have h := h.2 c12
            refine j_aload_n cx 1 rfl rfl dX11_goOn_97 (pn := 98) rfl ?_
            refine j_get cx inGX11 0 rfl rfl 26 (by decide) q_fl_X11_38 rfl rfl dX11_goOn_98 (pn := 101) rfl ?_
            refine j_iload cx 9 rfl dX11_goOn_101 (pn := 103) rfl ?_
            refine j_lald cx 7 1 rfl rfl h.1 dX11_goOn_103 (pn := 104) rfl ?_
            have h := h.2
            refine j_aload_n cx 1 rfl rfl dX11_goOn_104 (pn := 105) rfl ?_
            refine j_get cx inGX11 0 rfl rfl 26 (by decide) q_fl_X11_38 rfl rfl dX11_goOn_105 (pn := 108) rfl ?_
            refine j_iload_n cx 4 rfl rfl dX11_goOn_108 (pn := 109) rfl ?_
            refine j_lald cx 7 1 rfl rfl h.1 dX11_goOn_109 (pn := 110) rfl ?_
            have h := h.2
            refine j_ldc2 cx q_cl_X11_123 dX11_goOn_110 (pn := 113) rfl ?_
            refine j_lxor cx dX11_goOn_113 (pn := 114) rfl ?_
            refine j_land cx dX11_goOn_114 (pn := 115) rfl ?_
            refine j_calleI cx q_stat_X11_bits (As := [.long ((M_foldEdges x9.toNatClampNeg) &&& ((M_foldEdges p3.toNatClampNeg) ^^^ (-1)))]) (rest := []) (c_X11_bits h) ⟨q_code_X11_bits, q_ml_X11_244, q_init_X11, hd_X11_bits, ⟨Nat.le_of_ble_eq_true rfl, Nat.le_of_ble_eq_true rfl⟩, Nat.le_of_ble_eq_true rfl, Nat.le_of_ble_eq_true rfl⟩ rfl rfl (Nat.le_of_ble_eq_true rfl) dX11_goOn_115 (pn := 118) rfl (fun r17 h => ?_)
            show J x 0 0 12 (W_Model cyI cyJ cyZ a_M a_M_square a_M_want a_M_text a_M_read a_M_row a_M_foldSet a_M_foldEdges a_M_foldNeeds a_M_foldYards a_M_least a_M_ways a_M_price a_M_rowBy a_M_columnBy a_M_rowOf a_M_wayBack a_M_slack a_M_isUsed a_M_lifted a_M_freed a_M_path M_wide M_high M_hedges M_hurdles M_wants M_rest M_frozen M_bytes M_position M_tokenAt M_token M_digits M_number M_faultAt M_readMany M_readWide M_readHigh M_nights M_why M_folds M_square M_want M_text M_read M_row M_foldSet M_foldEdges M_foldNeeds M_foldYards M_least M_ways M_price M_rowBy M_columnBy M_rowOf M_wayBack M_slack M_isUsed M_lifted M_freed M_path) [(10, .int y11), (0, .ref a_M), (1, .int p1), (2, .int p2), (3, .int p3), (4, .int p4), (5, .int p5), (6, .int x6), (7, .long xl7), (9, .int x9)] 118 [.int r17]
            refine j_aload_n cx 1 rfl rfl dX11_goOn_118 (pn := 119) rfl ?_
            refine j_get cx inGX11 0 rfl rfl 29 (by decide) q_fl_X11_49 rfl rfl dX11_goOn_119 (pn := 122) rfl ?_
            refine j_iload cx 0 rfl dX11_goOn_122 (pn := 124) rfl ?_
            refine j_iald cx 10 0 rfl rfl h.1 dX11_goOn_124 (pn := 125) rfl ?_
            have h := h.2
            refine j_iadd cx dX11_goOn_125 (pn := 126) rfl ?_
            refine j_goto cx 163 dX11_goOn_126 rfl ?_
            refine j_sub [1, 2, 3, 4, 5, 6, 7, 8, 9, 0] [(0, .ref a_M), (1, .int p1), (2, .int p2), (3, .int p3), (4, .int p4), (5, .int p5), (6, .int x6), (7, .long xl7), (9, .int x9), (10, .int y11)] rfl ?_
            exact J_X11_goOn_163 cx hR hB28 h
set_option maxHeartbeats 4000000 in
set_option maxRecDepth 100000 in
theorem J_X11_goOn_28 {x : CX} {D : DG} {cyI cyJ cyZ : ClassId} {a_M a_M_square a_M_want a_M_text a_M_read a_M_row a_M_foldSet a_M_foldEdges a_M_foldNeeds a_M_foldYards a_M_least a_M_ways a_M_price a_M_rowBy a_M_columnBy a_M_rowOf a_M_wayBack a_M_slack a_M_isUsed a_M_lifted a_M_freed a_M_path : Nat} {M_wide : Int32} {M_high : Int32} {M_hedges : Int64} {M_hurdles : Int32} {M_wants : Int32} {M_rest : Int32} {M_frozen : Int32} {M_bytes : Int32} {M_position : Int32} {M_tokenAt : Int32} {M_token : Int64} {M_digits : Int32} {M_number : Int32} {M_faultAt : Int32} {M_readMany : Int32} {M_readWide : Int32} {M_readHigh : Int32} {M_nights : Int32} {M_why : Int32} {M_folds : Int32} {M_square : Nat → Int32} {M_want : Nat → Int32} {M_text : Nat → Int32} {M_read : Nat → Int32} {M_row : Nat → Int32} {M_foldSet : Nat → Int32} {M_foldEdges : Nat → Int64} {M_foldNeeds : Nat → Int32} {M_foldYards : Nat → Int32} {M_least : Nat → Int32} {M_ways : Nat → Int32} {M_price : Nat → Int32} {M_rowBy : Nat → Int32} {M_columnBy : Nat → Int32} {M_rowOf : Nat → Int32} {M_wayBack : Nat → Int32} {M_slack : Nat → Int32} {M_isUsed : Nat → Int32} {M_lifted : Nat → Int32} {M_freed : Nat → Int32} {M_path : Nat → Int32} {p1 : Int32} {p2 : Int32} {p3 : Int32} {p4 : Int32} {p5 : Int32} {x6 : Int32} {xl7 : Int64} {x9 : Int32} {Q : ((Nat → Int32) × (Nat → Int32)) → Prop} (cx : Cx x cX11_goOn 12 RX11 rm_X11_goOn D [(cyI, .int), (cyJ, .long), (cyZ, .boolean)]) (hR : ∀ (u : (Nat → Int32) × (Nat → Int32)) (pc : Nat) (lv : List (Nat × Value)), decode cX11_goOn pc = .ok (.return_, 1) → Q u → J x 0 0 12 (W_Model cyI cyJ cyZ a_M a_M_square a_M_want a_M_text a_M_read a_M_row a_M_foldSet a_M_foldEdges a_M_foldNeeds a_M_foldYards a_M_least a_M_ways a_M_price a_M_rowBy a_M_columnBy a_M_rowOf a_M_wayBack a_M_slack a_M_isUsed a_M_lifted a_M_freed a_M_path M_wide M_high M_hedges M_hurdles M_wants M_rest M_frozen M_bytes M_position M_tokenAt M_token M_digits M_number M_faultAt M_readMany M_readWide M_readHigh M_nights M_why M_folds M_square M_want M_text M_read M_row M_foldSet M_foldEdges M_foldNeeds M_foldYards u.1 u.2 M_price M_rowBy M_columnBy M_rowOf M_wayBack M_slack M_isUsed M_lifted M_freed M_path) lv pc []) (h : lp_X11_goOn_28 Q  p1 p2 p3 p4 p5 x6 M_folds M_foldSet M_foldEdges M_foldNeeds M_ways M_least xl7 x9) :
    J x 0 0 12 (W_Model cyI cyJ cyZ a_M a_M_square a_M_want a_M_text a_M_read a_M_row a_M_foldSet a_M_foldEdges a_M_foldNeeds a_M_foldYards a_M_least a_M_ways a_M_price a_M_rowBy a_M_columnBy a_M_rowOf a_M_wayBack a_M_slack a_M_isUsed a_M_lifted a_M_freed a_M_path M_wide M_high M_hedges M_hurdles M_wants M_rest M_frozen M_bytes M_position M_tokenAt M_token M_digits M_number M_faultAt M_readMany M_readWide M_readHigh M_nights M_why M_folds M_square M_want M_text M_read M_row M_foldSet M_foldEdges M_foldNeeds M_foldYards M_least M_ways M_price M_rowBy M_columnBy M_rowOf M_wayBack M_slack M_isUsed M_lifted M_freed M_path) [(0, .ref a_M), (1, .int p1), (2, .int p2), (3, .int p3), (4, .int p4), (5, .int p5), (6, .int x6), (7, .long xl7), (9, .int x9)] 28 [] := by
  obtain ⟨I, ⟨n, h0⟩, hb⟩ := h
  revert M_least xl7 x9
  induction n using Nat.strongRecOn with
  | _ n ih =>
    intro M_least xl7 x9 h0
    exact B_X11_goOn_28 cx hR (fun _ _ _ hz => by obtain ⟨n2, hlt, hI⟩ := hz; exact ih n2 hlt hI) (hb n M_least xl7 x9 h0)
set_option maxHeartbeats 4000000 in
set_option maxRecDepth 100000 in
theorem c_X11_goOn {D : DG} {cyI cyJ cyZ : ClassId} {a_M a_M_square a_M_want a_M_text a_M_read a_M_row a_M_foldSet a_M_foldEdges a_M_foldNeeds a_M_foldYards a_M_least a_M_ways a_M_price a_M_rowBy a_M_columnBy a_M_rowOf a_M_wayBack a_M_slack a_M_isUsed a_M_lifted a_M_freed a_M_path : Nat} {M_wide : Int32} {M_high : Int32} {M_hedges : Int64} {M_hurdles : Int32} {M_wants : Int32} {M_rest : Int32} {M_frozen : Int32} {M_bytes : Int32} {M_position : Int32} {M_tokenAt : Int32} {M_token : Int64} {M_digits : Int32} {M_number : Int32} {M_faultAt : Int32} {M_readMany : Int32} {M_readWide : Int32} {M_readHigh : Int32} {M_nights : Int32} {M_why : Int32} {M_folds : Int32} {M_square : Nat → Int32} {M_want : Nat → Int32} {M_text : Nat → Int32} {M_read : Nat → Int32} {M_row : Nat → Int32} {M_foldSet : Nat → Int32} {M_foldEdges : Nat → Int64} {M_foldNeeds : Nat → Int32} {M_foldYards : Nat → Int32} {M_least : Nat → Int32} {M_ways : Nat → Int32} {M_price : Nat → Int32} {M_rowBy : Nat → Int32} {M_columnBy : Nat → Int32} {M_rowOf : Nat → Int32} {M_wayBack : Nat → Int32} {M_slack : Nat → Int32} {M_isUsed : Nat → Int32} {M_lifted : Nat → Int32} {M_freed : Nat → Int32} {M_path : Nat → Int32} {p1 : Int32} {p2 : Int32} {p3 : Int32} {p4 : Int32} {p5 : Int32} {Q : ((Nat → Int32) × (Nat → Int32)) → Prop} (h : wp_X11_goOn p1 p2 p3 p4 p5 M_wide M_high M_folds M_foldSet M_foldEdges M_foldNeeds M_least M_ways Q) :
    MetV yX11_goOn cX11_goOn 12 (none) rm_X11_goOn D [(cyI, .int), (cyJ, .long), (cyZ, .boolean)] [.ref a_M, .int p1, .int p2, .int p3, .int p4, .int p5] (W_Model cyI cyJ cyZ a_M a_M_square a_M_want a_M_text a_M_read a_M_row a_M_foldSet a_M_foldEdges a_M_foldNeeds a_M_foldYards a_M_least a_M_ways a_M_price a_M_rowBy a_M_columnBy a_M_rowOf a_M_wayBack a_M_slack a_M_isUsed a_M_lifted a_M_freed a_M_path M_wide M_high M_hedges M_hurdles M_wants M_rest M_frozen M_bytes M_position M_tokenAt M_token M_digits M_number M_faultAt M_readMany M_readWide M_readHigh M_nights M_why M_folds M_square M_want M_text M_read M_row M_foldSet M_foldEdges M_foldNeeds M_foldYards M_least M_ways M_price M_rowBy M_columnBy M_rowOf M_wayBack M_slack M_isUsed M_lifted M_freed M_path) (fun u : (Nat → Int32) × (Nat → Int32) => (W_Model cyI cyJ cyZ a_M a_M_square a_M_want a_M_text a_M_read a_M_row a_M_foldSet a_M_foldEdges a_M_foldNeeds a_M_foldYards a_M_least a_M_ways a_M_price a_M_rowBy a_M_columnBy a_M_rowOf a_M_wayBack a_M_slack a_M_isUsed a_M_lifted a_M_freed a_M_path M_wide M_high M_hedges M_hurdles M_wants M_rest M_frozen M_bytes M_position M_tokenAt M_token M_digits M_number M_faultAt M_readMany M_readWide M_readHigh M_nights M_why M_folds M_square M_want M_text M_read M_row M_foldSet M_foldEdges M_foldNeeds M_foldYards u.1 u.2 M_price M_rowBy M_columnBy M_rowOf M_wayBack M_slack M_isUsed M_lifted M_freed M_path)) (fun u => Q u) := by
  unfold wp_X11_goOn at h
  refine metV_of (by decide) (Nat.le_of_ble_eq_true rfl) (fun x cx0 hR0 => ?_)
  have cx : Cx x cX11_goOn 12 RX11 rm_X11_goOn D [(cyI, .int), (cyJ, .long), (cyZ, .boolean)] := cx0
  have hR : ∀ (u : (Nat → Int32) × (Nat → Int32)) (pc : Nat) (lv : List (Nat × Value)), decode cX11_goOn pc = .ok (.return_, 1) → Q u → J x 0 0 12 (W_Model cyI cyJ cyZ a_M a_M_square a_M_want a_M_text a_M_read a_M_row a_M_foldSet a_M_foldEdges a_M_foldNeeds a_M_foldYards a_M_least a_M_ways a_M_price a_M_rowBy a_M_columnBy a_M_rowOf a_M_wayBack a_M_slack a_M_isUsed a_M_lifted a_M_freed a_M_path M_wide M_high M_hedges M_hurdles M_wants M_rest M_frozen M_bytes M_position M_tokenAt M_token M_digits M_number M_faultAt M_readMany M_readWide M_readHigh M_nights M_why M_folds M_square M_want M_text M_read M_row M_foldSet M_foldEdges M_foldNeeds M_foldYards u.1 u.2 M_price M_rowBy M_columnBy M_rowOf M_wayBack M_slack M_isUsed M_lifted M_freed M_path) lv pc [] := (fun u pc lv d hq => hR0 u pc lv d hq)
  show J x 0 0 12 (W_Model cyI cyJ cyZ a_M a_M_square a_M_want a_M_text a_M_read a_M_row a_M_foldSet a_M_foldEdges a_M_foldNeeds a_M_foldYards a_M_least a_M_ways a_M_price a_M_rowBy a_M_columnBy a_M_rowOf a_M_wayBack a_M_slack a_M_isUsed a_M_lifted a_M_freed a_M_path M_wide M_high M_hedges M_hurdles M_wants M_rest M_frozen M_bytes M_position M_tokenAt M_token M_digits M_number M_faultAt M_readMany M_readWide M_readHigh M_nights M_why M_folds M_square M_want M_text M_read M_row M_foldSet M_foldEdges M_foldNeeds M_foldYards M_least M_ways M_price M_rowBy M_columnBy M_rowOf M_wayBack M_slack M_isUsed M_lifted M_freed M_path) [(0, .ref a_M), (1, .int p1), (2, .int p2), (3, .int p3), (4, .int p4), (5, .int p5)] 0 []
  refine j_aload_n cx 0 rfl rfl dX11_goOn_0 (pn := 1) rfl ?_
  refine j_aload_n cx 0 rfl rfl dX11_goOn_1 (pn := 2) rfl ?_
  refine j_get cx inGX11 0 rfl rfl 25 (by decide) q_fl_X11_35 rfl rfl dX11_goOn_2 (pn := 5) rfl ?_
  refine j_iload_n cx 3 rfl rfl dX11_goOn_5 (pn := 6) rfl ?_
  refine j_iald cx 6 0 rfl rfl h.1 dX11_goOn_6 (pn := 7) rfl ?_
  have h := h.2
  refine j_callvI0 cx q_inst_X11_besides q_sel_X11_besides (b := a_M) (As := [.int (M_foldSet p3.toNatClampNeg)]) (rest := []) (c_X11_besides h) ⟨q_code_X11_besides, q_ml_X11_234, q_init_X11, hd_X11_besides, ⟨Nat.le_of_ble_eq_true rfl, Nat.le_of_ble_eq_true rfl⟩, Nat.le_of_ble_eq_true rfl, Nat.le_of_ble_eq_true rfl⟩ (q0 := 0) rfl rfl rfl rfl (Nat.le_of_ble_eq_true rfl) dX11_goOn_7 (pn := 10) rfl (fun r1 _ h => ?_)
  show J x 0 0 12 (W_Model cyI cyJ cyZ a_M a_M_square a_M_want a_M_text a_M_read a_M_row a_M_foldSet a_M_foldEdges a_M_foldNeeds a_M_foldYards a_M_least a_M_ways a_M_price a_M_rowBy a_M_columnBy a_M_rowOf a_M_wayBack a_M_slack a_M_isUsed a_M_lifted a_M_freed a_M_path M_wide M_high M_hedges M_hurdles M_wants M_rest M_frozen M_bytes M_position M_tokenAt M_token M_digits M_number M_faultAt M_readMany M_readWide M_readHigh M_nights M_why M_folds M_square M_want M_text M_read M_row M_foldSet M_foldEdges M_foldNeeds M_foldYards M_least M_ways M_price M_rowBy M_columnBy M_rowOf M_wayBack M_slack M_isUsed M_lifted M_freed M_path) [(0, .ref a_M), (1, .int p1), (2, .int p2), (3, .int p3), (4, .int p4), (5, .int p5)] 10 [.int r1]
  refine j_iload_n cx 2 rfl rfl dX11_goOn_10 (pn := 11) rfl ?_
  refine j_iconst cx (v := (-1)) (by decide) dX11_goOn_11 (pn := 12) rfl ?_
  refine j_ixor cx dX11_goOn_12 (pn := 13) rfl ?_
  refine j_iand cx dX11_goOn_13 (pn := 14) rfl ?_
  refine j_topi (fun y2 ey2 => ?_)
  have h := h y2 ey2
  refine j_istore cx [(6, .int y2), (0, .ref a_M), (1, .int p1), (2, .int p2), (3, .int p3), (4, .int p4), (5, .int p5)] (by decide) rfl dX11_goOn_14 (pn := 16) rfl ?_
  refine j_aload_n cx 1 rfl rfl dX11_goOn_16 (pn := 17) rfl ?_
  refine j_get cx inGX11 0 rfl rfl 30 (by decide) q_fl_X11_52 rfl rfl dX11_goOn_17 (pn := 20) rfl ?_
  refine j_iload_n cx 2 rfl rfl dX11_goOn_20 (pn := 21) rfl ?_
  refine j_iald cx 11 0 rfl rfl h.1 dX11_goOn_21 (pn := 22) rfl ?_
  have h := h.2
  refine j_i2l cx dX11_goOn_22 (pn := 23) rfl ?_
  refine j_topl (fun y3 ey3 => ?_)
  have h := h y3 ey3
  refine j_lstore cx [(7, .long y3), (6, .int y2), (0, .ref a_M), (1, .int p1), (2, .int p2), (3, .int p3), (4, .int p4), (5, .int p5)] (by decide) rfl dX11_goOn_23 (pn := 25) rfl ?_
  refine j_iconst cx (v := 0) (by decide) dX11_goOn_25 (pn := 26) rfl ?_
  refine j_istore cx [(9, .int 0), (7, .long y3), (6, .int y2), (0, .ref a_M), (1, .int p1), (2, .int p2), (3, .int p3), (4, .int p4), (5, .int p5)] (by decide) rfl dX11_goOn_26 (pn := 28) rfl ?_
  refine j_sub [3, 4, 5, 6, 7, 8, 2, 1, 0] [(0, .ref a_M), (1, .int p1), (2, .int p2), (3, .int p3), (4, .int p4), (5, .int p5), (6, .int y2), (7, .long y3), (9, .int 0)] rfl ?_
  exact J_X11_goOn_28 cx hR h
theorem dX11_layCourses_0 : decode cX11_layCourses 0 = .ok (.aload_n 0, 1) := by decide +kernel
theorem dX11_layCourses_1 : decode cX11_layCourses 1 = .ok (.invokevirtual 287, 3) := by decide +kernel
theorem dX11_layCourses_4 : decode cX11_layCourses 4 = .ok (.aload_n 0, 1) := by decide +kernel
theorem dX11_layCourses_5 : decode cX11_layCourses 5 = .ok (.invokevirtual 290, 3) := by decide +kernel
theorem dX11_layCourses_8 : decode cX11_layCourses 8 = .ok (.istore 4, 2) := by decide +kernel
theorem dX11_layCourses_10 : decode cX11_layCourses 10 = .ok (.iconst 1, 1) := by decide +kernel
theorem dX11_layCourses_11 : decode cX11_layCourses 11 = .ok (.aload_n 0, 1) := by decide +kernel
theorem dX11_layCourses_12 : decode cX11_layCourses 12 = .ok (.invokevirtual 86, 3) := by decide +kernel
theorem dX11_layCourses_15 : decode cX11_layCourses 15 = .ok (.ishl, 1) := by decide +kernel
theorem dX11_layCourses_16 : decode cX11_layCourses 16 = .ok (.iconst 1, 1) := by decide +kernel
theorem dX11_layCourses_17 : decode cX11_layCourses 17 = .ok (.isub, 1) := by decide +kernel
theorem dX11_layCourses_18 : decode cX11_layCourses 18 = .ok (.istore 5, 2) := by decide +kernel
theorem dX11_layCourses_20 : decode cX11_layCourses 20 = .ok (.iload 5, 2) := by decide +kernel
theorem dX11_layCourses_22 : decode cX11_layCourses 22 = .ok (.ifCond .le 140, 3) := by decide +kernel
theorem dX11_layCourses_25 : decode cX11_layCourses 25 = .ok (.iconst 0, 1) := by decide +kernel
theorem dX11_layCourses_26 : decode cX11_layCourses 26 = .ok (.istore 6, 2) := by decide +kernel
theorem dX11_layCourses_28 : decode cX11_layCourses 28 = .ok (.iload 6, 2) := by decide +kernel
theorem dX11_layCourses_30 : decode cX11_layCourses 30 = .ok (.aload_n 0, 1) := by decide +kernel
theorem dX11_layCourses_31 : decode cX11_layCourses 31 = .ok (.getfield 284, 3) := by decide +kernel
theorem dX11_layCourses_34 : decode cX11_layCourses 34 = .ok (.if_icmp .ge 122, 3) := by decide +kernel
theorem dX11_layCourses_37 : decode cX11_layCourses 37 = .ok (.aload_n 0, 1) := by decide +kernel
theorem dX11_layCourses_38 : decode cX11_layCourses 38 = .ok (.getfield 35, 3) := by decide +kernel
theorem dX11_layCourses_41 : decode cX11_layCourses 41 = .ok (.iload 6, 2) := by decide +kernel
theorem dX11_layCourses_43 : decode cX11_layCourses 43 = .ok (.iaload, 1) := by decide +kernel
theorem dX11_layCourses_44 : decode cX11_layCourses 44 = .ok (.iload 5, 2) := by decide +kernel
theorem dX11_layCourses_46 : decode cX11_layCourses 46 = .ok (.iconst (-1), 1) := by decide +kernel
theorem dX11_layCourses_47 : decode cX11_layCourses 47 = .ok (.ixor, 1) := by decide +kernel
theorem dX11_layCourses_48 : decode cX11_layCourses 48 = .ok (.iand, 1) := by decide +kernel
theorem dX11_layCourses_49 : decode cX11_layCourses 49 = .ok (.ifCond .ne 101, 3) := by decide +kernel
theorem dX11_layCourses_52 : decode cX11_layCourses 52 = .ok (.aload_n 0, 1) := by decide +kernel
theorem dX11_layCourses_53 : decode cX11_layCourses 53 = .ok (.getfield 42, 3) := by decide +kernel
theorem dX11_layCourses_56 : decode cX11_layCourses 56 = .ok (.iload 6, 2) := by decide +kernel
theorem dX11_layCourses_58 : decode cX11_layCourses 58 = .ok (.iaload, 1) := by decide +kernel
theorem dX11_layCourses_59 : decode cX11_layCourses 59 = .ok (.iload_n 2, 1) := by decide +kernel
theorem dX11_layCourses_60 : decode cX11_layCourses 60 = .ok (.if_icmp .gt 90, 3) := by decide +kernel
theorem dX11_layCourses_63 : decode cX11_layCourses 63 = .ok (.sipush 280, 3) := by decide +kernel
theorem dX11_layCourses_66 : decode cX11_layCourses 66 = .ok (.iload 5, 2) := by decide +kernel
theorem dX11_layCourses_68 : decode cX11_layCourses 68 = .ok (.imul, 1) := by decide +kernel
theorem dX11_layCourses_69 : decode cX11_layCourses 69 = .ok (.iload 6, 2) := by decide +kernel
theorem dX11_layCourses_71 : decode cX11_layCourses 71 = .ok (.iadd, 1) := by decide +kernel
theorem dX11_layCourses_72 : decode cX11_layCourses 72 = .ok (.istore 7, 2) := by decide +kernel
theorem dX11_layCourses_74 : decode cX11_layCourses 74 = .ok (.iload 4, 2) := by decide +kernel
theorem dX11_layCourses_76 : decode cX11_layCourses 76 = .ok (.iload 5, 2) := by decide +kernel
theorem dX11_layCourses_78 : decode cX11_layCourses 78 = .ok (.iconst (-1), 1) := by decide +kernel
theorem dX11_layCourses_79 : decode cX11_layCourses 79 = .ok (.ixor, 1) := by decide +kernel
theorem dX11_layCourses_80 : decode cX11_layCourses 80 = .ok (.iand, 1) := by decide +kernel
theorem dX11_layCourses_81 : decode cX11_layCourses 81 = .ok (.ifCond .ne 7, 3) := by decide +kernel
theorem dX11_layCourses_84 : decode cX11_layCourses 84 = .ok (.iconst 1, 1) := by decide +kernel
theorem dX11_layCourses_85 : decode cX11_layCourses 85 = .ok (.goto 4, 3) := by decide +kernel
theorem dX11_layCourses_88 : decode cX11_layCourses 88 = .ok (.iconst 0, 1) := by decide +kernel
theorem dX11_layCourses_89 : decode cX11_layCourses 89 = .ok (.istore 8, 2) := by decide +kernel
theorem dX11_layCourses_91 : decode cX11_layCourses 91 = .ok (.aload_n 0, 1) := by decide +kernel
theorem dX11_layCourses_92 : decode cX11_layCourses 92 = .ok (.getfield 49, 3) := by decide +kernel
theorem dX11_layCourses_95 : decode cX11_layCourses 95 = .ok (.iload 7, 2) := by decide +kernel
theorem dX11_layCourses_97 : decode cX11_layCourses 97 = .ok (.iload 8, 2) := by decide +kernel
theorem dX11_layCourses_99 : decode cX11_layCourses 99 = .ok (.ifCond .eq 7, 3) := by decide +kernel
theorem dX11_layCourses_102 : decode cX11_layCourses 102 = .ok (.iconst 0, 1) := by decide +kernel
theorem dX11_layCourses_103 : decode cX11_layCourses 103 = .ok (.goto 6, 3) := by decide +kernel
theorem dX11_layCourses_106 : decode cX11_layCourses 106 = .ok (.ldc_w 267, 3) := by decide +kernel
theorem dX11_layCourses_109 : decode cX11_layCourses 109 = .ok (.iastore, 1) := by decide +kernel
theorem dX11_layCourses_110 : decode cX11_layCourses 110 = .ok (.aload_n 0, 1) := by decide +kernel
theorem dX11_layCourses_111 : decode cX11_layCourses 111 = .ok (.getfield 52, 3) := by decide +kernel
theorem dX11_layCourses_114 : decode cX11_layCourses 114 = .ok (.iload 7, 2) := by decide +kernel
theorem dX11_layCourses_116 : decode cX11_layCourses 116 = .ok (.iload 8, 2) := by decide +kernel
theorem dX11_layCourses_118 : decode cX11_layCourses 118 = .ok (.ifCond .eq 7, 3) := by decide +kernel
theorem dX11_layCourses_121 : decode cX11_layCourses 121 = .ok (.iconst 1, 1) := by decide +kernel
theorem dX11_layCourses_122 : decode cX11_layCourses 122 = .ok (.goto 4, 3) := by decide +kernel
theorem dX11_layCourses_125 : decode cX11_layCourses 125 = .ok (.iconst 0, 1) := by decide +kernel
theorem dX11_layCourses_126 : decode cX11_layCourses 126 = .ok (.iastore, 1) := by decide +kernel
theorem dX11_layCourses_127 : decode cX11_layCourses 127 = .ok (.aload_n 0, 1) := by decide +kernel
theorem dX11_layCourses_128 : decode cX11_layCourses 128 = .ok (.getfield 45, 3) := by decide +kernel
theorem dX11_layCourses_131 : decode cX11_layCourses 131 = .ok (.iload 6, 2) := by decide +kernel
theorem dX11_layCourses_133 : decode cX11_layCourses 133 = .ok (.iaload, 1) := by decide +kernel
theorem dX11_layCourses_134 : decode cX11_layCourses 134 = .ok (.iload_n 1, 1) := by decide +kernel
theorem dX11_layCourses_135 : decode cX11_layCourses 135 = .ok (.if_icmp .lt 15, 3) := by decide +kernel
theorem dX11_layCourses_138 : decode cX11_layCourses 138 = .ok (.aload_n 0, 1) := by decide +kernel
theorem dX11_layCourses_139 : decode cX11_layCourses 139 = .ok (.iload 7, 2) := by decide +kernel
theorem dX11_layCourses_141 : decode cX11_layCourses 141 = .ok (.iload 5, 2) := by decide +kernel
theorem dX11_layCourses_143 : decode cX11_layCourses 143 = .ok (.iload 6, 2) := by decide +kernel
theorem dX11_layCourses_145 : decode cX11_layCourses 145 = .ok (.iload_n 2, 1) := by decide +kernel
theorem dX11_layCourses_146 : decode cX11_layCourses 146 = .ok (.iload_n 3, 1) := by decide +kernel
theorem dX11_layCourses_147 : decode cX11_layCourses 147 = .ok (.invokevirtual 293, 3) := by decide +kernel
theorem dX11_layCourses_150 : decode cX11_layCourses 150 = .ok (.iinc 6 1, 3) := by decide +kernel
theorem dX11_layCourses_153 : decode cX11_layCourses 153 = .ok (.goto (-125), 3) := by decide +kernel
theorem dX11_layCourses_156 : decode cX11_layCourses 156 = .ok (.iinc 5 (-1), 3) := by decide +kernel
theorem dX11_layCourses_159 : decode cX11_layCourses 159 = .ok (.goto (-139), 3) := by decide +kernel
theorem dX11_layCourses_162 : decode cX11_layCourses 162 = .ok (.return_, 1) := by decide +kernel
abbrev rm_X11_layCourses : Room := { frames := 5, cells := 0, slots := 0, locals := 115 }
theorem hd_X11_layCourses : yX11_layCourses.cls ≠ "java/lang/invoke/MethodHandle" ∧ yX11_layCourses.cls ≠ "java/lang/invoke/VarHandle" ∧ (parseMethodDescriptor yX11_layCourses.desc).map (fun d => d.parameters.length) = some 3 := by decide +kernel
def bk_X11_layCourses_150 (Q : (Int32 × (Nat → Int32) × (Nat → Int64) × (Nat → Int32) × (Nat → Int32) × (Nat → Int32) × (Nat → Int32)) → Prop) (B20 : (Nat → Int32) → (Nat → Int32) → Int32 → Prop) (B28 : (Nat → Int32) → (Nat → Int32) → Int32 → Prop) (x6 : Int32) (M_least : Nat → Int32) (M_ways : Nat → Int32) : Prop :=
∀ y9 : Int32, y9 = (x6 + 1) →
B28 M_least M_ways y9
def bk_X11_layCourses_126 (Q : (Int32 × (Nat → Int32) × (Nat → Int64) × (Nat → Int32) × (Nat → Int32) × (Nat → Int32) × (Nat → Int32)) → Prop) (B20 : (Nat → Int32) → (Nat → Int32) → Int32 → Prop) (B28 : (Nat → Int32) → (Nat → Int32) → Int32 → Prop) (p1 : Int32) (p2 : Int32) (p3 : Int32) (x5 : Int32) (x6 : Int32) (x7 : Int32) (M_wide : Int32) (M_high : Int32) (M_folds : Int32) (M_foldSet : Nat → Int32) (M_foldEdges : Nat → Int64) (M_foldNeeds : Nat → Int32) (M_foldYards : Nat → Int32) (M_least : Nat → Int32) (M_ways : Nat → Int32) (s0 : Int32) (s1 : Int32) : Prop :=
vp_in s1 286720 ∧ (∀ f16 : Nat → Int32, f16 = (upd M_ways s1.toNatClampNeg s0) →
vp_in x6 280 ∧ (((M_foldYards x6.toNatClampNeg) < p1 → bk_X11_layCourses_150 Q B20 B28 x6 M_least f16) ∧
(¬ (M_foldYards x6.toNatClampNeg) < p1 → wp_X11_goOn x7 x5 x6 p2 p3 M_wide M_high M_folds M_foldSet M_foldEdges M_foldNeeds M_least f16 (fun (u18 : (Nat → Int32) × (Nat → Int32)) => bk_X11_layCourses_150 Q B20 B28 x6 u18.1 u18.2))))
def bk_X11_layCourses_109 (Q : (Int32 × (Nat → Int32) × (Nat → Int64) × (Nat → Int32) × (Nat → Int32) × (Nat → Int32) × (Nat → Int32)) → Prop) (B20 : (Nat → Int32) → (Nat → Int32) → Int32 → Prop) (B28 : (Nat → Int32) → (Nat → Int32) → Int32 → Prop) (p1 : Int32) (p2 : Int32) (p3 : Int32) (x5 : Int32) (x6 : Int32) (x7 : Int32) (x8 : Int32) (M_wide : Int32) (M_high : Int32) (M_folds : Int32) (M_foldSet : Nat → Int32) (M_foldEdges : Nat → Int64) (M_foldNeeds : Nat → Int32) (M_foldYards : Nat → Int32) (M_least : Nat → Int32) (M_ways : Nat → Int32) (s0 : Int32) (s1 : Int32) : Prop :=
vp_in s1 286720 ∧ (∀ f14 : Nat → Int32, f14 = (upd M_least s1.toNatClampNeg s0) →
((x8 = 0 → bk_X11_layCourses_126 Q B20 B28 p1 p2 p3 x5 x6 x7 M_wide M_high M_folds M_foldSet M_foldEdges M_foldNeeds M_foldYards f14 M_ways 0 x7) ∧
(¬ x8 = 0 → bk_X11_layCourses_126 Q B20 B28 p1 p2 p3 x5 x6 x7 M_wide M_high M_folds M_foldSet M_foldEdges M_foldNeeds M_foldYards f14 M_ways 1 x7)))
def bk_X11_layCourses_89 (Q : (Int32 × (Nat → Int32) × (Nat → Int64) × (Nat → Int32) × (Nat → Int32) × (Nat → Int32) × (Nat → Int32)) → Prop) (B20 : (Nat → Int32) → (Nat → Int32) → Int32 → Prop) (B28 : (Nat → Int32) → (Nat → Int32) → Int32 → Prop) (p1 : Int32) (p2 : Int32) (p3 : Int32) (x5 : Int32) (x6 : Int32) (x7 : Int32) (M_wide : Int32) (M_high : Int32) (M_folds : Int32) (M_foldSet : Nat → Int32) (M_foldEdges : Nat → Int64) (M_foldNeeds : Nat → Int32) (M_foldYards : Nat → Int32) (M_least : Nat → Int32) (M_ways : Nat → Int32) (s0 : Int32) : Prop :=
((s0 = 0 → bk_X11_layCourses_109 Q B20 B28 p1 p2 p3 x5 x6 x7 s0 M_wide M_high M_folds M_foldSet M_foldEdges M_foldNeeds M_foldYards M_least M_ways 100000 x7) ∧
(¬ s0 = 0 → bk_X11_layCourses_109 Q B20 B28 p1 p2 p3 x5 x6 x7 s0 M_wide M_high M_folds M_foldSet M_foldEdges M_foldNeeds M_foldYards M_least M_ways 0 x7))
def bd_X11_layCourses_28 (Q : (Int32 × (Nat → Int32) × (Nat → Int64) × (Nat → Int32) × (Nat → Int32) × (Nat → Int32) × (Nat → Int32)) → Prop) (B20 : (Nat → Int32) → (Nat → Int32) → Int32 → Prop) (B28 : (Nat → Int32) → (Nat → Int32) → Int32 → Prop) (p1 : Int32) (p2 : Int32) (p3 : Int32) (x4 : Int32) (x5 : Int32) (M_wide : Int32) (M_high : Int32) (M_folds : Int32) (M_foldSet : Nat → Int32) (M_foldEdges : Nat → Int64) (M_foldNeeds : Nat → Int32) (M_foldYards : Nat → Int32) (M_least : Nat → Int32) (M_ways : Nat → Int32) (x6 : Int32) : Prop :=
((M_folds ≤ x6 → ∀ y7 : Int32, y7 = (x5 + (-1)) →
B20 M_least M_ways y7) ∧
(¬ M_folds ≤ x6 → vp_in x6 280 ∧ ((¬ ((M_foldSet x6.toNatClampNeg) &&& (x5 ^^^ (-1))) = 0 → bk_X11_layCourses_150 Q B20 B28 x6 M_least M_ways) ∧
(((M_foldSet x6.toNatClampNeg) &&& (x5 ^^^ (-1))) = 0 → vp_in x6 280 ∧ ((p2 < (M_foldNeeds x6.toNatClampNeg) → bk_X11_layCourses_150 Q B20 B28 x6 M_least M_ways) ∧
(¬ p2 < (M_foldNeeds x6.toNatClampNeg) → ∀ y11 : Int32, y11 = ((280 * x5) + x6) →
((¬ (x4 &&& (x5 ^^^ (-1))) = 0 → bk_X11_layCourses_89 Q B20 B28 p1 p2 p3 x5 x6 y11 M_wide M_high M_folds M_foldSet M_foldEdges M_foldNeeds M_foldYards M_least M_ways 0) ∧
((x4 &&& (x5 ^^^ (-1))) = 0 → bk_X11_layCourses_89 Q B20 B28 p1 p2 p3 x5 x6 y11 M_wide M_high M_folds M_foldSet M_foldEdges M_foldNeeds M_foldYards M_least M_ways 1))))))))
def lp_X11_layCourses_28 (Q : (Int32 × (Nat → Int32) × (Nat → Int64) × (Nat → Int32) × (Nat → Int32) × (Nat → Int32) × (Nat → Int32)) → Prop) (B20 : (Nat → Int32) → (Nat → Int32) → Int32 → Prop) (p1 : Int32) (p2 : Int32) (p3 : Int32) (x4 : Int32) (x5 : Int32) (M_wide : Int32) (M_high : Int32) (M_folds : Int32) (M_foldSet : Nat → Int32) (M_foldEdges : Nat → Int64) (M_foldNeeds : Nat → Int32) (M_foldYards : Nat → Int32) (M_least : Nat → Int32) (M_ways : Nat → Int32) (x6 : Int32) : Prop :=
∃ I : Nat → (Nat → Int32) → (Nat → Int32) → Int32 → Prop, (∃ n, I n M_least M_ways x6) ∧ ∀ n M_least M_ways x6, I n M_least M_ways x6 → bd_X11_layCourses_28 Q B20 (fun M_least' M_ways' x6' => ∃ n', n' < n ∧ I n' M_least' M_ways' x6') p1 p2 p3 x4 x5 M_wide M_high M_folds M_foldSet M_foldEdges M_foldNeeds M_foldYards M_least M_ways x6
def bd_X11_layCourses_20 (Q : (Int32 × (Nat → Int32) × (Nat → Int64) × (Nat → Int32) × (Nat → Int32) × (Nat → Int32) × (Nat → Int32)) → Prop) (B20 : (Nat → Int32) → (Nat → Int32) → Int32 → Prop) (p1 : Int32) (p2 : Int32) (p3 : Int32) (x4 : Int32) (M_wide : Int32) (M_high : Int32) (M_folds : Int32) (M_foldSet : Nat → Int32) (M_foldEdges : Nat → Int64) (M_foldNeeds : Nat → Int32) (M_foldYards : Nat → Int32) (M_least : Nat → Int32) (M_ways : Nat → Int32) (x5 : Int32) : Prop :=
((x5 ≤ 0 → Q (M_folds, M_foldSet, M_foldEdges, M_foldNeeds, M_foldYards, M_least, M_ways)) ∧
(¬ x5 ≤ 0 → lp_X11_layCourses_28 Q B20 p1 p2 p3 x4 x5 M_wide M_high M_folds M_foldSet M_foldEdges M_foldNeeds M_foldYards M_least M_ways 0))
def lp_X11_layCourses_20 (Q : (Int32 × (Nat → Int32) × (Nat → Int64) × (Nat → Int32) × (Nat → Int32) × (Nat → Int32) × (Nat → Int32)) → Prop) (p1 : Int32) (p2 : Int32) (p3 : Int32) (x4 : Int32) (M_wide : Int32) (M_high : Int32) (M_folds : Int32) (M_foldSet : Nat → Int32) (M_foldEdges : Nat → Int64) (M_foldNeeds : Nat → Int32) (M_foldYards : Nat → Int32) (M_least : Nat → Int32) (M_ways : Nat → Int32) (x5 : Int32) : Prop :=
∃ I : Nat → (Nat → Int32) → (Nat → Int32) → Int32 → Prop, (∃ n, I n M_least M_ways x5) ∧ ∀ n M_least M_ways x5, I n M_least M_ways x5 → bd_X11_layCourses_20 Q  (fun M_least' M_ways' x5' => ∃ n', n' < n ∧ I n' M_least' M_ways' x5') p1 p2 p3 x4 M_wide M_high M_folds M_foldSet M_foldEdges M_foldNeeds M_foldYards M_least M_ways x5
def wp_X11_layCourses (p1 : Int32) (p2 : Int32) (p3 : Int32) (M_wide : Int32) (M_high : Int32) (M_hedges : Int64) (M_square : Nat → Int32) (M_foldSet : Nat → Int32) (M_foldEdges : Nat → Int64) (M_foldNeeds : Nat → Int32) (M_foldYards : Nat → Int32) (M_least : Nat → Int32) (M_ways : Nat → Int32) (Q : (Int32 × (Nat → Int32) × (Nat → Int64) × (Nat → Int32) × (Nat → Int32) × (Nat → Int32) × (Nat → Int32)) → Prop) : Prop :=
wp_X11_findFolds M_wide M_high M_hedges M_square M_foldSet M_foldEdges M_foldNeeds M_foldYards (fun (u1 : Int32 × (Nat → Int32) × (Nat → Int64) × (Nat → Int32) × (Nat → Int32)) => wp_X11_rich M_wide M_high M_square (fun (r2 : Int32) => wp_X11_squares M_wide M_high (fun (r3 : Int32) => ∀ y4 : Int32, y4 = ((1 <<< (r3 &&& 31)) - 1) →
lp_X11_layCourses_20 Q p1 p2 p3 r2 M_wide M_high u1.1 u1.2.1 u1.2.2.1 u1.2.2.2.1 u1.2.2.2.2 M_least M_ways y4)))
set_option maxHeartbeats 4000000 in
set_option maxRecDepth 100000 in
theorem J_X11_layCourses_150 {x : CX} {D : DG} {cyI cyJ cyZ : ClassId} {a_M a_M_square a_M_want a_M_text a_M_read a_M_row a_M_foldSet a_M_foldEdges a_M_foldNeeds a_M_foldYards a_M_least a_M_ways a_M_price a_M_rowBy a_M_columnBy a_M_rowOf a_M_wayBack a_M_slack a_M_isUsed a_M_lifted a_M_freed a_M_path : Nat} {M_wide : Int32} {M_high : Int32} {M_hedges : Int64} {M_hurdles : Int32} {M_wants : Int32} {M_rest : Int32} {M_frozen : Int32} {M_bytes : Int32} {M_position : Int32} {M_tokenAt : Int32} {M_token : Int64} {M_digits : Int32} {M_number : Int32} {M_faultAt : Int32} {M_readMany : Int32} {M_readWide : Int32} {M_readHigh : Int32} {M_nights : Int32} {M_why : Int32} {M_folds : Int32} {M_square : Nat → Int32} {M_want : Nat → Int32} {M_text : Nat → Int32} {M_read : Nat → Int32} {M_row : Nat → Int32} {M_foldSet : Nat → Int32} {M_foldEdges : Nat → Int64} {M_foldNeeds : Nat → Int32} {M_foldYards : Nat → Int32} {M_least : Nat → Int32} {M_ways : Nat → Int32} {M_price : Nat → Int32} {M_rowBy : Nat → Int32} {M_columnBy : Nat → Int32} {M_rowOf : Nat → Int32} {M_wayBack : Nat → Int32} {M_slack : Nat → Int32} {M_isUsed : Nat → Int32} {M_lifted : Nat → Int32} {M_freed : Nat → Int32} {M_path : Nat → Int32} {p1 : Int32} {p2 : Int32} {p3 : Int32} {x4 : Int32} {x5 : Int32} {x6 : Int32} {Q : (Int32 × (Nat → Int32) × (Nat → Int64) × (Nat → Int32) × (Nat → Int32) × (Nat → Int32) × (Nat → Int32)) → Prop} {B20 : (Nat → Int32) → (Nat → Int32) → Int32 → Prop} {B28 : (Nat → Int32) → (Nat → Int32) → Int32 → Prop} (cx : Cx x cX11_layCourses 9 RX11 rm_X11_layCourses D [(cyI, .int), (cyJ, .long), (cyZ, .boolean)]) (hR : ∀ (u : Int32 × (Nat → Int32) × (Nat → Int64) × (Nat → Int32) × (Nat → Int32) × (Nat → Int32) × (Nat → Int32)) (pc : Nat) (lv : List (Nat × Value)), decode cX11_layCourses pc = .ok (.return_, 1) → Q u → J x 0 0 9 (W_Model cyI cyJ cyZ a_M a_M_square a_M_want a_M_text a_M_read a_M_row a_M_foldSet a_M_foldEdges a_M_foldNeeds a_M_foldYards a_M_least a_M_ways a_M_price a_M_rowBy a_M_columnBy a_M_rowOf a_M_wayBack a_M_slack a_M_isUsed a_M_lifted a_M_freed a_M_path M_wide M_high M_hedges M_hurdles M_wants M_rest M_frozen M_bytes M_position M_tokenAt M_token M_digits M_number M_faultAt M_readMany M_readWide M_readHigh M_nights M_why u.1 M_square M_want M_text M_read M_row u.2.1 u.2.2.1 u.2.2.2.1 u.2.2.2.2.1 u.2.2.2.2.2.1 u.2.2.2.2.2.2 M_price M_rowBy M_columnBy M_rowOf M_wayBack M_slack M_isUsed M_lifted M_freed M_path) lv pc []) (hB20 : ∀ (M_least : Nat → Int32) (M_ways : Nat → Int32) (x5 : Int32), B20 M_least M_ways x5 → J x 0 0 9 (W_Model cyI cyJ cyZ a_M a_M_square a_M_want a_M_text a_M_read a_M_row a_M_foldSet a_M_foldEdges a_M_foldNeeds a_M_foldYards a_M_least a_M_ways a_M_price a_M_rowBy a_M_columnBy a_M_rowOf a_M_wayBack a_M_slack a_M_isUsed a_M_lifted a_M_freed a_M_path M_wide M_high M_hedges M_hurdles M_wants M_rest M_frozen M_bytes M_position M_tokenAt M_token M_digits M_number M_faultAt M_readMany M_readWide M_readHigh M_nights M_why M_folds M_square M_want M_text M_read M_row M_foldSet M_foldEdges M_foldNeeds M_foldYards M_least M_ways M_price M_rowBy M_columnBy M_rowOf M_wayBack M_slack M_isUsed M_lifted M_freed M_path) [(0, .ref a_M), (1, .int p1), (2, .int p2), (3, .int p3), (4, .int x4), (5, .int x5)] 20 []) (hB28 : ∀ (M_least : Nat → Int32) (M_ways : Nat → Int32) (x6 : Int32), B28 M_least M_ways x6 → J x 0 0 9 (W_Model cyI cyJ cyZ a_M a_M_square a_M_want a_M_text a_M_read a_M_row a_M_foldSet a_M_foldEdges a_M_foldNeeds a_M_foldYards a_M_least a_M_ways a_M_price a_M_rowBy a_M_columnBy a_M_rowOf a_M_wayBack a_M_slack a_M_isUsed a_M_lifted a_M_freed a_M_path M_wide M_high M_hedges M_hurdles M_wants M_rest M_frozen M_bytes M_position M_tokenAt M_token M_digits M_number M_faultAt M_readMany M_readWide M_readHigh M_nights M_why M_folds M_square M_want M_text M_read M_row M_foldSet M_foldEdges M_foldNeeds M_foldYards M_least M_ways M_price M_rowBy M_columnBy M_rowOf M_wayBack M_slack M_isUsed M_lifted M_freed M_path) [(0, .ref a_M), (1, .int p1), (2, .int p2), (3, .int p3), (4, .int x4), (5, .int x5), (6, .int x6)] 28 []) (h : bk_X11_layCourses_150 Q B20 B28 x6 M_least M_ways) :
    J x 0 0 9 (W_Model cyI cyJ cyZ a_M a_M_square a_M_want a_M_text a_M_read a_M_row a_M_foldSet a_M_foldEdges a_M_foldNeeds a_M_foldYards a_M_least a_M_ways a_M_price a_M_rowBy a_M_columnBy a_M_rowOf a_M_wayBack a_M_slack a_M_isUsed a_M_lifted a_M_freed a_M_path M_wide M_high M_hedges M_hurdles M_wants M_rest M_frozen M_bytes M_position M_tokenAt M_token M_digits M_number M_faultAt M_readMany M_readWide M_readHigh M_nights M_why M_folds M_square M_want M_text M_read M_row M_foldSet M_foldEdges M_foldNeeds M_foldYards M_least M_ways M_price M_rowBy M_columnBy M_rowOf M_wayBack M_slack M_isUsed M_lifted M_freed M_path) [(0, .ref a_M), (1, .int p1), (2, .int p2), (3, .int p3), (4, .int x4), (5, .int x5), (6, .int x6)] 150 [] := by
  unfold bk_X11_layCourses_150 at h
  obtain ⟨y9, ey9⟩ : ∃ z : Int32, z = x6 + 1 := ⟨_, rfl⟩
  have h := h y9 ey9
  refine j_iinc cx 6 rfl (cst := 1) (by decide) ey9 [(6, .int y9), (0, .ref a_M), (1, .int p1), (2, .int p2), (3, .int p3), (4, .int x4), (5, .int x5)] (by decide) rfl dX11_layCourses_150 (pn := 153) rfl ?_
  refine j_goto cx 28 dX11_layCourses_153 rfl ?_
  refine j_sub [1, 2, 3, 4, 5, 6, 0] [(0, .ref a_M), (1, .int p1), (2, .int p2), (3, .int p3), (4, .int x4), (5, .int x5), (6, .int y9)] rfl ?_
  exact hB28 _ _ _ h
set_option maxHeartbeats 4000000 in
set_option maxRecDepth 100000 in
theorem J_X11_layCourses_126 {x : CX} {D : DG} {cyI cyJ cyZ : ClassId} {a_M a_M_square a_M_want a_M_text a_M_read a_M_row a_M_foldSet a_M_foldEdges a_M_foldNeeds a_M_foldYards a_M_least a_M_ways a_M_price a_M_rowBy a_M_columnBy a_M_rowOf a_M_wayBack a_M_slack a_M_isUsed a_M_lifted a_M_freed a_M_path : Nat} {M_wide : Int32} {M_high : Int32} {M_hedges : Int64} {M_hurdles : Int32} {M_wants : Int32} {M_rest : Int32} {M_frozen : Int32} {M_bytes : Int32} {M_position : Int32} {M_tokenAt : Int32} {M_token : Int64} {M_digits : Int32} {M_number : Int32} {M_faultAt : Int32} {M_readMany : Int32} {M_readWide : Int32} {M_readHigh : Int32} {M_nights : Int32} {M_why : Int32} {M_folds : Int32} {M_square : Nat → Int32} {M_want : Nat → Int32} {M_text : Nat → Int32} {M_read : Nat → Int32} {M_row : Nat → Int32} {M_foldSet : Nat → Int32} {M_foldEdges : Nat → Int64} {M_foldNeeds : Nat → Int32} {M_foldYards : Nat → Int32} {M_least : Nat → Int32} {M_ways : Nat → Int32} {M_price : Nat → Int32} {M_rowBy : Nat → Int32} {M_columnBy : Nat → Int32} {M_rowOf : Nat → Int32} {M_wayBack : Nat → Int32} {M_slack : Nat → Int32} {M_isUsed : Nat → Int32} {M_lifted : Nat → Int32} {M_freed : Nat → Int32} {M_path : Nat → Int32} {p1 : Int32} {p2 : Int32} {p3 : Int32} {x4 : Int32} {x5 : Int32} {x6 : Int32} {x7 : Int32} {s0 : Int32} {s1 : Int32} {Q : (Int32 × (Nat → Int32) × (Nat → Int64) × (Nat → Int32) × (Nat → Int32) × (Nat → Int32) × (Nat → Int32)) → Prop} {B20 : (Nat → Int32) → (Nat → Int32) → Int32 → Prop} {B28 : (Nat → Int32) → (Nat → Int32) → Int32 → Prop} (cx : Cx x cX11_layCourses 9 RX11 rm_X11_layCourses D [(cyI, .int), (cyJ, .long), (cyZ, .boolean)]) (hR : ∀ (u : Int32 × (Nat → Int32) × (Nat → Int64) × (Nat → Int32) × (Nat → Int32) × (Nat → Int32) × (Nat → Int32)) (pc : Nat) (lv : List (Nat × Value)), decode cX11_layCourses pc = .ok (.return_, 1) → Q u → J x 0 0 9 (W_Model cyI cyJ cyZ a_M a_M_square a_M_want a_M_text a_M_read a_M_row a_M_foldSet a_M_foldEdges a_M_foldNeeds a_M_foldYards a_M_least a_M_ways a_M_price a_M_rowBy a_M_columnBy a_M_rowOf a_M_wayBack a_M_slack a_M_isUsed a_M_lifted a_M_freed a_M_path M_wide M_high M_hedges M_hurdles M_wants M_rest M_frozen M_bytes M_position M_tokenAt M_token M_digits M_number M_faultAt M_readMany M_readWide M_readHigh M_nights M_why u.1 M_square M_want M_text M_read M_row u.2.1 u.2.2.1 u.2.2.2.1 u.2.2.2.2.1 u.2.2.2.2.2.1 u.2.2.2.2.2.2 M_price M_rowBy M_columnBy M_rowOf M_wayBack M_slack M_isUsed M_lifted M_freed M_path) lv pc []) (hB20 : ∀ (M_least : Nat → Int32) (M_ways : Nat → Int32) (x5 : Int32), B20 M_least M_ways x5 → J x 0 0 9 (W_Model cyI cyJ cyZ a_M a_M_square a_M_want a_M_text a_M_read a_M_row a_M_foldSet a_M_foldEdges a_M_foldNeeds a_M_foldYards a_M_least a_M_ways a_M_price a_M_rowBy a_M_columnBy a_M_rowOf a_M_wayBack a_M_slack a_M_isUsed a_M_lifted a_M_freed a_M_path M_wide M_high M_hedges M_hurdles M_wants M_rest M_frozen M_bytes M_position M_tokenAt M_token M_digits M_number M_faultAt M_readMany M_readWide M_readHigh M_nights M_why M_folds M_square M_want M_text M_read M_row M_foldSet M_foldEdges M_foldNeeds M_foldYards M_least M_ways M_price M_rowBy M_columnBy M_rowOf M_wayBack M_slack M_isUsed M_lifted M_freed M_path) [(0, .ref a_M), (1, .int p1), (2, .int p2), (3, .int p3), (4, .int x4), (5, .int x5)] 20 []) (hB28 : ∀ (M_least : Nat → Int32) (M_ways : Nat → Int32) (x6 : Int32), B28 M_least M_ways x6 → J x 0 0 9 (W_Model cyI cyJ cyZ a_M a_M_square a_M_want a_M_text a_M_read a_M_row a_M_foldSet a_M_foldEdges a_M_foldNeeds a_M_foldYards a_M_least a_M_ways a_M_price a_M_rowBy a_M_columnBy a_M_rowOf a_M_wayBack a_M_slack a_M_isUsed a_M_lifted a_M_freed a_M_path M_wide M_high M_hedges M_hurdles M_wants M_rest M_frozen M_bytes M_position M_tokenAt M_token M_digits M_number M_faultAt M_readMany M_readWide M_readHigh M_nights M_why M_folds M_square M_want M_text M_read M_row M_foldSet M_foldEdges M_foldNeeds M_foldYards M_least M_ways M_price M_rowBy M_columnBy M_rowOf M_wayBack M_slack M_isUsed M_lifted M_freed M_path) [(0, .ref a_M), (1, .int p1), (2, .int p2), (3, .int p3), (4, .int x4), (5, .int x5), (6, .int x6)] 28 []) (h : bk_X11_layCourses_126 Q B20 B28 p1 p2 p3 x5 x6 x7 M_wide M_high M_folds M_foldSet M_foldEdges M_foldNeeds M_foldYards M_least M_ways s0 s1) :
    J x 0 0 9 (W_Model cyI cyJ cyZ a_M a_M_square a_M_want a_M_text a_M_read a_M_row a_M_foldSet a_M_foldEdges a_M_foldNeeds a_M_foldYards a_M_least a_M_ways a_M_price a_M_rowBy a_M_columnBy a_M_rowOf a_M_wayBack a_M_slack a_M_isUsed a_M_lifted a_M_freed a_M_path M_wide M_high M_hedges M_hurdles M_wants M_rest M_frozen M_bytes M_position M_tokenAt M_token M_digits M_number M_faultAt M_readMany M_readWide M_readHigh M_nights M_why M_folds M_square M_want M_text M_read M_row M_foldSet M_foldEdges M_foldNeeds M_foldYards M_least M_ways M_price M_rowBy M_columnBy M_rowOf M_wayBack M_slack M_isUsed M_lifted M_freed M_path) [(0, .ref a_M), (1, .int p1), (2, .int p2), (3, .int p3), (4, .int x4), (5, .int x5), (6, .int x6), (7, .int x7)] 126 [.int s0, .int s1, .ref a_M_ways] := by
  unfold bk_X11_layCourses_126 at h
  have hin := h.1
  obtain ⟨f16, ef16⟩ : ∃ z, z = upd M_ways s1.toNatClampNeg s0 := ⟨_, rfl⟩
  have h := h.2 f16 ef16
  refine j_iast cx 11 0 rfl rfl hin (W_Model cyI cyJ cyZ a_M a_M_square a_M_want a_M_text a_M_read a_M_row a_M_foldSet a_M_foldEdges a_M_foldNeeds a_M_foldYards a_M_least a_M_ways a_M_price a_M_rowBy a_M_columnBy a_M_rowOf a_M_wayBack a_M_slack a_M_isUsed a_M_lifted a_M_freed a_M_path M_wide M_high M_hedges M_hurdles M_wants M_rest M_frozen M_bytes M_position M_tokenAt M_token M_digits M_number M_faultAt M_readMany M_readWide M_readHigh M_nights M_why M_folds M_square M_want M_text M_read M_row M_foldSet M_foldEdges M_foldNeeds M_foldYards M_least f16 M_price M_rowBy M_columnBy M_rowOf M_wayBack M_slack M_isUsed M_lifted M_freed M_path) (by subst ef16; rfl) dX11_layCourses_126 (pn := 127) rfl ?_
  refine j_aload_n cx 0 rfl rfl dX11_layCourses_127 (pn := 128) rfl ?_
  refine j_get cx inGX11 0 rfl rfl 28 (by decide) q_fl_X11_45 rfl rfl dX11_layCourses_128 (pn := 131) rfl ?_
  refine j_iload cx 6 rfl dX11_layCourses_131 (pn := 133) rfl ?_
  refine j_iald cx 9 0 rfl rfl h.1 dX11_layCourses_133 (pn := 134) rfl ?_
  have h := h.2
  refine j_iload_n cx 1 rfl rfl dX11_layCourses_134 (pn := 135) rfl ?_
  refine j_icmp_lt cx 150 dX11_layCourses_135 (pn := 138) rfl rfl (fun c17 => ?_) (fun c17 => ?_)
  · have h := h.1 c17
    refine j_sub [0, 1, 2, 3, 4, 5, 6] [(0, .ref a_M), (1, .int p1), (2, .int p2), (3, .int p3), (4, .int x4), (5, .int x5), (6, .int x6)] rfl ?_
    exact J_X11_layCourses_150 cx hR hB20 hB28 h
  · have h := h.2 c17
    refine j_aload_n cx 0 rfl rfl dX11_layCourses_138 (pn := 139) rfl ?_
    refine j_iload cx 7 rfl dX11_layCourses_139 (pn := 141) rfl ?_
    refine j_iload cx 5 rfl dX11_layCourses_141 (pn := 143) rfl ?_
    refine j_iload cx 6 rfl dX11_layCourses_143 (pn := 145) rfl ?_
    refine j_iload_n cx 2 rfl rfl dX11_layCourses_145 (pn := 146) rfl ?_
    refine j_iload_n cx 3 rfl rfl dX11_layCourses_146 (pn := 147) rfl ?_
    refine j_callvV0 cx q_inst_X11_goOn q_sel_X11_goOn (b := a_M) (As := [.int x7, .int x5, .int x6, .int p2, .int p3]) (rest := []) (c_X11_goOn h) ⟨q_code_X11_goOn, q_ml_X11_293, q_init_X11, hd_X11_goOn, ⟨Nat.le_of_ble_eq_true rfl, Nat.le_of_ble_eq_true rfl⟩, Nat.le_of_ble_eq_true rfl, Nat.le_of_ble_eq_true rfl⟩ (q0 := 0) rfl rfl rfl rfl (Nat.le_of_ble_eq_true rfl) dX11_layCourses_147 (pn := 150) rfl (fun u18 h => ?_)
    show J x 0 0 9 (W_Model cyI cyJ cyZ a_M a_M_square a_M_want a_M_text a_M_read a_M_row a_M_foldSet a_M_foldEdges a_M_foldNeeds a_M_foldYards a_M_least a_M_ways a_M_price a_M_rowBy a_M_columnBy a_M_rowOf a_M_wayBack a_M_slack a_M_isUsed a_M_lifted a_M_freed a_M_path M_wide M_high M_hedges M_hurdles M_wants M_rest M_frozen M_bytes M_position M_tokenAt M_token M_digits M_number M_faultAt M_readMany M_readWide M_readHigh M_nights M_why M_folds M_square M_want M_text M_read M_row M_foldSet M_foldEdges M_foldNeeds M_foldYards u18.1 u18.2 M_price M_rowBy M_columnBy M_rowOf M_wayBack M_slack M_isUsed M_lifted M_freed M_path) [(0, .ref a_M), (1, .int p1), (2, .int p2), (3, .int p3), (4, .int x4), (5, .int x5), (6, .int x6), (7, .int x7)] 150 []
    refine j_sub [0, 1, 2, 3, 4, 5, 6] [(0, .ref a_M), (1, .int p1), (2, .int p2), (3, .int p3), (4, .int x4), (5, .int x5), (6, .int x6)] rfl ?_
    exact J_X11_layCourses_150 cx hR hB20 hB28 h
set_option maxHeartbeats 4000000 in
set_option maxRecDepth 100000 in
theorem J_X11_layCourses_109 {x : CX} {D : DG} {cyI cyJ cyZ : ClassId} {a_M a_M_square a_M_want a_M_text a_M_read a_M_row a_M_foldSet a_M_foldEdges a_M_foldNeeds a_M_foldYards a_M_least a_M_ways a_M_price a_M_rowBy a_M_columnBy a_M_rowOf a_M_wayBack a_M_slack a_M_isUsed a_M_lifted a_M_freed a_M_path : Nat} {M_wide : Int32} {M_high : Int32} {M_hedges : Int64} {M_hurdles : Int32} {M_wants : Int32} {M_rest : Int32} {M_frozen : Int32} {M_bytes : Int32} {M_position : Int32} {M_tokenAt : Int32} {M_token : Int64} {M_digits : Int32} {M_number : Int32} {M_faultAt : Int32} {M_readMany : Int32} {M_readWide : Int32} {M_readHigh : Int32} {M_nights : Int32} {M_why : Int32} {M_folds : Int32} {M_square : Nat → Int32} {M_want : Nat → Int32} {M_text : Nat → Int32} {M_read : Nat → Int32} {M_row : Nat → Int32} {M_foldSet : Nat → Int32} {M_foldEdges : Nat → Int64} {M_foldNeeds : Nat → Int32} {M_foldYards : Nat → Int32} {M_least : Nat → Int32} {M_ways : Nat → Int32} {M_price : Nat → Int32} {M_rowBy : Nat → Int32} {M_columnBy : Nat → Int32} {M_rowOf : Nat → Int32} {M_wayBack : Nat → Int32} {M_slack : Nat → Int32} {M_isUsed : Nat → Int32} {M_lifted : Nat → Int32} {M_freed : Nat → Int32} {M_path : Nat → Int32} {p1 : Int32} {p2 : Int32} {p3 : Int32} {x4 : Int32} {x5 : Int32} {x6 : Int32} {x7 : Int32} {x8 : Int32} {s0 : Int32} {s1 : Int32} {Q : (Int32 × (Nat → Int32) × (Nat → Int64) × (Nat → Int32) × (Nat → Int32) × (Nat → Int32) × (Nat → Int32)) → Prop} {B20 : (Nat → Int32) → (Nat → Int32) → Int32 → Prop} {B28 : (Nat → Int32) → (Nat → Int32) → Int32 → Prop} (cx : Cx x cX11_layCourses 9 RX11 rm_X11_layCourses D [(cyI, .int), (cyJ, .long), (cyZ, .boolean)]) (hR : ∀ (u : Int32 × (Nat → Int32) × (Nat → Int64) × (Nat → Int32) × (Nat → Int32) × (Nat → Int32) × (Nat → Int32)) (pc : Nat) (lv : List (Nat × Value)), decode cX11_layCourses pc = .ok (.return_, 1) → Q u → J x 0 0 9 (W_Model cyI cyJ cyZ a_M a_M_square a_M_want a_M_text a_M_read a_M_row a_M_foldSet a_M_foldEdges a_M_foldNeeds a_M_foldYards a_M_least a_M_ways a_M_price a_M_rowBy a_M_columnBy a_M_rowOf a_M_wayBack a_M_slack a_M_isUsed a_M_lifted a_M_freed a_M_path M_wide M_high M_hedges M_hurdles M_wants M_rest M_frozen M_bytes M_position M_tokenAt M_token M_digits M_number M_faultAt M_readMany M_readWide M_readHigh M_nights M_why u.1 M_square M_want M_text M_read M_row u.2.1 u.2.2.1 u.2.2.2.1 u.2.2.2.2.1 u.2.2.2.2.2.1 u.2.2.2.2.2.2 M_price M_rowBy M_columnBy M_rowOf M_wayBack M_slack M_isUsed M_lifted M_freed M_path) lv pc []) (hB20 : ∀ (M_least : Nat → Int32) (M_ways : Nat → Int32) (x5 : Int32), B20 M_least M_ways x5 → J x 0 0 9 (W_Model cyI cyJ cyZ a_M a_M_square a_M_want a_M_text a_M_read a_M_row a_M_foldSet a_M_foldEdges a_M_foldNeeds a_M_foldYards a_M_least a_M_ways a_M_price a_M_rowBy a_M_columnBy a_M_rowOf a_M_wayBack a_M_slack a_M_isUsed a_M_lifted a_M_freed a_M_path M_wide M_high M_hedges M_hurdles M_wants M_rest M_frozen M_bytes M_position M_tokenAt M_token M_digits M_number M_faultAt M_readMany M_readWide M_readHigh M_nights M_why M_folds M_square M_want M_text M_read M_row M_foldSet M_foldEdges M_foldNeeds M_foldYards M_least M_ways M_price M_rowBy M_columnBy M_rowOf M_wayBack M_slack M_isUsed M_lifted M_freed M_path) [(0, .ref a_M), (1, .int p1), (2, .int p2), (3, .int p3), (4, .int x4), (5, .int x5)] 20 []) (hB28 : ∀ (M_least : Nat → Int32) (M_ways : Nat → Int32) (x6 : Int32), B28 M_least M_ways x6 → J x 0 0 9 (W_Model cyI cyJ cyZ a_M a_M_square a_M_want a_M_text a_M_read a_M_row a_M_foldSet a_M_foldEdges a_M_foldNeeds a_M_foldYards a_M_least a_M_ways a_M_price a_M_rowBy a_M_columnBy a_M_rowOf a_M_wayBack a_M_slack a_M_isUsed a_M_lifted a_M_freed a_M_path M_wide M_high M_hedges M_hurdles M_wants M_rest M_frozen M_bytes M_position M_tokenAt M_token M_digits M_number M_faultAt M_readMany M_readWide M_readHigh M_nights M_why M_folds M_square M_want M_text M_read M_row M_foldSet M_foldEdges M_foldNeeds M_foldYards M_least M_ways M_price M_rowBy M_columnBy M_rowOf M_wayBack M_slack M_isUsed M_lifted M_freed M_path) [(0, .ref a_M), (1, .int p1), (2, .int p2), (3, .int p3), (4, .int x4), (5, .int x5), (6, .int x6)] 28 []) (h : bk_X11_layCourses_109 Q B20 B28 p1 p2 p3 x5 x6 x7 x8 M_wide M_high M_folds M_foldSet M_foldEdges M_foldNeeds M_foldYards M_least M_ways s0 s1) :
    J x 0 0 9 (W_Model cyI cyJ cyZ a_M a_M_square a_M_want a_M_text a_M_read a_M_row a_M_foldSet a_M_foldEdges a_M_foldNeeds a_M_foldYards a_M_least a_M_ways a_M_price a_M_rowBy a_M_columnBy a_M_rowOf a_M_wayBack a_M_slack a_M_isUsed a_M_lifted a_M_freed a_M_path M_wide M_high M_hedges M_hurdles M_wants M_rest M_frozen M_bytes M_position M_tokenAt M_token M_digits M_number M_faultAt M_readMany M_readWide M_readHigh M_nights M_why M_folds M_square M_want M_text M_read M_row M_foldSet M_foldEdges M_foldNeeds M_foldYards M_least M_ways M_price M_rowBy M_columnBy M_rowOf M_wayBack M_slack M_isUsed M_lifted M_freed M_path) [(0, .ref a_M), (1, .int p1), (2, .int p2), (3, .int p3), (4, .int x4), (5, .int x5), (6, .int x6), (7, .int x7), (8, .int x8)] 109 [.int s0, .int s1, .ref a_M_least] := by
  unfold bk_X11_layCourses_109 at h
  have hin := h.1
  obtain ⟨f14, ef14⟩ : ∃ z, z = upd M_least s1.toNatClampNeg s0 := ⟨_, rfl⟩
  have h := h.2 f14 ef14
  refine j_iast cx 10 0 rfl rfl hin (W_Model cyI cyJ cyZ a_M a_M_square a_M_want a_M_text a_M_read a_M_row a_M_foldSet a_M_foldEdges a_M_foldNeeds a_M_foldYards a_M_least a_M_ways a_M_price a_M_rowBy a_M_columnBy a_M_rowOf a_M_wayBack a_M_slack a_M_isUsed a_M_lifted a_M_freed a_M_path M_wide M_high M_hedges M_hurdles M_wants M_rest M_frozen M_bytes M_position M_tokenAt M_token M_digits M_number M_faultAt M_readMany M_readWide M_readHigh M_nights M_why M_folds M_square M_want M_text M_read M_row M_foldSet M_foldEdges M_foldNeeds M_foldYards f14 M_ways M_price M_rowBy M_columnBy M_rowOf M_wayBack M_slack M_isUsed M_lifted M_freed M_path) (by subst ef14; rfl) dX11_layCourses_109 (pn := 110) rfl ?_
  refine j_aload_n cx 0 rfl rfl dX11_layCourses_110 (pn := 111) rfl ?_
  refine j_get cx inGX11 0 rfl rfl 30 (by decide) q_fl_X11_52 rfl rfl dX11_layCourses_111 (pn := 114) rfl ?_
  refine j_iload cx 7 rfl dX11_layCourses_114 (pn := 116) rfl ?_
  refine j_iload cx 8 rfl dX11_layCourses_116 (pn := 118) rfl ?_
  refine j_if_eq cx 125 dX11_layCourses_118 (pn := 121) rfl rfl (fun c15 => ?_) (fun c15 => ?_)
  · have h := h.1 c15
    refine j_iconst cx (v := 0) (by decide) dX11_layCourses_125 (pn := 126) rfl ?_
    refine j_sub [0, 1, 2, 3, 4, 5, 6, 7] [(0, .ref a_M), (1, .int p1), (2, .int p2), (3, .int p3), (4, .int x4), (5, .int x5), (6, .int x6), (7, .int x7)] rfl ?_
    exact J_X11_layCourses_126 cx hR hB20 hB28 h
  · have h := h.2 c15
    refine j_iconst cx (v := 1) (by decide) dX11_layCourses_121 (pn := 122) rfl ?_
    refine j_goto cx 126 dX11_layCourses_122 rfl ?_
    refine j_sub [0, 1, 2, 3, 4, 5, 6, 7] [(0, .ref a_M), (1, .int p1), (2, .int p2), (3, .int p3), (4, .int x4), (5, .int x5), (6, .int x6), (7, .int x7)] rfl ?_
    exact J_X11_layCourses_126 cx hR hB20 hB28 h
set_option maxHeartbeats 4000000 in
set_option maxRecDepth 100000 in
theorem J_X11_layCourses_89 {x : CX} {D : DG} {cyI cyJ cyZ : ClassId} {a_M a_M_square a_M_want a_M_text a_M_read a_M_row a_M_foldSet a_M_foldEdges a_M_foldNeeds a_M_foldYards a_M_least a_M_ways a_M_price a_M_rowBy a_M_columnBy a_M_rowOf a_M_wayBack a_M_slack a_M_isUsed a_M_lifted a_M_freed a_M_path : Nat} {M_wide : Int32} {M_high : Int32} {M_hedges : Int64} {M_hurdles : Int32} {M_wants : Int32} {M_rest : Int32} {M_frozen : Int32} {M_bytes : Int32} {M_position : Int32} {M_tokenAt : Int32} {M_token : Int64} {M_digits : Int32} {M_number : Int32} {M_faultAt : Int32} {M_readMany : Int32} {M_readWide : Int32} {M_readHigh : Int32} {M_nights : Int32} {M_why : Int32} {M_folds : Int32} {M_square : Nat → Int32} {M_want : Nat → Int32} {M_text : Nat → Int32} {M_read : Nat → Int32} {M_row : Nat → Int32} {M_foldSet : Nat → Int32} {M_foldEdges : Nat → Int64} {M_foldNeeds : Nat → Int32} {M_foldYards : Nat → Int32} {M_least : Nat → Int32} {M_ways : Nat → Int32} {M_price : Nat → Int32} {M_rowBy : Nat → Int32} {M_columnBy : Nat → Int32} {M_rowOf : Nat → Int32} {M_wayBack : Nat → Int32} {M_slack : Nat → Int32} {M_isUsed : Nat → Int32} {M_lifted : Nat → Int32} {M_freed : Nat → Int32} {M_path : Nat → Int32} {p1 : Int32} {p2 : Int32} {p3 : Int32} {x4 : Int32} {x5 : Int32} {x6 : Int32} {x7 : Int32} {s0 : Int32} {Q : (Int32 × (Nat → Int32) × (Nat → Int64) × (Nat → Int32) × (Nat → Int32) × (Nat → Int32) × (Nat → Int32)) → Prop} {B20 : (Nat → Int32) → (Nat → Int32) → Int32 → Prop} {B28 : (Nat → Int32) → (Nat → Int32) → Int32 → Prop} (cx : Cx x cX11_layCourses 9 RX11 rm_X11_layCourses D [(cyI, .int), (cyJ, .long), (cyZ, .boolean)]) (hR : ∀ (u : Int32 × (Nat → Int32) × (Nat → Int64) × (Nat → Int32) × (Nat → Int32) × (Nat → Int32) × (Nat → Int32)) (pc : Nat) (lv : List (Nat × Value)), decode cX11_layCourses pc = .ok (.return_, 1) → Q u → J x 0 0 9 (W_Model cyI cyJ cyZ a_M a_M_square a_M_want a_M_text a_M_read a_M_row a_M_foldSet a_M_foldEdges a_M_foldNeeds a_M_foldYards a_M_least a_M_ways a_M_price a_M_rowBy a_M_columnBy a_M_rowOf a_M_wayBack a_M_slack a_M_isUsed a_M_lifted a_M_freed a_M_path M_wide M_high M_hedges M_hurdles M_wants M_rest M_frozen M_bytes M_position M_tokenAt M_token M_digits M_number M_faultAt M_readMany M_readWide M_readHigh M_nights M_why u.1 M_square M_want M_text M_read M_row u.2.1 u.2.2.1 u.2.2.2.1 u.2.2.2.2.1 u.2.2.2.2.2.1 u.2.2.2.2.2.2 M_price M_rowBy M_columnBy M_rowOf M_wayBack M_slack M_isUsed M_lifted M_freed M_path) lv pc []) (hB20 : ∀ (M_least : Nat → Int32) (M_ways : Nat → Int32) (x5 : Int32), B20 M_least M_ways x5 → J x 0 0 9 (W_Model cyI cyJ cyZ a_M a_M_square a_M_want a_M_text a_M_read a_M_row a_M_foldSet a_M_foldEdges a_M_foldNeeds a_M_foldYards a_M_least a_M_ways a_M_price a_M_rowBy a_M_columnBy a_M_rowOf a_M_wayBack a_M_slack a_M_isUsed a_M_lifted a_M_freed a_M_path M_wide M_high M_hedges M_hurdles M_wants M_rest M_frozen M_bytes M_position M_tokenAt M_token M_digits M_number M_faultAt M_readMany M_readWide M_readHigh M_nights M_why M_folds M_square M_want M_text M_read M_row M_foldSet M_foldEdges M_foldNeeds M_foldYards M_least M_ways M_price M_rowBy M_columnBy M_rowOf M_wayBack M_slack M_isUsed M_lifted M_freed M_path) [(0, .ref a_M), (1, .int p1), (2, .int p2), (3, .int p3), (4, .int x4), (5, .int x5)] 20 []) (hB28 : ∀ (M_least : Nat → Int32) (M_ways : Nat → Int32) (x6 : Int32), B28 M_least M_ways x6 → J x 0 0 9 (W_Model cyI cyJ cyZ a_M a_M_square a_M_want a_M_text a_M_read a_M_row a_M_foldSet a_M_foldEdges a_M_foldNeeds a_M_foldYards a_M_least a_M_ways a_M_price a_M_rowBy a_M_columnBy a_M_rowOf a_M_wayBack a_M_slack a_M_isUsed a_M_lifted a_M_freed a_M_path M_wide M_high M_hedges M_hurdles M_wants M_rest M_frozen M_bytes M_position M_tokenAt M_token M_digits M_number M_faultAt M_readMany M_readWide M_readHigh M_nights M_why M_folds M_square M_want M_text M_read M_row M_foldSet M_foldEdges M_foldNeeds M_foldYards M_least M_ways M_price M_rowBy M_columnBy M_rowOf M_wayBack M_slack M_isUsed M_lifted M_freed M_path) [(0, .ref a_M), (1, .int p1), (2, .int p2), (3, .int p3), (4, .int x4), (5, .int x5), (6, .int x6)] 28 []) (h : bk_X11_layCourses_89 Q B20 B28 p1 p2 p3 x5 x6 x7 M_wide M_high M_folds M_foldSet M_foldEdges M_foldNeeds M_foldYards M_least M_ways s0) :
    J x 0 0 9 (W_Model cyI cyJ cyZ a_M a_M_square a_M_want a_M_text a_M_read a_M_row a_M_foldSet a_M_foldEdges a_M_foldNeeds a_M_foldYards a_M_least a_M_ways a_M_price a_M_rowBy a_M_columnBy a_M_rowOf a_M_wayBack a_M_slack a_M_isUsed a_M_lifted a_M_freed a_M_path M_wide M_high M_hedges M_hurdles M_wants M_rest M_frozen M_bytes M_position M_tokenAt M_token M_digits M_number M_faultAt M_readMany M_readWide M_readHigh M_nights M_why M_folds M_square M_want M_text M_read M_row M_foldSet M_foldEdges M_foldNeeds M_foldYards M_least M_ways M_price M_rowBy M_columnBy M_rowOf M_wayBack M_slack M_isUsed M_lifted M_freed M_path) [(0, .ref a_M), (1, .int p1), (2, .int p2), (3, .int p3), (4, .int x4), (5, .int x5), (6, .int x6), (7, .int x7)] 89 [.int s0] := by
  unfold bk_X11_layCourses_89 at h
  refine j_istore cx [(8, .int s0), (0, .ref a_M), (1, .int p1), (2, .int p2), (3, .int p3), (4, .int x4), (5, .int x5), (6, .int x6), (7, .int x7)] (by decide) rfl dX11_layCourses_89 (pn := 91) rfl ?_
  refine j_aload_n cx 1 rfl rfl dX11_layCourses_91 (pn := 92) rfl ?_
  refine j_get cx inGX11 0 rfl rfl 29 (by decide) q_fl_X11_49 rfl rfl dX11_layCourses_92 (pn := 95) rfl ?_
  refine j_iload cx 8 rfl dX11_layCourses_95 (pn := 97) rfl ?_
  refine j_iload cx 0 rfl dX11_layCourses_97 (pn := 99) rfl ?_
  refine j_if_eq cx 106 dX11_layCourses_99 (pn := 102) rfl rfl (fun c13 => ?_) (fun c13 => ?_)
  · have h := h.1 c13
    refine j_ldcw cx q_c_X11_267 dX11_layCourses_106 (pn := 109) rfl ?_
    refine j_sub [1, 2, 3, 4, 5, 6, 7, 8, 0] [(0, .ref a_M), (1, .int p1), (2, .int p2), (3, .int p3), (4, .int x4), (5, .int x5), (6, .int x6), (7, .int x7), (8, .int s0)] rfl ?_
    exact J_X11_layCourses_109 cx hR hB20 hB28 h
  · have h := h.2 c13
    refine j_iconst cx (v := 0) (by decide) dX11_layCourses_102 (pn := 103) rfl ?_
    refine j_goto cx 109 dX11_layCourses_103 rfl ?_
    refine j_sub [1, 2, 3, 4, 5, 6, 7, 8, 0] [(0, .ref a_M), (1, .int p1), (2, .int p2), (3, .int p3), (4, .int x4), (5, .int x5), (6, .int x6), (7, .int x7), (8, .int s0)] rfl ?_
    exact J_X11_layCourses_109 cx hR hB20 hB28 h
set_option maxHeartbeats 4000000 in
set_option maxRecDepth 100000 in
theorem B_X11_layCourses_28 {x : CX} {D : DG} {cyI cyJ cyZ : ClassId} {a_M a_M_square a_M_want a_M_text a_M_read a_M_row a_M_foldSet a_M_foldEdges a_M_foldNeeds a_M_foldYards a_M_least a_M_ways a_M_price a_M_rowBy a_M_columnBy a_M_rowOf a_M_wayBack a_M_slack a_M_isUsed a_M_lifted a_M_freed a_M_path : Nat} {M_wide : Int32} {M_high : Int32} {M_hedges : Int64} {M_hurdles : Int32} {M_wants : Int32} {M_rest : Int32} {M_frozen : Int32} {M_bytes : Int32} {M_position : Int32} {M_tokenAt : Int32} {M_token : Int64} {M_digits : Int32} {M_number : Int32} {M_faultAt : Int32} {M_readMany : Int32} {M_readWide : Int32} {M_readHigh : Int32} {M_nights : Int32} {M_why : Int32} {M_folds : Int32} {M_square : Nat → Int32} {M_want : Nat → Int32} {M_text : Nat → Int32} {M_read : Nat → Int32} {M_row : Nat → Int32} {M_foldSet : Nat → Int32} {M_foldEdges : Nat → Int64} {M_foldNeeds : Nat → Int32} {M_foldYards : Nat → Int32} {M_least : Nat → Int32} {M_ways : Nat → Int32} {M_price : Nat → Int32} {M_rowBy : Nat → Int32} {M_columnBy : Nat → Int32} {M_rowOf : Nat → Int32} {M_wayBack : Nat → Int32} {M_slack : Nat → Int32} {M_isUsed : Nat → Int32} {M_lifted : Nat → Int32} {M_freed : Nat → Int32} {M_path : Nat → Int32} {p1 : Int32} {p2 : Int32} {p3 : Int32} {x4 : Int32} {x5 : Int32} {x6 : Int32} {Q : (Int32 × (Nat → Int32) × (Nat → Int64) × (Nat → Int32) × (Nat → Int32) × (Nat → Int32) × (Nat → Int32)) → Prop} {B20 : (Nat → Int32) → (Nat → Int32) → Int32 → Prop} {B28 : (Nat → Int32) → (Nat → Int32) → Int32 → Prop} (cx : Cx x cX11_layCourses 9 RX11 rm_X11_layCourses D [(cyI, .int), (cyJ, .long), (cyZ, .boolean)]) (hR : ∀ (u : Int32 × (Nat → Int32) × (Nat → Int64) × (Nat → Int32) × (Nat → Int32) × (Nat → Int32) × (Nat → Int32)) (pc : Nat) (lv : List (Nat × Value)), decode cX11_layCourses pc = .ok (.return_, 1) → Q u → J x 0 0 9 (W_Model cyI cyJ cyZ a_M a_M_square a_M_want a_M_text a_M_read a_M_row a_M_foldSet a_M_foldEdges a_M_foldNeeds a_M_foldYards a_M_least a_M_ways a_M_price a_M_rowBy a_M_columnBy a_M_rowOf a_M_wayBack a_M_slack a_M_isUsed a_M_lifted a_M_freed a_M_path M_wide M_high M_hedges M_hurdles M_wants M_rest M_frozen M_bytes M_position M_tokenAt M_token M_digits M_number M_faultAt M_readMany M_readWide M_readHigh M_nights M_why u.1 M_square M_want M_text M_read M_row u.2.1 u.2.2.1 u.2.2.2.1 u.2.2.2.2.1 u.2.2.2.2.2.1 u.2.2.2.2.2.2 M_price M_rowBy M_columnBy M_rowOf M_wayBack M_slack M_isUsed M_lifted M_freed M_path) lv pc []) (hB20 : ∀ (M_least : Nat → Int32) (M_ways : Nat → Int32) (x5 : Int32), B20 M_least M_ways x5 → J x 0 0 9 (W_Model cyI cyJ cyZ a_M a_M_square a_M_want a_M_text a_M_read a_M_row a_M_foldSet a_M_foldEdges a_M_foldNeeds a_M_foldYards a_M_least a_M_ways a_M_price a_M_rowBy a_M_columnBy a_M_rowOf a_M_wayBack a_M_slack a_M_isUsed a_M_lifted a_M_freed a_M_path M_wide M_high M_hedges M_hurdles M_wants M_rest M_frozen M_bytes M_position M_tokenAt M_token M_digits M_number M_faultAt M_readMany M_readWide M_readHigh M_nights M_why M_folds M_square M_want M_text M_read M_row M_foldSet M_foldEdges M_foldNeeds M_foldYards M_least M_ways M_price M_rowBy M_columnBy M_rowOf M_wayBack M_slack M_isUsed M_lifted M_freed M_path) [(0, .ref a_M), (1, .int p1), (2, .int p2), (3, .int p3), (4, .int x4), (5, .int x5)] 20 []) (hB28 : ∀ (M_least : Nat → Int32) (M_ways : Nat → Int32) (x6 : Int32), B28 M_least M_ways x6 → J x 0 0 9 (W_Model cyI cyJ cyZ a_M a_M_square a_M_want a_M_text a_M_read a_M_row a_M_foldSet a_M_foldEdges a_M_foldNeeds a_M_foldYards a_M_least a_M_ways a_M_price a_M_rowBy a_M_columnBy a_M_rowOf a_M_wayBack a_M_slack a_M_isUsed a_M_lifted a_M_freed a_M_path M_wide M_high M_hedges M_hurdles M_wants M_rest M_frozen M_bytes M_position M_tokenAt M_token M_digits M_number M_faultAt M_readMany M_readWide M_readHigh M_nights M_why M_folds M_square M_want M_text M_read M_row M_foldSet M_foldEdges M_foldNeeds M_foldYards M_least M_ways M_price M_rowBy M_columnBy M_rowOf M_wayBack M_slack M_isUsed M_lifted M_freed M_path) [(0, .ref a_M), (1, .int p1), (2, .int p2), (3, .int p3), (4, .int x4), (5, .int x5), (6, .int x6)] 28 []) (h : bd_X11_layCourses_28 Q B20 B28 p1 p2 p3 x4 x5 M_wide M_high M_folds M_foldSet M_foldEdges M_foldNeeds M_foldYards M_least M_ways x6) :
    J x 0 0 9 (W_Model cyI cyJ cyZ a_M a_M_square a_M_want a_M_text a_M_read a_M_row a_M_foldSet a_M_foldEdges a_M_foldNeeds a_M_foldYards a_M_least a_M_ways a_M_price a_M_rowBy a_M_columnBy a_M_rowOf a_M_wayBack a_M_slack a_M_isUsed a_M_lifted a_M_freed a_M_path M_wide M_high M_hedges M_hurdles M_wants M_rest M_frozen M_bytes M_position M_tokenAt M_token M_digits M_number M_faultAt M_readMany M_readWide M_readHigh M_nights M_why M_folds M_square M_want M_text M_read M_row M_foldSet M_foldEdges M_foldNeeds M_foldYards M_least M_ways M_price M_rowBy M_columnBy M_rowOf M_wayBack M_slack M_isUsed M_lifted M_freed M_path) [(0, .ref a_M), (1, .int p1), (2, .int p2), (3, .int p3), (4, .int x4), (5, .int x5), (6, .int x6)] 28 [] := by
  unfold bd_X11_layCourses_28 at h
  refine j_iload cx 6 rfl dX11_layCourses_28 (pn := 30) rfl ?_
  refine j_aload_n cx 0 rfl rfl dX11_layCourses_30 (pn := 31) rfl ?_
  refine j_get cx inGX11 0 rfl rfl 24 (by decide) q_fl_X11_284 rfl rfl dX11_layCourses_31 (pn := 34) rfl ?_
  refine j_icmp_ge cx 156 dX11_layCourses_34 (pn := 37) rfl rfl (fun c6 => ?_) (fun c6 => ?_)
  · have h := h.1 c6
    obtain ⟨y7, ey7⟩ : ∃ z : Int32, z = x5 + (-1) := ⟨_, rfl⟩
    have h := h y7 ey7
    refine j_iinc cx 5 rfl (cst := (-1)) (by decide) ey7 [(5, .int y7), (0, .ref a_M), (1, .int p1), (2, .int p2), (3, .int p3), (4, .int x4), (6, .int x6)] (by decide) rfl dX11_layCourses_156 (pn := 159) rfl ?_
    refine j_goto cx 20 dX11_layCourses_159 rfl ?_
    refine j_sub [1, 2, 3, 4, 5, 0] [(0, .ref a_M), (1, .int p1), (2, .int p2), (3, .int p3), (4, .int x4), (5, .int y7)] rfl ?_
    exact hB20 _ _ _ h
  · have h := h.2 c6
    refine j_aload_n cx 0 rfl rfl dX11_layCourses_37 (pn := 38) rfl ?_
    refine j_get cx inGX11 0 rfl rfl 25 (by decide) q_fl_X11_35 rfl rfl dX11_layCourses_38 (pn := 41) rfl ?_
    refine j_iload cx 6 rfl dX11_layCourses_41 (pn := 43) rfl ?_
    refine j_iald cx 6 0 rfl rfl h.1 dX11_layCourses_43 (pn := 44) rfl ?_
    have h := h.2
    refine j_iload cx 5 rfl dX11_layCourses_44 (pn := 46) rfl ?_
    refine j_iconst cx (v := (-1)) (by decide) dX11_layCourses_46 (pn := 47) rfl ?_
    refine j_ixor cx dX11_layCourses_47 (pn := 48) rfl ?_
    refine j_iand cx dX11_layCourses_48 (pn := 49) rfl ?_
    refine j_if_ne cx 150 dX11_layCourses_49 (pn := 52) rfl rfl (fun c8 => ?_) (fun c8 => ?_)
    · have h := h.1 c8
      exact J_X11_layCourses_150 cx hR hB20 hB28 h
    · have h := h.2 c8
      refine j_aload_n cx 0 rfl rfl dX11_layCourses_52 (pn := 53) rfl ?_
      refine j_get cx inGX11 0 rfl rfl 27 (by decide) q_fl_X11_42 rfl rfl dX11_layCourses_53 (pn := 56) rfl ?_
      refine j_iload cx 6 rfl dX11_layCourses_56 (pn := 58) rfl ?_
      refine j_iald cx 8 0 rfl rfl h.1 dX11_layCourses_58 (pn := 59) rfl ?_
      have h := h.2
      refine j_iload_n cx 2 rfl rfl dX11_layCourses_59 (pn := 60) rfl ?_
      refine j_icmp_gt cx 150 dX11_layCourses_60 (pn := 63) rfl rfl (fun c10 => ?_) (fun c10 => ?_)
      · have h := h.1 c10
        exact J_X11_layCourses_150 cx hR hB20 hB28 h
      · have h := h.2 c10
        refine j_sipush cx (v := 280) (by decide) dX11_layCourses_63 (pn := 66) rfl ?_
        refine j_iload cx 5 rfl dX11_layCourses_66 (pn := 68) rfl ?_
        refine j_imul cx dX11_layCourses_68 (pn := 69) rfl ?_
        refine j_iload cx 6 rfl dX11_layCourses_69 (pn := 71) rfl ?_
        refine j_iadd cx dX11_layCourses_71 (pn := 72) rfl ?_
        refine j_topi (fun y11 ey11 => ?_)
        have h := h y11 ey11
        refine j_istore cx [(7, .int y11), (0, .ref a_M), (1, .int p1), (2, .int p2), (3, .int p3), (4, .int x4), (5, .int x5), (6, .int x6)] (by decide) rfl dX11_layCourses_72 (pn := 74) rfl ?_
        refine j_iload cx 5 rfl dX11_layCourses_74 (pn := 76) rfl ?_
        refine j_iload cx 6 rfl dX11_layCourses_76 (pn := 78) rfl ?_
        refine j_iconst cx (v := (-1)) (by decide) dX11_layCourses_78 (pn := 79) rfl ?_
        refine j_ixor cx dX11_layCourses_79 (pn := 80) rfl ?_
        refine j_iand cx dX11_layCourses_80 (pn := 81) rfl ?_
        refine j_if_ne cx 88 dX11_layCourses_81 (pn := 84) rfl rfl (fun c12 => ?_) (fun c12 => ?_)
        · have h := h.1 c12
          refine j_iconst cx (v := 0) (by decide) dX11_layCourses_88 (pn := 89) rfl ?_
          refine j_sub [1, 2, 3, 4, 5, 6, 7, 0] [(0, .ref a_M), (1, .int p1), (2, .int p2), (3, .int p3), (4, .int x4), (5, .int x5), (6, .int x6), (7, .int y11)] rfl ?_
          exact J_X11_layCourses_89 cx hR hB20 hB28 h
        · have h := h.2 c12
          refine j_iconst cx (v := 1) (by decide) dX11_layCourses_84 (pn := 85) rfl ?_
          refine j_goto cx 89 dX11_layCourses_85 rfl ?_
          refine j_sub [1, 2, 3, 4, 5, 6, 7, 0] [(0, .ref a_M), (1, .int p1), (2, .int p2), (3, .int p3), (4, .int x4), (5, .int x5), (6, .int x6), (7, .int y11)] rfl ?_
          exact J_X11_layCourses_89 cx hR hB20 hB28 h
set_option maxHeartbeats 4000000 in
set_option maxRecDepth 100000 in
theorem J_X11_layCourses_28 {x : CX} {D : DG} {cyI cyJ cyZ : ClassId} {a_M a_M_square a_M_want a_M_text a_M_read a_M_row a_M_foldSet a_M_foldEdges a_M_foldNeeds a_M_foldYards a_M_least a_M_ways a_M_price a_M_rowBy a_M_columnBy a_M_rowOf a_M_wayBack a_M_slack a_M_isUsed a_M_lifted a_M_freed a_M_path : Nat} {M_wide : Int32} {M_high : Int32} {M_hedges : Int64} {M_hurdles : Int32} {M_wants : Int32} {M_rest : Int32} {M_frozen : Int32} {M_bytes : Int32} {M_position : Int32} {M_tokenAt : Int32} {M_token : Int64} {M_digits : Int32} {M_number : Int32} {M_faultAt : Int32} {M_readMany : Int32} {M_readWide : Int32} {M_readHigh : Int32} {M_nights : Int32} {M_why : Int32} {M_folds : Int32} {M_square : Nat → Int32} {M_want : Nat → Int32} {M_text : Nat → Int32} {M_read : Nat → Int32} {M_row : Nat → Int32} {M_foldSet : Nat → Int32} {M_foldEdges : Nat → Int64} {M_foldNeeds : Nat → Int32} {M_foldYards : Nat → Int32} {M_least : Nat → Int32} {M_ways : Nat → Int32} {M_price : Nat → Int32} {M_rowBy : Nat → Int32} {M_columnBy : Nat → Int32} {M_rowOf : Nat → Int32} {M_wayBack : Nat → Int32} {M_slack : Nat → Int32} {M_isUsed : Nat → Int32} {M_lifted : Nat → Int32} {M_freed : Nat → Int32} {M_path : Nat → Int32} {p1 : Int32} {p2 : Int32} {p3 : Int32} {x4 : Int32} {x5 : Int32} {x6 : Int32} {Q : (Int32 × (Nat → Int32) × (Nat → Int64) × (Nat → Int32) × (Nat → Int32) × (Nat → Int32) × (Nat → Int32)) → Prop} {B20 : (Nat → Int32) → (Nat → Int32) → Int32 → Prop} (cx : Cx x cX11_layCourses 9 RX11 rm_X11_layCourses D [(cyI, .int), (cyJ, .long), (cyZ, .boolean)]) (hR : ∀ (u : Int32 × (Nat → Int32) × (Nat → Int64) × (Nat → Int32) × (Nat → Int32) × (Nat → Int32) × (Nat → Int32)) (pc : Nat) (lv : List (Nat × Value)), decode cX11_layCourses pc = .ok (.return_, 1) → Q u → J x 0 0 9 (W_Model cyI cyJ cyZ a_M a_M_square a_M_want a_M_text a_M_read a_M_row a_M_foldSet a_M_foldEdges a_M_foldNeeds a_M_foldYards a_M_least a_M_ways a_M_price a_M_rowBy a_M_columnBy a_M_rowOf a_M_wayBack a_M_slack a_M_isUsed a_M_lifted a_M_freed a_M_path M_wide M_high M_hedges M_hurdles M_wants M_rest M_frozen M_bytes M_position M_tokenAt M_token M_digits M_number M_faultAt M_readMany M_readWide M_readHigh M_nights M_why u.1 M_square M_want M_text M_read M_row u.2.1 u.2.2.1 u.2.2.2.1 u.2.2.2.2.1 u.2.2.2.2.2.1 u.2.2.2.2.2.2 M_price M_rowBy M_columnBy M_rowOf M_wayBack M_slack M_isUsed M_lifted M_freed M_path) lv pc []) (hB20 : ∀ (M_least : Nat → Int32) (M_ways : Nat → Int32) (x5 : Int32), B20 M_least M_ways x5 → J x 0 0 9 (W_Model cyI cyJ cyZ a_M a_M_square a_M_want a_M_text a_M_read a_M_row a_M_foldSet a_M_foldEdges a_M_foldNeeds a_M_foldYards a_M_least a_M_ways a_M_price a_M_rowBy a_M_columnBy a_M_rowOf a_M_wayBack a_M_slack a_M_isUsed a_M_lifted a_M_freed a_M_path M_wide M_high M_hedges M_hurdles M_wants M_rest M_frozen M_bytes M_position M_tokenAt M_token M_digits M_number M_faultAt M_readMany M_readWide M_readHigh M_nights M_why M_folds M_square M_want M_text M_read M_row M_foldSet M_foldEdges M_foldNeeds M_foldYards M_least M_ways M_price M_rowBy M_columnBy M_rowOf M_wayBack M_slack M_isUsed M_lifted M_freed M_path) [(0, .ref a_M), (1, .int p1), (2, .int p2), (3, .int p3), (4, .int x4), (5, .int x5)] 20 []) (h : lp_X11_layCourses_28 Q B20 p1 p2 p3 x4 x5 M_wide M_high M_folds M_foldSet M_foldEdges M_foldNeeds M_foldYards M_least M_ways x6) :
    J x 0 0 9 (W_Model cyI cyJ cyZ a_M a_M_square a_M_want a_M_text a_M_read a_M_row a_M_foldSet a_M_foldEdges a_M_foldNeeds a_M_foldYards a_M_least a_M_ways a_M_price a_M_rowBy a_M_columnBy a_M_rowOf a_M_wayBack a_M_slack a_M_isUsed a_M_lifted a_M_freed a_M_path M_wide M_high M_hedges M_hurdles M_wants M_rest M_frozen M_bytes M_position M_tokenAt M_token M_digits M_number M_faultAt M_readMany M_readWide M_readHigh M_nights M_why M_folds M_square M_want M_text M_read M_row M_foldSet M_foldEdges M_foldNeeds M_foldYards M_least M_ways M_price M_rowBy M_columnBy M_rowOf M_wayBack M_slack M_isUsed M_lifted M_freed M_path) [(0, .ref a_M), (1, .int p1), (2, .int p2), (3, .int p3), (4, .int x4), (5, .int x5), (6, .int x6)] 28 [] := by
  obtain ⟨I, ⟨n, h0⟩, hb⟩ := h
  revert M_least M_ways x6
  induction n using Nat.strongRecOn with
  | _ n ih =>
    intro M_least M_ways x6 h0
    exact B_X11_layCourses_28 cx hR hB20 (fun _ _ _ hz => by obtain ⟨n2, hlt, hI⟩ := hz; exact ih n2 hlt hI) (hb n M_least M_ways x6 h0)
set_option maxHeartbeats 4000000 in
set_option maxRecDepth 100000 in
theorem B_X11_layCourses_20 {x : CX} {D : DG} {cyI cyJ cyZ : ClassId} {a_M a_M_square a_M_want a_M_text a_M_read a_M_row a_M_foldSet a_M_foldEdges a_M_foldNeeds a_M_foldYards a_M_least a_M_ways a_M_price a_M_rowBy a_M_columnBy a_M_rowOf a_M_wayBack a_M_slack a_M_isUsed a_M_lifted a_M_freed a_M_path : Nat} {M_wide : Int32} {M_high : Int32} {M_hedges : Int64} {M_hurdles : Int32} {M_wants : Int32} {M_rest : Int32} {M_frozen : Int32} {M_bytes : Int32} {M_position : Int32} {M_tokenAt : Int32} {M_token : Int64} {M_digits : Int32} {M_number : Int32} {M_faultAt : Int32} {M_readMany : Int32} {M_readWide : Int32} {M_readHigh : Int32} {M_nights : Int32} {M_why : Int32} {M_folds : Int32} {M_square : Nat → Int32} {M_want : Nat → Int32} {M_text : Nat → Int32} {M_read : Nat → Int32} {M_row : Nat → Int32} {M_foldSet : Nat → Int32} {M_foldEdges : Nat → Int64} {M_foldNeeds : Nat → Int32} {M_foldYards : Nat → Int32} {M_least : Nat → Int32} {M_ways : Nat → Int32} {M_price : Nat → Int32} {M_rowBy : Nat → Int32} {M_columnBy : Nat → Int32} {M_rowOf : Nat → Int32} {M_wayBack : Nat → Int32} {M_slack : Nat → Int32} {M_isUsed : Nat → Int32} {M_lifted : Nat → Int32} {M_freed : Nat → Int32} {M_path : Nat → Int32} {p1 : Int32} {p2 : Int32} {p3 : Int32} {x4 : Int32} {x5 : Int32} {Q : (Int32 × (Nat → Int32) × (Nat → Int64) × (Nat → Int32) × (Nat → Int32) × (Nat → Int32) × (Nat → Int32)) → Prop} {B20 : (Nat → Int32) → (Nat → Int32) → Int32 → Prop} (cx : Cx x cX11_layCourses 9 RX11 rm_X11_layCourses D [(cyI, .int), (cyJ, .long), (cyZ, .boolean)]) (hR : ∀ (u : Int32 × (Nat → Int32) × (Nat → Int64) × (Nat → Int32) × (Nat → Int32) × (Nat → Int32) × (Nat → Int32)) (pc : Nat) (lv : List (Nat × Value)), decode cX11_layCourses pc = .ok (.return_, 1) → Q u → J x 0 0 9 (W_Model cyI cyJ cyZ a_M a_M_square a_M_want a_M_text a_M_read a_M_row a_M_foldSet a_M_foldEdges a_M_foldNeeds a_M_foldYards a_M_least a_M_ways a_M_price a_M_rowBy a_M_columnBy a_M_rowOf a_M_wayBack a_M_slack a_M_isUsed a_M_lifted a_M_freed a_M_path M_wide M_high M_hedges M_hurdles M_wants M_rest M_frozen M_bytes M_position M_tokenAt M_token M_digits M_number M_faultAt M_readMany M_readWide M_readHigh M_nights M_why u.1 M_square M_want M_text M_read M_row u.2.1 u.2.2.1 u.2.2.2.1 u.2.2.2.2.1 u.2.2.2.2.2.1 u.2.2.2.2.2.2 M_price M_rowBy M_columnBy M_rowOf M_wayBack M_slack M_isUsed M_lifted M_freed M_path) lv pc []) (hB20 : ∀ (M_least : Nat → Int32) (M_ways : Nat → Int32) (x5 : Int32), B20 M_least M_ways x5 → J x 0 0 9 (W_Model cyI cyJ cyZ a_M a_M_square a_M_want a_M_text a_M_read a_M_row a_M_foldSet a_M_foldEdges a_M_foldNeeds a_M_foldYards a_M_least a_M_ways a_M_price a_M_rowBy a_M_columnBy a_M_rowOf a_M_wayBack a_M_slack a_M_isUsed a_M_lifted a_M_freed a_M_path M_wide M_high M_hedges M_hurdles M_wants M_rest M_frozen M_bytes M_position M_tokenAt M_token M_digits M_number M_faultAt M_readMany M_readWide M_readHigh M_nights M_why M_folds M_square M_want M_text M_read M_row M_foldSet M_foldEdges M_foldNeeds M_foldYards M_least M_ways M_price M_rowBy M_columnBy M_rowOf M_wayBack M_slack M_isUsed M_lifted M_freed M_path) [(0, .ref a_M), (1, .int p1), (2, .int p2), (3, .int p3), (4, .int x4), (5, .int x5)] 20 []) (h : bd_X11_layCourses_20 Q B20 p1 p2 p3 x4 M_wide M_high M_folds M_foldSet M_foldEdges M_foldNeeds M_foldYards M_least M_ways x5) :
    J x 0 0 9 (W_Model cyI cyJ cyZ a_M a_M_square a_M_want a_M_text a_M_read a_M_row a_M_foldSet a_M_foldEdges a_M_foldNeeds a_M_foldYards a_M_least a_M_ways a_M_price a_M_rowBy a_M_columnBy a_M_rowOf a_M_wayBack a_M_slack a_M_isUsed a_M_lifted a_M_freed a_M_path M_wide M_high M_hedges M_hurdles M_wants M_rest M_frozen M_bytes M_position M_tokenAt M_token M_digits M_number M_faultAt M_readMany M_readWide M_readHigh M_nights M_why M_folds M_square M_want M_text M_read M_row M_foldSet M_foldEdges M_foldNeeds M_foldYards M_least M_ways M_price M_rowBy M_columnBy M_rowOf M_wayBack M_slack M_isUsed M_lifted M_freed M_path) [(0, .ref a_M), (1, .int p1), (2, .int p2), (3, .int p3), (4, .int x4), (5, .int x5)] 20 [] := by
  unfold bd_X11_layCourses_20 at h
  refine j_iload cx 5 rfl dX11_layCourses_20 (pn := 22) rfl ?_
  refine j_if_le cx 162 dX11_layCourses_22 (pn := 25) rfl rfl (fun c5 => ?_) (fun c5 => ?_)
  · have h := h.1 c5
    exact hR (M_folds, M_foldSet, M_foldEdges, M_foldNeeds, M_foldYards, M_least, M_ways) 162 _ dX11_layCourses_162 h
  · have h := h.2 c5
    refine j_iconst cx (v := 0) (by decide) dX11_layCourses_25 (pn := 26) rfl ?_
    refine j_istore cx [(6, .int 0), (0, .ref a_M), (1, .int p1), (2, .int p2), (3, .int p3), (4, .int x4), (5, .int x5)] (by decide) rfl dX11_layCourses_26 (pn := 28) rfl ?_
    refine j_sub [1, 2, 3, 4, 5, 6, 0] [(0, .ref a_M), (1, .int p1), (2, .int p2), (3, .int p3), (4, .int x4), (5, .int x5), (6, .int 0)] rfl ?_
    exact J_X11_layCourses_28 cx hR hB20 h
set_option maxHeartbeats 4000000 in
set_option maxRecDepth 100000 in
theorem J_X11_layCourses_20 {x : CX} {D : DG} {cyI cyJ cyZ : ClassId} {a_M a_M_square a_M_want a_M_text a_M_read a_M_row a_M_foldSet a_M_foldEdges a_M_foldNeeds a_M_foldYards a_M_least a_M_ways a_M_price a_M_rowBy a_M_columnBy a_M_rowOf a_M_wayBack a_M_slack a_M_isUsed a_M_lifted a_M_freed a_M_path : Nat} {M_wide : Int32} {M_high : Int32} {M_hedges : Int64} {M_hurdles : Int32} {M_wants : Int32} {M_rest : Int32} {M_frozen : Int32} {M_bytes : Int32} {M_position : Int32} {M_tokenAt : Int32} {M_token : Int64} {M_digits : Int32} {M_number : Int32} {M_faultAt : Int32} {M_readMany : Int32} {M_readWide : Int32} {M_readHigh : Int32} {M_nights : Int32} {M_why : Int32} {M_folds : Int32} {M_square : Nat → Int32} {M_want : Nat → Int32} {M_text : Nat → Int32} {M_read : Nat → Int32} {M_row : Nat → Int32} {M_foldSet : Nat → Int32} {M_foldEdges : Nat → Int64} {M_foldNeeds : Nat → Int32} {M_foldYards : Nat → Int32} {M_least : Nat → Int32} {M_ways : Nat → Int32} {M_price : Nat → Int32} {M_rowBy : Nat → Int32} {M_columnBy : Nat → Int32} {M_rowOf : Nat → Int32} {M_wayBack : Nat → Int32} {M_slack : Nat → Int32} {M_isUsed : Nat → Int32} {M_lifted : Nat → Int32} {M_freed : Nat → Int32} {M_path : Nat → Int32} {p1 : Int32} {p2 : Int32} {p3 : Int32} {x4 : Int32} {x5 : Int32} {Q : (Int32 × (Nat → Int32) × (Nat → Int64) × (Nat → Int32) × (Nat → Int32) × (Nat → Int32) × (Nat → Int32)) → Prop} (cx : Cx x cX11_layCourses 9 RX11 rm_X11_layCourses D [(cyI, .int), (cyJ, .long), (cyZ, .boolean)]) (hR : ∀ (u : Int32 × (Nat → Int32) × (Nat → Int64) × (Nat → Int32) × (Nat → Int32) × (Nat → Int32) × (Nat → Int32)) (pc : Nat) (lv : List (Nat × Value)), decode cX11_layCourses pc = .ok (.return_, 1) → Q u → J x 0 0 9 (W_Model cyI cyJ cyZ a_M a_M_square a_M_want a_M_text a_M_read a_M_row a_M_foldSet a_M_foldEdges a_M_foldNeeds a_M_foldYards a_M_least a_M_ways a_M_price a_M_rowBy a_M_columnBy a_M_rowOf a_M_wayBack a_M_slack a_M_isUsed a_M_lifted a_M_freed a_M_path M_wide M_high M_hedges M_hurdles M_wants M_rest M_frozen M_bytes M_position M_tokenAt M_token M_digits M_number M_faultAt M_readMany M_readWide M_readHigh M_nights M_why u.1 M_square M_want M_text M_read M_row u.2.1 u.2.2.1 u.2.2.2.1 u.2.2.2.2.1 u.2.2.2.2.2.1 u.2.2.2.2.2.2 M_price M_rowBy M_columnBy M_rowOf M_wayBack M_slack M_isUsed M_lifted M_freed M_path) lv pc []) (h : lp_X11_layCourses_20 Q  p1 p2 p3 x4 M_wide M_high M_folds M_foldSet M_foldEdges M_foldNeeds M_foldYards M_least M_ways x5) :
    J x 0 0 9 (W_Model cyI cyJ cyZ a_M a_M_square a_M_want a_M_text a_M_read a_M_row a_M_foldSet a_M_foldEdges a_M_foldNeeds a_M_foldYards a_M_least a_M_ways a_M_price a_M_rowBy a_M_columnBy a_M_rowOf a_M_wayBack a_M_slack a_M_isUsed a_M_lifted a_M_freed a_M_path M_wide M_high M_hedges M_hurdles M_wants M_rest M_frozen M_bytes M_position M_tokenAt M_token M_digits M_number M_faultAt M_readMany M_readWide M_readHigh M_nights M_why M_folds M_square M_want M_text M_read M_row M_foldSet M_foldEdges M_foldNeeds M_foldYards M_least M_ways M_price M_rowBy M_columnBy M_rowOf M_wayBack M_slack M_isUsed M_lifted M_freed M_path) [(0, .ref a_M), (1, .int p1), (2, .int p2), (3, .int p3), (4, .int x4), (5, .int x5)] 20 [] := by
  obtain ⟨I, ⟨n, h0⟩, hb⟩ := h
  revert M_least M_ways x5
  induction n using Nat.strongRecOn with
  | _ n ih =>
    intro M_least M_ways x5 h0
    exact B_X11_layCourses_20 cx hR (fun _ _ _ hz => by obtain ⟨n2, hlt, hI⟩ := hz; exact ih n2 hlt hI) (hb n M_least M_ways x5 h0)
set_option maxHeartbeats 4000000 in
set_option maxRecDepth 100000 in
theorem c_X11_layCourses {D : DG} {cyI cyJ cyZ : ClassId} {a_M a_M_square a_M_want a_M_text a_M_read a_M_row a_M_foldSet a_M_foldEdges a_M_foldNeeds a_M_foldYards a_M_least a_M_ways a_M_price a_M_rowBy a_M_columnBy a_M_rowOf a_M_wayBack a_M_slack a_M_isUsed a_M_lifted a_M_freed a_M_path : Nat} {M_wide : Int32} {M_high : Int32} {M_hedges : Int64} {M_hurdles : Int32} {M_wants : Int32} {M_rest : Int32} {M_frozen : Int32} {M_bytes : Int32} {M_position : Int32} {M_tokenAt : Int32} {M_token : Int64} {M_digits : Int32} {M_number : Int32} {M_faultAt : Int32} {M_readMany : Int32} {M_readWide : Int32} {M_readHigh : Int32} {M_nights : Int32} {M_why : Int32} {M_folds : Int32} {M_square : Nat → Int32} {M_want : Nat → Int32} {M_text : Nat → Int32} {M_read : Nat → Int32} {M_row : Nat → Int32} {M_foldSet : Nat → Int32} {M_foldEdges : Nat → Int64} {M_foldNeeds : Nat → Int32} {M_foldYards : Nat → Int32} {M_least : Nat → Int32} {M_ways : Nat → Int32} {M_price : Nat → Int32} {M_rowBy : Nat → Int32} {M_columnBy : Nat → Int32} {M_rowOf : Nat → Int32} {M_wayBack : Nat → Int32} {M_slack : Nat → Int32} {M_isUsed : Nat → Int32} {M_lifted : Nat → Int32} {M_freed : Nat → Int32} {M_path : Nat → Int32} {p1 : Int32} {p2 : Int32} {p3 : Int32} {Q : (Int32 × (Nat → Int32) × (Nat → Int64) × (Nat → Int32) × (Nat → Int32) × (Nat → Int32) × (Nat → Int32)) → Prop} (h : wp_X11_layCourses p1 p2 p3 M_wide M_high M_hedges M_square M_foldSet M_foldEdges M_foldNeeds M_foldYards M_least M_ways Q) :
    MetV yX11_layCourses cX11_layCourses 9 (none) rm_X11_layCourses D [(cyI, .int), (cyJ, .long), (cyZ, .boolean)] [.ref a_M, .int p1, .int p2, .int p3] (W_Model cyI cyJ cyZ a_M a_M_square a_M_want a_M_text a_M_read a_M_row a_M_foldSet a_M_foldEdges a_M_foldNeeds a_M_foldYards a_M_least a_M_ways a_M_price a_M_rowBy a_M_columnBy a_M_rowOf a_M_wayBack a_M_slack a_M_isUsed a_M_lifted a_M_freed a_M_path M_wide M_high M_hedges M_hurdles M_wants M_rest M_frozen M_bytes M_position M_tokenAt M_token M_digits M_number M_faultAt M_readMany M_readWide M_readHigh M_nights M_why M_folds M_square M_want M_text M_read M_row M_foldSet M_foldEdges M_foldNeeds M_foldYards M_least M_ways M_price M_rowBy M_columnBy M_rowOf M_wayBack M_slack M_isUsed M_lifted M_freed M_path) (fun u : Int32 × (Nat → Int32) × (Nat → Int64) × (Nat → Int32) × (Nat → Int32) × (Nat → Int32) × (Nat → Int32) => (W_Model cyI cyJ cyZ a_M a_M_square a_M_want a_M_text a_M_read a_M_row a_M_foldSet a_M_foldEdges a_M_foldNeeds a_M_foldYards a_M_least a_M_ways a_M_price a_M_rowBy a_M_columnBy a_M_rowOf a_M_wayBack a_M_slack a_M_isUsed a_M_lifted a_M_freed a_M_path M_wide M_high M_hedges M_hurdles M_wants M_rest M_frozen M_bytes M_position M_tokenAt M_token M_digits M_number M_faultAt M_readMany M_readWide M_readHigh M_nights M_why u.1 M_square M_want M_text M_read M_row u.2.1 u.2.2.1 u.2.2.2.1 u.2.2.2.2.1 u.2.2.2.2.2.1 u.2.2.2.2.2.2 M_price M_rowBy M_columnBy M_rowOf M_wayBack M_slack M_isUsed M_lifted M_freed M_path)) (fun u => Q u) := by
  unfold wp_X11_layCourses at h
  refine metV_of (by decide) (Nat.le_of_ble_eq_true rfl) (fun x cx0 hR0 => ?_)
  have cx : Cx x cX11_layCourses 9 RX11 rm_X11_layCourses D [(cyI, .int), (cyJ, .long), (cyZ, .boolean)] := cx0
  have hR : ∀ (u : Int32 × (Nat → Int32) × (Nat → Int64) × (Nat → Int32) × (Nat → Int32) × (Nat → Int32) × (Nat → Int32)) (pc : Nat) (lv : List (Nat × Value)), decode cX11_layCourses pc = .ok (.return_, 1) → Q u → J x 0 0 9 (W_Model cyI cyJ cyZ a_M a_M_square a_M_want a_M_text a_M_read a_M_row a_M_foldSet a_M_foldEdges a_M_foldNeeds a_M_foldYards a_M_least a_M_ways a_M_price a_M_rowBy a_M_columnBy a_M_rowOf a_M_wayBack a_M_slack a_M_isUsed a_M_lifted a_M_freed a_M_path M_wide M_high M_hedges M_hurdles M_wants M_rest M_frozen M_bytes M_position M_tokenAt M_token M_digits M_number M_faultAt M_readMany M_readWide M_readHigh M_nights M_why u.1 M_square M_want M_text M_read M_row u.2.1 u.2.2.1 u.2.2.2.1 u.2.2.2.2.1 u.2.2.2.2.2.1 u.2.2.2.2.2.2 M_price M_rowBy M_columnBy M_rowOf M_wayBack M_slack M_isUsed M_lifted M_freed M_path) lv pc [] := (fun u pc lv d hq => hR0 u pc lv d hq)
  show J x 0 0 9 (W_Model cyI cyJ cyZ a_M a_M_square a_M_want a_M_text a_M_read a_M_row a_M_foldSet a_M_foldEdges a_M_foldNeeds a_M_foldYards a_M_least a_M_ways a_M_price a_M_rowBy a_M_columnBy a_M_rowOf a_M_wayBack a_M_slack a_M_isUsed a_M_lifted a_M_freed a_M_path M_wide M_high M_hedges M_hurdles M_wants M_rest M_frozen M_bytes M_position M_tokenAt M_token M_digits M_number M_faultAt M_readMany M_readWide M_readHigh M_nights M_why M_folds M_square M_want M_text M_read M_row M_foldSet M_foldEdges M_foldNeeds M_foldYards M_least M_ways M_price M_rowBy M_columnBy M_rowOf M_wayBack M_slack M_isUsed M_lifted M_freed M_path) [(0, .ref a_M), (1, .int p1), (2, .int p2), (3, .int p3)] 0 []
  refine j_aload_n cx 0 rfl rfl dX11_layCourses_0 (pn := 1) rfl ?_
  refine j_callvV0 cx q_inst_X11_findFolds q_sel_X11_findFolds (b := a_M) (As := []) (rest := []) (c_X11_findFolds h) ⟨q_code_X11_findFolds, q_ml_X11_287, q_init_X11, hd_X11_findFolds, ⟨Nat.le_of_ble_eq_true rfl, Nat.le_of_ble_eq_true rfl⟩, Nat.le_of_ble_eq_true rfl, Nat.le_of_ble_eq_true rfl⟩ (q0 := 0) rfl rfl rfl rfl (Nat.le_of_ble_eq_true rfl) dX11_layCourses_1 (pn := 4) rfl (fun u1 h => ?_)
  show J x 0 0 9 (W_Model cyI cyJ cyZ a_M a_M_square a_M_want a_M_text a_M_read a_M_row a_M_foldSet a_M_foldEdges a_M_foldNeeds a_M_foldYards a_M_least a_M_ways a_M_price a_M_rowBy a_M_columnBy a_M_rowOf a_M_wayBack a_M_slack a_M_isUsed a_M_lifted a_M_freed a_M_path M_wide M_high M_hedges M_hurdles M_wants M_rest M_frozen M_bytes M_position M_tokenAt M_token M_digits M_number M_faultAt M_readMany M_readWide M_readHigh M_nights M_why u1.1 M_square M_want M_text M_read M_row u1.2.1 u1.2.2.1 u1.2.2.2.1 u1.2.2.2.2 M_least M_ways M_price M_rowBy M_columnBy M_rowOf M_wayBack M_slack M_isUsed M_lifted M_freed M_path) [(0, .ref a_M), (1, .int p1), (2, .int p2), (3, .int p3)] 4 []
  refine j_aload_n cx 0 rfl rfl dX11_layCourses_4 (pn := 5) rfl ?_
  refine j_callvI0 cx q_inst_X11_rich q_sel_X11_rich (b := a_M) (As := []) (rest := []) (c_X11_rich h) ⟨q_code_X11_rich, q_ml_X11_290, q_init_X11, hd_X11_rich, ⟨Nat.le_of_ble_eq_true rfl, Nat.le_of_ble_eq_true rfl⟩, Nat.le_of_ble_eq_true rfl, Nat.le_of_ble_eq_true rfl⟩ (q0 := 0) rfl rfl rfl rfl (Nat.le_of_ble_eq_true rfl) dX11_layCourses_5 (pn := 8) rfl (fun r2 _ h => ?_)
  show J x 0 0 9 (W_Model cyI cyJ cyZ a_M a_M_square a_M_want a_M_text a_M_read a_M_row a_M_foldSet a_M_foldEdges a_M_foldNeeds a_M_foldYards a_M_least a_M_ways a_M_price a_M_rowBy a_M_columnBy a_M_rowOf a_M_wayBack a_M_slack a_M_isUsed a_M_lifted a_M_freed a_M_path M_wide M_high M_hedges M_hurdles M_wants M_rest M_frozen M_bytes M_position M_tokenAt M_token M_digits M_number M_faultAt M_readMany M_readWide M_readHigh M_nights M_why u1.1 M_square M_want M_text M_read M_row u1.2.1 u1.2.2.1 u1.2.2.2.1 u1.2.2.2.2 M_least M_ways M_price M_rowBy M_columnBy M_rowOf M_wayBack M_slack M_isUsed M_lifted M_freed M_path) [(0, .ref a_M), (1, .int p1), (2, .int p2), (3, .int p3)] 8 [.int r2]
  refine j_istore cx [(4, .int r2), (0, .ref a_M), (1, .int p1), (2, .int p2), (3, .int p3)] (by decide) rfl dX11_layCourses_8 (pn := 10) rfl ?_
  refine j_iconst cx (v := 1) (by decide) dX11_layCourses_10 (pn := 11) rfl ?_
  refine j_aload_n cx 1 rfl rfl dX11_layCourses_11 (pn := 12) rfl ?_
  refine j_callvI0 cx q_inst_X11_squares q_sel_X11_squares (b := a_M) (As := []) (rest := [.int 1]) (c_X11_squares h) ⟨q_code_X11_squares, q_ml_X11_86, q_init_X11, hd_X11_squares, ⟨Nat.le_of_ble_eq_true rfl, Nat.le_of_ble_eq_true rfl⟩, Nat.le_of_ble_eq_true rfl, Nat.le_of_ble_eq_true rfl⟩ (q0 := 0) rfl rfl rfl rfl (Nat.le_of_ble_eq_true rfl) dX11_layCourses_12 (pn := 15) rfl (fun r3 _ h => ?_)
  show J x 0 0 9 (W_Model cyI cyJ cyZ a_M a_M_square a_M_want a_M_text a_M_read a_M_row a_M_foldSet a_M_foldEdges a_M_foldNeeds a_M_foldYards a_M_least a_M_ways a_M_price a_M_rowBy a_M_columnBy a_M_rowOf a_M_wayBack a_M_slack a_M_isUsed a_M_lifted a_M_freed a_M_path M_wide M_high M_hedges M_hurdles M_wants M_rest M_frozen M_bytes M_position M_tokenAt M_token M_digits M_number M_faultAt M_readMany M_readWide M_readHigh M_nights M_why u1.1 M_square M_want M_text M_read M_row u1.2.1 u1.2.2.1 u1.2.2.2.1 u1.2.2.2.2 M_least M_ways M_price M_rowBy M_columnBy M_rowOf M_wayBack M_slack M_isUsed M_lifted M_freed M_path) [(4, .int r2), (0, .ref a_M), (1, .int p1), (2, .int p2), (3, .int p3)] 15 [.int r3, .int 1]
  refine j_ishl cx dX11_layCourses_15 (pn := 16) rfl ?_
  refine j_iconst cx (v := 1) (by decide) dX11_layCourses_16 (pn := 17) rfl ?_
  refine j_isub cx dX11_layCourses_17 (pn := 18) rfl ?_
  refine j_topi (fun y4 ey4 => ?_)
  have h := h y4 ey4
  refine j_istore cx [(5, .int y4), (4, .int r2), (0, .ref a_M), (1, .int p1), (2, .int p2), (3, .int p3)] (by decide) rfl dX11_layCourses_18 (pn := 20) rfl ?_
  refine j_sub [2, 3, 4, 5, 1, 0] [(0, .ref a_M), (1, .int p1), (2, .int p2), (3, .int p3), (4, .int r2), (5, .int y4)] rfl ?_
  exact J_X11_layCourses_20 cx hR h
theorem dX11_fewestOf_0 : decode cX11_fewestOf 0 = .ok (.aload_n 0, 1) := by decide +kernel
theorem dX11_fewestOf_1 : decode cX11_fewestOf 1 = .ok (.iload_n 1, 1) := by decide +kernel
theorem dX11_fewestOf_2 : decode cX11_fewestOf 2 = .ok (.bipush 60, 2) := by decide +kernel
theorem dX11_fewestOf_4 : decode cX11_fewestOf 4 = .ok (.iconst 0, 1) := by decide +kernel
theorem dX11_fewestOf_5 : decode cX11_fewestOf 5 = .ok (.invokevirtual 299, 3) := by decide +kernel
theorem dX11_fewestOf_8 : decode cX11_fewestOf 8 = .ok (.ldc_w 267, 3) := by decide +kernel
theorem dX11_fewestOf_11 : decode cX11_fewestOf 11 = .ok (.istore_n 2, 1) := by decide +kernel
theorem dX11_fewestOf_12 : decode cX11_fewestOf 12 = .ok (.iconst 0, 1) := by decide +kernel
theorem dX11_fewestOf_13 : decode cX11_fewestOf 13 = .ok (.istore_n 3, 1) := by decide +kernel
theorem dX11_fewestOf_14 : decode cX11_fewestOf 14 = .ok (.iload_n 3, 1) := by decide +kernel
theorem dX11_fewestOf_15 : decode cX11_fewestOf 15 = .ok (.aload_n 0, 1) := by decide +kernel
theorem dX11_fewestOf_16 : decode cX11_fewestOf 16 = .ok (.getfield 284, 3) := by decide +kernel
theorem dX11_fewestOf_19 : decode cX11_fewestOf 19 = .ok (.if_icmp .ge 65, 3) := by decide +kernel
theorem dX11_fewestOf_22 : decode cX11_fewestOf 22 = .ok (.aload_n 0, 1) := by decide +kernel
theorem dX11_fewestOf_23 : decode cX11_fewestOf 23 = .ok (.getfield 49, 3) := by decide +kernel
theorem dX11_fewestOf_26 : decode cX11_fewestOf 26 = .ok (.sipush 280, 3) := by decide +kernel
theorem dX11_fewestOf_29 : decode cX11_fewestOf 29 = .ok (.aload_n 0, 1) := by decide +kernel
theorem dX11_fewestOf_30 : decode cX11_fewestOf 30 = .ok (.getfield 35, 3) := by decide +kernel
theorem dX11_fewestOf_33 : decode cX11_fewestOf 33 = .ok (.iload_n 3, 1) := by decide +kernel
theorem dX11_fewestOf_34 : decode cX11_fewestOf 34 = .ok (.iaload, 1) := by decide +kernel
theorem dX11_fewestOf_35 : decode cX11_fewestOf 35 = .ok (.imul, 1) := by decide +kernel
theorem dX11_fewestOf_36 : decode cX11_fewestOf 36 = .ok (.iload_n 3, 1) := by decide +kernel
theorem dX11_fewestOf_37 : decode cX11_fewestOf 37 = .ok (.iadd, 1) := by decide +kernel
theorem dX11_fewestOf_38 : decode cX11_fewestOf 38 = .ok (.iaload, 1) := by decide +kernel
theorem dX11_fewestOf_39 : decode cX11_fewestOf 39 = .ok (.istore 4, 2) := by decide +kernel
theorem dX11_fewestOf_41 : decode cX11_fewestOf 41 = .ok (.aload_n 0, 1) := by decide +kernel
theorem dX11_fewestOf_42 : decode cX11_fewestOf 42 = .ok (.getfield 42, 3) := by decide +kernel
theorem dX11_fewestOf_45 : decode cX11_fewestOf 45 = .ok (.iload_n 3, 1) := by decide +kernel
theorem dX11_fewestOf_46 : decode cX11_fewestOf 46 = .ok (.iaload, 1) := by decide +kernel
theorem dX11_fewestOf_47 : decode cX11_fewestOf 47 = .ok (.iload 4, 2) := by decide +kernel
theorem dX11_fewestOf_49 : decode cX11_fewestOf 49 = .ok (.if_icmp .le 12, 3) := by decide +kernel
theorem dX11_fewestOf_52 : decode cX11_fewestOf 52 = .ok (.aload_n 0, 1) := by decide +kernel
theorem dX11_fewestOf_53 : decode cX11_fewestOf 53 = .ok (.getfield 42, 3) := by decide +kernel
theorem dX11_fewestOf_56 : decode cX11_fewestOf 56 = .ok (.iload_n 3, 1) := by decide +kernel
theorem dX11_fewestOf_57 : decode cX11_fewestOf 57 = .ok (.iaload, 1) := by decide +kernel
theorem dX11_fewestOf_58 : decode cX11_fewestOf 58 = .ok (.goto 5, 3) := by decide +kernel
theorem dX11_fewestOf_61 : decode cX11_fewestOf 61 = .ok (.iload 4, 2) := by decide +kernel
theorem dX11_fewestOf_63 : decode cX11_fewestOf 63 = .ok (.istore 4, 2) := by decide +kernel
theorem dX11_fewestOf_65 : decode cX11_fewestOf 65 = .ok (.iload 4, 2) := by decide +kernel
theorem dX11_fewestOf_67 : decode cX11_fewestOf 67 = .ok (.iload_n 2, 1) := by decide +kernel
theorem dX11_fewestOf_68 : decode cX11_fewestOf 68 = .ok (.if_icmp .ge 8, 3) := by decide +kernel
theorem dX11_fewestOf_71 : decode cX11_fewestOf 71 = .ok (.iload 4, 2) := by decide +kernel
theorem dX11_fewestOf_73 : decode cX11_fewestOf 73 = .ok (.goto 4, 3) := by decide +kernel
theorem dX11_fewestOf_76 : decode cX11_fewestOf 76 = .ok (.iload_n 2, 1) := by decide +kernel
theorem dX11_fewestOf_77 : decode cX11_fewestOf 77 = .ok (.istore_n 2, 1) := by decide +kernel
theorem dX11_fewestOf_78 : decode cX11_fewestOf 78 = .ok (.iinc 3 1, 3) := by decide +kernel
theorem dX11_fewestOf_81 : decode cX11_fewestOf 81 = .ok (.goto (-67), 3) := by decide +kernel
theorem dX11_fewestOf_84 : decode cX11_fewestOf 84 = .ok (.iload_n 2, 1) := by decide +kernel
theorem dX11_fewestOf_85 : decode cX11_fewestOf 85 = .ok (.ldc_w 267, 3) := by decide +kernel
theorem dX11_fewestOf_88 : decode cX11_fewestOf 88 = .ok (.if_icmp .ne 7, 3) := by decide +kernel
theorem dX11_fewestOf_91 : decode cX11_fewestOf 91 = .ok (.iconst (-1), 1) := by decide +kernel
theorem dX11_fewestOf_92 : decode cX11_fewestOf 92 = .ok (.goto 4, 3) := by decide +kernel
theorem dX11_fewestOf_95 : decode cX11_fewestOf 95 = .ok (.iload_n 2, 1) := by decide +kernel
theorem dX11_fewestOf_96 : decode cX11_fewestOf 96 = .ok (.ireturn, 1) := by decide +kernel
abbrev rm_X11_fewestOf : Room := { frames := 6, cells := 0, slots := 0, locals := 143 }
theorem hd_X11_fewestOf : yX11_fewestOf.cls ≠ "java/lang/invoke/MethodHandle" ∧ yX11_fewestOf.cls ≠ "java/lang/invoke/VarHandle" ∧ (parseMethodDescriptor yX11_fewestOf.desc).map (fun d => d.parameters.length) = some 1 := by decide +kernel
def bk_X11_fewestOf_77 (Q : Int32 → (Int32 × (Nat → Int32) × (Nat → Int64) × (Nat → Int32) × (Nat → Int32) × (Nat → Int32) × (Nat → Int32)) → Prop) (B14 : Int32 → Int32 → Prop) (x3 : Int32) (s0 : Int32) : Prop :=
∀ y7 : Int32, y7 = (x3 + 1) →
B14 s0 y7
def bk_X11_fewestOf_63 (Q : Int32 → (Int32 × (Nat → Int32) × (Nat → Int64) × (Nat → Int32) × (Nat → Int32) × (Nat → Int32) × (Nat → Int32)) → Prop) (B14 : Int32 → Int32 → Prop) (x2 : Int32) (x3 : Int32) (s0 : Int32) : Prop :=
((x2 ≤ s0 → bk_X11_fewestOf_77 Q B14 x3 x2) ∧
(¬ x2 ≤ s0 → bk_X11_fewestOf_77 Q B14 x3 s0))
def bd_X11_fewestOf_14 (Q : Int32 → (Int32 × (Nat → Int32) × (Nat → Int64) × (Nat → Int32) × (Nat → Int32) × (Nat → Int32) × (Nat → Int32)) → Prop) (B14 : Int32 → Int32 → Prop) (M_folds : Int32) (M_foldSet : Nat → Int32) (M_foldEdges : Nat → Int64) (M_foldNeeds : Nat → Int32) (M_foldYards : Nat → Int32) (M_least : Nat → Int32) (M_ways : Nat → Int32) (x2 : Int32) (x3 : Int32) : Prop :=
((M_folds ≤ x3 → ((¬ x2 = 100000 → Q x2 (M_folds, M_foldSet, M_foldEdges, M_foldNeeds, M_foldYards, M_least, M_ways)) ∧
(x2 = 100000 → Q (-1) (M_folds, M_foldSet, M_foldEdges, M_foldNeeds, M_foldYards, M_least, M_ways)))) ∧
(¬ M_folds ≤ x3 → vp_in x3 280 ∧ vp_in ((280 * (M_foldSet x3.toNatClampNeg)) + x3) 286720 ∧ (∀ y4 : Int32, y4 = (M_least ((280 * (M_foldSet x3.toNatClampNeg)) + x3).toNatClampNeg) →
vp_in x3 280 ∧ (((M_foldNeeds x3.toNatClampNeg) ≤ y4 → bk_X11_fewestOf_63 Q B14 x2 x3 y4) ∧
(¬ (M_foldNeeds x3.toNatClampNeg) ≤ y4 → vp_in x3 280 ∧ bk_X11_fewestOf_63 Q B14 x2 x3 (M_foldNeeds x3.toNatClampNeg))))))
def lp_X11_fewestOf_14 (Q : Int32 → (Int32 × (Nat → Int32) × (Nat → Int64) × (Nat → Int32) × (Nat → Int32) × (Nat → Int32) × (Nat → Int32)) → Prop) (M_folds : Int32) (M_foldSet : Nat → Int32) (M_foldEdges : Nat → Int64) (M_foldNeeds : Nat → Int32) (M_foldYards : Nat → Int32) (M_least : Nat → Int32) (M_ways : Nat → Int32) (x2 : Int32) (x3 : Int32) : Prop :=
∃ I : Nat → Int32 → Int32 → Prop, (∃ n, I n x2 x3) ∧ ∀ n x2 x3, I n x2 x3 → bd_X11_fewestOf_14 Q  (fun x2' x3' => ∃ n', n' < n ∧ I n' x2' x3') M_folds M_foldSet M_foldEdges M_foldNeeds M_foldYards M_least M_ways x2 x3
def wp_X11_fewestOf (p1 : Int32) (M_wide : Int32) (M_high : Int32) (M_hedges : Int64) (M_square : Nat → Int32) (M_foldSet : Nat → Int32) (M_foldEdges : Nat → Int64) (M_foldNeeds : Nat → Int32) (M_foldYards : Nat → Int32) (M_least : Nat → Int32) (M_ways : Nat → Int32) (Q : Int32 → (Int32 × (Nat → Int32) × (Nat → Int64) × (Nat → Int32) × (Nat → Int32) × (Nat → Int32) × (Nat → Int32)) → Prop) : Prop :=
wp_X11_layCourses p1 60 0 M_wide M_high M_hedges M_square M_foldSet M_foldEdges M_foldNeeds M_foldYards M_least M_ways (fun (u1 : Int32 × (Nat → Int32) × (Nat → Int64) × (Nat → Int32) × (Nat → Int32) × (Nat → Int32) × (Nat → Int32)) => lp_X11_fewestOf_14 Q u1.1 u1.2.1 u1.2.2.1 u1.2.2.2.1 u1.2.2.2.2.1 u1.2.2.2.2.2.1 u1.2.2.2.2.2.2 100000 0)
set_option maxHeartbeats 4000000 in
set_option maxRecDepth 100000 in
theorem J_X11_fewestOf_77 {x : CX} {D : DG} {cyI cyJ cyZ : ClassId} {a_M a_M_square a_M_want a_M_text a_M_read a_M_row a_M_foldSet a_M_foldEdges a_M_foldNeeds a_M_foldYards a_M_least a_M_ways a_M_price a_M_rowBy a_M_columnBy a_M_rowOf a_M_wayBack a_M_slack a_M_isUsed a_M_lifted a_M_freed a_M_path : Nat} {M_wide : Int32} {M_high : Int32} {M_hedges : Int64} {M_hurdles : Int32} {M_wants : Int32} {M_rest : Int32} {M_frozen : Int32} {M_bytes : Int32} {M_position : Int32} {M_tokenAt : Int32} {M_token : Int64} {M_digits : Int32} {M_number : Int32} {M_faultAt : Int32} {M_readMany : Int32} {M_readWide : Int32} {M_readHigh : Int32} {M_nights : Int32} {M_why : Int32} {M_folds : Int32} {M_square : Nat → Int32} {M_want : Nat → Int32} {M_text : Nat → Int32} {M_read : Nat → Int32} {M_row : Nat → Int32} {M_foldSet : Nat → Int32} {M_foldEdges : Nat → Int64} {M_foldNeeds : Nat → Int32} {M_foldYards : Nat → Int32} {M_least : Nat → Int32} {M_ways : Nat → Int32} {M_price : Nat → Int32} {M_rowBy : Nat → Int32} {M_columnBy : Nat → Int32} {M_rowOf : Nat → Int32} {M_wayBack : Nat → Int32} {M_slack : Nat → Int32} {M_isUsed : Nat → Int32} {M_lifted : Nat → Int32} {M_freed : Nat → Int32} {M_path : Nat → Int32} {x3 : Int32} {s0 : Int32} {Q : Int32 → (Int32 × (Nat → Int32) × (Nat → Int64) × (Nat → Int32) × (Nat → Int32) × (Nat → Int32) × (Nat → Int32)) → Prop} {B14 : Int32 → Int32 → Prop} (cx : Cx x cX11_fewestOf 5 RX11 rm_X11_fewestOf D [(cyI, .int), (cyJ, .long), (cyZ, .boolean)]) (hR : ∀ (v : Int32) (u : Int32 × (Nat → Int32) × (Nat → Int64) × (Nat → Int32) × (Nat → Int32) × (Nat → Int32) × (Nat → Int32)) (pc : Nat) (lv : List (Nat × Value)), decode cX11_fewestOf pc = .ok (.ireturn, 1) → Q v u → J x 0 0 5 (W_Model cyI cyJ cyZ a_M a_M_square a_M_want a_M_text a_M_read a_M_row a_M_foldSet a_M_foldEdges a_M_foldNeeds a_M_foldYards a_M_least a_M_ways a_M_price a_M_rowBy a_M_columnBy a_M_rowOf a_M_wayBack a_M_slack a_M_isUsed a_M_lifted a_M_freed a_M_path M_wide M_high M_hedges M_hurdles M_wants M_rest M_frozen M_bytes M_position M_tokenAt M_token M_digits M_number M_faultAt M_readMany M_readWide M_readHigh M_nights M_why u.1 M_square M_want M_text M_read M_row u.2.1 u.2.2.1 u.2.2.2.1 u.2.2.2.2.1 u.2.2.2.2.2.1 u.2.2.2.2.2.2 M_price M_rowBy M_columnBy M_rowOf M_wayBack M_slack M_isUsed M_lifted M_freed M_path) lv pc [.int v]) (hB14 : ∀ (x2 : Int32) (x3 : Int32), B14 x2 x3 → J x 0 0 5 (W_Model cyI cyJ cyZ a_M a_M_square a_M_want a_M_text a_M_read a_M_row a_M_foldSet a_M_foldEdges a_M_foldNeeds a_M_foldYards a_M_least a_M_ways a_M_price a_M_rowBy a_M_columnBy a_M_rowOf a_M_wayBack a_M_slack a_M_isUsed a_M_lifted a_M_freed a_M_path M_wide M_high M_hedges M_hurdles M_wants M_rest M_frozen M_bytes M_position M_tokenAt M_token M_digits M_number M_faultAt M_readMany M_readWide M_readHigh M_nights M_why M_folds M_square M_want M_text M_read M_row M_foldSet M_foldEdges M_foldNeeds M_foldYards M_least M_ways M_price M_rowBy M_columnBy M_rowOf M_wayBack M_slack M_isUsed M_lifted M_freed M_path) [(0, .ref a_M), (2, .int x2), (3, .int x3)] 14 []) (h : bk_X11_fewestOf_77 Q B14 x3 s0) :
    J x 0 0 5 (W_Model cyI cyJ cyZ a_M a_M_square a_M_want a_M_text a_M_read a_M_row a_M_foldSet a_M_foldEdges a_M_foldNeeds a_M_foldYards a_M_least a_M_ways a_M_price a_M_rowBy a_M_columnBy a_M_rowOf a_M_wayBack a_M_slack a_M_isUsed a_M_lifted a_M_freed a_M_path M_wide M_high M_hedges M_hurdles M_wants M_rest M_frozen M_bytes M_position M_tokenAt M_token M_digits M_number M_faultAt M_readMany M_readWide M_readHigh M_nights M_why M_folds M_square M_want M_text M_read M_row M_foldSet M_foldEdges M_foldNeeds M_foldYards M_least M_ways M_price M_rowBy M_columnBy M_rowOf M_wayBack M_slack M_isUsed M_lifted M_freed M_path) [(0, .ref a_M), (3, .int x3)] 77 [.int s0] := by
  unfold bk_X11_fewestOf_77 at h
  refine j_istore_n cx rfl [(2, .int s0), (0, .ref a_M), (3, .int x3)] (by decide) rfl dX11_fewestOf_77 (pn := 78) rfl ?_
  obtain ⟨y7, ey7⟩ : ∃ z : Int32, z = x3 + 1 := ⟨_, rfl⟩
  have h := h y7 ey7
  refine j_iinc cx 2 rfl (cst := 1) (by decide) ey7 [(3, .int y7), (2, .int s0), (0, .ref a_M)] (by decide) rfl dX11_fewestOf_78 (pn := 81) rfl ?_
  refine j_goto cx 14 dX11_fewestOf_81 rfl ?_
  refine j_sub [2, 1, 0] [(0, .ref a_M), (2, .int s0), (3, .int y7)] rfl ?_
  exact hB14 _ _ h
set_option maxHeartbeats 4000000 in
set_option maxRecDepth 100000 in
theorem J_X11_fewestOf_63 {x : CX} {D : DG} {cyI cyJ cyZ : ClassId} {a_M a_M_square a_M_want a_M_text a_M_read a_M_row a_M_foldSet a_M_foldEdges a_M_foldNeeds a_M_foldYards a_M_least a_M_ways a_M_price a_M_rowBy a_M_columnBy a_M_rowOf a_M_wayBack a_M_slack a_M_isUsed a_M_lifted a_M_freed a_M_path : Nat} {M_wide : Int32} {M_high : Int32} {M_hedges : Int64} {M_hurdles : Int32} {M_wants : Int32} {M_rest : Int32} {M_frozen : Int32} {M_bytes : Int32} {M_position : Int32} {M_tokenAt : Int32} {M_token : Int64} {M_digits : Int32} {M_number : Int32} {M_faultAt : Int32} {M_readMany : Int32} {M_readWide : Int32} {M_readHigh : Int32} {M_nights : Int32} {M_why : Int32} {M_folds : Int32} {M_square : Nat → Int32} {M_want : Nat → Int32} {M_text : Nat → Int32} {M_read : Nat → Int32} {M_row : Nat → Int32} {M_foldSet : Nat → Int32} {M_foldEdges : Nat → Int64} {M_foldNeeds : Nat → Int32} {M_foldYards : Nat → Int32} {M_least : Nat → Int32} {M_ways : Nat → Int32} {M_price : Nat → Int32} {M_rowBy : Nat → Int32} {M_columnBy : Nat → Int32} {M_rowOf : Nat → Int32} {M_wayBack : Nat → Int32} {M_slack : Nat → Int32} {M_isUsed : Nat → Int32} {M_lifted : Nat → Int32} {M_freed : Nat → Int32} {M_path : Nat → Int32} {x2 : Int32} {x3 : Int32} {s0 : Int32} {Q : Int32 → (Int32 × (Nat → Int32) × (Nat → Int64) × (Nat → Int32) × (Nat → Int32) × (Nat → Int32) × (Nat → Int32)) → Prop} {B14 : Int32 → Int32 → Prop} (cx : Cx x cX11_fewestOf 5 RX11 rm_X11_fewestOf D [(cyI, .int), (cyJ, .long), (cyZ, .boolean)]) (hR : ∀ (v : Int32) (u : Int32 × (Nat → Int32) × (Nat → Int64) × (Nat → Int32) × (Nat → Int32) × (Nat → Int32) × (Nat → Int32)) (pc : Nat) (lv : List (Nat × Value)), decode cX11_fewestOf pc = .ok (.ireturn, 1) → Q v u → J x 0 0 5 (W_Model cyI cyJ cyZ a_M a_M_square a_M_want a_M_text a_M_read a_M_row a_M_foldSet a_M_foldEdges a_M_foldNeeds a_M_foldYards a_M_least a_M_ways a_M_price a_M_rowBy a_M_columnBy a_M_rowOf a_M_wayBack a_M_slack a_M_isUsed a_M_lifted a_M_freed a_M_path M_wide M_high M_hedges M_hurdles M_wants M_rest M_frozen M_bytes M_position M_tokenAt M_token M_digits M_number M_faultAt M_readMany M_readWide M_readHigh M_nights M_why u.1 M_square M_want M_text M_read M_row u.2.1 u.2.2.1 u.2.2.2.1 u.2.2.2.2.1 u.2.2.2.2.2.1 u.2.2.2.2.2.2 M_price M_rowBy M_columnBy M_rowOf M_wayBack M_slack M_isUsed M_lifted M_freed M_path) lv pc [.int v]) (hB14 : ∀ (x2 : Int32) (x3 : Int32), B14 x2 x3 → J x 0 0 5 (W_Model cyI cyJ cyZ a_M a_M_square a_M_want a_M_text a_M_read a_M_row a_M_foldSet a_M_foldEdges a_M_foldNeeds a_M_foldYards a_M_least a_M_ways a_M_price a_M_rowBy a_M_columnBy a_M_rowOf a_M_wayBack a_M_slack a_M_isUsed a_M_lifted a_M_freed a_M_path M_wide M_high M_hedges M_hurdles M_wants M_rest M_frozen M_bytes M_position M_tokenAt M_token M_digits M_number M_faultAt M_readMany M_readWide M_readHigh M_nights M_why M_folds M_square M_want M_text M_read M_row M_foldSet M_foldEdges M_foldNeeds M_foldYards M_least M_ways M_price M_rowBy M_columnBy M_rowOf M_wayBack M_slack M_isUsed M_lifted M_freed M_path) [(0, .ref a_M), (2, .int x2), (3, .int x3)] 14 []) (h : bk_X11_fewestOf_63 Q B14 x2 x3 s0) :
    J x 0 0 5 (W_Model cyI cyJ cyZ a_M a_M_square a_M_want a_M_text a_M_read a_M_row a_M_foldSet a_M_foldEdges a_M_foldNeeds a_M_foldYards a_M_least a_M_ways a_M_price a_M_rowBy a_M_columnBy a_M_rowOf a_M_wayBack a_M_slack a_M_isUsed a_M_lifted a_M_freed a_M_path M_wide M_high M_hedges M_hurdles M_wants M_rest M_frozen M_bytes M_position M_tokenAt M_token M_digits M_number M_faultAt M_readMany M_readWide M_readHigh M_nights M_why M_folds M_square M_want M_text M_read M_row M_foldSet M_foldEdges M_foldNeeds M_foldYards M_least M_ways M_price M_rowBy M_columnBy M_rowOf M_wayBack M_slack M_isUsed M_lifted M_freed M_path) [(0, .ref a_M), (2, .int x2), (3, .int x3)] 63 [.int s0] := by
  unfold bk_X11_fewestOf_63 at h
  refine j_istore cx [(4, .int s0), (0, .ref a_M), (2, .int x2), (3, .int x3)] (by decide) rfl dX11_fewestOf_63 (pn := 65) rfl ?_
  refine j_iload cx 0 rfl dX11_fewestOf_65 (pn := 67) rfl ?_
  refine j_iload_n cx 2 rfl rfl dX11_fewestOf_67 (pn := 68) rfl ?_
  refine j_icmp_ge cx 76 dX11_fewestOf_68 (pn := 71) rfl rfl (fun c6 => ?_) (fun c6 => ?_)
  · have h := h.1 c6
    refine j_iload_n cx 2 rfl rfl dX11_fewestOf_76 (pn := 77) rfl ?_
    refine j_sub [1, 3] [(0, .ref a_M), (3, .int x3)] rfl ?_
    exact J_X11_fewestOf_77 cx hR hB14 h
  · have h := h.2 c6
    refine j_iload cx 0 rfl dX11_fewestOf_71 (pn := 73) rfl ?_
    refine j_goto cx 77 dX11_fewestOf_73 rfl ?_
    refine j_sub [1, 3] [(0, .ref a_M), (3, .int x3)] rfl ?_
    exact J_X11_fewestOf_77 cx hR hB14 h
set_option maxHeartbeats 4000000 in
set_option maxRecDepth 100000 in
theorem B_X11_fewestOf_14 {x : CX} {D : DG} {cyI cyJ cyZ : ClassId} {a_M a_M_square a_M_want a_M_text a_M_read a_M_row a_M_foldSet a_M_foldEdges a_M_foldNeeds a_M_foldYards a_M_least a_M_ways a_M_price a_M_rowBy a_M_columnBy a_M_rowOf a_M_wayBack a_M_slack a_M_isUsed a_M_lifted a_M_freed a_M_path : Nat} {M_wide : Int32} {M_high : Int32} {M_hedges : Int64} {M_hurdles : Int32} {M_wants : Int32} {M_rest : Int32} {M_frozen : Int32} {M_bytes : Int32} {M_position : Int32} {M_tokenAt : Int32} {M_token : Int64} {M_digits : Int32} {M_number : Int32} {M_faultAt : Int32} {M_readMany : Int32} {M_readWide : Int32} {M_readHigh : Int32} {M_nights : Int32} {M_why : Int32} {M_folds : Int32} {M_square : Nat → Int32} {M_want : Nat → Int32} {M_text : Nat → Int32} {M_read : Nat → Int32} {M_row : Nat → Int32} {M_foldSet : Nat → Int32} {M_foldEdges : Nat → Int64} {M_foldNeeds : Nat → Int32} {M_foldYards : Nat → Int32} {M_least : Nat → Int32} {M_ways : Nat → Int32} {M_price : Nat → Int32} {M_rowBy : Nat → Int32} {M_columnBy : Nat → Int32} {M_rowOf : Nat → Int32} {M_wayBack : Nat → Int32} {M_slack : Nat → Int32} {M_isUsed : Nat → Int32} {M_lifted : Nat → Int32} {M_freed : Nat → Int32} {M_path : Nat → Int32} {x2 : Int32} {x3 : Int32} {Q : Int32 → (Int32 × (Nat → Int32) × (Nat → Int64) × (Nat → Int32) × (Nat → Int32) × (Nat → Int32) × (Nat → Int32)) → Prop} {B14 : Int32 → Int32 → Prop} (cx : Cx x cX11_fewestOf 5 RX11 rm_X11_fewestOf D [(cyI, .int), (cyJ, .long), (cyZ, .boolean)]) (hR : ∀ (v : Int32) (u : Int32 × (Nat → Int32) × (Nat → Int64) × (Nat → Int32) × (Nat → Int32) × (Nat → Int32) × (Nat → Int32)) (pc : Nat) (lv : List (Nat × Value)), decode cX11_fewestOf pc = .ok (.ireturn, 1) → Q v u → J x 0 0 5 (W_Model cyI cyJ cyZ a_M a_M_square a_M_want a_M_text a_M_read a_M_row a_M_foldSet a_M_foldEdges a_M_foldNeeds a_M_foldYards a_M_least a_M_ways a_M_price a_M_rowBy a_M_columnBy a_M_rowOf a_M_wayBack a_M_slack a_M_isUsed a_M_lifted a_M_freed a_M_path M_wide M_high M_hedges M_hurdles M_wants M_rest M_frozen M_bytes M_position M_tokenAt M_token M_digits M_number M_faultAt M_readMany M_readWide M_readHigh M_nights M_why u.1 M_square M_want M_text M_read M_row u.2.1 u.2.2.1 u.2.2.2.1 u.2.2.2.2.1 u.2.2.2.2.2.1 u.2.2.2.2.2.2 M_price M_rowBy M_columnBy M_rowOf M_wayBack M_slack M_isUsed M_lifted M_freed M_path) lv pc [.int v]) (hB14 : ∀ (x2 : Int32) (x3 : Int32), B14 x2 x3 → J x 0 0 5 (W_Model cyI cyJ cyZ a_M a_M_square a_M_want a_M_text a_M_read a_M_row a_M_foldSet a_M_foldEdges a_M_foldNeeds a_M_foldYards a_M_least a_M_ways a_M_price a_M_rowBy a_M_columnBy a_M_rowOf a_M_wayBack a_M_slack a_M_isUsed a_M_lifted a_M_freed a_M_path M_wide M_high M_hedges M_hurdles M_wants M_rest M_frozen M_bytes M_position M_tokenAt M_token M_digits M_number M_faultAt M_readMany M_readWide M_readHigh M_nights M_why M_folds M_square M_want M_text M_read M_row M_foldSet M_foldEdges M_foldNeeds M_foldYards M_least M_ways M_price M_rowBy M_columnBy M_rowOf M_wayBack M_slack M_isUsed M_lifted M_freed M_path) [(0, .ref a_M), (2, .int x2), (3, .int x3)] 14 []) (h : bd_X11_fewestOf_14 Q B14 M_folds M_foldSet M_foldEdges M_foldNeeds M_foldYards M_least M_ways x2 x3) :
    J x 0 0 5 (W_Model cyI cyJ cyZ a_M a_M_square a_M_want a_M_text a_M_read a_M_row a_M_foldSet a_M_foldEdges a_M_foldNeeds a_M_foldYards a_M_least a_M_ways a_M_price a_M_rowBy a_M_columnBy a_M_rowOf a_M_wayBack a_M_slack a_M_isUsed a_M_lifted a_M_freed a_M_path M_wide M_high M_hedges M_hurdles M_wants M_rest M_frozen M_bytes M_position M_tokenAt M_token M_digits M_number M_faultAt M_readMany M_readWide M_readHigh M_nights M_why M_folds M_square M_want M_text M_read M_row M_foldSet M_foldEdges M_foldNeeds M_foldYards M_least M_ways M_price M_rowBy M_columnBy M_rowOf M_wayBack M_slack M_isUsed M_lifted M_freed M_path) [(0, .ref a_M), (2, .int x2), (3, .int x3)] 14 [] := by
  unfold bd_X11_fewestOf_14 at h
  refine j_iload_n cx 2 rfl rfl dX11_fewestOf_14 (pn := 15) rfl ?_
  refine j_aload_n cx 0 rfl rfl dX11_fewestOf_15 (pn := 16) rfl ?_
  refine j_get cx inGX11 0 rfl rfl 24 (by decide) q_fl_X11_284 rfl rfl dX11_fewestOf_16 (pn := 19) rfl ?_
  refine j_icmp_ge cx 84 dX11_fewestOf_19 (pn := 22) rfl rfl (fun c2 => ?_) (fun c2 => ?_)
  · have h := h.1 c2
    refine j_iload_n cx 1 rfl rfl dX11_fewestOf_84 (pn := 85) rfl ?_
    refine j_ldcw cx q_c_X11_267 dX11_fewestOf_85 (pn := 88) rfl ?_
    refine j_icmp_ne cx 95 dX11_fewestOf_88 (pn := 91) rfl rfl (fun c3 => ?_) (fun c3 => ?_)
    · have h := h.1 c3
      refine j_iload_n cx 1 rfl rfl dX11_fewestOf_95 (pn := 96) rfl ?_
      exact hR x2 (M_folds, M_foldSet, M_foldEdges, M_foldNeeds, M_foldYards, M_least, M_ways) 96 _ dX11_fewestOf_96 h
    · have h := h.2 c3
      refine j_iconst cx (v := (-1)) (by decide) dX11_fewestOf_91 (pn := 92) rfl ?_
      refine j_goto cx 96 dX11_fewestOf_92 rfl ?_
      exact hR (-1) (M_folds, M_foldSet, M_foldEdges, M_foldNeeds, M_foldYards, M_least, M_ways) 96 _ dX11_fewestOf_96 h
  · have h := h.2 c2
    refine j_aload_n cx 0 rfl rfl dX11_fewestOf_22 (pn := 23) rfl ?_
    refine j_get cx inGX11 0 rfl rfl 29 (by decide) q_fl_X11_49 rfl rfl dX11_fewestOf_23 (pn := 26) rfl ?_
    refine j_sipush cx (v := 280) (by decide) dX11_fewestOf_26 (pn := 29) rfl ?_
    refine j_aload_n cx 0 rfl rfl dX11_fewestOf_29 (pn := 30) rfl ?_
    refine j_get cx inGX11 0 rfl rfl 25 (by decide) q_fl_X11_35 rfl rfl dX11_fewestOf_30 (pn := 33) rfl ?_
    refine j_iload_n cx 2 rfl rfl dX11_fewestOf_33 (pn := 34) rfl ?_
    refine j_iald cx 6 0 rfl rfl h.1 dX11_fewestOf_34 (pn := 35) rfl ?_
    have h := h.2
    refine j_imul cx dX11_fewestOf_35 (pn := 36) rfl ?_
    refine j_iload_n cx 2 rfl rfl dX11_fewestOf_36 (pn := 37) rfl ?_
    refine j_iadd cx dX11_fewestOf_37 (pn := 38) rfl ?_
    refine j_iald cx 10 0 rfl rfl h.1 dX11_fewestOf_38 (pn := 39) rfl ?_
    have h := h.2
    refine j_topi (fun y4 ey4 => ?_)
    have h := h y4 ey4
    refine j_istore cx [(4, .int y4), (0, .ref a_M), (2, .int x2), (3, .int x3)] (by decide) rfl dX11_fewestOf_39 (pn := 41) rfl ?_
    refine j_aload_n cx 1 rfl rfl dX11_fewestOf_41 (pn := 42) rfl ?_
    refine j_get cx inGX11 0 rfl rfl 27 (by decide) q_fl_X11_42 rfl rfl dX11_fewestOf_42 (pn := 45) rfl ?_
    refine j_iload_n cx 3 rfl rfl dX11_fewestOf_45 (pn := 46) rfl ?_
    refine j_iald cx 8 0 rfl rfl h.1 dX11_fewestOf_46 (pn := 47) rfl ?_
    have h := h.2
    refine j_iload cx 0 rfl dX11_fewestOf_47 (pn := 49) rfl ?_
    refine j_icmp_le cx 61 dX11_fewestOf_49 (pn := 52) rfl rfl (fun c5 => ?_) (fun c5 => ?_)
    · have h := h.1 c5
      refine j_iload cx 0 rfl dX11_fewestOf_61 (pn := 63) rfl ?_
      refine j_sub [1, 2, 3] [(0, .ref a_M), (2, .int x2), (3, .int x3)] rfl ?_
      exact J_X11_fewestOf_63 cx hR hB14 h
    · have h := h.2 c5
      refine j_aload_n cx 1 rfl rfl dX11_fewestOf_52 (pn := 53) rfl ?_
      refine j_get cx inGX11 0 rfl rfl 27 (by decide) q_fl_X11_42 rfl rfl dX11_fewestOf_53 (pn := 56) rfl ?_
      refine j_iload_n cx 3 rfl rfl dX11_fewestOf_56 (pn := 57) rfl ?_
      refine j_iald cx 8 0 rfl rfl h.1 dX11_fewestOf_57 (pn := 58) rfl ?_
      have h := h.2
      refine j_goto cx 63 dX11_fewestOf_58 rfl ?_
      refine j_sub [1, 2, 3] [(0, .ref a_M), (2, .int x2), (3, .int x3)] rfl ?_
      exact J_X11_fewestOf_63 cx hR hB14 h
set_option maxHeartbeats 4000000 in
set_option maxRecDepth 100000 in
theorem J_X11_fewestOf_14 {x : CX} {D : DG} {cyI cyJ cyZ : ClassId} {a_M a_M_square a_M_want a_M_text a_M_read a_M_row a_M_foldSet a_M_foldEdges a_M_foldNeeds a_M_foldYards a_M_least a_M_ways a_M_price a_M_rowBy a_M_columnBy a_M_rowOf a_M_wayBack a_M_slack a_M_isUsed a_M_lifted a_M_freed a_M_path : Nat} {M_wide : Int32} {M_high : Int32} {M_hedges : Int64} {M_hurdles : Int32} {M_wants : Int32} {M_rest : Int32} {M_frozen : Int32} {M_bytes : Int32} {M_position : Int32} {M_tokenAt : Int32} {M_token : Int64} {M_digits : Int32} {M_number : Int32} {M_faultAt : Int32} {M_readMany : Int32} {M_readWide : Int32} {M_readHigh : Int32} {M_nights : Int32} {M_why : Int32} {M_folds : Int32} {M_square : Nat → Int32} {M_want : Nat → Int32} {M_text : Nat → Int32} {M_read : Nat → Int32} {M_row : Nat → Int32} {M_foldSet : Nat → Int32} {M_foldEdges : Nat → Int64} {M_foldNeeds : Nat → Int32} {M_foldYards : Nat → Int32} {M_least : Nat → Int32} {M_ways : Nat → Int32} {M_price : Nat → Int32} {M_rowBy : Nat → Int32} {M_columnBy : Nat → Int32} {M_rowOf : Nat → Int32} {M_wayBack : Nat → Int32} {M_slack : Nat → Int32} {M_isUsed : Nat → Int32} {M_lifted : Nat → Int32} {M_freed : Nat → Int32} {M_path : Nat → Int32} {x2 : Int32} {x3 : Int32} {Q : Int32 → (Int32 × (Nat → Int32) × (Nat → Int64) × (Nat → Int32) × (Nat → Int32) × (Nat → Int32) × (Nat → Int32)) → Prop} (cx : Cx x cX11_fewestOf 5 RX11 rm_X11_fewestOf D [(cyI, .int), (cyJ, .long), (cyZ, .boolean)]) (hR : ∀ (v : Int32) (u : Int32 × (Nat → Int32) × (Nat → Int64) × (Nat → Int32) × (Nat → Int32) × (Nat → Int32) × (Nat → Int32)) (pc : Nat) (lv : List (Nat × Value)), decode cX11_fewestOf pc = .ok (.ireturn, 1) → Q v u → J x 0 0 5 (W_Model cyI cyJ cyZ a_M a_M_square a_M_want a_M_text a_M_read a_M_row a_M_foldSet a_M_foldEdges a_M_foldNeeds a_M_foldYards a_M_least a_M_ways a_M_price a_M_rowBy a_M_columnBy a_M_rowOf a_M_wayBack a_M_slack a_M_isUsed a_M_lifted a_M_freed a_M_path M_wide M_high M_hedges M_hurdles M_wants M_rest M_frozen M_bytes M_position M_tokenAt M_token M_digits M_number M_faultAt M_readMany M_readWide M_readHigh M_nights M_why u.1 M_square M_want M_text M_read M_row u.2.1 u.2.2.1 u.2.2.2.1 u.2.2.2.2.1 u.2.2.2.2.2.1 u.2.2.2.2.2.2 M_price M_rowBy M_columnBy M_rowOf M_wayBack M_slack M_isUsed M_lifted M_freed M_path) lv pc [.int v]) (h : lp_X11_fewestOf_14 Q  M_folds M_foldSet M_foldEdges M_foldNeeds M_foldYards M_least M_ways x2 x3) :
    J x 0 0 5 (W_Model cyI cyJ cyZ a_M a_M_square a_M_want a_M_text a_M_read a_M_row a_M_foldSet a_M_foldEdges a_M_foldNeeds a_M_foldYards a_M_least a_M_ways a_M_price a_M_rowBy a_M_columnBy a_M_rowOf a_M_wayBack a_M_slack a_M_isUsed a_M_lifted a_M_freed a_M_path M_wide M_high M_hedges M_hurdles M_wants M_rest M_frozen M_bytes M_position M_tokenAt M_token M_digits M_number M_faultAt M_readMany M_readWide M_readHigh M_nights M_why M_folds M_square M_want M_text M_read M_row M_foldSet M_foldEdges M_foldNeeds M_foldYards M_least M_ways M_price M_rowBy M_columnBy M_rowOf M_wayBack M_slack M_isUsed M_lifted M_freed M_path) [(0, .ref a_M), (2, .int x2), (3, .int x3)] 14 [] := by
  obtain ⟨I, ⟨n, h0⟩, hb⟩ := h
  revert x2 x3
  induction n using Nat.strongRecOn with
  | _ n ih =>
    intro x2 x3 h0
    exact B_X11_fewestOf_14 cx hR (fun _ _ hz => by obtain ⟨n2, hlt, hI⟩ := hz; exact ih n2 hlt hI) (hb n x2 x3 h0)
set_option maxHeartbeats 4000000 in
set_option maxRecDepth 100000 in
theorem c_X11_fewestOf {D : DG} {cyI cyJ cyZ : ClassId} {a_M a_M_square a_M_want a_M_text a_M_read a_M_row a_M_foldSet a_M_foldEdges a_M_foldNeeds a_M_foldYards a_M_least a_M_ways a_M_price a_M_rowBy a_M_columnBy a_M_rowOf a_M_wayBack a_M_slack a_M_isUsed a_M_lifted a_M_freed a_M_path : Nat} {M_wide : Int32} {M_high : Int32} {M_hedges : Int64} {M_hurdles : Int32} {M_wants : Int32} {M_rest : Int32} {M_frozen : Int32} {M_bytes : Int32} {M_position : Int32} {M_tokenAt : Int32} {M_token : Int64} {M_digits : Int32} {M_number : Int32} {M_faultAt : Int32} {M_readMany : Int32} {M_readWide : Int32} {M_readHigh : Int32} {M_nights : Int32} {M_why : Int32} {M_folds : Int32} {M_square : Nat → Int32} {M_want : Nat → Int32} {M_text : Nat → Int32} {M_read : Nat → Int32} {M_row : Nat → Int32} {M_foldSet : Nat → Int32} {M_foldEdges : Nat → Int64} {M_foldNeeds : Nat → Int32} {M_foldYards : Nat → Int32} {M_least : Nat → Int32} {M_ways : Nat → Int32} {M_price : Nat → Int32} {M_rowBy : Nat → Int32} {M_columnBy : Nat → Int32} {M_rowOf : Nat → Int32} {M_wayBack : Nat → Int32} {M_slack : Nat → Int32} {M_isUsed : Nat → Int32} {M_lifted : Nat → Int32} {M_freed : Nat → Int32} {M_path : Nat → Int32} {p1 : Int32} {Q : Int32 → (Int32 × (Nat → Int32) × (Nat → Int64) × (Nat → Int32) × (Nat → Int32) × (Nat → Int32) × (Nat → Int32)) → Prop} (h : wp_X11_fewestOf p1 M_wide M_high M_hedges M_square M_foldSet M_foldEdges M_foldNeeds M_foldYards M_least M_ways Q) :
    MetI yX11_fewestOf cX11_fewestOf 5 (some .int) rm_X11_fewestOf D [(cyI, .int), (cyJ, .long), (cyZ, .boolean)] [.ref a_M, .int p1] (W_Model cyI cyJ cyZ a_M a_M_square a_M_want a_M_text a_M_read a_M_row a_M_foldSet a_M_foldEdges a_M_foldNeeds a_M_foldYards a_M_least a_M_ways a_M_price a_M_rowBy a_M_columnBy a_M_rowOf a_M_wayBack a_M_slack a_M_isUsed a_M_lifted a_M_freed a_M_path M_wide M_high M_hedges M_hurdles M_wants M_rest M_frozen M_bytes M_position M_tokenAt M_token M_digits M_number M_faultAt M_readMany M_readWide M_readHigh M_nights M_why M_folds M_square M_want M_text M_read M_row M_foldSet M_foldEdges M_foldNeeds M_foldYards M_least M_ways M_price M_rowBy M_columnBy M_rowOf M_wayBack M_slack M_isUsed M_lifted M_freed M_path) (fun u : Int32 × (Nat → Int32) × (Nat → Int64) × (Nat → Int32) × (Nat → Int32) × (Nat → Int32) × (Nat → Int32) => (W_Model cyI cyJ cyZ a_M a_M_square a_M_want a_M_text a_M_read a_M_row a_M_foldSet a_M_foldEdges a_M_foldNeeds a_M_foldYards a_M_least a_M_ways a_M_price a_M_rowBy a_M_columnBy a_M_rowOf a_M_wayBack a_M_slack a_M_isUsed a_M_lifted a_M_freed a_M_path M_wide M_high M_hedges M_hurdles M_wants M_rest M_frozen M_bytes M_position M_tokenAt M_token M_digits M_number M_faultAt M_readMany M_readWide M_readHigh M_nights M_why u.1 M_square M_want M_text M_read M_row u.2.1 u.2.2.1 u.2.2.2.1 u.2.2.2.2.1 u.2.2.2.2.2.1 u.2.2.2.2.2.2 M_price M_rowBy M_columnBy M_rowOf M_wayBack M_slack M_isUsed M_lifted M_freed M_path)) (fun v u => Q v u) := by
  unfold wp_X11_fewestOf at h
  refine metI_of (by decide) (Nat.le_of_ble_eq_true rfl) (fun x cx0 hR0 => ?_)
  have cx : Cx x cX11_fewestOf 5 RX11 rm_X11_fewestOf D [(cyI, .int), (cyJ, .long), (cyZ, .boolean)] := cx0
  have hR : ∀ (v : Int32) (u : Int32 × (Nat → Int32) × (Nat → Int64) × (Nat → Int32) × (Nat → Int32) × (Nat → Int32) × (Nat → Int32)) (pc : Nat) (lv : List (Nat × Value)), decode cX11_fewestOf pc = .ok (.ireturn, 1) → Q v u → J x 0 0 5 (W_Model cyI cyJ cyZ a_M a_M_square a_M_want a_M_text a_M_read a_M_row a_M_foldSet a_M_foldEdges a_M_foldNeeds a_M_foldYards a_M_least a_M_ways a_M_price a_M_rowBy a_M_columnBy a_M_rowOf a_M_wayBack a_M_slack a_M_isUsed a_M_lifted a_M_freed a_M_path M_wide M_high M_hedges M_hurdles M_wants M_rest M_frozen M_bytes M_position M_tokenAt M_token M_digits M_number M_faultAt M_readMany M_readWide M_readHigh M_nights M_why u.1 M_square M_want M_text M_read M_row u.2.1 u.2.2.1 u.2.2.2.1 u.2.2.2.2.1 u.2.2.2.2.2.1 u.2.2.2.2.2.2 M_price M_rowBy M_columnBy M_rowOf M_wayBack M_slack M_isUsed M_lifted M_freed M_path) lv pc [.int v] := (fun v u pc lv d hq => hR0 v u pc lv d hq)
  show J x 0 0 5 (W_Model cyI cyJ cyZ a_M a_M_square a_M_want a_M_text a_M_read a_M_row a_M_foldSet a_M_foldEdges a_M_foldNeeds a_M_foldYards a_M_least a_M_ways a_M_price a_M_rowBy a_M_columnBy a_M_rowOf a_M_wayBack a_M_slack a_M_isUsed a_M_lifted a_M_freed a_M_path M_wide M_high M_hedges M_hurdles M_wants M_rest M_frozen M_bytes M_position M_tokenAt M_token M_digits M_number M_faultAt M_readMany M_readWide M_readHigh M_nights M_why M_folds M_square M_want M_text M_read M_row M_foldSet M_foldEdges M_foldNeeds M_foldYards M_least M_ways M_price M_rowBy M_columnBy M_rowOf M_wayBack M_slack M_isUsed M_lifted M_freed M_path) [(0, .ref a_M), (1, .int p1)] 0 []
  refine j_aload_n cx 0 rfl rfl dX11_fewestOf_0 (pn := 1) rfl ?_
  refine j_iload_n cx 1 rfl rfl dX11_fewestOf_1 (pn := 2) rfl ?_
  refine j_bipush cx (v := 60) (by decide) dX11_fewestOf_2 (pn := 4) rfl ?_
  refine j_iconst cx (v := 0) (by decide) dX11_fewestOf_4 (pn := 5) rfl ?_
  refine j_callvV0 cx q_inst_X11_layCourses q_sel_X11_layCourses (b := a_M) (As := [.int p1, .int 60, .int 0]) (rest := []) (c_X11_layCourses h) ⟨q_code_X11_layCourses, q_ml_X11_299, q_init_X11, hd_X11_layCourses, ⟨Nat.le_of_ble_eq_true rfl, Nat.le_of_ble_eq_true rfl⟩, Nat.le_of_ble_eq_true rfl, Nat.le_of_ble_eq_true rfl⟩ (q0 := 0) rfl rfl rfl rfl (Nat.le_of_ble_eq_true rfl) dX11_fewestOf_5 (pn := 8) rfl (fun u1 h => ?_)
  show J x 0 0 5 (W_Model cyI cyJ cyZ a_M a_M_square a_M_want a_M_text a_M_read a_M_row a_M_foldSet a_M_foldEdges a_M_foldNeeds a_M_foldYards a_M_least a_M_ways a_M_price a_M_rowBy a_M_columnBy a_M_rowOf a_M_wayBack a_M_slack a_M_isUsed a_M_lifted a_M_freed a_M_path M_wide M_high M_hedges M_hurdles M_wants M_rest M_frozen M_bytes M_position M_tokenAt M_token M_digits M_number M_faultAt M_readMany M_readWide M_readHigh M_nights M_why u1.1 M_square M_want M_text M_read M_row u1.2.1 u1.2.2.1 u1.2.2.2.1 u1.2.2.2.2.1 u1.2.2.2.2.2.1 u1.2.2.2.2.2.2 M_price M_rowBy M_columnBy M_rowOf M_wayBack M_slack M_isUsed M_lifted M_freed M_path) [(0, .ref a_M), (1, .int p1)] 8 []
  refine j_ldcw cx q_c_X11_267 dX11_fewestOf_8 (pn := 11) rfl ?_
  refine j_istore_n cx rfl [(2, .int 100000), (0, .ref a_M), (1, .int p1)] (by decide) rfl dX11_fewestOf_11 (pn := 12) rfl ?_
  refine j_iconst cx (v := 0) (by decide) dX11_fewestOf_12 (pn := 13) rfl ?_
  refine j_istore_n cx rfl [(3, .int 0), (2, .int 100000), (0, .ref a_M), (1, .int p1)] (by decide) rfl dX11_fewestOf_13 (pn := 14) rfl ?_
  refine j_sub [2, 1, 0] [(0, .ref a_M), (2, .int 100000), (3, .int 0)] rfl ?_
  exact J_X11_fewestOf_14 cx hR h
theorem dX11_fewest_0 : decode cX11_fewest 0 = .ok (.iload_n 1, 1) := by decide +kernel
theorem dX11_fewest_1 : decode cX11_fewest 1 = .ok (.iconst 1, 1) := by decide +kernel
theorem dX11_fewest_2 : decode cX11_fewest 2 = .ok (.bipush 90, 2) := by decide +kernel
theorem dX11_fewest_4 : decode cX11_fewest 4 = .ok (.invokestatic 90, 3) := by decide +kernel
theorem dX11_fewest_7 : decode cX11_fewest 7 = .ok (.ifCond .eq 11, 3) := by decide +kernel
theorem dX11_fewest_10 : decode cX11_fewest 10 = .ok (.aload_n 0, 1) := by decide +kernel
theorem dX11_fewest_11 : decode cX11_fewest 11 = .ok (.iload_n 1, 1) := by decide +kernel
theorem dX11_fewest_12 : decode cX11_fewest 12 = .ok (.invokevirtual 303, 3) := by decide +kernel
theorem dX11_fewest_15 : decode cX11_fewest 15 = .ok (.goto 5, 3) := by decide +kernel
theorem dX11_fewest_18 : decode cX11_fewest 18 = .ok (.bipush (-3), 2) := by decide +kernel
theorem dX11_fewest_20 : decode cX11_fewest 20 = .ok (.ireturn, 1) := by decide +kernel
abbrev rm_X11_fewest : Room := { frames := 7, cells := 0, slots := 0, locals := 167 }
theorem hd_X11_fewest : yX11_fewest.cls ≠ "java/lang/invoke/MethodHandle" ∧ yX11_fewest.cls ≠ "java/lang/invoke/VarHandle" ∧ (parseMethodDescriptor yX11_fewest.desc).map (fun d => d.parameters.length) = some 1 := by decide +kernel
def wp_X11_fewest (p1 : Int32) (M_wide : Int32) (M_high : Int32) (M_hedges : Int64) (M_folds : Int32) (M_square : Nat → Int32) (M_foldSet : Nat → Int32) (M_foldEdges : Nat → Int64) (M_foldNeeds : Nat → Int32) (M_foldYards : Nat → Int32) (M_least : Nat → Int32) (M_ways : Nat → Int32) (Q : Int32 → (Int32 × (Nat → Int32) × (Nat → Int64) × (Nat → Int32) × (Nat → Int32) × (Nat → Int32) × (Nat → Int32)) → Prop) : Prop :=
wp_X11_in p1 1 90 (fun (r1 : Int32) => ((r1 = 0 → Q (-3) (M_folds, M_foldSet, M_foldEdges, M_foldNeeds, M_foldYards, M_least, M_ways)) ∧
(¬ r1 = 0 → wp_X11_fewestOf p1 M_wide M_high M_hedges M_square M_foldSet M_foldEdges M_foldNeeds M_foldYards M_least M_ways (fun (r3 : Int32) (u4 : Int32 × (Nat → Int32) × (Nat → Int64) × (Nat → Int32) × (Nat → Int32) × (Nat → Int32) × (Nat → Int32)) => Q r3 (u4.1, u4.2.1, u4.2.2.1, u4.2.2.2.1, u4.2.2.2.2.1, u4.2.2.2.2.2.1, u4.2.2.2.2.2.2)))))
set_option maxHeartbeats 4000000 in
set_option maxRecDepth 100000 in
theorem c_X11_fewest {D : DG} {cyI cyJ cyZ : ClassId} {a_M a_M_square a_M_want a_M_text a_M_read a_M_row a_M_foldSet a_M_foldEdges a_M_foldNeeds a_M_foldYards a_M_least a_M_ways a_M_price a_M_rowBy a_M_columnBy a_M_rowOf a_M_wayBack a_M_slack a_M_isUsed a_M_lifted a_M_freed a_M_path : Nat} {M_wide : Int32} {M_high : Int32} {M_hedges : Int64} {M_hurdles : Int32} {M_wants : Int32} {M_rest : Int32} {M_frozen : Int32} {M_bytes : Int32} {M_position : Int32} {M_tokenAt : Int32} {M_token : Int64} {M_digits : Int32} {M_number : Int32} {M_faultAt : Int32} {M_readMany : Int32} {M_readWide : Int32} {M_readHigh : Int32} {M_nights : Int32} {M_why : Int32} {M_folds : Int32} {M_square : Nat → Int32} {M_want : Nat → Int32} {M_text : Nat → Int32} {M_read : Nat → Int32} {M_row : Nat → Int32} {M_foldSet : Nat → Int32} {M_foldEdges : Nat → Int64} {M_foldNeeds : Nat → Int32} {M_foldYards : Nat → Int32} {M_least : Nat → Int32} {M_ways : Nat → Int32} {M_price : Nat → Int32} {M_rowBy : Nat → Int32} {M_columnBy : Nat → Int32} {M_rowOf : Nat → Int32} {M_wayBack : Nat → Int32} {M_slack : Nat → Int32} {M_isUsed : Nat → Int32} {M_lifted : Nat → Int32} {M_freed : Nat → Int32} {M_path : Nat → Int32} {p1 : Int32} {Q : Int32 → (Int32 × (Nat → Int32) × (Nat → Int64) × (Nat → Int32) × (Nat → Int32) × (Nat → Int32) × (Nat → Int32)) → Prop} (h : wp_X11_fewest p1 M_wide M_high M_hedges M_folds M_square M_foldSet M_foldEdges M_foldNeeds M_foldYards M_least M_ways Q) :
    MetI yX11_fewest cX11_fewest 2 (some .int) rm_X11_fewest D [(cyI, .int), (cyJ, .long), (cyZ, .boolean)] [.ref a_M, .int p1] (W_Model cyI cyJ cyZ a_M a_M_square a_M_want a_M_text a_M_read a_M_row a_M_foldSet a_M_foldEdges a_M_foldNeeds a_M_foldYards a_M_least a_M_ways a_M_price a_M_rowBy a_M_columnBy a_M_rowOf a_M_wayBack a_M_slack a_M_isUsed a_M_lifted a_M_freed a_M_path M_wide M_high M_hedges M_hurdles M_wants M_rest M_frozen M_bytes M_position M_tokenAt M_token M_digits M_number M_faultAt M_readMany M_readWide M_readHigh M_nights M_why M_folds M_square M_want M_text M_read M_row M_foldSet M_foldEdges M_foldNeeds M_foldYards M_least M_ways M_price M_rowBy M_columnBy M_rowOf M_wayBack M_slack M_isUsed M_lifted M_freed M_path) (fun u : Int32 × (Nat → Int32) × (Nat → Int64) × (Nat → Int32) × (Nat → Int32) × (Nat → Int32) × (Nat → Int32) => (W_Model cyI cyJ cyZ a_M a_M_square a_M_want a_M_text a_M_read a_M_row a_M_foldSet a_M_foldEdges a_M_foldNeeds a_M_foldYards a_M_least a_M_ways a_M_price a_M_rowBy a_M_columnBy a_M_rowOf a_M_wayBack a_M_slack a_M_isUsed a_M_lifted a_M_freed a_M_path M_wide M_high M_hedges M_hurdles M_wants M_rest M_frozen M_bytes M_position M_tokenAt M_token M_digits M_number M_faultAt M_readMany M_readWide M_readHigh M_nights M_why u.1 M_square M_want M_text M_read M_row u.2.1 u.2.2.1 u.2.2.2.1 u.2.2.2.2.1 u.2.2.2.2.2.1 u.2.2.2.2.2.2 M_price M_rowBy M_columnBy M_rowOf M_wayBack M_slack M_isUsed M_lifted M_freed M_path)) (fun v u => Q v u) := by
  unfold wp_X11_fewest at h
  refine metI_of (by decide) (Nat.le_of_ble_eq_true rfl) (fun x cx0 hR0 => ?_)
  have cx : Cx x cX11_fewest 2 RX11 rm_X11_fewest D [(cyI, .int), (cyJ, .long), (cyZ, .boolean)] := cx0
  have hR : ∀ (v : Int32) (u : Int32 × (Nat → Int32) × (Nat → Int64) × (Nat → Int32) × (Nat → Int32) × (Nat → Int32) × (Nat → Int32)) (pc : Nat) (lv : List (Nat × Value)), decode cX11_fewest pc = .ok (.ireturn, 1) → Q v u → J x 0 0 2 (W_Model cyI cyJ cyZ a_M a_M_square a_M_want a_M_text a_M_read a_M_row a_M_foldSet a_M_foldEdges a_M_foldNeeds a_M_foldYards a_M_least a_M_ways a_M_price a_M_rowBy a_M_columnBy a_M_rowOf a_M_wayBack a_M_slack a_M_isUsed a_M_lifted a_M_freed a_M_path M_wide M_high M_hedges M_hurdles M_wants M_rest M_frozen M_bytes M_position M_tokenAt M_token M_digits M_number M_faultAt M_readMany M_readWide M_readHigh M_nights M_why u.1 M_square M_want M_text M_read M_row u.2.1 u.2.2.1 u.2.2.2.1 u.2.2.2.2.1 u.2.2.2.2.2.1 u.2.2.2.2.2.2 M_price M_rowBy M_columnBy M_rowOf M_wayBack M_slack M_isUsed M_lifted M_freed M_path) lv pc [.int v] := (fun v u pc lv d hq => hR0 v u pc lv d hq)
  show J x 0 0 2 (W_Model cyI cyJ cyZ a_M a_M_square a_M_want a_M_text a_M_read a_M_row a_M_foldSet a_M_foldEdges a_M_foldNeeds a_M_foldYards a_M_least a_M_ways a_M_price a_M_rowBy a_M_columnBy a_M_rowOf a_M_wayBack a_M_slack a_M_isUsed a_M_lifted a_M_freed a_M_path M_wide M_high M_hedges M_hurdles M_wants M_rest M_frozen M_bytes M_position M_tokenAt M_token M_digits M_number M_faultAt M_readMany M_readWide M_readHigh M_nights M_why M_folds M_square M_want M_text M_read M_row M_foldSet M_foldEdges M_foldNeeds M_foldYards M_least M_ways M_price M_rowBy M_columnBy M_rowOf M_wayBack M_slack M_isUsed M_lifted M_freed M_path) [(0, .ref a_M), (1, .int p1)] 0 []
  refine j_iload_n cx 1 rfl rfl dX11_fewest_0 (pn := 1) rfl ?_
  refine j_iconst cx (v := 1) (by decide) dX11_fewest_1 (pn := 2) rfl ?_
  refine j_bipush cx (v := 90) (by decide) dX11_fewest_2 (pn := 4) rfl ?_
  refine j_calleI cx q_stat_X11_in (As := [.int p1, .int 1, .int 90]) (rest := []) (c_X11_in h) ⟨q_code_X11_in, q_ml_X11_90, q_init_X11, hd_X11_in, ⟨Nat.le_of_ble_eq_true rfl, Nat.le_of_ble_eq_true rfl⟩, Nat.le_of_ble_eq_true rfl, Nat.le_of_ble_eq_true rfl⟩ rfl rfl (Nat.le_of_ble_eq_true rfl) dX11_fewest_4 (pn := 7) rfl (fun r1 h => ?_)
  show J x 0 0 2 (W_Model cyI cyJ cyZ a_M a_M_square a_M_want a_M_text a_M_read a_M_row a_M_foldSet a_M_foldEdges a_M_foldNeeds a_M_foldYards a_M_least a_M_ways a_M_price a_M_rowBy a_M_columnBy a_M_rowOf a_M_wayBack a_M_slack a_M_isUsed a_M_lifted a_M_freed a_M_path M_wide M_high M_hedges M_hurdles M_wants M_rest M_frozen M_bytes M_position M_tokenAt M_token M_digits M_number M_faultAt M_readMany M_readWide M_readHigh M_nights M_why M_folds M_square M_want M_text M_read M_row M_foldSet M_foldEdges M_foldNeeds M_foldYards M_least M_ways M_price M_rowBy M_columnBy M_rowOf M_wayBack M_slack M_isUsed M_lifted M_freed M_path) [(0, .ref a_M), (1, .int p1)] 7 [.int r1]
  refine j_if_eq cx 18 dX11_fewest_7 (pn := 10) rfl rfl (fun c2 => ?_) (fun c2 => ?_)
  · have h := h.1 c2
    refine j_bipush cx (v := (-3)) (by decide) dX11_fewest_18 (pn := 20) rfl ?_
    exact hR (-3) (M_folds, M_foldSet, M_foldEdges, M_foldNeeds, M_foldYards, M_least, M_ways) 20 _ dX11_fewest_20 h
  · have h := h.2 c2
    refine j_aload_n cx 0 rfl rfl dX11_fewest_10 (pn := 11) rfl ?_
    refine j_iload_n cx 1 rfl rfl dX11_fewest_11 (pn := 12) rfl ?_
    refine j_callvI0 cx q_inst_X11_fewestOf q_sel_X11_fewestOf (b := a_M) (As := [.int p1]) (rest := []) (c_X11_fewestOf h) ⟨q_code_X11_fewestOf, q_ml_X11_303, q_init_X11, hd_X11_fewestOf, ⟨Nat.le_of_ble_eq_true rfl, Nat.le_of_ble_eq_true rfl⟩, Nat.le_of_ble_eq_true rfl, Nat.le_of_ble_eq_true rfl⟩ (q0 := 0) rfl rfl rfl rfl (Nat.le_of_ble_eq_true rfl) dX11_fewest_12 (pn := 15) rfl (fun r3 u4 h => ?_)
    show J x 0 0 2 (W_Model cyI cyJ cyZ a_M a_M_square a_M_want a_M_text a_M_read a_M_row a_M_foldSet a_M_foldEdges a_M_foldNeeds a_M_foldYards a_M_least a_M_ways a_M_price a_M_rowBy a_M_columnBy a_M_rowOf a_M_wayBack a_M_slack a_M_isUsed a_M_lifted a_M_freed a_M_path M_wide M_high M_hedges M_hurdles M_wants M_rest M_frozen M_bytes M_position M_tokenAt M_token M_digits M_number M_faultAt M_readMany M_readWide M_readHigh M_nights M_why u4.1 M_square M_want M_text M_read M_row u4.2.1 u4.2.2.1 u4.2.2.2.1 u4.2.2.2.2.1 u4.2.2.2.2.2.1 u4.2.2.2.2.2.2 M_price M_rowBy M_columnBy M_rowOf M_wayBack M_slack M_isUsed M_lifted M_freed M_path) [(0, .ref a_M), (1, .int p1)] 15 [.int r3]
    refine j_goto cx 20 dX11_fewest_15 rfl ?_
    exact hR r3 (u4.1, u4.2.1, u4.2.2.1, u4.2.2.2.1, u4.2.2.2.2.1, u4.2.2.2.2.2.1, u4.2.2.2.2.2.2) 20 _ dX11_fewest_20 h
theorem dX11_leastLifted_0 : decode cX11_leastLifted 0 = .ok (.aload_n 0, 1) := by decide +kernel
theorem dX11_leastLifted_1 : decode cX11_leastLifted 1 = .ok (.iload_n 1, 1) := by decide +kernel
theorem dX11_leastLifted_2 : decode cX11_leastLifted 2 = .ok (.iload_n 2, 1) := by decide +kernel
theorem dX11_leastLifted_3 : decode cX11_leastLifted 3 = .ok (.iconst 1, 1) := by decide +kernel
theorem dX11_leastLifted_4 : decode cX11_leastLifted 4 = .ok (.invokevirtual 299, 3) := by decide +kernel
theorem dX11_leastLifted_7 : decode cX11_leastLifted 7 = .ok (.ldc_w 267, 3) := by decide +kernel
theorem dX11_leastLifted_10 : decode cX11_leastLifted 10 = .ok (.istore_n 3, 1) := by decide +kernel
theorem dX11_leastLifted_11 : decode cX11_leastLifted 11 = .ok (.iconst 0, 1) := by decide +kernel
theorem dX11_leastLifted_12 : decode cX11_leastLifted 12 = .ok (.istore 4, 2) := by decide +kernel
theorem dX11_leastLifted_14 : decode cX11_leastLifted 14 = .ok (.iload 4, 2) := by decide +kernel
theorem dX11_leastLifted_16 : decode cX11_leastLifted 16 = .ok (.aload_n 0, 1) := by decide +kernel
theorem dX11_leastLifted_17 : decode cX11_leastLifted 17 = .ok (.getfield 284, 3) := by decide +kernel
theorem dX11_leastLifted_20 : decode cX11_leastLifted 20 = .ok (.if_icmp .ge 68, 3) := by decide +kernel
theorem dX11_leastLifted_23 : decode cX11_leastLifted 23 = .ok (.aload_n 0, 1) := by decide +kernel
theorem dX11_leastLifted_24 : decode cX11_leastLifted 24 = .ok (.getfield 42, 3) := by decide +kernel
theorem dX11_leastLifted_27 : decode cX11_leastLifted 27 = .ok (.iload 4, 2) := by decide +kernel
theorem dX11_leastLifted_29 : decode cX11_leastLifted 29 = .ok (.iaload, 1) := by decide +kernel
theorem dX11_leastLifted_30 : decode cX11_leastLifted 30 = .ok (.iload_n 2, 1) := by decide +kernel
theorem dX11_leastLifted_31 : decode cX11_leastLifted 31 = .ok (.if_icmp .gt 33, 3) := by decide +kernel
theorem dX11_leastLifted_34 : decode cX11_leastLifted 34 = .ok (.aload_n 0, 1) := by decide +kernel
theorem dX11_leastLifted_35 : decode cX11_leastLifted 35 = .ok (.getfield 42, 3) := by decide +kernel
theorem dX11_leastLifted_38 : decode cX11_leastLifted 38 = .ok (.iload 4, 2) := by decide +kernel
theorem dX11_leastLifted_40 : decode cX11_leastLifted 40 = .ok (.iaload, 1) := by decide +kernel
theorem dX11_leastLifted_41 : decode cX11_leastLifted 41 = .ok (.aload_n 0, 1) := by decide +kernel
theorem dX11_leastLifted_42 : decode cX11_leastLifted 42 = .ok (.getfield 49, 3) := by decide +kernel
theorem dX11_leastLifted_45 : decode cX11_leastLifted 45 = .ok (.sipush 280, 3) := by decide +kernel
theorem dX11_leastLifted_48 : decode cX11_leastLifted 48 = .ok (.aload_n 0, 1) := by decide +kernel
theorem dX11_leastLifted_49 : decode cX11_leastLifted 49 = .ok (.getfield 35, 3) := by decide +kernel
theorem dX11_leastLifted_52 : decode cX11_leastLifted 52 = .ok (.iload 4, 2) := by decide +kernel
theorem dX11_leastLifted_54 : decode cX11_leastLifted 54 = .ok (.iaload, 1) := by decide +kernel
theorem dX11_leastLifted_55 : decode cX11_leastLifted 55 = .ok (.imul, 1) := by decide +kernel
theorem dX11_leastLifted_56 : decode cX11_leastLifted 56 = .ok (.iload 4, 2) := by decide +kernel
theorem dX11_leastLifted_58 : decode cX11_leastLifted 58 = .ok (.iadd, 1) := by decide +kernel
theorem dX11_leastLifted_59 : decode cX11_leastLifted 59 = .ok (.iaload, 1) := by decide +kernel
theorem dX11_leastLifted_60 : decode cX11_leastLifted 60 = .ok (.iadd, 1) := by decide +kernel
theorem dX11_leastLifted_61 : decode cX11_leastLifted 61 = .ok (.goto 6, 3) := by decide +kernel
theorem dX11_leastLifted_64 : decode cX11_leastLifted 64 = .ok (.ldc_w 267, 3) := by decide +kernel
theorem dX11_leastLifted_67 : decode cX11_leastLifted 67 = .ok (.istore 5, 2) := by decide +kernel
theorem dX11_leastLifted_69 : decode cX11_leastLifted 69 = .ok (.iload 5, 2) := by decide +kernel
theorem dX11_leastLifted_71 : decode cX11_leastLifted 71 = .ok (.iload_n 3, 1) := by decide +kernel
theorem dX11_leastLifted_72 : decode cX11_leastLifted 72 = .ok (.if_icmp .ge 8, 3) := by decide +kernel
theorem dX11_leastLifted_75 : decode cX11_leastLifted 75 = .ok (.iload 5, 2) := by decide +kernel
theorem dX11_leastLifted_77 : decode cX11_leastLifted 77 = .ok (.goto 4, 3) := by decide +kernel
theorem dX11_leastLifted_80 : decode cX11_leastLifted 80 = .ok (.iload_n 3, 1) := by decide +kernel
theorem dX11_leastLifted_81 : decode cX11_leastLifted 81 = .ok (.istore_n 3, 1) := by decide +kernel
theorem dX11_leastLifted_82 : decode cX11_leastLifted 82 = .ok (.iinc 4 1, 3) := by decide +kernel
theorem dX11_leastLifted_85 : decode cX11_leastLifted 85 = .ok (.goto (-71), 3) := by decide +kernel
theorem dX11_leastLifted_88 : decode cX11_leastLifted 88 = .ok (.iload_n 3, 1) := by decide +kernel
theorem dX11_leastLifted_89 : decode cX11_leastLifted 89 = .ok (.ldc_w 267, 3) := by decide +kernel
theorem dX11_leastLifted_92 : decode cX11_leastLifted 92 = .ok (.if_icmp .lt 7, 3) := by decide +kernel
theorem dX11_leastLifted_95 : decode cX11_leastLifted 95 = .ok (.iconst (-1), 1) := by decide +kernel
theorem dX11_leastLifted_96 : decode cX11_leastLifted 96 = .ok (.goto 4, 3) := by decide +kernel
theorem dX11_leastLifted_99 : decode cX11_leastLifted 99 = .ok (.iload_n 3, 1) := by decide +kernel
theorem dX11_leastLifted_100 : decode cX11_leastLifted 100 = .ok (.ireturn, 1) := by decide +kernel
abbrev rm_X11_leastLifted : Room := { frames := 6, cells := 0, slots := 0, locals := 143 }
theorem hd_X11_leastLifted : yX11_leastLifted.cls ≠ "java/lang/invoke/MethodHandle" ∧ yX11_leastLifted.cls ≠ "java/lang/invoke/VarHandle" ∧ (parseMethodDescriptor yX11_leastLifted.desc).map (fun d => d.parameters.length) = some 2 := by decide +kernel
def bk_X11_leastLifted_81 (Q : Int32 → (Int32 × (Nat → Int32) × (Nat → Int64) × (Nat → Int32) × (Nat → Int32) × (Nat → Int32) × (Nat → Int32)) → Prop) (B14 : Int32 → Int32 → Prop) (x4 : Int32) (s0 : Int32) : Prop :=
∀ y6 : Int32, y6 = (x4 + 1) →
B14 s0 y6
def bk_X11_leastLifted_67 (Q : Int32 → (Int32 × (Nat → Int32) × (Nat → Int64) × (Nat → Int32) × (Nat → Int32) × (Nat → Int32) × (Nat → Int32)) → Prop) (B14 : Int32 → Int32 → Prop) (x3 : Int32) (x4 : Int32) (s0 : Int32) : Prop :=
((x3 ≤ s0 → bk_X11_leastLifted_81 Q B14 x4 x3) ∧
(¬ x3 ≤ s0 → bk_X11_leastLifted_81 Q B14 x4 s0))
def bd_X11_leastLifted_14 (Q : Int32 → (Int32 × (Nat → Int32) × (Nat → Int64) × (Nat → Int32) × (Nat → Int32) × (Nat → Int32) × (Nat → Int32)) → Prop) (B14 : Int32 → Int32 → Prop) (p2 : Int32) (M_folds : Int32) (M_foldSet : Nat → Int32) (M_foldEdges : Nat → Int64) (M_foldNeeds : Nat → Int32) (M_foldYards : Nat → Int32) (M_least : Nat → Int32) (M_ways : Nat → Int32) (x3 : Int32) (x4 : Int32) : Prop :=
((M_folds ≤ x4 → ((x3 < 100000 → Q x3 (M_folds, M_foldSet, M_foldEdges, M_foldNeeds, M_foldYards, M_least, M_ways)) ∧
(¬ x3 < 100000 → Q (-1) (M_folds, M_foldSet, M_foldEdges, M_foldNeeds, M_foldYards, M_least, M_ways)))) ∧
(¬ M_folds ≤ x4 → vp_in x4 280 ∧ ((p2 < (M_foldNeeds x4.toNatClampNeg) → bk_X11_leastLifted_67 Q B14 x3 x4 100000) ∧
(¬ p2 < (M_foldNeeds x4.toNatClampNeg) → vp_in x4 280 ∧ vp_in x4 280 ∧ vp_in ((280 * (M_foldSet x4.toNatClampNeg)) + x4) 286720 ∧ bk_X11_leastLifted_67 Q B14 x3 x4 ((M_foldNeeds x4.toNatClampNeg) + (M_least ((280 * (M_foldSet x4.toNatClampNeg)) + x4).toNatClampNeg))))))
def lp_X11_leastLifted_14 (Q : Int32 → (Int32 × (Nat → Int32) × (Nat → Int64) × (Nat → Int32) × (Nat → Int32) × (Nat → Int32) × (Nat → Int32)) → Prop) (p2 : Int32) (M_folds : Int32) (M_foldSet : Nat → Int32) (M_foldEdges : Nat → Int64) (M_foldNeeds : Nat → Int32) (M_foldYards : Nat → Int32) (M_least : Nat → Int32) (M_ways : Nat → Int32) (x3 : Int32) (x4 : Int32) : Prop :=
∃ I : Nat → Int32 → Int32 → Prop, (∃ n, I n x3 x4) ∧ ∀ n x3 x4, I n x3 x4 → bd_X11_leastLifted_14 Q  (fun x3' x4' => ∃ n', n' < n ∧ I n' x3' x4') p2 M_folds M_foldSet M_foldEdges M_foldNeeds M_foldYards M_least M_ways x3 x4
def wp_X11_leastLifted (p1 : Int32) (p2 : Int32) (M_wide : Int32) (M_high : Int32) (M_hedges : Int64) (M_square : Nat → Int32) (M_foldSet : Nat → Int32) (M_foldEdges : Nat → Int64) (M_foldNeeds : Nat → Int32) (M_foldYards : Nat → Int32) (M_least : Nat → Int32) (M_ways : Nat → Int32) (Q : Int32 → (Int32 × (Nat → Int32) × (Nat → Int64) × (Nat → Int32) × (Nat → Int32) × (Nat → Int32) × (Nat → Int32)) → Prop) : Prop :=
wp_X11_layCourses p1 p2 1 M_wide M_high M_hedges M_square M_foldSet M_foldEdges M_foldNeeds M_foldYards M_least M_ways (fun (u1 : Int32 × (Nat → Int32) × (Nat → Int64) × (Nat → Int32) × (Nat → Int32) × (Nat → Int32) × (Nat → Int32)) => lp_X11_leastLifted_14 Q p2 u1.1 u1.2.1 u1.2.2.1 u1.2.2.2.1 u1.2.2.2.2.1 u1.2.2.2.2.2.1 u1.2.2.2.2.2.2 100000 0)
set_option maxHeartbeats 4000000 in
set_option maxRecDepth 100000 in
theorem J_X11_leastLifted_81 {x : CX} {D : DG} {cyI cyJ cyZ : ClassId} {a_M a_M_square a_M_want a_M_text a_M_read a_M_row a_M_foldSet a_M_foldEdges a_M_foldNeeds a_M_foldYards a_M_least a_M_ways a_M_price a_M_rowBy a_M_columnBy a_M_rowOf a_M_wayBack a_M_slack a_M_isUsed a_M_lifted a_M_freed a_M_path : Nat} {M_wide : Int32} {M_high : Int32} {M_hedges : Int64} {M_hurdles : Int32} {M_wants : Int32} {M_rest : Int32} {M_frozen : Int32} {M_bytes : Int32} {M_position : Int32} {M_tokenAt : Int32} {M_token : Int64} {M_digits : Int32} {M_number : Int32} {M_faultAt : Int32} {M_readMany : Int32} {M_readWide : Int32} {M_readHigh : Int32} {M_nights : Int32} {M_why : Int32} {M_folds : Int32} {M_square : Nat → Int32} {M_want : Nat → Int32} {M_text : Nat → Int32} {M_read : Nat → Int32} {M_row : Nat → Int32} {M_foldSet : Nat → Int32} {M_foldEdges : Nat → Int64} {M_foldNeeds : Nat → Int32} {M_foldYards : Nat → Int32} {M_least : Nat → Int32} {M_ways : Nat → Int32} {M_price : Nat → Int32} {M_rowBy : Nat → Int32} {M_columnBy : Nat → Int32} {M_rowOf : Nat → Int32} {M_wayBack : Nat → Int32} {M_slack : Nat → Int32} {M_isUsed : Nat → Int32} {M_lifted : Nat → Int32} {M_freed : Nat → Int32} {M_path : Nat → Int32} {p2 : Int32} {x4 : Int32} {s0 : Int32} {Q : Int32 → (Int32 × (Nat → Int32) × (Nat → Int64) × (Nat → Int32) × (Nat → Int32) × (Nat → Int32) × (Nat → Int32)) → Prop} {B14 : Int32 → Int32 → Prop} (cx : Cx x cX11_leastLifted 6 RX11 rm_X11_leastLifted D [(cyI, .int), (cyJ, .long), (cyZ, .boolean)]) (hR : ∀ (v : Int32) (u : Int32 × (Nat → Int32) × (Nat → Int64) × (Nat → Int32) × (Nat → Int32) × (Nat → Int32) × (Nat → Int32)) (pc : Nat) (lv : List (Nat × Value)), decode cX11_leastLifted pc = .ok (.ireturn, 1) → Q v u → J x 0 0 6 (W_Model cyI cyJ cyZ a_M a_M_square a_M_want a_M_text a_M_read a_M_row a_M_foldSet a_M_foldEdges a_M_foldNeeds a_M_foldYards a_M_least a_M_ways a_M_price a_M_rowBy a_M_columnBy a_M_rowOf a_M_wayBack a_M_slack a_M_isUsed a_M_lifted a_M_freed a_M_path M_wide M_high M_hedges M_hurdles M_wants M_rest M_frozen M_bytes M_position M_tokenAt M_token M_digits M_number M_faultAt M_readMany M_readWide M_readHigh M_nights M_why u.1 M_square M_want M_text M_read M_row u.2.1 u.2.2.1 u.2.2.2.1 u.2.2.2.2.1 u.2.2.2.2.2.1 u.2.2.2.2.2.2 M_price M_rowBy M_columnBy M_rowOf M_wayBack M_slack M_isUsed M_lifted M_freed M_path) lv pc [.int v]) (hB14 : ∀ (x3 : Int32) (x4 : Int32), B14 x3 x4 → J x 0 0 6 (W_Model cyI cyJ cyZ a_M a_M_square a_M_want a_M_text a_M_read a_M_row a_M_foldSet a_M_foldEdges a_M_foldNeeds a_M_foldYards a_M_least a_M_ways a_M_price a_M_rowBy a_M_columnBy a_M_rowOf a_M_wayBack a_M_slack a_M_isUsed a_M_lifted a_M_freed a_M_path M_wide M_high M_hedges M_hurdles M_wants M_rest M_frozen M_bytes M_position M_tokenAt M_token M_digits M_number M_faultAt M_readMany M_readWide M_readHigh M_nights M_why M_folds M_square M_want M_text M_read M_row M_foldSet M_foldEdges M_foldNeeds M_foldYards M_least M_ways M_price M_rowBy M_columnBy M_rowOf M_wayBack M_slack M_isUsed M_lifted M_freed M_path) [(0, .ref a_M), (2, .int p2), (3, .int x3), (4, .int x4)] 14 []) (h : bk_X11_leastLifted_81 Q B14 x4 s0) :
    J x 0 0 6 (W_Model cyI cyJ cyZ a_M a_M_square a_M_want a_M_text a_M_read a_M_row a_M_foldSet a_M_foldEdges a_M_foldNeeds a_M_foldYards a_M_least a_M_ways a_M_price a_M_rowBy a_M_columnBy a_M_rowOf a_M_wayBack a_M_slack a_M_isUsed a_M_lifted a_M_freed a_M_path M_wide M_high M_hedges M_hurdles M_wants M_rest M_frozen M_bytes M_position M_tokenAt M_token M_digits M_number M_faultAt M_readMany M_readWide M_readHigh M_nights M_why M_folds M_square M_want M_text M_read M_row M_foldSet M_foldEdges M_foldNeeds M_foldYards M_least M_ways M_price M_rowBy M_columnBy M_rowOf M_wayBack M_slack M_isUsed M_lifted M_freed M_path) [(0, .ref a_M), (2, .int p2), (4, .int x4)] 81 [.int s0] := by
  unfold bk_X11_leastLifted_81 at h
  refine j_istore_n cx rfl [(3, .int s0), (0, .ref a_M), (2, .int p2), (4, .int x4)] (by decide) rfl dX11_leastLifted_81 (pn := 82) rfl ?_
  obtain ⟨y6, ey6⟩ : ∃ z : Int32, z = x4 + 1 := ⟨_, rfl⟩
  have h := h y6 ey6
  refine j_iinc cx 3 rfl (cst := 1) (by decide) ey6 [(4, .int y6), (3, .int s0), (0, .ref a_M), (2, .int p2)] (by decide) rfl dX11_leastLifted_82 (pn := 85) rfl ?_
  refine j_goto cx 14 dX11_leastLifted_85 rfl ?_
  refine j_sub [2, 3, 1, 0] [(0, .ref a_M), (2, .int p2), (3, .int s0), (4, .int y6)] rfl ?_
  exact hB14 _ _ h
set_option maxHeartbeats 4000000 in
set_option maxRecDepth 100000 in
theorem J_X11_leastLifted_67 {x : CX} {D : DG} {cyI cyJ cyZ : ClassId} {a_M a_M_square a_M_want a_M_text a_M_read a_M_row a_M_foldSet a_M_foldEdges a_M_foldNeeds a_M_foldYards a_M_least a_M_ways a_M_price a_M_rowBy a_M_columnBy a_M_rowOf a_M_wayBack a_M_slack a_M_isUsed a_M_lifted a_M_freed a_M_path : Nat} {M_wide : Int32} {M_high : Int32} {M_hedges : Int64} {M_hurdles : Int32} {M_wants : Int32} {M_rest : Int32} {M_frozen : Int32} {M_bytes : Int32} {M_position : Int32} {M_tokenAt : Int32} {M_token : Int64} {M_digits : Int32} {M_number : Int32} {M_faultAt : Int32} {M_readMany : Int32} {M_readWide : Int32} {M_readHigh : Int32} {M_nights : Int32} {M_why : Int32} {M_folds : Int32} {M_square : Nat → Int32} {M_want : Nat → Int32} {M_text : Nat → Int32} {M_read : Nat → Int32} {M_row : Nat → Int32} {M_foldSet : Nat → Int32} {M_foldEdges : Nat → Int64} {M_foldNeeds : Nat → Int32} {M_foldYards : Nat → Int32} {M_least : Nat → Int32} {M_ways : Nat → Int32} {M_price : Nat → Int32} {M_rowBy : Nat → Int32} {M_columnBy : Nat → Int32} {M_rowOf : Nat → Int32} {M_wayBack : Nat → Int32} {M_slack : Nat → Int32} {M_isUsed : Nat → Int32} {M_lifted : Nat → Int32} {M_freed : Nat → Int32} {M_path : Nat → Int32} {p2 : Int32} {x3 : Int32} {x4 : Int32} {s0 : Int32} {Q : Int32 → (Int32 × (Nat → Int32) × (Nat → Int64) × (Nat → Int32) × (Nat → Int32) × (Nat → Int32) × (Nat → Int32)) → Prop} {B14 : Int32 → Int32 → Prop} (cx : Cx x cX11_leastLifted 6 RX11 rm_X11_leastLifted D [(cyI, .int), (cyJ, .long), (cyZ, .boolean)]) (hR : ∀ (v : Int32) (u : Int32 × (Nat → Int32) × (Nat → Int64) × (Nat → Int32) × (Nat → Int32) × (Nat → Int32) × (Nat → Int32)) (pc : Nat) (lv : List (Nat × Value)), decode cX11_leastLifted pc = .ok (.ireturn, 1) → Q v u → J x 0 0 6 (W_Model cyI cyJ cyZ a_M a_M_square a_M_want a_M_text a_M_read a_M_row a_M_foldSet a_M_foldEdges a_M_foldNeeds a_M_foldYards a_M_least a_M_ways a_M_price a_M_rowBy a_M_columnBy a_M_rowOf a_M_wayBack a_M_slack a_M_isUsed a_M_lifted a_M_freed a_M_path M_wide M_high M_hedges M_hurdles M_wants M_rest M_frozen M_bytes M_position M_tokenAt M_token M_digits M_number M_faultAt M_readMany M_readWide M_readHigh M_nights M_why u.1 M_square M_want M_text M_read M_row u.2.1 u.2.2.1 u.2.2.2.1 u.2.2.2.2.1 u.2.2.2.2.2.1 u.2.2.2.2.2.2 M_price M_rowBy M_columnBy M_rowOf M_wayBack M_slack M_isUsed M_lifted M_freed M_path) lv pc [.int v]) (hB14 : ∀ (x3 : Int32) (x4 : Int32), B14 x3 x4 → J x 0 0 6 (W_Model cyI cyJ cyZ a_M a_M_square a_M_want a_M_text a_M_read a_M_row a_M_foldSet a_M_foldEdges a_M_foldNeeds a_M_foldYards a_M_least a_M_ways a_M_price a_M_rowBy a_M_columnBy a_M_rowOf a_M_wayBack a_M_slack a_M_isUsed a_M_lifted a_M_freed a_M_path M_wide M_high M_hedges M_hurdles M_wants M_rest M_frozen M_bytes M_position M_tokenAt M_token M_digits M_number M_faultAt M_readMany M_readWide M_readHigh M_nights M_why M_folds M_square M_want M_text M_read M_row M_foldSet M_foldEdges M_foldNeeds M_foldYards M_least M_ways M_price M_rowBy M_columnBy M_rowOf M_wayBack M_slack M_isUsed M_lifted M_freed M_path) [(0, .ref a_M), (2, .int p2), (3, .int x3), (4, .int x4)] 14 []) (h : bk_X11_leastLifted_67 Q B14 x3 x4 s0) :
    J x 0 0 6 (W_Model cyI cyJ cyZ a_M a_M_square a_M_want a_M_text a_M_read a_M_row a_M_foldSet a_M_foldEdges a_M_foldNeeds a_M_foldYards a_M_least a_M_ways a_M_price a_M_rowBy a_M_columnBy a_M_rowOf a_M_wayBack a_M_slack a_M_isUsed a_M_lifted a_M_freed a_M_path M_wide M_high M_hedges M_hurdles M_wants M_rest M_frozen M_bytes M_position M_tokenAt M_token M_digits M_number M_faultAt M_readMany M_readWide M_readHigh M_nights M_why M_folds M_square M_want M_text M_read M_row M_foldSet M_foldEdges M_foldNeeds M_foldYards M_least M_ways M_price M_rowBy M_columnBy M_rowOf M_wayBack M_slack M_isUsed M_lifted M_freed M_path) [(0, .ref a_M), (2, .int p2), (3, .int x3), (4, .int x4)] 67 [.int s0] := by
  unfold bk_X11_leastLifted_67 at h
  refine j_istore cx [(5, .int s0), (0, .ref a_M), (2, .int p2), (3, .int x3), (4, .int x4)] (by decide) rfl dX11_leastLifted_67 (pn := 69) rfl ?_
  refine j_iload cx 0 rfl dX11_leastLifted_69 (pn := 71) rfl ?_
  refine j_iload_n cx 3 rfl rfl dX11_leastLifted_71 (pn := 72) rfl ?_
  refine j_icmp_ge cx 80 dX11_leastLifted_72 (pn := 75) rfl rfl (fun c5 => ?_) (fun c5 => ?_)
  · have h := h.1 c5
    refine j_iload_n cx 3 rfl rfl dX11_leastLifted_80 (pn := 81) rfl ?_
    refine j_sub [1, 2, 4] [(0, .ref a_M), (2, .int p2), (4, .int x4)] rfl ?_
    exact J_X11_leastLifted_81 cx hR hB14 h
  · have h := h.2 c5
    refine j_iload cx 0 rfl dX11_leastLifted_75 (pn := 77) rfl ?_
    refine j_goto cx 81 dX11_leastLifted_77 rfl ?_
    refine j_sub [1, 2, 4] [(0, .ref a_M), (2, .int p2), (4, .int x4)] rfl ?_
    exact J_X11_leastLifted_81 cx hR hB14 h
set_option maxHeartbeats 4000000 in
set_option maxRecDepth 100000 in
theorem B_X11_leastLifted_14 {x : CX} {D : DG} {cyI cyJ cyZ : ClassId} {a_M a_M_square a_M_want a_M_text a_M_read a_M_row a_M_foldSet a_M_foldEdges a_M_foldNeeds a_M_foldYards a_M_least a_M_ways a_M_price a_M_rowBy a_M_columnBy a_M_rowOf a_M_wayBack a_M_slack a_M_isUsed a_M_lifted a_M_freed a_M_path : Nat} {M_wide : Int32} {M_high : Int32} {M_hedges : Int64} {M_hurdles : Int32} {M_wants : Int32} {M_rest : Int32} {M_frozen : Int32} {M_bytes : Int32} {M_position : Int32} {M_tokenAt : Int32} {M_token : Int64} {M_digits : Int32} {M_number : Int32} {M_faultAt : Int32} {M_readMany : Int32} {M_readWide : Int32} {M_readHigh : Int32} {M_nights : Int32} {M_why : Int32} {M_folds : Int32} {M_square : Nat → Int32} {M_want : Nat → Int32} {M_text : Nat → Int32} {M_read : Nat → Int32} {M_row : Nat → Int32} {M_foldSet : Nat → Int32} {M_foldEdges : Nat → Int64} {M_foldNeeds : Nat → Int32} {M_foldYards : Nat → Int32} {M_least : Nat → Int32} {M_ways : Nat → Int32} {M_price : Nat → Int32} {M_rowBy : Nat → Int32} {M_columnBy : Nat → Int32} {M_rowOf : Nat → Int32} {M_wayBack : Nat → Int32} {M_slack : Nat → Int32} {M_isUsed : Nat → Int32} {M_lifted : Nat → Int32} {M_freed : Nat → Int32} {M_path : Nat → Int32} {p2 : Int32} {x3 : Int32} {x4 : Int32} {Q : Int32 → (Int32 × (Nat → Int32) × (Nat → Int64) × (Nat → Int32) × (Nat → Int32) × (Nat → Int32) × (Nat → Int32)) → Prop} {B14 : Int32 → Int32 → Prop} (cx : Cx x cX11_leastLifted 6 RX11 rm_X11_leastLifted D [(cyI, .int), (cyJ, .long), (cyZ, .boolean)]) (hR : ∀ (v : Int32) (u : Int32 × (Nat → Int32) × (Nat → Int64) × (Nat → Int32) × (Nat → Int32) × (Nat → Int32) × (Nat → Int32)) (pc : Nat) (lv : List (Nat × Value)), decode cX11_leastLifted pc = .ok (.ireturn, 1) → Q v u → J x 0 0 6 (W_Model cyI cyJ cyZ a_M a_M_square a_M_want a_M_text a_M_read a_M_row a_M_foldSet a_M_foldEdges a_M_foldNeeds a_M_foldYards a_M_least a_M_ways a_M_price a_M_rowBy a_M_columnBy a_M_rowOf a_M_wayBack a_M_slack a_M_isUsed a_M_lifted a_M_freed a_M_path M_wide M_high M_hedges M_hurdles M_wants M_rest M_frozen M_bytes M_position M_tokenAt M_token M_digits M_number M_faultAt M_readMany M_readWide M_readHigh M_nights M_why u.1 M_square M_want M_text M_read M_row u.2.1 u.2.2.1 u.2.2.2.1 u.2.2.2.2.1 u.2.2.2.2.2.1 u.2.2.2.2.2.2 M_price M_rowBy M_columnBy M_rowOf M_wayBack M_slack M_isUsed M_lifted M_freed M_path) lv pc [.int v]) (hB14 : ∀ (x3 : Int32) (x4 : Int32), B14 x3 x4 → J x 0 0 6 (W_Model cyI cyJ cyZ a_M a_M_square a_M_want a_M_text a_M_read a_M_row a_M_foldSet a_M_foldEdges a_M_foldNeeds a_M_foldYards a_M_least a_M_ways a_M_price a_M_rowBy a_M_columnBy a_M_rowOf a_M_wayBack a_M_slack a_M_isUsed a_M_lifted a_M_freed a_M_path M_wide M_high M_hedges M_hurdles M_wants M_rest M_frozen M_bytes M_position M_tokenAt M_token M_digits M_number M_faultAt M_readMany M_readWide M_readHigh M_nights M_why M_folds M_square M_want M_text M_read M_row M_foldSet M_foldEdges M_foldNeeds M_foldYards M_least M_ways M_price M_rowBy M_columnBy M_rowOf M_wayBack M_slack M_isUsed M_lifted M_freed M_path) [(0, .ref a_M), (2, .int p2), (3, .int x3), (4, .int x4)] 14 []) (h : bd_X11_leastLifted_14 Q B14 p2 M_folds M_foldSet M_foldEdges M_foldNeeds M_foldYards M_least M_ways x3 x4) :
    J x 0 0 6 (W_Model cyI cyJ cyZ a_M a_M_square a_M_want a_M_text a_M_read a_M_row a_M_foldSet a_M_foldEdges a_M_foldNeeds a_M_foldYards a_M_least a_M_ways a_M_price a_M_rowBy a_M_columnBy a_M_rowOf a_M_wayBack a_M_slack a_M_isUsed a_M_lifted a_M_freed a_M_path M_wide M_high M_hedges M_hurdles M_wants M_rest M_frozen M_bytes M_position M_tokenAt M_token M_digits M_number M_faultAt M_readMany M_readWide M_readHigh M_nights M_why M_folds M_square M_want M_text M_read M_row M_foldSet M_foldEdges M_foldNeeds M_foldYards M_least M_ways M_price M_rowBy M_columnBy M_rowOf M_wayBack M_slack M_isUsed M_lifted M_freed M_path) [(0, .ref a_M), (2, .int p2), (3, .int x3), (4, .int x4)] 14 [] := by
  unfold bd_X11_leastLifted_14 at h
  refine j_iload cx 3 rfl dX11_leastLifted_14 (pn := 16) rfl ?_
  refine j_aload_n cx 0 rfl rfl dX11_leastLifted_16 (pn := 17) rfl ?_
  refine j_get cx inGX11 0 rfl rfl 24 (by decide) q_fl_X11_284 rfl rfl dX11_leastLifted_17 (pn := 20) rfl ?_
  refine j_icmp_ge cx 88 dX11_leastLifted_20 (pn := 23) rfl rfl (fun c2 => ?_) (fun c2 => ?_)
  · have h := h.1 c2
    refine j_iload_n cx 2 rfl rfl dX11_leastLifted_88 (pn := 89) rfl ?_
    refine j_ldcw cx q_c_X11_267 dX11_leastLifted_89 (pn := 92) rfl ?_
    refine j_icmp_lt cx 99 dX11_leastLifted_92 (pn := 95) rfl rfl (fun c3 => ?_) (fun c3 => ?_)
    · have h := h.1 c3
      refine j_iload_n cx 2 rfl rfl dX11_leastLifted_99 (pn := 100) rfl ?_
      exact hR x3 (M_folds, M_foldSet, M_foldEdges, M_foldNeeds, M_foldYards, M_least, M_ways) 100 _ dX11_leastLifted_100 h
    · have h := h.2 c3
      refine j_iconst cx (v := (-1)) (by decide) dX11_leastLifted_95 (pn := 96) rfl ?_
      refine j_goto cx 100 dX11_leastLifted_96 rfl ?_
      exact hR (-1) (M_folds, M_foldSet, M_foldEdges, M_foldNeeds, M_foldYards, M_least, M_ways) 100 _ dX11_leastLifted_100 h
  · have h := h.2 c2
    refine j_aload_n cx 0 rfl rfl dX11_leastLifted_23 (pn := 24) rfl ?_
    refine j_get cx inGX11 0 rfl rfl 27 (by decide) q_fl_X11_42 rfl rfl dX11_leastLifted_24 (pn := 27) rfl ?_
    refine j_iload cx 3 rfl dX11_leastLifted_27 (pn := 29) rfl ?_
    refine j_iald cx 8 0 rfl rfl h.1 dX11_leastLifted_29 (pn := 30) rfl ?_
    have h := h.2
    refine j_iload_n cx 1 rfl rfl dX11_leastLifted_30 (pn := 31) rfl ?_
    refine j_icmp_gt cx 64 dX11_leastLifted_31 (pn := 34) rfl rfl (fun c4 => ?_) (fun c4 => ?_)
    · have h := h.1 c4
      refine j_ldcw cx q_c_X11_267 dX11_leastLifted_64 (pn := 67) rfl ?_
      exact J_X11_leastLifted_67 cx hR hB14 h
    · have h := h.2 c4
      refine j_aload_n cx 0 rfl rfl dX11_leastLifted_34 (pn := 35) rfl ?_
      refine j_get cx inGX11 0 rfl rfl 27 (by decide) q_fl_X11_42 rfl rfl dX11_leastLifted_35 (pn := 38) rfl ?_
      refine j_iload cx 3 rfl dX11_leastLifted_38 (pn := 40) rfl ?_
      refine j_iald cx 8 0 rfl rfl h.1 dX11_leastLifted_40 (pn := 41) rfl ?_
      have h := h.2
      refine j_aload_n cx 0 rfl rfl dX11_leastLifted_41 (pn := 42) rfl ?_
      refine j_get cx inGX11 0 rfl rfl 29 (by decide) q_fl_X11_49 rfl rfl dX11_leastLifted_42 (pn := 45) rfl ?_
      refine j_sipush cx (v := 280) (by decide) dX11_leastLifted_45 (pn := 48) rfl ?_
      refine j_aload_n cx 0 rfl rfl dX11_leastLifted_48 (pn := 49) rfl ?_
      refine j_get cx inGX11 0 rfl rfl 25 (by decide) q_fl_X11_35 rfl rfl dX11_leastLifted_49 (pn := 52) rfl ?_
      refine j_iload cx 3 rfl dX11_leastLifted_52 (pn := 54) rfl ?_
      refine j_iald cx 6 0 rfl rfl h.1 dX11_leastLifted_54 (pn := 55) rfl ?_
      have h := h.2
      refine j_imul cx dX11_leastLifted_55 (pn := 56) rfl ?_
      refine j_iload cx 3 rfl dX11_leastLifted_56 (pn := 58) rfl ?_
      refine j_iadd cx dX11_leastLifted_58 (pn := 59) rfl ?_
      refine j_iald cx 10 0 rfl rfl h.1 dX11_leastLifted_59 (pn := 60) rfl ?_
      have h := h.2
      refine j_iadd cx dX11_leastLifted_60 (pn := 61) rfl ?_
      refine j_goto cx 67 dX11_leastLifted_61 rfl ?_
      exact J_X11_leastLifted_67 cx hR hB14 h
set_option maxHeartbeats 4000000 in
set_option maxRecDepth 100000 in
theorem J_X11_leastLifted_14 {x : CX} {D : DG} {cyI cyJ cyZ : ClassId} {a_M a_M_square a_M_want a_M_text a_M_read a_M_row a_M_foldSet a_M_foldEdges a_M_foldNeeds a_M_foldYards a_M_least a_M_ways a_M_price a_M_rowBy a_M_columnBy a_M_rowOf a_M_wayBack a_M_slack a_M_isUsed a_M_lifted a_M_freed a_M_path : Nat} {M_wide : Int32} {M_high : Int32} {M_hedges : Int64} {M_hurdles : Int32} {M_wants : Int32} {M_rest : Int32} {M_frozen : Int32} {M_bytes : Int32} {M_position : Int32} {M_tokenAt : Int32} {M_token : Int64} {M_digits : Int32} {M_number : Int32} {M_faultAt : Int32} {M_readMany : Int32} {M_readWide : Int32} {M_readHigh : Int32} {M_nights : Int32} {M_why : Int32} {M_folds : Int32} {M_square : Nat → Int32} {M_want : Nat → Int32} {M_text : Nat → Int32} {M_read : Nat → Int32} {M_row : Nat → Int32} {M_foldSet : Nat → Int32} {M_foldEdges : Nat → Int64} {M_foldNeeds : Nat → Int32} {M_foldYards : Nat → Int32} {M_least : Nat → Int32} {M_ways : Nat → Int32} {M_price : Nat → Int32} {M_rowBy : Nat → Int32} {M_columnBy : Nat → Int32} {M_rowOf : Nat → Int32} {M_wayBack : Nat → Int32} {M_slack : Nat → Int32} {M_isUsed : Nat → Int32} {M_lifted : Nat → Int32} {M_freed : Nat → Int32} {M_path : Nat → Int32} {p2 : Int32} {x3 : Int32} {x4 : Int32} {Q : Int32 → (Int32 × (Nat → Int32) × (Nat → Int64) × (Nat → Int32) × (Nat → Int32) × (Nat → Int32) × (Nat → Int32)) → Prop} (cx : Cx x cX11_leastLifted 6 RX11 rm_X11_leastLifted D [(cyI, .int), (cyJ, .long), (cyZ, .boolean)]) (hR : ∀ (v : Int32) (u : Int32 × (Nat → Int32) × (Nat → Int64) × (Nat → Int32) × (Nat → Int32) × (Nat → Int32) × (Nat → Int32)) (pc : Nat) (lv : List (Nat × Value)), decode cX11_leastLifted pc = .ok (.ireturn, 1) → Q v u → J x 0 0 6 (W_Model cyI cyJ cyZ a_M a_M_square a_M_want a_M_text a_M_read a_M_row a_M_foldSet a_M_foldEdges a_M_foldNeeds a_M_foldYards a_M_least a_M_ways a_M_price a_M_rowBy a_M_columnBy a_M_rowOf a_M_wayBack a_M_slack a_M_isUsed a_M_lifted a_M_freed a_M_path M_wide M_high M_hedges M_hurdles M_wants M_rest M_frozen M_bytes M_position M_tokenAt M_token M_digits M_number M_faultAt M_readMany M_readWide M_readHigh M_nights M_why u.1 M_square M_want M_text M_read M_row u.2.1 u.2.2.1 u.2.2.2.1 u.2.2.2.2.1 u.2.2.2.2.2.1 u.2.2.2.2.2.2 M_price M_rowBy M_columnBy M_rowOf M_wayBack M_slack M_isUsed M_lifted M_freed M_path) lv pc [.int v]) (h : lp_X11_leastLifted_14 Q  p2 M_folds M_foldSet M_foldEdges M_foldNeeds M_foldYards M_least M_ways x3 x4) :
    J x 0 0 6 (W_Model cyI cyJ cyZ a_M a_M_square a_M_want a_M_text a_M_read a_M_row a_M_foldSet a_M_foldEdges a_M_foldNeeds a_M_foldYards a_M_least a_M_ways a_M_price a_M_rowBy a_M_columnBy a_M_rowOf a_M_wayBack a_M_slack a_M_isUsed a_M_lifted a_M_freed a_M_path M_wide M_high M_hedges M_hurdles M_wants M_rest M_frozen M_bytes M_position M_tokenAt M_token M_digits M_number M_faultAt M_readMany M_readWide M_readHigh M_nights M_why M_folds M_square M_want M_text M_read M_row M_foldSet M_foldEdges M_foldNeeds M_foldYards M_least M_ways M_price M_rowBy M_columnBy M_rowOf M_wayBack M_slack M_isUsed M_lifted M_freed M_path) [(0, .ref a_M), (2, .int p2), (3, .int x3), (4, .int x4)] 14 [] := by
  obtain ⟨I, ⟨n, h0⟩, hb⟩ := h
  revert x3 x4
  induction n using Nat.strongRecOn with
  | _ n ih =>
    intro x3 x4 h0
    exact B_X11_leastLifted_14 cx hR (fun _ _ hz => by obtain ⟨n2, hlt, hI⟩ := hz; exact ih n2 hlt hI) (hb n x3 x4 h0)
set_option maxHeartbeats 4000000 in
set_option maxRecDepth 100000 in
theorem c_X11_leastLifted {D : DG} {cyI cyJ cyZ : ClassId} {a_M a_M_square a_M_want a_M_text a_M_read a_M_row a_M_foldSet a_M_foldEdges a_M_foldNeeds a_M_foldYards a_M_least a_M_ways a_M_price a_M_rowBy a_M_columnBy a_M_rowOf a_M_wayBack a_M_slack a_M_isUsed a_M_lifted a_M_freed a_M_path : Nat} {M_wide : Int32} {M_high : Int32} {M_hedges : Int64} {M_hurdles : Int32} {M_wants : Int32} {M_rest : Int32} {M_frozen : Int32} {M_bytes : Int32} {M_position : Int32} {M_tokenAt : Int32} {M_token : Int64} {M_digits : Int32} {M_number : Int32} {M_faultAt : Int32} {M_readMany : Int32} {M_readWide : Int32} {M_readHigh : Int32} {M_nights : Int32} {M_why : Int32} {M_folds : Int32} {M_square : Nat → Int32} {M_want : Nat → Int32} {M_text : Nat → Int32} {M_read : Nat → Int32} {M_row : Nat → Int32} {M_foldSet : Nat → Int32} {M_foldEdges : Nat → Int64} {M_foldNeeds : Nat → Int32} {M_foldYards : Nat → Int32} {M_least : Nat → Int32} {M_ways : Nat → Int32} {M_price : Nat → Int32} {M_rowBy : Nat → Int32} {M_columnBy : Nat → Int32} {M_rowOf : Nat → Int32} {M_wayBack : Nat → Int32} {M_slack : Nat → Int32} {M_isUsed : Nat → Int32} {M_lifted : Nat → Int32} {M_freed : Nat → Int32} {M_path : Nat → Int32} {p1 : Int32} {p2 : Int32} {Q : Int32 → (Int32 × (Nat → Int32) × (Nat → Int64) × (Nat → Int32) × (Nat → Int32) × (Nat → Int32) × (Nat → Int32)) → Prop} (h : wp_X11_leastLifted p1 p2 M_wide M_high M_hedges M_square M_foldSet M_foldEdges M_foldNeeds M_foldYards M_least M_ways Q) :
    MetI yX11_leastLifted cX11_leastLifted 6 (some .int) rm_X11_leastLifted D [(cyI, .int), (cyJ, .long), (cyZ, .boolean)] [.ref a_M, .int p1, .int p2] (W_Model cyI cyJ cyZ a_M a_M_square a_M_want a_M_text a_M_read a_M_row a_M_foldSet a_M_foldEdges a_M_foldNeeds a_M_foldYards a_M_least a_M_ways a_M_price a_M_rowBy a_M_columnBy a_M_rowOf a_M_wayBack a_M_slack a_M_isUsed a_M_lifted a_M_freed a_M_path M_wide M_high M_hedges M_hurdles M_wants M_rest M_frozen M_bytes M_position M_tokenAt M_token M_digits M_number M_faultAt M_readMany M_readWide M_readHigh M_nights M_why M_folds M_square M_want M_text M_read M_row M_foldSet M_foldEdges M_foldNeeds M_foldYards M_least M_ways M_price M_rowBy M_columnBy M_rowOf M_wayBack M_slack M_isUsed M_lifted M_freed M_path) (fun u : Int32 × (Nat → Int32) × (Nat → Int64) × (Nat → Int32) × (Nat → Int32) × (Nat → Int32) × (Nat → Int32) => (W_Model cyI cyJ cyZ a_M a_M_square a_M_want a_M_text a_M_read a_M_row a_M_foldSet a_M_foldEdges a_M_foldNeeds a_M_foldYards a_M_least a_M_ways a_M_price a_M_rowBy a_M_columnBy a_M_rowOf a_M_wayBack a_M_slack a_M_isUsed a_M_lifted a_M_freed a_M_path M_wide M_high M_hedges M_hurdles M_wants M_rest M_frozen M_bytes M_position M_tokenAt M_token M_digits M_number M_faultAt M_readMany M_readWide M_readHigh M_nights M_why u.1 M_square M_want M_text M_read M_row u.2.1 u.2.2.1 u.2.2.2.1 u.2.2.2.2.1 u.2.2.2.2.2.1 u.2.2.2.2.2.2 M_price M_rowBy M_columnBy M_rowOf M_wayBack M_slack M_isUsed M_lifted M_freed M_path)) (fun v u => Q v u) := by
  unfold wp_X11_leastLifted at h
  refine metI_of (by decide) (Nat.le_of_ble_eq_true rfl) (fun x cx0 hR0 => ?_)
  have cx : Cx x cX11_leastLifted 6 RX11 rm_X11_leastLifted D [(cyI, .int), (cyJ, .long), (cyZ, .boolean)] := cx0
  have hR : ∀ (v : Int32) (u : Int32 × (Nat → Int32) × (Nat → Int64) × (Nat → Int32) × (Nat → Int32) × (Nat → Int32) × (Nat → Int32)) (pc : Nat) (lv : List (Nat × Value)), decode cX11_leastLifted pc = .ok (.ireturn, 1) → Q v u → J x 0 0 6 (W_Model cyI cyJ cyZ a_M a_M_square a_M_want a_M_text a_M_read a_M_row a_M_foldSet a_M_foldEdges a_M_foldNeeds a_M_foldYards a_M_least a_M_ways a_M_price a_M_rowBy a_M_columnBy a_M_rowOf a_M_wayBack a_M_slack a_M_isUsed a_M_lifted a_M_freed a_M_path M_wide M_high M_hedges M_hurdles M_wants M_rest M_frozen M_bytes M_position M_tokenAt M_token M_digits M_number M_faultAt M_readMany M_readWide M_readHigh M_nights M_why u.1 M_square M_want M_text M_read M_row u.2.1 u.2.2.1 u.2.2.2.1 u.2.2.2.2.1 u.2.2.2.2.2.1 u.2.2.2.2.2.2 M_price M_rowBy M_columnBy M_rowOf M_wayBack M_slack M_isUsed M_lifted M_freed M_path) lv pc [.int v] := (fun v u pc lv d hq => hR0 v u pc lv d hq)
  show J x 0 0 6 (W_Model cyI cyJ cyZ a_M a_M_square a_M_want a_M_text a_M_read a_M_row a_M_foldSet a_M_foldEdges a_M_foldNeeds a_M_foldYards a_M_least a_M_ways a_M_price a_M_rowBy a_M_columnBy a_M_rowOf a_M_wayBack a_M_slack a_M_isUsed a_M_lifted a_M_freed a_M_path M_wide M_high M_hedges M_hurdles M_wants M_rest M_frozen M_bytes M_position M_tokenAt M_token M_digits M_number M_faultAt M_readMany M_readWide M_readHigh M_nights M_why M_folds M_square M_want M_text M_read M_row M_foldSet M_foldEdges M_foldNeeds M_foldYards M_least M_ways M_price M_rowBy M_columnBy M_rowOf M_wayBack M_slack M_isUsed M_lifted M_freed M_path) [(0, .ref a_M), (1, .int p1), (2, .int p2)] 0 []
  refine j_aload_n cx 0 rfl rfl dX11_leastLifted_0 (pn := 1) rfl ?_
  refine j_iload_n cx 1 rfl rfl dX11_leastLifted_1 (pn := 2) rfl ?_
  refine j_iload_n cx 2 rfl rfl dX11_leastLifted_2 (pn := 3) rfl ?_
  refine j_iconst cx (v := 1) (by decide) dX11_leastLifted_3 (pn := 4) rfl ?_
  refine j_callvV0 cx q_inst_X11_layCourses q_sel_X11_layCourses (b := a_M) (As := [.int p1, .int p2, .int 1]) (rest := []) (c_X11_layCourses h) ⟨q_code_X11_layCourses, q_ml_X11_299, q_init_X11, hd_X11_layCourses, ⟨Nat.le_of_ble_eq_true rfl, Nat.le_of_ble_eq_true rfl⟩, Nat.le_of_ble_eq_true rfl, Nat.le_of_ble_eq_true rfl⟩ (q0 := 0) rfl rfl rfl rfl (Nat.le_of_ble_eq_true rfl) dX11_leastLifted_4 (pn := 7) rfl (fun u1 h => ?_)
  show J x 0 0 6 (W_Model cyI cyJ cyZ a_M a_M_square a_M_want a_M_text a_M_read a_M_row a_M_foldSet a_M_foldEdges a_M_foldNeeds a_M_foldYards a_M_least a_M_ways a_M_price a_M_rowBy a_M_columnBy a_M_rowOf a_M_wayBack a_M_slack a_M_isUsed a_M_lifted a_M_freed a_M_path M_wide M_high M_hedges M_hurdles M_wants M_rest M_frozen M_bytes M_position M_tokenAt M_token M_digits M_number M_faultAt M_readMany M_readWide M_readHigh M_nights M_why u1.1 M_square M_want M_text M_read M_row u1.2.1 u1.2.2.1 u1.2.2.2.1 u1.2.2.2.2.1 u1.2.2.2.2.2.1 u1.2.2.2.2.2.2 M_price M_rowBy M_columnBy M_rowOf M_wayBack M_slack M_isUsed M_lifted M_freed M_path) [(0, .ref a_M), (1, .int p1), (2, .int p2)] 7 []
  refine j_ldcw cx q_c_X11_267 dX11_leastLifted_7 (pn := 10) rfl ?_
  refine j_istore_n cx rfl [(3, .int 100000), (0, .ref a_M), (1, .int p1), (2, .int p2)] (by decide) rfl dX11_leastLifted_10 (pn := 11) rfl ?_
  refine j_iconst cx (v := 0) (by decide) dX11_leastLifted_11 (pn := 12) rfl ?_
  refine j_istore cx [(4, .int 0), (3, .int 100000), (0, .ref a_M), (1, .int p1), (2, .int p2)] (by decide) rfl dX11_leastLifted_12 (pn := 14) rfl ?_
  refine j_sub [2, 4, 1, 0] [(0, .ref a_M), (2, .int p2), (3, .int 100000), (4, .int 0)] rfl ?_
  exact J_X11_leastLifted_14 cx hR h
