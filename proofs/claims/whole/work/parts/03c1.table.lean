theorem dX3_putSingle_0 : decode cX3_putSingle 0 = .ok (.iconst 1, 1) := by decide +kernel
theorem dX3_putSingle_1 : decode cX3_putSingle 1 = .ok (.aload_n 1, 1) := by decide +kernel
theorem dX3_putSingle_2 : decode cX3_putSingle 2 = .ok (.getfield 46, 3) := by decide +kernel
theorem dX3_putSingle_5 : decode cX3_putSingle 5 = .ok (.iload_n 3, 1) := by decide +kernel
theorem dX3_putSingle_6 : decode cX3_putSingle 6 = .ok (.imul, 1) := by decide +kernel
theorem dX3_putSingle_7 : decode cX3_putSingle 7 = .ok (.iload_n 2, 1) := by decide +kernel
theorem dX3_putSingle_8 : decode cX3_putSingle 8 = .ok (.iadd, 1) := by decide +kernel
theorem dX3_putSingle_9 : decode cX3_putSingle 9 = .ok (.ishl, 1) := by decide +kernel
theorem dX3_putSingle_10 : decode cX3_putSingle 10 = .ok (.istore 4, 2) := by decide +kernel
theorem dX3_putSingle_12 : decode cX3_putSingle 12 = .ok (.iconst 0, 1) := by decide +kernel
theorem dX3_putSingle_13 : decode cX3_putSingle 13 = .ok (.istore 5, 2) := by decide +kernel
theorem dX3_putSingle_15 : decode cX3_putSingle 15 = .ok (.iconst 0, 1) := by decide +kernel
theorem dX3_putSingle_16 : decode cX3_putSingle 16 = .ok (.istore 6, 2) := by decide +kernel
theorem dX3_putSingle_18 : decode cX3_putSingle 18 = .ok (.iload 6, 2) := by decide +kernel
theorem dX3_putSingle_20 : decode cX3_putSingle 20 = .ok (.iconst 4, 1) := by decide +kernel
theorem dX3_putSingle_21 : decode cX3_putSingle 21 = .ok (.if_icmp .ge 24, 3) := by decide +kernel
theorem dX3_putSingle_24 : decode cX3_putSingle 24 = .ok (.iload 5, 2) := by decide +kernel
theorem dX3_putSingle_26 : decode cX3_putSingle 26 = .ok (.iconst 1, 1) := by decide +kernel
theorem dX3_putSingle_27 : decode cX3_putSingle 27 = .ok (.aload_n 1, 1) := by decide +kernel
theorem dX3_putSingle_28 : decode cX3_putSingle 28 = .ok (.iload_n 2, 1) := by decide +kernel
theorem dX3_putSingle_29 : decode cX3_putSingle 29 = .ok (.iload_n 3, 1) := by decide +kernel
theorem dX3_putSingle_30 : decode cX3_putSingle 30 = .ok (.iload 6, 2) := by decide +kernel
theorem dX3_putSingle_32 : decode cX3_putSingle 32 = .ok (.invokevirtual 63, 3) := by decide +kernel
theorem dX3_putSingle_35 : decode cX3_putSingle 35 = .ok (.ishl, 1) := by decide +kernel
theorem dX3_putSingle_36 : decode cX3_putSingle 36 = .ok (.ior, 1) := by decide +kernel
theorem dX3_putSingle_37 : decode cX3_putSingle 37 = .ok (.istore 5, 2) := by decide +kernel
theorem dX3_putSingle_39 : decode cX3_putSingle 39 = .ok (.iinc 6 1, 3) := by decide +kernel
theorem dX3_putSingle_42 : decode cX3_putSingle 42 = .ok (.goto (-24), 3) := by decide +kernel
theorem dX3_putSingle_45 : decode cX3_putSingle 45 = .ok (.aload_n 0, 1) := by decide +kernel
theorem dX3_putSingle_46 : decode cX3_putSingle 46 = .ok (.getfield 9, 3) := by decide +kernel
theorem dX3_putSingle_49 : decode cX3_putSingle 49 = .ok (.iload 4, 2) := by decide +kernel
theorem dX3_putSingle_51 : decode cX3_putSingle 51 = .ok (.iload 5, 2) := by decide +kernel
theorem dX3_putSingle_53 : decode cX3_putSingle 53 = .ok (.iastore, 1) := by decide +kernel
theorem dX3_putSingle_54 : decode cX3_putSingle 54 = .ok (.iconst 0, 1) := by decide +kernel
theorem dX3_putSingle_55 : decode cX3_putSingle 55 = .ok (.istore 6, 2) := by decide +kernel
theorem dX3_putSingle_57 : decode cX3_putSingle 57 = .ok (.iload 6, 2) := by decide +kernel
theorem dX3_putSingle_59 : decode cX3_putSingle 59 = .ok (.iload_n 2, 1) := by decide +kernel
theorem dX3_putSingle_60 : decode cX3_putSingle 60 = .ok (.ifCond .le 10, 3) := by decide +kernel
theorem dX3_putSingle_63 : decode cX3_putSingle 63 = .ok (.iload 4, 2) := by decide +kernel
theorem dX3_putSingle_65 : decode cX3_putSingle 65 = .ok (.iconst 1, 1) := by decide +kernel
theorem dX3_putSingle_66 : decode cX3_putSingle 66 = .ok (.ishr, 1) := by decide +kernel
theorem dX3_putSingle_67 : decode cX3_putSingle 67 = .ok (.goto 4, 3) := by decide +kernel
theorem dX3_putSingle_70 : decode cX3_putSingle 70 = .ok (.iconst 0, 1) := by decide +kernel
theorem dX3_putSingle_71 : decode cX3_putSingle 71 = .ok (.ior, 1) := by decide +kernel
theorem dX3_putSingle_72 : decode cX3_putSingle 72 = .ok (.istore 6, 2) := by decide +kernel
theorem dX3_putSingle_74 : decode cX3_putSingle 74 = .ok (.iload 6, 2) := by decide +kernel
theorem dX3_putSingle_76 : decode cX3_putSingle 76 = .ok (.iload_n 2, 1) := by decide +kernel
theorem dX3_putSingle_77 : decode cX3_putSingle 77 = .ok (.aload_n 1, 1) := by decide +kernel
theorem dX3_putSingle_78 : decode cX3_putSingle 78 = .ok (.getfield 46, 3) := by decide +kernel
theorem dX3_putSingle_81 : decode cX3_putSingle 81 = .ok (.iconst 1, 1) := by decide +kernel
theorem dX3_putSingle_82 : decode cX3_putSingle 82 = .ok (.isub, 1) := by decide +kernel
theorem dX3_putSingle_83 : decode cX3_putSingle 83 = .ok (.if_icmp .ge 10, 3) := by decide +kernel
theorem dX3_putSingle_86 : decode cX3_putSingle 86 = .ok (.iload 4, 2) := by decide +kernel
theorem dX3_putSingle_88 : decode cX3_putSingle 88 = .ok (.iconst 1, 1) := by decide +kernel
theorem dX3_putSingle_89 : decode cX3_putSingle 89 = .ok (.ishl, 1) := by decide +kernel
theorem dX3_putSingle_90 : decode cX3_putSingle 90 = .ok (.goto 4, 3) := by decide +kernel
theorem dX3_putSingle_93 : decode cX3_putSingle 93 = .ok (.iconst 0, 1) := by decide +kernel
theorem dX3_putSingle_94 : decode cX3_putSingle 94 = .ok (.ior, 1) := by decide +kernel
theorem dX3_putSingle_95 : decode cX3_putSingle 95 = .ok (.istore 6, 2) := by decide +kernel
theorem dX3_putSingle_97 : decode cX3_putSingle 97 = .ok (.iload 6, 2) := by decide +kernel
theorem dX3_putSingle_99 : decode cX3_putSingle 99 = .ok (.iload_n 3, 1) := by decide +kernel
theorem dX3_putSingle_100 : decode cX3_putSingle 100 = .ok (.ifCond .le 13, 3) := by decide +kernel
theorem dX3_putSingle_103 : decode cX3_putSingle 103 = .ok (.iload 4, 2) := by decide +kernel
theorem dX3_putSingle_105 : decode cX3_putSingle 105 = .ok (.aload_n 1, 1) := by decide +kernel
theorem dX3_putSingle_106 : decode cX3_putSingle 106 = .ok (.getfield 46, 3) := by decide +kernel
theorem dX3_putSingle_109 : decode cX3_putSingle 109 = .ok (.ishr, 1) := by decide +kernel
theorem dX3_putSingle_110 : decode cX3_putSingle 110 = .ok (.goto 4, 3) := by decide +kernel
theorem dX3_putSingle_113 : decode cX3_putSingle 113 = .ok (.iconst 0, 1) := by decide +kernel
theorem dX3_putSingle_114 : decode cX3_putSingle 114 = .ok (.ior, 1) := by decide +kernel
theorem dX3_putSingle_115 : decode cX3_putSingle 115 = .ok (.istore 6, 2) := by decide +kernel
theorem dX3_putSingle_117 : decode cX3_putSingle 117 = .ok (.iload 6, 2) := by decide +kernel
theorem dX3_putSingle_119 : decode cX3_putSingle 119 = .ok (.iload_n 3, 1) := by decide +kernel
theorem dX3_putSingle_120 : decode cX3_putSingle 120 = .ok (.aload_n 1, 1) := by decide +kernel
theorem dX3_putSingle_121 : decode cX3_putSingle 121 = .ok (.getfield 43, 3) := by decide +kernel
theorem dX3_putSingle_124 : decode cX3_putSingle 124 = .ok (.iconst 1, 1) := by decide +kernel
theorem dX3_putSingle_125 : decode cX3_putSingle 125 = .ok (.isub, 1) := by decide +kernel
theorem dX3_putSingle_126 : decode cX3_putSingle 126 = .ok (.if_icmp .ge 13, 3) := by decide +kernel
theorem dX3_putSingle_129 : decode cX3_putSingle 129 = .ok (.iload 4, 2) := by decide +kernel
theorem dX3_putSingle_131 : decode cX3_putSingle 131 = .ok (.aload_n 1, 1) := by decide +kernel
theorem dX3_putSingle_132 : decode cX3_putSingle 132 = .ok (.getfield 46, 3) := by decide +kernel
theorem dX3_putSingle_135 : decode cX3_putSingle 135 = .ok (.ishl, 1) := by decide +kernel
theorem dX3_putSingle_136 : decode cX3_putSingle 136 = .ok (.goto 4, 3) := by decide +kernel
theorem dX3_putSingle_139 : decode cX3_putSingle 139 = .ok (.iconst 0, 1) := by decide +kernel
theorem dX3_putSingle_140 : decode cX3_putSingle 140 = .ok (.ior, 1) := by decide +kernel
theorem dX3_putSingle_141 : decode cX3_putSingle 141 = .ok (.istore 6, 2) := by decide +kernel
theorem dX3_putSingle_143 : decode cX3_putSingle 143 = .ok (.aload_n 0, 1) := by decide +kernel
theorem dX3_putSingle_144 : decode cX3_putSingle 144 = .ok (.getfield 21, 3) := by decide +kernel
theorem dX3_putSingle_147 : decode cX3_putSingle 147 = .ok (.iload 4, 2) := by decide +kernel
theorem dX3_putSingle_149 : decode cX3_putSingle 149 = .ok (.iload 6, 2) := by decide +kernel
theorem dX3_putSingle_151 : decode cX3_putSingle 151 = .ok (.iastore, 1) := by decide +kernel
theorem dX3_putSingle_152 : decode cX3_putSingle 152 = .ok (.return_, 1) := by decide +kernel
abbrev rm_X3_putSingle : Room := { frames := 1, cells := 0, slots := 0, locals := 23 }
theorem hd_X3_putSingle : yX3_putSingle.cls ≠ "java/lang/invoke/MethodHandle" ∧ yX3_putSingle.cls ≠ "java/lang/invoke/VarHandle" ∧ (parseMethodDescriptor yX3_putSingle.desc).map (fun d => d.parameters.length) = some 3 := by decide +kernel
def bk_X3_putSingle_140 (Q : ((Nat → Int32) × (Nat → Int32)) → Prop) (x4 : Int32) (f_needs : Nat → Int32) (f_beside : Nat → Int32) (s0 : Int32) (s1 : Int32) : Prop :=
∀ y11 : Int32, y11 = (s1 ||| s0) →
vp_in x4 1024 ∧ (∀ f12 : Nat → Int32, f12 = (upd f_beside x4.toNatClampNeg y11) →
Q (f_needs, f12))
def bk_X3_putSingle_114 (Q : ((Nat → Int32) × (Nat → Int32)) → Prop) (p3 : Int32) (x4 : Int32) (f_needs : Nat → Int32) (f_beside : Nat → Int32) (g_columns : Int32) (g_rows : Int32) (s0 : Int32) (s1 : Int32) : Prop :=
∀ y9 : Int32, y9 = (s1 ||| s0) →
(((g_rows - 1) ≤ p3 → bk_X3_putSingle_140 Q x4 f_needs f_beside 0 y9) ∧
(¬ (g_rows - 1) ≤ p3 → bk_X3_putSingle_140 Q x4 f_needs f_beside (x4 <<< (g_columns &&& 31)) y9))
def bk_X3_putSingle_94 (Q : ((Nat → Int32) × (Nat → Int32)) → Prop) (p3 : Int32) (x4 : Int32) (f_needs : Nat → Int32) (f_beside : Nat → Int32) (g_columns : Int32) (g_rows : Int32) (s0 : Int32) (s1 : Int32) : Prop :=
∀ y7 : Int32, y7 = (s1 ||| s0) →
((p3 ≤ 0 → bk_X3_putSingle_114 Q p3 x4 f_needs f_beside g_columns g_rows 0 y7) ∧
(¬ p3 ≤ 0 → bk_X3_putSingle_114 Q p3 x4 f_needs f_beside g_columns g_rows (x4 >>> (g_columns &&& 31)) y7))
def bk_X3_putSingle_71 (Q : ((Nat → Int32) × (Nat → Int32)) → Prop) (p2 : Int32) (p3 : Int32) (x4 : Int32) (f_needs : Nat → Int32) (f_beside : Nat → Int32) (g_columns : Int32) (g_rows : Int32) (s0 : Int32) (s1 : Int32) : Prop :=
∀ y5 : Int32, y5 = (s1 ||| s0) →
(((g_columns - 1) ≤ p2 → bk_X3_putSingle_94 Q p3 x4 f_needs f_beside g_columns g_rows 0 y5) ∧
(¬ (g_columns - 1) ≤ p2 → bk_X3_putSingle_94 Q p3 x4 f_needs f_beside g_columns g_rows (x4 <<< (1 &&& 31)) y5))
def bd_X3_putSingle_18 (Q : ((Nat → Int32) × (Nat → Int32)) → Prop) (B18 : Int32 → Int32 → Prop) (p2 : Int32) (p3 : Int32) (x4 : Int32) (f_needs : Nat → Int32) (f_beside : Nat → Int32) (g_columns : Int32) (g_rows : Int32) (x5 : Int32) (x6 : Int32) : Prop :=
((4 ≤ x6 → vp_in x4 1024 ∧ (∀ f3 : Nat → Int32, f3 = (upd f_needs x4.toNatClampNeg x5) →
((p2 ≤ 0 → bk_X3_putSingle_71 Q p2 p3 x4 f3 f_beside g_columns g_rows 0 0) ∧
(¬ p2 ≤ 0 → bk_X3_putSingle_71 Q p2 p3 x4 f3 f_beside g_columns g_rows (x4 >>> (1 &&& 31)) 0)))) ∧
(¬ 4 ≤ x6 → wp_X4_edgeAt p2 p3 x6 g_columns g_rows (fun (r13 : Int32) => ∀ y14 : Int32, y14 = (x5 ||| (1 <<< (r13 &&& 31))) →
∀ y15 : Int32, y15 = (x6 + 1) →
B18 y14 y15)))
def lp_X3_putSingle_18 (Q : ((Nat → Int32) × (Nat → Int32)) → Prop) (p2 : Int32) (p3 : Int32) (x4 : Int32) (f_needs : Nat → Int32) (f_beside : Nat → Int32) (g_columns : Int32) (g_rows : Int32) (x5 : Int32) (x6 : Int32) : Prop :=
∃ I : Nat → Int32 → Int32 → Prop, (∃ n, I n x5 x6) ∧ ∀ n x5 x6, I n x5 x6 → bd_X3_putSingle_18 Q  (fun x5' x6' => ∃ n', n' < n ∧ I n' x5' x6') p2 p3 x4 f_needs f_beside g_columns g_rows x5 x6
def wp_X3_putSingle (p2 : Int32) (p3 : Int32) (f_needs : Nat → Int32) (f_beside : Nat → Int32) (g_columns : Int32) (g_rows : Int32) (Q : ((Nat → Int32) × (Nat → Int32)) → Prop) : Prop :=
∀ y1 : Int32, y1 = (1 <<< (((g_columns * p3) + p2) &&& 31)) →
lp_X3_putSingle_18 Q p2 p3 y1 f_needs f_beside g_columns g_rows 0 0
set_option maxHeartbeats 4000000 in
set_option maxRecDepth 100000 in
theorem J_X3_putSingle_140 {x : CX} {D : DG} {cyI cyJ cyZ : ClassId} {a_f a_f_needs a_f_sideCounts a_f_yardSums a_f_beside a_g a_g_kinds a_g_wants : Nat} {f_all : Int32} {f_wanted : Int32} {f_mostSides : Int32} {f_needs : Nat → Int32} {f_sideCounts : Nat → Int32} {f_yardSums : Nat → Int32} {f_beside : Nat → Int32} {g_columns : Int32} {g_rows : Int32} {g_hedges : Int32} {g_hurdles : Int32} {g_wantCount : Int32} {g_rest : Int32} {g_frozen : Int32} {g_kinds : Nat → Int32} {g_wants : Nat → Int32} {x4 : Int32} {s0 : Int32} {s1 : Int32} {Q : ((Nat → Int32) × (Nat → Int32)) → Prop} (cx : Cx x cX3_putSingle 7 RX3 rm_X3_putSingle D [(cyI, .int), (cyJ, .long), (cyZ, .boolean)]) (hR : ∀ (u : (Nat → Int32) × (Nat → Int32)) (pc : Nat) (lv : List (Nat × Value)), decode cX3_putSingle pc = .ok (.return_, 1) → Q u → J x 0 0 7 (W_FTG cyI cyJ cyZ a_f a_f_needs a_f_sideCounts a_f_yardSums a_f_beside a_g a_g_kinds a_g_wants f_all f_wanted f_mostSides u.1 f_sideCounts f_yardSums u.2 g_columns g_rows g_hedges g_hurdles g_wantCount g_rest g_frozen g_kinds g_wants) lv pc []) (h : bk_X3_putSingle_140 Q  x4 f_needs f_beside s0 s1) :
    J x 0 0 7 (W_FTG cyI cyJ cyZ a_f a_f_needs a_f_sideCounts a_f_yardSums a_f_beside a_g a_g_kinds a_g_wants f_all f_wanted f_mostSides f_needs f_sideCounts f_yardSums f_beside g_columns g_rows g_hedges g_hurdles g_wantCount g_rest g_frozen g_kinds g_wants) [(0, .ref a_f), (4, .int x4)] 140 [.int s0, .int s1] := by
  unfold bk_X3_putSingle_140 at h
  refine j_ior cx dX3_putSingle_140 (pn := 141) rfl ?_
  refine j_topi (fun y11 ey11 => ?_)
  have h := h y11 ey11
  refine j_istore cx [(6, .int y11), (0, .ref a_f), (4, .int x4)] (by decide) rfl dX3_putSingle_141 (pn := 143) rfl ?_
  refine j_aload_n cx 1 rfl rfl dX3_putSingle_143 (pn := 144) rfl ?_
  refine j_get cx inGX3 0 rfl rfl 3 (by decide) q_fl_X3_21 rfl rfl dX3_putSingle_144 (pn := 147) rfl ?_
  refine j_iload cx 2 rfl dX3_putSingle_147 (pn := 149) rfl ?_
  refine j_iload cx 0 rfl dX3_putSingle_149 (pn := 151) rfl ?_
  have hin := h.1
  obtain ⟨f12, ef12⟩ : ∃ z, z = upd f_beside x4.toNatClampNeg y11 := ⟨_, rfl⟩
  have h := h.2 f12 ef12
  refine j_iast cx 4 0 rfl rfl hin (W_FTG cyI cyJ cyZ a_f a_f_needs a_f_sideCounts a_f_yardSums a_f_beside a_g a_g_kinds a_g_wants f_all f_wanted f_mostSides f_needs f_sideCounts f_yardSums f12 g_columns g_rows g_hedges g_hurdles g_wantCount g_rest g_frozen g_kinds g_wants) (by subst ef12; rfl) dX3_putSingle_151 (pn := 152) rfl ?_
  exact hR (f_needs, f12) 152 _ dX3_putSingle_152 h
set_option maxHeartbeats 4000000 in
set_option maxRecDepth 100000 in
theorem J_X3_putSingle_114 {x : CX} {D : DG} {cyI cyJ cyZ : ClassId} {a_f a_f_needs a_f_sideCounts a_f_yardSums a_f_beside a_g a_g_kinds a_g_wants : Nat} {f_all : Int32} {f_wanted : Int32} {f_mostSides : Int32} {f_needs : Nat → Int32} {f_sideCounts : Nat → Int32} {f_yardSums : Nat → Int32} {f_beside : Nat → Int32} {g_columns : Int32} {g_rows : Int32} {g_hedges : Int32} {g_hurdles : Int32} {g_wantCount : Int32} {g_rest : Int32} {g_frozen : Int32} {g_kinds : Nat → Int32} {g_wants : Nat → Int32} {p3 : Int32} {x4 : Int32} {s0 : Int32} {s1 : Int32} {Q : ((Nat → Int32) × (Nat → Int32)) → Prop} (cx : Cx x cX3_putSingle 7 RX3 rm_X3_putSingle D [(cyI, .int), (cyJ, .long), (cyZ, .boolean)]) (hR : ∀ (u : (Nat → Int32) × (Nat → Int32)) (pc : Nat) (lv : List (Nat × Value)), decode cX3_putSingle pc = .ok (.return_, 1) → Q u → J x 0 0 7 (W_FTG cyI cyJ cyZ a_f a_f_needs a_f_sideCounts a_f_yardSums a_f_beside a_g a_g_kinds a_g_wants f_all f_wanted f_mostSides u.1 f_sideCounts f_yardSums u.2 g_columns g_rows g_hedges g_hurdles g_wantCount g_rest g_frozen g_kinds g_wants) lv pc []) (h : bk_X3_putSingle_114 Q  p3 x4 f_needs f_beside g_columns g_rows s0 s1) :
    J x 0 0 7 (W_FTG cyI cyJ cyZ a_f a_f_needs a_f_sideCounts a_f_yardSums a_f_beside a_g a_g_kinds a_g_wants f_all f_wanted f_mostSides f_needs f_sideCounts f_yardSums f_beside g_columns g_rows g_hedges g_hurdles g_wantCount g_rest g_frozen g_kinds g_wants) [(0, .ref a_f), (1, .ref a_g), (3, .int p3), (4, .int x4)] 114 [.int s0, .int s1] := by
  unfold bk_X3_putSingle_114 at h
  refine j_ior cx dX3_putSingle_114 (pn := 115) rfl ?_
  refine j_topi (fun y9 ey9 => ?_)
  have h := h y9 ey9
  refine j_istore cx [(6, .int y9), (0, .ref a_f), (1, .ref a_g), (3, .int p3), (4, .int x4)] (by decide) rfl dX3_putSingle_115 (pn := 117) rfl ?_
  refine j_iload cx 0 rfl dX3_putSingle_117 (pn := 119) rfl ?_
  refine j_iload_n cx 3 rfl rfl dX3_putSingle_119 (pn := 120) rfl ?_
  refine j_aload_n cx 2 rfl rfl dX3_putSingle_120 (pn := 121) rfl ?_
  refine j_getN cx inGX4 5 rfl rfl 3 (by decide) q_fl_X3_43 rfl rfl dX3_putSingle_121 (pn := 124) rfl ?_
  refine j_iconst cx (v := 1) (by decide) dX3_putSingle_124 (pn := 125) rfl ?_
  refine j_isub cx dX3_putSingle_125 (pn := 126) rfl ?_
  refine j_icmp_ge cx 139 dX3_putSingle_126 (pn := 129) rfl rfl (fun c10 => ?_) (fun c10 => ?_)
  · have h := h.1 c10
    refine j_iconst cx (v := 0) (by decide) dX3_putSingle_139 (pn := 140) rfl ?_
    refine j_sub [1, 4] [(0, .ref a_f), (4, .int x4)] rfl ?_
    exact J_X3_putSingle_140 cx hR h
  · have h := h.2 c10
    refine j_iload cx 4 rfl dX3_putSingle_129 (pn := 131) rfl ?_
    refine j_aload_n cx 2 rfl rfl dX3_putSingle_131 (pn := 132) rfl ?_
    refine j_getN cx inGX4 5 rfl rfl 2 (by decide) q_fl_X3_46 rfl rfl dX3_putSingle_132 (pn := 135) rfl ?_
    refine j_ishl cx dX3_putSingle_135 (pn := 136) rfl ?_
    refine j_goto cx 140 dX3_putSingle_136 rfl ?_
    refine j_sub [1, 4] [(0, .ref a_f), (4, .int x4)] rfl ?_
    exact J_X3_putSingle_140 cx hR h
set_option maxHeartbeats 4000000 in
set_option maxRecDepth 100000 in
theorem J_X3_putSingle_94 {x : CX} {D : DG} {cyI cyJ cyZ : ClassId} {a_f a_f_needs a_f_sideCounts a_f_yardSums a_f_beside a_g a_g_kinds a_g_wants : Nat} {f_all : Int32} {f_wanted : Int32} {f_mostSides : Int32} {f_needs : Nat → Int32} {f_sideCounts : Nat → Int32} {f_yardSums : Nat → Int32} {f_beside : Nat → Int32} {g_columns : Int32} {g_rows : Int32} {g_hedges : Int32} {g_hurdles : Int32} {g_wantCount : Int32} {g_rest : Int32} {g_frozen : Int32} {g_kinds : Nat → Int32} {g_wants : Nat → Int32} {p3 : Int32} {x4 : Int32} {s0 : Int32} {s1 : Int32} {Q : ((Nat → Int32) × (Nat → Int32)) → Prop} (cx : Cx x cX3_putSingle 7 RX3 rm_X3_putSingle D [(cyI, .int), (cyJ, .long), (cyZ, .boolean)]) (hR : ∀ (u : (Nat → Int32) × (Nat → Int32)) (pc : Nat) (lv : List (Nat × Value)), decode cX3_putSingle pc = .ok (.return_, 1) → Q u → J x 0 0 7 (W_FTG cyI cyJ cyZ a_f a_f_needs a_f_sideCounts a_f_yardSums a_f_beside a_g a_g_kinds a_g_wants f_all f_wanted f_mostSides u.1 f_sideCounts f_yardSums u.2 g_columns g_rows g_hedges g_hurdles g_wantCount g_rest g_frozen g_kinds g_wants) lv pc []) (h : bk_X3_putSingle_94 Q  p3 x4 f_needs f_beside g_columns g_rows s0 s1) :
    J x 0 0 7 (W_FTG cyI cyJ cyZ a_f a_f_needs a_f_sideCounts a_f_yardSums a_f_beside a_g a_g_kinds a_g_wants f_all f_wanted f_mostSides f_needs f_sideCounts f_yardSums f_beside g_columns g_rows g_hedges g_hurdles g_wantCount g_rest g_frozen g_kinds g_wants) [(0, .ref a_f), (1, .ref a_g), (3, .int p3), (4, .int x4)] 94 [.int s0, .int s1] := by
  unfold bk_X3_putSingle_94 at h
  refine j_ior cx dX3_putSingle_94 (pn := 95) rfl ?_
  refine j_topi (fun y7 ey7 => ?_)
  have h := h y7 ey7
  refine j_istore cx [(6, .int y7), (0, .ref a_f), (1, .ref a_g), (3, .int p3), (4, .int x4)] (by decide) rfl dX3_putSingle_95 (pn := 97) rfl ?_
  refine j_iload cx 0 rfl dX3_putSingle_97 (pn := 99) rfl ?_
  refine j_iload_n cx 3 rfl rfl dX3_putSingle_99 (pn := 100) rfl ?_
  refine j_if_le cx 113 dX3_putSingle_100 (pn := 103) rfl rfl (fun c8 => ?_) (fun c8 => ?_)
  · have h := h.1 c8
    refine j_iconst cx (v := 0) (by decide) dX3_putSingle_113 (pn := 114) rfl ?_
    refine j_sub [1, 2, 3, 4] [(0, .ref a_f), (1, .ref a_g), (3, .int p3), (4, .int x4)] rfl ?_
    exact J_X3_putSingle_114 cx hR h
  · have h := h.2 c8
    refine j_iload cx 4 rfl dX3_putSingle_103 (pn := 105) rfl ?_
    refine j_aload_n cx 2 rfl rfl dX3_putSingle_105 (pn := 106) rfl ?_
    refine j_getN cx inGX4 5 rfl rfl 2 (by decide) q_fl_X3_46 rfl rfl dX3_putSingle_106 (pn := 109) rfl ?_
    refine j_ishr cx dX3_putSingle_109 (pn := 110) rfl ?_
    refine j_goto cx 114 dX3_putSingle_110 rfl ?_
    refine j_sub [1, 2, 3, 4] [(0, .ref a_f), (1, .ref a_g), (3, .int p3), (4, .int x4)] rfl ?_
    exact J_X3_putSingle_114 cx hR h
set_option maxHeartbeats 4000000 in
set_option maxRecDepth 100000 in
theorem J_X3_putSingle_71 {x : CX} {D : DG} {cyI cyJ cyZ : ClassId} {a_f a_f_needs a_f_sideCounts a_f_yardSums a_f_beside a_g a_g_kinds a_g_wants : Nat} {f_all : Int32} {f_wanted : Int32} {f_mostSides : Int32} {f_needs : Nat → Int32} {f_sideCounts : Nat → Int32} {f_yardSums : Nat → Int32} {f_beside : Nat → Int32} {g_columns : Int32} {g_rows : Int32} {g_hedges : Int32} {g_hurdles : Int32} {g_wantCount : Int32} {g_rest : Int32} {g_frozen : Int32} {g_kinds : Nat → Int32} {g_wants : Nat → Int32} {p2 : Int32} {p3 : Int32} {x4 : Int32} {s0 : Int32} {s1 : Int32} {Q : ((Nat → Int32) × (Nat → Int32)) → Prop} (cx : Cx x cX3_putSingle 7 RX3 rm_X3_putSingle D [(cyI, .int), (cyJ, .long), (cyZ, .boolean)]) (hR : ∀ (u : (Nat → Int32) × (Nat → Int32)) (pc : Nat) (lv : List (Nat × Value)), decode cX3_putSingle pc = .ok (.return_, 1) → Q u → J x 0 0 7 (W_FTG cyI cyJ cyZ a_f a_f_needs a_f_sideCounts a_f_yardSums a_f_beside a_g a_g_kinds a_g_wants f_all f_wanted f_mostSides u.1 f_sideCounts f_yardSums u.2 g_columns g_rows g_hedges g_hurdles g_wantCount g_rest g_frozen g_kinds g_wants) lv pc []) (h : bk_X3_putSingle_71 Q  p2 p3 x4 f_needs f_beside g_columns g_rows s0 s1) :
    J x 0 0 7 (W_FTG cyI cyJ cyZ a_f a_f_needs a_f_sideCounts a_f_yardSums a_f_beside a_g a_g_kinds a_g_wants f_all f_wanted f_mostSides f_needs f_sideCounts f_yardSums f_beside g_columns g_rows g_hedges g_hurdles g_wantCount g_rest g_frozen g_kinds g_wants) [(0, .ref a_f), (1, .ref a_g), (2, .int p2), (3, .int p3), (4, .int x4)] 71 [.int s0, .int s1] := by
  unfold bk_X3_putSingle_71 at h
  refine j_ior cx dX3_putSingle_71 (pn := 72) rfl ?_
  refine j_topi (fun y5 ey5 => ?_)
  have h := h y5 ey5
  refine j_istore cx [(6, .int y5), (0, .ref a_f), (1, .ref a_g), (2, .int p2), (3, .int p3), (4, .int x4)] (by decide) rfl dX3_putSingle_72 (pn := 74) rfl ?_
  refine j_iload cx 0 rfl dX3_putSingle_74 (pn := 76) rfl ?_
  refine j_iload_n cx 3 rfl rfl dX3_putSingle_76 (pn := 77) rfl ?_
  refine j_aload_n cx 2 rfl rfl dX3_putSingle_77 (pn := 78) rfl ?_
  refine j_getN cx inGX4 5 rfl rfl 2 (by decide) q_fl_X3_46 rfl rfl dX3_putSingle_78 (pn := 81) rfl ?_
  refine j_iconst cx (v := 1) (by decide) dX3_putSingle_81 (pn := 82) rfl ?_
  refine j_isub cx dX3_putSingle_82 (pn := 83) rfl ?_
  refine j_icmp_ge cx 93 dX3_putSingle_83 (pn := 86) rfl rfl (fun c6 => ?_) (fun c6 => ?_)
  · have h := h.1 c6
    refine j_iconst cx (v := 0) (by decide) dX3_putSingle_93 (pn := 94) rfl ?_
    refine j_sub [1, 2, 4, 5] [(0, .ref a_f), (1, .ref a_g), (3, .int p3), (4, .int x4)] rfl ?_
    exact J_X3_putSingle_94 cx hR h
  · have h := h.2 c6
    refine j_iload cx 5 rfl dX3_putSingle_86 (pn := 88) rfl ?_
    refine j_iconst cx (v := 1) (by decide) dX3_putSingle_88 (pn := 89) rfl ?_
    refine j_ishl cx dX3_putSingle_89 (pn := 90) rfl ?_
    refine j_goto cx 94 dX3_putSingle_90 rfl ?_
    refine j_sub [1, 2, 4, 5] [(0, .ref a_f), (1, .ref a_g), (3, .int p3), (4, .int x4)] rfl ?_
    exact J_X3_putSingle_94 cx hR h
set_option maxHeartbeats 4000000 in
set_option maxRecDepth 100000 in
theorem B_X3_putSingle_18 {x : CX} {D : DG} {cyI cyJ cyZ : ClassId} {a_f a_f_needs a_f_sideCounts a_f_yardSums a_f_beside a_g a_g_kinds a_g_wants : Nat} {f_all : Int32} {f_wanted : Int32} {f_mostSides : Int32} {f_needs : Nat → Int32} {f_sideCounts : Nat → Int32} {f_yardSums : Nat → Int32} {f_beside : Nat → Int32} {g_columns : Int32} {g_rows : Int32} {g_hedges : Int32} {g_hurdles : Int32} {g_wantCount : Int32} {g_rest : Int32} {g_frozen : Int32} {g_kinds : Nat → Int32} {g_wants : Nat → Int32} {p2 : Int32} {p3 : Int32} {x4 : Int32} {x5 : Int32} {x6 : Int32} {Q : ((Nat → Int32) × (Nat → Int32)) → Prop} {B18 : Int32 → Int32 → Prop} (cx : Cx x cX3_putSingle 7 RX3 rm_X3_putSingle D [(cyI, .int), (cyJ, .long), (cyZ, .boolean)]) (hR : ∀ (u : (Nat → Int32) × (Nat → Int32)) (pc : Nat) (lv : List (Nat × Value)), decode cX3_putSingle pc = .ok (.return_, 1) → Q u → J x 0 0 7 (W_FTG cyI cyJ cyZ a_f a_f_needs a_f_sideCounts a_f_yardSums a_f_beside a_g a_g_kinds a_g_wants f_all f_wanted f_mostSides u.1 f_sideCounts f_yardSums u.2 g_columns g_rows g_hedges g_hurdles g_wantCount g_rest g_frozen g_kinds g_wants) lv pc []) (hB18 : ∀ (x5 : Int32) (x6 : Int32), B18 x5 x6 → J x 0 0 7 (W_FTG cyI cyJ cyZ a_f a_f_needs a_f_sideCounts a_f_yardSums a_f_beside a_g a_g_kinds a_g_wants f_all f_wanted f_mostSides f_needs f_sideCounts f_yardSums f_beside g_columns g_rows g_hedges g_hurdles g_wantCount g_rest g_frozen g_kinds g_wants) [(0, .ref a_f), (1, .ref a_g), (2, .int p2), (3, .int p3), (4, .int x4), (5, .int x5), (6, .int x6)] 18 []) (h : bd_X3_putSingle_18 Q B18 p2 p3 x4 f_needs f_beside g_columns g_rows x5 x6) :
    J x 0 0 7 (W_FTG cyI cyJ cyZ a_f a_f_needs a_f_sideCounts a_f_yardSums a_f_beside a_g a_g_kinds a_g_wants f_all f_wanted f_mostSides f_needs f_sideCounts f_yardSums f_beside g_columns g_rows g_hedges g_hurdles g_wantCount g_rest g_frozen g_kinds g_wants) [(0, .ref a_f), (1, .ref a_g), (2, .int p2), (3, .int p3), (4, .int x4), (5, .int x5), (6, .int x6)] 18 [] := by
  unfold bd_X3_putSingle_18 at h
  refine j_iload cx 6 rfl dX3_putSingle_18 (pn := 20) rfl ?_
  refine j_iconst cx (v := 4) (by decide) dX3_putSingle_20 (pn := 21) rfl ?_
  refine j_icmp_ge cx 45 dX3_putSingle_21 (pn := 24) rfl rfl (fun c2 => ?_) (fun c2 => ?_)
  · have h := h.1 c2
    refine j_aload_n cx 0 rfl rfl dX3_putSingle_45 (pn := 46) rfl ?_
    refine j_get cx inGX3 0 rfl rfl 0 (by decide) q_fl_X3_9 rfl rfl dX3_putSingle_46 (pn := 49) rfl ?_
    refine j_iload cx 4 rfl dX3_putSingle_49 (pn := 51) rfl ?_
    refine j_iload cx 5 rfl dX3_putSingle_51 (pn := 53) rfl ?_
    have hin := h.1
    obtain ⟨f3, ef3⟩ : ∃ z, z = upd f_needs x4.toNatClampNeg x5 := ⟨_, rfl⟩
    have h := h.2 f3 ef3
    refine j_iast cx 1 0 rfl rfl hin (W_FTG cyI cyJ cyZ a_f a_f_needs a_f_sideCounts a_f_yardSums a_f_beside a_g a_g_kinds a_g_wants f_all f_wanted f_mostSides f3 f_sideCounts f_yardSums f_beside g_columns g_rows g_hedges g_hurdles g_wantCount g_rest g_frozen g_kinds g_wants) (by subst ef3; rfl) dX3_putSingle_53 (pn := 54) rfl ?_
    refine j_iconst cx (v := 0) (by decide) dX3_putSingle_54 (pn := 55) rfl ?_
    refine j_istore cx [(6, .int 0), (0, .ref a_f), (1, .ref a_g), (2, .int p2), (3, .int p3), (4, .int x4), (5, .int x5)] (by decide) rfl dX3_putSingle_55 (pn := 57) rfl ?_
    refine j_iload cx 0 rfl dX3_putSingle_57 (pn := 59) rfl ?_
    refine j_iload_n cx 3 rfl rfl dX3_putSingle_59 (pn := 60) rfl ?_
    refine j_if_le cx 70 dX3_putSingle_60 (pn := 63) rfl rfl (fun c4 => ?_) (fun c4 => ?_)
    · have h := h.1 c4
      refine j_iconst cx (v := 0) (by decide) dX3_putSingle_70 (pn := 71) rfl ?_
      refine j_sub [1, 2, 3, 4, 5] [(0, .ref a_f), (1, .ref a_g), (2, .int p2), (3, .int p3), (4, .int x4)] rfl ?_
      exact J_X3_putSingle_71 cx hR h
    · have h := h.2 c4
      refine j_iload cx 5 rfl dX3_putSingle_63 (pn := 65) rfl ?_
      refine j_iconst cx (v := 1) (by decide) dX3_putSingle_65 (pn := 66) rfl ?_
      refine j_ishr cx dX3_putSingle_66 (pn := 67) rfl ?_
      refine j_goto cx 71 dX3_putSingle_67 rfl ?_
      refine j_sub [1, 2, 3, 4, 5] [(0, .ref a_f), (1, .ref a_g), (2, .int p2), (3, .int p3), (4, .int x4)] rfl ?_
      exact J_X3_putSingle_71 cx hR h
  · have h := h.2 c2
    refine j_iload cx 5 rfl dX3_putSingle_24 (pn := 26) rfl ?_
    refine j_iconst cx (v := 1) (by decide) dX3_putSingle_26 (pn := 27) rfl ?_
    refine j_aload_n cx 1 rfl rfl dX3_putSingle_27 (pn := 28) rfl ?_
    refine j_iload_n cx 2 rfl rfl dX3_putSingle_28 (pn := 29) rfl ?_
    refine j_iload_n cx 3 rfl rfl dX3_putSingle_29 (pn := 30) rfl ?_
    refine j_iload cx 6 rfl dX3_putSingle_30 (pn := 32) rfl ?_
    refine j_callvI cx q_inst_X4_edgeAt q_sel_X4_edgeAt (b := a_g) (As := [.int p2, .int p3, .int x6]) (rest := [.int 1, .int x5]) (W_Ground cyI cyJ cyZ a_g a_g_kinds a_g_wants g_columns g_rows g_hedges g_hurdles g_wantCount g_rest g_frozen g_kinds g_wants) [(a_f, .inr (3, [.ref a_f_needs, .ref a_f_sideCounts, .ref a_f_yardSums, .ref a_f_beside, .int f_all, .int f_wanted, .int f_mostSides])), (a_f_needs, .inl (cyI, 1024, .inl f_needs)), (a_f_sideCounts, .inl (cyI, 1024, .inl f_sideCounts)), (a_f_yardSums, .inl (cyI, 1024, .inl f_yardSums)), (a_f_beside, .inl (cyI, 1024, .inl f_beside))] (c_X4_edgeAt h) ⟨q_code_X4_edgeAt, q_ml_X3_63, q_init_X4, hd_X4_edgeAt, ⟨Nat.le_of_ble_eq_true rfl, Nat.le_of_ble_eq_true rfl⟩, Nat.le_of_ble_eq_true rfl, Nat.le_of_ble_eq_true rfl⟩ (q0 := 0) rfl rfl rfl [5, 6, 7] [0, 1, 2, 3, 4] [0, 1, 2, 3, 4, 5, 6, 7] rfl rfl rfl rfl rfl (by decide) (fun _ : Unit => (W_FTG cyI cyJ cyZ a_f a_f_needs a_f_sideCounts a_f_yardSums a_f_beside a_g a_g_kinds a_g_wants f_all f_wanted f_mostSides f_needs f_sideCounts f_yardSums f_beside g_columns g_rows g_hedges g_hurdles g_wantCount g_rest g_frozen g_kinds g_wants)) (fun _ => rfl) (fun _ => rfl) rfl rfl (Nat.le_of_ble_eq_true rfl) dX3_putSingle_32 (pn := 35) rfl (fun r13 _ h => ?_)
    show J x 0 0 7 (W_FTG cyI cyJ cyZ a_f a_f_needs a_f_sideCounts a_f_yardSums a_f_beside a_g a_g_kinds a_g_wants f_all f_wanted f_mostSides f_needs f_sideCounts f_yardSums f_beside g_columns g_rows g_hedges g_hurdles g_wantCount g_rest g_frozen g_kinds g_wants) [(0, .ref a_f), (1, .ref a_g), (2, .int p2), (3, .int p3), (4, .int x4), (5, .int x5), (6, .int x6)] 35 [.int r13, .int 1, .int x5]
    refine j_ishl cx dX3_putSingle_35 (pn := 36) rfl ?_
    refine j_ior cx dX3_putSingle_36 (pn := 37) rfl ?_
    refine j_topi (fun y14 ey14 => ?_)
    have h := h y14 ey14
    refine j_istore cx [(5, .int y14), (0, .ref a_f), (1, .ref a_g), (2, .int p2), (3, .int p3), (4, .int x4), (6, .int x6)] (by decide) rfl dX3_putSingle_37 (pn := 39) rfl ?_
    obtain ⟨y15, ey15⟩ : ∃ z : Int32, z = x6 + 1 := ⟨_, rfl⟩
    have h := h y15 ey15
    refine j_iinc cx 6 rfl (cst := 1) (by decide) ey15 [(6, .int y15), (5, .int y14), (0, .ref a_f), (1, .ref a_g), (2, .int p2), (3, .int p3), (4, .int x4)] (by decide) rfl dX3_putSingle_39 (pn := 42) rfl ?_
    refine j_goto cx 18 dX3_putSingle_42 rfl ?_
    refine j_sub [2, 3, 4, 5, 6, 1, 0] [(0, .ref a_f), (1, .ref a_g), (2, .int p2), (3, .int p3), (4, .int x4), (5, .int y14), (6, .int y15)] rfl ?_
    exact hB18 _ _ h
set_option maxHeartbeats 4000000 in
set_option maxRecDepth 100000 in
theorem J_X3_putSingle_18 {x : CX} {D : DG} {cyI cyJ cyZ : ClassId} {a_f a_f_needs a_f_sideCounts a_f_yardSums a_f_beside a_g a_g_kinds a_g_wants : Nat} {f_all : Int32} {f_wanted : Int32} {f_mostSides : Int32} {f_needs : Nat → Int32} {f_sideCounts : Nat → Int32} {f_yardSums : Nat → Int32} {f_beside : Nat → Int32} {g_columns : Int32} {g_rows : Int32} {g_hedges : Int32} {g_hurdles : Int32} {g_wantCount : Int32} {g_rest : Int32} {g_frozen : Int32} {g_kinds : Nat → Int32} {g_wants : Nat → Int32} {p2 : Int32} {p3 : Int32} {x4 : Int32} {x5 : Int32} {x6 : Int32} {Q : ((Nat → Int32) × (Nat → Int32)) → Prop} (cx : Cx x cX3_putSingle 7 RX3 rm_X3_putSingle D [(cyI, .int), (cyJ, .long), (cyZ, .boolean)]) (hR : ∀ (u : (Nat → Int32) × (Nat → Int32)) (pc : Nat) (lv : List (Nat × Value)), decode cX3_putSingle pc = .ok (.return_, 1) → Q u → J x 0 0 7 (W_FTG cyI cyJ cyZ a_f a_f_needs a_f_sideCounts a_f_yardSums a_f_beside a_g a_g_kinds a_g_wants f_all f_wanted f_mostSides u.1 f_sideCounts f_yardSums u.2 g_columns g_rows g_hedges g_hurdles g_wantCount g_rest g_frozen g_kinds g_wants) lv pc []) (h : lp_X3_putSingle_18 Q  p2 p3 x4 f_needs f_beside g_columns g_rows x5 x6) :
    J x 0 0 7 (W_FTG cyI cyJ cyZ a_f a_f_needs a_f_sideCounts a_f_yardSums a_f_beside a_g a_g_kinds a_g_wants f_all f_wanted f_mostSides f_needs f_sideCounts f_yardSums f_beside g_columns g_rows g_hedges g_hurdles g_wantCount g_rest g_frozen g_kinds g_wants) [(0, .ref a_f), (1, .ref a_g), (2, .int p2), (3, .int p3), (4, .int x4), (5, .int x5), (6, .int x6)] 18 [] := by
  obtain ⟨I, ⟨n, h0⟩, hb⟩ := h
  revert x5 x6
  induction n using Nat.strongRecOn with
  | _ n ih =>
    intro x5 x6 h0
    exact B_X3_putSingle_18 cx hR (fun _ _ hz => by obtain ⟨n2, hlt, hI⟩ := hz; exact ih n2 hlt hI) (hb n x5 x6 h0)
set_option maxHeartbeats 4000000 in
set_option maxRecDepth 100000 in
theorem c_X3_putSingle {D : DG} {cyI cyJ cyZ : ClassId} {a_f a_f_needs a_f_sideCounts a_f_yardSums a_f_beside a_g a_g_kinds a_g_wants : Nat} {f_all : Int32} {f_wanted : Int32} {f_mostSides : Int32} {f_needs : Nat → Int32} {f_sideCounts : Nat → Int32} {f_yardSums : Nat → Int32} {f_beside : Nat → Int32} {g_columns : Int32} {g_rows : Int32} {g_hedges : Int32} {g_hurdles : Int32} {g_wantCount : Int32} {g_rest : Int32} {g_frozen : Int32} {g_kinds : Nat → Int32} {g_wants : Nat → Int32} {p2 : Int32} {p3 : Int32} {Q : ((Nat → Int32) × (Nat → Int32)) → Prop} (h : wp_X3_putSingle p2 p3 f_needs f_beside g_columns g_rows Q) :
    MetV yX3_putSingle cX3_putSingle 7 (none) rm_X3_putSingle D [(cyI, .int), (cyJ, .long), (cyZ, .boolean)] [.ref a_f, .ref a_g, .int p2, .int p3] (W_FTG cyI cyJ cyZ a_f a_f_needs a_f_sideCounts a_f_yardSums a_f_beside a_g a_g_kinds a_g_wants f_all f_wanted f_mostSides f_needs f_sideCounts f_yardSums f_beside g_columns g_rows g_hedges g_hurdles g_wantCount g_rest g_frozen g_kinds g_wants) (fun u : (Nat → Int32) × (Nat → Int32) => (W_FTG cyI cyJ cyZ a_f a_f_needs a_f_sideCounts a_f_yardSums a_f_beside a_g a_g_kinds a_g_wants f_all f_wanted f_mostSides u.1 f_sideCounts f_yardSums u.2 g_columns g_rows g_hedges g_hurdles g_wantCount g_rest g_frozen g_kinds g_wants)) (fun u => Q u) := by
  unfold wp_X3_putSingle at h
  refine metV_of (by decide) (Nat.le_of_ble_eq_true rfl) (fun x cx0 hR0 => ?_)
  have cx : Cx x cX3_putSingle 7 RX3 rm_X3_putSingle D [(cyI, .int), (cyJ, .long), (cyZ, .boolean)] := cx0
  have hR : ∀ (u : (Nat → Int32) × (Nat → Int32)) (pc : Nat) (lv : List (Nat × Value)), decode cX3_putSingle pc = .ok (.return_, 1) → Q u → J x 0 0 7 (W_FTG cyI cyJ cyZ a_f a_f_needs a_f_sideCounts a_f_yardSums a_f_beside a_g a_g_kinds a_g_wants f_all f_wanted f_mostSides u.1 f_sideCounts f_yardSums u.2 g_columns g_rows g_hedges g_hurdles g_wantCount g_rest g_frozen g_kinds g_wants) lv pc [] := (fun u pc lv d hq => hR0 u pc lv d hq)
  show J x 0 0 7 (W_FTG cyI cyJ cyZ a_f a_f_needs a_f_sideCounts a_f_yardSums a_f_beside a_g a_g_kinds a_g_wants f_all f_wanted f_mostSides f_needs f_sideCounts f_yardSums f_beside g_columns g_rows g_hedges g_hurdles g_wantCount g_rest g_frozen g_kinds g_wants) [(0, .ref a_f), (1, .ref a_g), (2, .int p2), (3, .int p3)] 0 []
  refine j_iconst cx (v := 1) (by decide) dX3_putSingle_0 (pn := 1) rfl ?_
  refine j_aload_n cx 1 rfl rfl dX3_putSingle_1 (pn := 2) rfl ?_
  refine j_getN cx inGX4 5 rfl rfl 2 (by decide) q_fl_X3_46 rfl rfl dX3_putSingle_2 (pn := 5) rfl ?_
  refine j_iload_n cx 3 rfl rfl dX3_putSingle_5 (pn := 6) rfl ?_
  refine j_imul cx dX3_putSingle_6 (pn := 7) rfl ?_
  refine j_iload_n cx 2 rfl rfl dX3_putSingle_7 (pn := 8) rfl ?_
  refine j_iadd cx dX3_putSingle_8 (pn := 9) rfl ?_
  refine j_ishl cx dX3_putSingle_9 (pn := 10) rfl ?_
  refine j_topi (fun y1 ey1 => ?_)
  have h := h y1 ey1
  refine j_istore cx [(4, .int y1), (0, .ref a_f), (1, .ref a_g), (2, .int p2), (3, .int p3)] (by decide) rfl dX3_putSingle_10 (pn := 12) rfl ?_
  refine j_iconst cx (v := 0) (by decide) dX3_putSingle_12 (pn := 13) rfl ?_
  refine j_istore cx [(5, .int 0), (4, .int y1), (0, .ref a_f), (1, .ref a_g), (2, .int p2), (3, .int p3)] (by decide) rfl dX3_putSingle_13 (pn := 15) rfl ?_
  refine j_iconst cx (v := 0) (by decide) dX3_putSingle_15 (pn := 16) rfl ?_
  refine j_istore cx [(6, .int 0), (5, .int 0), (4, .int y1), (0, .ref a_f), (1, .ref a_g), (2, .int p2), (3, .int p3)] (by decide) rfl dX3_putSingle_16 (pn := 18) rfl ?_
  refine j_sub [3, 4, 5, 6, 2, 1, 0] [(0, .ref a_f), (1, .ref a_g), (2, .int p2), (3, .int p3), (4, .int y1), (5, .int 0), (6, .int 0)] rfl ?_
  exact J_X3_putSingle_18 cx hR h
theorem dX3_joinAll_0 : decode cX3_joinAll 0 = .ok (.iconst 1, 1) := by decide +kernel
theorem dX3_joinAll_1 : decode cX3_joinAll 1 = .ok (.istore_n 1, 1) := by decide +kernel
theorem dX3_joinAll_2 : decode cX3_joinAll 2 = .ok (.iload_n 1, 1) := by decide +kernel
theorem dX3_joinAll_3 : decode cX3_joinAll 3 = .ok (.aload_n 0, 1) := by decide +kernel
theorem dX3_joinAll_4 : decode cX3_joinAll 4 = .ok (.getfield 30, 3) := by decide +kernel
theorem dX3_joinAll_7 : decode cX3_joinAll 7 = .ok (.if_icmp .gt 79, 3) := by decide +kernel
theorem dX3_joinAll_10 : decode cX3_joinAll 10 = .ok (.iload_n 1, 1) := by decide +kernel
theorem dX3_joinAll_11 : decode cX3_joinAll 11 = .ok (.iload_n 1, 1) := by decide +kernel
theorem dX3_joinAll_12 : decode cX3_joinAll 12 = .ok (.ineg, 1) := by decide +kernel
theorem dX3_joinAll_13 : decode cX3_joinAll 13 = .ok (.iand, 1) := by decide +kernel
theorem dX3_joinAll_14 : decode cX3_joinAll 14 = .ok (.istore_n 2, 1) := by decide +kernel
theorem dX3_joinAll_15 : decode cX3_joinAll 15 = .ok (.iload_n 1, 1) := by decide +kernel
theorem dX3_joinAll_16 : decode cX3_joinAll 16 = .ok (.iload_n 2, 1) := by decide +kernel
theorem dX3_joinAll_17 : decode cX3_joinAll 17 = .ok (.ixor, 1) := by decide +kernel
theorem dX3_joinAll_18 : decode cX3_joinAll 18 = .ok (.istore_n 3, 1) := by decide +kernel
theorem dX3_joinAll_19 : decode cX3_joinAll 19 = .ok (.iload_n 3, 1) := by decide +kernel
theorem dX3_joinAll_20 : decode cX3_joinAll 20 = .ok (.ifCond .eq 60, 3) := by decide +kernel
theorem dX3_joinAll_23 : decode cX3_joinAll 23 = .ok (.aload_n 0, 1) := by decide +kernel
theorem dX3_joinAll_24 : decode cX3_joinAll 24 = .ok (.getfield 9, 3) := by decide +kernel
theorem dX3_joinAll_27 : decode cX3_joinAll 27 = .ok (.iload_n 1, 1) := by decide +kernel
theorem dX3_joinAll_28 : decode cX3_joinAll 28 = .ok (.aload_n 0, 1) := by decide +kernel
theorem dX3_joinAll_29 : decode cX3_joinAll 29 = .ok (.getfield 9, 3) := by decide +kernel
theorem dX3_joinAll_32 : decode cX3_joinAll 32 = .ok (.iload_n 3, 1) := by decide +kernel
theorem dX3_joinAll_33 : decode cX3_joinAll 33 = .ok (.iaload, 1) := by decide +kernel
theorem dX3_joinAll_34 : decode cX3_joinAll 34 = .ok (.aload_n 0, 1) := by decide +kernel
theorem dX3_joinAll_35 : decode cX3_joinAll 35 = .ok (.getfield 9, 3) := by decide +kernel
theorem dX3_joinAll_38 : decode cX3_joinAll 38 = .ok (.iload_n 2, 1) := by decide +kernel
theorem dX3_joinAll_39 : decode cX3_joinAll 39 = .ok (.iaload, 1) := by decide +kernel
theorem dX3_joinAll_40 : decode cX3_joinAll 40 = .ok (.ixor, 1) := by decide +kernel
theorem dX3_joinAll_41 : decode cX3_joinAll 41 = .ok (.iastore, 1) := by decide +kernel
theorem dX3_joinAll_42 : decode cX3_joinAll 42 = .ok (.aload_n 0, 1) := by decide +kernel
theorem dX3_joinAll_43 : decode cX3_joinAll 43 = .ok (.getfield 21, 3) := by decide +kernel
theorem dX3_joinAll_46 : decode cX3_joinAll 46 = .ok (.iload_n 1, 1) := by decide +kernel
theorem dX3_joinAll_47 : decode cX3_joinAll 47 = .ok (.aload_n 0, 1) := by decide +kernel
theorem dX3_joinAll_48 : decode cX3_joinAll 48 = .ok (.getfield 21, 3) := by decide +kernel
theorem dX3_joinAll_51 : decode cX3_joinAll 51 = .ok (.iload_n 3, 1) := by decide +kernel
theorem dX3_joinAll_52 : decode cX3_joinAll 52 = .ok (.iaload, 1) := by decide +kernel
theorem dX3_joinAll_53 : decode cX3_joinAll 53 = .ok (.aload_n 0, 1) := by decide +kernel
theorem dX3_joinAll_54 : decode cX3_joinAll 54 = .ok (.getfield 21, 3) := by decide +kernel
theorem dX3_joinAll_57 : decode cX3_joinAll 57 = .ok (.iload_n 2, 1) := by decide +kernel
theorem dX3_joinAll_58 : decode cX3_joinAll 58 = .ok (.iaload, 1) := by decide +kernel
theorem dX3_joinAll_59 : decode cX3_joinAll 59 = .ok (.ior, 1) := by decide +kernel
theorem dX3_joinAll_60 : decode cX3_joinAll 60 = .ok (.iastore, 1) := by decide +kernel
theorem dX3_joinAll_61 : decode cX3_joinAll 61 = .ok (.aload_n 0, 1) := by decide +kernel
theorem dX3_joinAll_62 : decode cX3_joinAll 62 = .ok (.getfield 18, 3) := by decide +kernel
theorem dX3_joinAll_65 : decode cX3_joinAll 65 = .ok (.iload_n 1, 1) := by decide +kernel
theorem dX3_joinAll_66 : decode cX3_joinAll 66 = .ok (.aload_n 0, 1) := by decide +kernel
theorem dX3_joinAll_67 : decode cX3_joinAll 67 = .ok (.getfield 18, 3) := by decide +kernel
theorem dX3_joinAll_70 : decode cX3_joinAll 70 = .ok (.iload_n 3, 1) := by decide +kernel
theorem dX3_joinAll_71 : decode cX3_joinAll 71 = .ok (.iaload, 1) := by decide +kernel
theorem dX3_joinAll_72 : decode cX3_joinAll 72 = .ok (.aload_n 0, 1) := by decide +kernel
theorem dX3_joinAll_73 : decode cX3_joinAll 73 = .ok (.getfield 18, 3) := by decide +kernel
theorem dX3_joinAll_76 : decode cX3_joinAll 76 = .ok (.iload_n 2, 1) := by decide +kernel
theorem dX3_joinAll_77 : decode cX3_joinAll 77 = .ok (.iaload, 1) := by decide +kernel
theorem dX3_joinAll_78 : decode cX3_joinAll 78 = .ok (.iadd, 1) := by decide +kernel
theorem dX3_joinAll_79 : decode cX3_joinAll 79 = .ok (.iastore, 1) := by decide +kernel
theorem dX3_joinAll_80 : decode cX3_joinAll 80 = .ok (.iinc 1 1, 3) := by decide +kernel
theorem dX3_joinAll_83 : decode cX3_joinAll 83 = .ok (.goto (-81), 3) := by decide +kernel
theorem dX3_joinAll_86 : decode cX3_joinAll 86 = .ok (.return_, 1) := by decide +kernel
abbrev rm_X3_joinAll : Room := { frames := 0, cells := 0, slots := 0, locals := 0 }
theorem hd_X3_joinAll : yX3_joinAll.cls ≠ "java/lang/invoke/MethodHandle" ∧ yX3_joinAll.cls ≠ "java/lang/invoke/VarHandle" ∧ (parseMethodDescriptor yX3_joinAll.desc).map (fun d => d.parameters.length) = some 0 := by decide +kernel
def bk_X3_joinAll_80 (Q : ((Nat → Int32) × (Nat → Int32) × (Nat → Int32)) → Prop) (B2 : (Nat → Int32) → (Nat → Int32) → (Nat → Int32) → Int32 → Prop) (x1 : Int32) (f_needs : Nat → Int32) (f_yardSums : Nat → Int32) (f_beside : Nat → Int32) : Prop :=
∀ y5 : Int32, y5 = (x1 + 1) →
B2 f_needs f_yardSums f_beside y5
def bd_X3_joinAll_2 (Q : ((Nat → Int32) × (Nat → Int32) × (Nat → Int32)) → Prop) (B2 : (Nat → Int32) → (Nat → Int32) → (Nat → Int32) → Int32 → Prop) (f_all : Int32) (f_needs : Nat → Int32) (f_yardSums : Nat → Int32) (f_beside : Nat → Int32) (x1 : Int32) : Prop :=
((f_all < x1 → Q (f_needs, f_yardSums, f_beside)) ∧
(¬ f_all < x1 → ∀ y2 : Int32, y2 = (x1 &&& (-x1)) →
∀ y3 : Int32, y3 = (x1 ^^^ y2) →
((y3 = 0 → bk_X3_joinAll_80 Q B2 x1 f_needs f_yardSums f_beside) ∧
(¬ y3 = 0 → vp_in y3 1024 ∧ vp_in y2 1024 ∧ (∀ y6 : Int32, y6 = ((f_needs y3.toNatClampNeg) ^^^ (f_needs y2.toNatClampNeg)) →
vp_in x1 1024 ∧ (∀ f7 : Nat → Int32, f7 = (upd f_needs x1.toNatClampNeg y6) →
vp_in y3 1024 ∧ vp_in y2 1024 ∧ (∀ y8 : Int32, y8 = ((f_beside y3.toNatClampNeg) ||| (f_beside y2.toNatClampNeg)) →
vp_in x1 1024 ∧ (∀ f9 : Nat → Int32, f9 = (upd f_beside x1.toNatClampNeg y8) →
vp_in y3 1024 ∧ vp_in y2 1024 ∧ (∀ y10 : Int32, y10 = ((f_yardSums y3.toNatClampNeg) + (f_yardSums y2.toNatClampNeg)) →
vp_in x1 1024 ∧ (∀ f11 : Nat → Int32, f11 = (upd f_yardSums x1.toNatClampNeg y10) →
bk_X3_joinAll_80 Q B2 x1 f7 f11 f9))))))))))
def lp_X3_joinAll_2 (Q : ((Nat → Int32) × (Nat → Int32) × (Nat → Int32)) → Prop) (f_all : Int32) (f_needs : Nat → Int32) (f_yardSums : Nat → Int32) (f_beside : Nat → Int32) (x1 : Int32) : Prop :=
∃ I : Nat → (Nat → Int32) → (Nat → Int32) → (Nat → Int32) → Int32 → Prop, (∃ n, I n f_needs f_yardSums f_beside x1) ∧ ∀ n f_needs f_yardSums f_beside x1, I n f_needs f_yardSums f_beside x1 → bd_X3_joinAll_2 Q  (fun f_needs' f_yardSums' f_beside' x1' => ∃ n', n' < n ∧ I n' f_needs' f_yardSums' f_beside' x1') f_all f_needs f_yardSums f_beside x1
def wp_X3_joinAll (f_all : Int32) (f_needs : Nat → Int32) (f_yardSums : Nat → Int32) (f_beside : Nat → Int32) (Q : ((Nat → Int32) × (Nat → Int32) × (Nat → Int32)) → Prop) : Prop :=
lp_X3_joinAll_2 Q f_all f_needs f_yardSums f_beside 1
set_option maxHeartbeats 4000000 in
set_option maxRecDepth 100000 in
theorem J_X3_joinAll_80 {x : CX} {D : DG} {cyI cyJ cyZ : ClassId} {a_f a_f_needs a_f_sideCounts a_f_yardSums a_f_beside : Nat} {f_all : Int32} {f_wanted : Int32} {f_mostSides : Int32} {f_needs : Nat → Int32} {f_sideCounts : Nat → Int32} {f_yardSums : Nat → Int32} {f_beside : Nat → Int32} {x1 : Int32} {Q : ((Nat → Int32) × (Nat → Int32) × (Nat → Int32)) → Prop} {B2 : (Nat → Int32) → (Nat → Int32) → (Nat → Int32) → Int32 → Prop} (cx : Cx x cX3_joinAll 4 RX3 rm_X3_joinAll D [(cyI, .int), (cyJ, .long), (cyZ, .boolean)]) (hR : ∀ (u : (Nat → Int32) × (Nat → Int32) × (Nat → Int32)) (pc : Nat) (lv : List (Nat × Value)), decode cX3_joinAll pc = .ok (.return_, 1) → Q u → J x 0 0 4 (W_FT cyI cyJ cyZ a_f a_f_needs a_f_sideCounts a_f_yardSums a_f_beside f_all f_wanted f_mostSides u.1 f_sideCounts u.2.1 u.2.2) lv pc []) (hB2 : ∀ (f_needs : Nat → Int32) (f_yardSums : Nat → Int32) (f_beside : Nat → Int32) (x1 : Int32), B2 f_needs f_yardSums f_beside x1 → J x 0 0 4 (W_FT cyI cyJ cyZ a_f a_f_needs a_f_sideCounts a_f_yardSums a_f_beside f_all f_wanted f_mostSides f_needs f_sideCounts f_yardSums f_beside) [(0, .ref a_f), (1, .int x1)] 2 []) (h : bk_X3_joinAll_80 Q B2 x1 f_needs f_yardSums f_beside) :
    J x 0 0 4 (W_FT cyI cyJ cyZ a_f a_f_needs a_f_sideCounts a_f_yardSums a_f_beside f_all f_wanted f_mostSides f_needs f_sideCounts f_yardSums f_beside) [(0, .ref a_f), (1, .int x1)] 80 [] := by
  unfold bk_X3_joinAll_80 at h
  obtain ⟨y5, ey5⟩ : ∃ z : Int32, z = x1 + 1 := ⟨_, rfl⟩
  have h := h y5 ey5
  refine j_iinc cx 1 rfl (cst := 1) (by decide) ey5 [(1, .int y5), (0, .ref a_f)] (by decide) rfl dX3_joinAll_80 (pn := 83) rfl ?_
  refine j_goto cx 2 dX3_joinAll_83 rfl ?_
  refine j_sub [1, 0] [(0, .ref a_f), (1, .int y5)] rfl ?_
  exact hB2 _ _ _ _ h
set_option maxHeartbeats 4000000 in
set_option maxRecDepth 100000 in
theorem B_X3_joinAll_2 {x : CX} {D : DG} {cyI cyJ cyZ : ClassId} {a_f a_f_needs a_f_sideCounts a_f_yardSums a_f_beside : Nat} {f_all : Int32} {f_wanted : Int32} {f_mostSides : Int32} {f_needs : Nat → Int32} {f_sideCounts : Nat → Int32} {f_yardSums : Nat → Int32} {f_beside : Nat → Int32} {x1 : Int32} {Q : ((Nat → Int32) × (Nat → Int32) × (Nat → Int32)) → Prop} {B2 : (Nat → Int32) → (Nat → Int32) → (Nat → Int32) → Int32 → Prop} (cx : Cx x cX3_joinAll 4 RX3 rm_X3_joinAll D [(cyI, .int), (cyJ, .long), (cyZ, .boolean)]) (hR : ∀ (u : (Nat → Int32) × (Nat → Int32) × (Nat → Int32)) (pc : Nat) (lv : List (Nat × Value)), decode cX3_joinAll pc = .ok (.return_, 1) → Q u → J x 0 0 4 (W_FT cyI cyJ cyZ a_f a_f_needs a_f_sideCounts a_f_yardSums a_f_beside f_all f_wanted f_mostSides u.1 f_sideCounts u.2.1 u.2.2) lv pc []) (hB2 : ∀ (f_needs : Nat → Int32) (f_yardSums : Nat → Int32) (f_beside : Nat → Int32) (x1 : Int32), B2 f_needs f_yardSums f_beside x1 → J x 0 0 4 (W_FT cyI cyJ cyZ a_f a_f_needs a_f_sideCounts a_f_yardSums a_f_beside f_all f_wanted f_mostSides f_needs f_sideCounts f_yardSums f_beside) [(0, .ref a_f), (1, .int x1)] 2 []) (h : bd_X3_joinAll_2 Q B2 f_all f_needs f_yardSums f_beside x1) :
    J x 0 0 4 (W_FT cyI cyJ cyZ a_f a_f_needs a_f_sideCounts a_f_yardSums a_f_beside f_all f_wanted f_mostSides f_needs f_sideCounts f_yardSums f_beside) [(0, .ref a_f), (1, .int x1)] 2 [] := by
  unfold bd_X3_joinAll_2 at h
  refine j_iload_n cx 1 rfl rfl dX3_joinAll_2 (pn := 3) rfl ?_
  refine j_aload_n cx 0 rfl rfl dX3_joinAll_3 (pn := 4) rfl ?_
  refine j_get cx inGX3 0 rfl rfl 4 (by decide) q_fl_X3_30 rfl rfl dX3_joinAll_4 (pn := 7) rfl ?_
  refine j_icmp_gt cx 86 dX3_joinAll_7 (pn := 10) rfl rfl (fun c1 => ?_) (fun c1 => ?_)
  · have h := h.1 c1
    exact hR (f_needs, f_yardSums, f_beside) 86 _ dX3_joinAll_86 h
  · have h := h.2 c1
    refine j_iload_n cx 1 rfl rfl dX3_joinAll_10 (pn := 11) rfl ?_
    refine j_iload_n cx 1 rfl rfl dX3_joinAll_11 (pn := 12) rfl ?_
    refine j_ineg cx dX3_joinAll_12 (pn := 13) rfl ?_
    refine j_iand cx dX3_joinAll_13 (pn := 14) rfl ?_
    refine j_topi (fun y2 ey2 => ?_)
    have h := h y2 ey2
    refine j_istore_n cx rfl [(2, .int y2), (0, .ref a_f), (1, .int x1)] (by decide) rfl dX3_joinAll_14 (pn := 15) rfl ?_
    refine j_iload_n cx 2 rfl rfl dX3_joinAll_15 (pn := 16) rfl ?_
    refine j_iload_n cx 0 rfl rfl dX3_joinAll_16 (pn := 17) rfl ?_
    refine j_ixor cx dX3_joinAll_17 (pn := 18) rfl ?_
    refine j_topi (fun y3 ey3 => ?_)
    have h := h y3 ey3
    refine j_istore_n cx rfl [(3, .int y3), (2, .int y2), (0, .ref a_f), (1, .int x1)] (by decide) rfl dX3_joinAll_18 (pn := 19) rfl ?_
    refine j_iload_n cx 0 rfl rfl dX3_joinAll_19 (pn := 20) rfl ?_
    refine j_if_eq cx 80 dX3_joinAll_20 (pn := 23) rfl rfl (fun c4 => ?_) (fun c4 => ?_)
    · have h := h.1 c4
      refine j_sub [2, 3] [(0, .ref a_f), (1, .int x1)] rfl ?_
      exact J_X3_joinAll_80 cx hR hB2 h
    · have h := h.2 c4
      refine j_aload_n cx 2 rfl rfl dX3_joinAll_23 (pn := 24) rfl ?_
      refine j_get cx inGX3 0 rfl rfl 0 (by decide) q_fl_X3_9 rfl rfl dX3_joinAll_24 (pn := 27) rfl ?_
      refine j_iload_n cx 3 rfl rfl dX3_joinAll_27 (pn := 28) rfl ?_
      refine j_aload_n cx 2 rfl rfl dX3_joinAll_28 (pn := 29) rfl ?_
      refine j_get cx inGX3 0 rfl rfl 0 (by decide) q_fl_X3_9 rfl rfl dX3_joinAll_29 (pn := 32) rfl ?_
      refine j_iload_n cx 0 rfl rfl dX3_joinAll_32 (pn := 33) rfl ?_
      refine j_iald cx 1 0 rfl rfl h.1 dX3_joinAll_33 (pn := 34) rfl ?_
      have h := h.2
      refine j_aload_n cx 2 rfl rfl dX3_joinAll_34 (pn := 35) rfl ?_
      refine j_get cx inGX3 0 rfl rfl 0 (by decide) q_fl_X3_9 rfl rfl dX3_joinAll_35 (pn := 38) rfl ?_
      refine j_iload_n cx 1 rfl rfl dX3_joinAll_38 (pn := 39) rfl ?_
      refine j_iald cx 1 0 rfl rfl h.1 dX3_joinAll_39 (pn := 40) rfl ?_
      have h := h.2
      refine j_ixor cx dX3_joinAll_40 (pn := 41) rfl ?_
      refine j_topi (fun y6 ey6 => ?_)
      have h := h y6 ey6
      have hin := h.1
      obtain ⟨f7, ef7⟩ : ∃ z, z = upd f_needs x1.toNatClampNeg y6 := ⟨_, rfl⟩
      have h := h.2 f7 ef7
      refine j_iast cx 1 0 rfl rfl hin (W_FT cyI cyJ cyZ a_f a_f_needs a_f_sideCounts a_f_yardSums a_f_beside f_all f_wanted f_mostSides f7 f_sideCounts f_yardSums f_beside) (by subst ef7; rfl) dX3_joinAll_41 (pn := 42) rfl ?_
      refine j_aload_n cx 2 rfl rfl dX3_joinAll_42 (pn := 43) rfl ?_
      refine j_get cx inGX3 0 rfl rfl 3 (by decide) q_fl_X3_21 rfl rfl dX3_joinAll_43 (pn := 46) rfl ?_
      refine j_iload_n cx 3 rfl rfl dX3_joinAll_46 (pn := 47) rfl ?_
      refine j_aload_n cx 2 rfl rfl dX3_joinAll_47 (pn := 48) rfl ?_
      refine j_get cx inGX3 0 rfl rfl 3 (by decide) q_fl_X3_21 rfl rfl dX3_joinAll_48 (pn := 51) rfl ?_
      refine j_iload_n cx 0 rfl rfl dX3_joinAll_51 (pn := 52) rfl ?_
      refine j_iald cx 4 0 rfl rfl h.1 dX3_joinAll_52 (pn := 53) rfl ?_
      have h := h.2
      refine j_aload_n cx 2 rfl rfl dX3_joinAll_53 (pn := 54) rfl ?_
      refine j_get cx inGX3 0 rfl rfl 3 (by decide) q_fl_X3_21 rfl rfl dX3_joinAll_54 (pn := 57) rfl ?_
      refine j_iload_n cx 1 rfl rfl dX3_joinAll_57 (pn := 58) rfl ?_
      refine j_iald cx 4 0 rfl rfl h.1 dX3_joinAll_58 (pn := 59) rfl ?_
      have h := h.2
      refine j_ior cx dX3_joinAll_59 (pn := 60) rfl ?_
      refine j_topi (fun y8 ey8 => ?_)
      have h := h y8 ey8
      have hin := h.1
      obtain ⟨f9, ef9⟩ : ∃ z, z = upd f_beside x1.toNatClampNeg y8 := ⟨_, rfl⟩
      have h := h.2 f9 ef9
      refine j_iast cx 4 0 rfl rfl hin (W_FT cyI cyJ cyZ a_f a_f_needs a_f_sideCounts a_f_yardSums a_f_beside f_all f_wanted f_mostSides f7 f_sideCounts f_yardSums f9) (by subst ef9; rfl) dX3_joinAll_60 (pn := 61) rfl ?_
      refine j_aload_n cx 2 rfl rfl dX3_joinAll_61 (pn := 62) rfl ?_
      refine j_get cx inGX3 0 rfl rfl 2 (by decide) q_fl_X3_18 rfl rfl dX3_joinAll_62 (pn := 65) rfl ?_
      refine j_iload_n cx 3 rfl rfl dX3_joinAll_65 (pn := 66) rfl ?_
      refine j_aload_n cx 2 rfl rfl dX3_joinAll_66 (pn := 67) rfl ?_
      refine j_get cx inGX3 0 rfl rfl 2 (by decide) q_fl_X3_18 rfl rfl dX3_joinAll_67 (pn := 70) rfl ?_
      refine j_iload_n cx 0 rfl rfl dX3_joinAll_70 (pn := 71) rfl ?_
      refine j_iald cx 3 0 rfl rfl h.1 dX3_joinAll_71 (pn := 72) rfl ?_
      have h := h.2
      refine j_aload_n cx 2 rfl rfl dX3_joinAll_72 (pn := 73) rfl ?_
      refine j_get cx inGX3 0 rfl rfl 2 (by decide) q_fl_X3_18 rfl rfl dX3_joinAll_73 (pn := 76) rfl ?_
      refine j_iload_n cx 1 rfl rfl dX3_joinAll_76 (pn := 77) rfl ?_
      refine j_iald cx 3 0 rfl rfl h.1 dX3_joinAll_77 (pn := 78) rfl ?_
      have h := h.2
      refine j_iadd cx dX3_joinAll_78 (pn := 79) rfl ?_
      refine j_topi (fun y10 ey10 => ?_)
      have h := h y10 ey10
      have hin := h.1
      obtain ⟨f11, ef11⟩ : ∃ z, z = upd f_yardSums x1.toNatClampNeg y10 := ⟨_, rfl⟩
      have h := h.2 f11 ef11
      refine j_iast cx 3 0 rfl rfl hin (W_FT cyI cyJ cyZ a_f a_f_needs a_f_sideCounts a_f_yardSums a_f_beside f_all f_wanted f_mostSides f7 f_sideCounts f11 f9) (by subst ef11; rfl) dX3_joinAll_79 (pn := 80) rfl ?_
      refine j_sub [2, 3] [(0, .ref a_f), (1, .int x1)] rfl ?_
      exact J_X3_joinAll_80 cx hR hB2 h
set_option maxHeartbeats 4000000 in
set_option maxRecDepth 100000 in
theorem J_X3_joinAll_2 {x : CX} {D : DG} {cyI cyJ cyZ : ClassId} {a_f a_f_needs a_f_sideCounts a_f_yardSums a_f_beside : Nat} {f_all : Int32} {f_wanted : Int32} {f_mostSides : Int32} {f_needs : Nat → Int32} {f_sideCounts : Nat → Int32} {f_yardSums : Nat → Int32} {f_beside : Nat → Int32} {x1 : Int32} {Q : ((Nat → Int32) × (Nat → Int32) × (Nat → Int32)) → Prop} (cx : Cx x cX3_joinAll 4 RX3 rm_X3_joinAll D [(cyI, .int), (cyJ, .long), (cyZ, .boolean)]) (hR : ∀ (u : (Nat → Int32) × (Nat → Int32) × (Nat → Int32)) (pc : Nat) (lv : List (Nat × Value)), decode cX3_joinAll pc = .ok (.return_, 1) → Q u → J x 0 0 4 (W_FT cyI cyJ cyZ a_f a_f_needs a_f_sideCounts a_f_yardSums a_f_beside f_all f_wanted f_mostSides u.1 f_sideCounts u.2.1 u.2.2) lv pc []) (h : lp_X3_joinAll_2 Q  f_all f_needs f_yardSums f_beside x1) :
    J x 0 0 4 (W_FT cyI cyJ cyZ a_f a_f_needs a_f_sideCounts a_f_yardSums a_f_beside f_all f_wanted f_mostSides f_needs f_sideCounts f_yardSums f_beside) [(0, .ref a_f), (1, .int x1)] 2 [] := by
  obtain ⟨I, ⟨n, h0⟩, hb⟩ := h
  revert f_needs f_yardSums f_beside x1
  induction n using Nat.strongRecOn with
  | _ n ih =>
    intro f_needs f_yardSums f_beside x1 h0
    exact B_X3_joinAll_2 cx hR (fun _ _ _ _ hz => by obtain ⟨n2, hlt, hI⟩ := hz; exact ih n2 hlt hI) (hb n f_needs f_yardSums f_beside x1 h0)
set_option maxHeartbeats 4000000 in
set_option maxRecDepth 100000 in
theorem c_X3_joinAll {D : DG} {cyI cyJ cyZ : ClassId} {a_f a_f_needs a_f_sideCounts a_f_yardSums a_f_beside : Nat} {f_all : Int32} {f_wanted : Int32} {f_mostSides : Int32} {f_needs : Nat → Int32} {f_sideCounts : Nat → Int32} {f_yardSums : Nat → Int32} {f_beside : Nat → Int32} {Q : ((Nat → Int32) × (Nat → Int32) × (Nat → Int32)) → Prop} (h : wp_X3_joinAll f_all f_needs f_yardSums f_beside Q) :
    MetV yX3_joinAll cX3_joinAll 4 (none) rm_X3_joinAll D [(cyI, .int), (cyJ, .long), (cyZ, .boolean)] [.ref a_f] (W_FT cyI cyJ cyZ a_f a_f_needs a_f_sideCounts a_f_yardSums a_f_beside f_all f_wanted f_mostSides f_needs f_sideCounts f_yardSums f_beside) (fun u : (Nat → Int32) × (Nat → Int32) × (Nat → Int32) => (W_FT cyI cyJ cyZ a_f a_f_needs a_f_sideCounts a_f_yardSums a_f_beside f_all f_wanted f_mostSides u.1 f_sideCounts u.2.1 u.2.2)) (fun u => Q u) := by
  unfold wp_X3_joinAll at h
  refine metV_of (by decide) (Nat.le_of_ble_eq_true rfl) (fun x cx0 hR0 => ?_)
  have cx : Cx x cX3_joinAll 4 RX3 rm_X3_joinAll D [(cyI, .int), (cyJ, .long), (cyZ, .boolean)] := cx0
  have hR : ∀ (u : (Nat → Int32) × (Nat → Int32) × (Nat → Int32)) (pc : Nat) (lv : List (Nat × Value)), decode cX3_joinAll pc = .ok (.return_, 1) → Q u → J x 0 0 4 (W_FT cyI cyJ cyZ a_f a_f_needs a_f_sideCounts a_f_yardSums a_f_beside f_all f_wanted f_mostSides u.1 f_sideCounts u.2.1 u.2.2) lv pc [] := (fun u pc lv d hq => hR0 u pc lv d hq)
  show J x 0 0 4 (W_FT cyI cyJ cyZ a_f a_f_needs a_f_sideCounts a_f_yardSums a_f_beside f_all f_wanted f_mostSides f_needs f_sideCounts f_yardSums f_beside) [(0, .ref a_f)] 0 []
  refine j_iconst cx (v := 1) (by decide) dX3_joinAll_0 (pn := 1) rfl ?_
  refine j_istore_n cx rfl [(1, .int 1), (0, .ref a_f)] (by decide) rfl dX3_joinAll_1 (pn := 2) rfl ?_
  refine j_sub [1, 0] [(0, .ref a_f), (1, .int 1)] rfl ?_
  exact J_X3_joinAll_2 cx hR h
theorem dX3_inOnePiece_0 : decode cX3_inOnePiece 0 = .ok (.iload_n 1, 1) := by decide +kernel
theorem dX3_inOnePiece_1 : decode cX3_inOnePiece 1 = .ok (.iload_n 1, 1) := by decide +kernel
theorem dX3_inOnePiece_2 : decode cX3_inOnePiece 2 = .ok (.ineg, 1) := by decide +kernel
theorem dX3_inOnePiece_3 : decode cX3_inOnePiece 3 = .ok (.iand, 1) := by decide +kernel
theorem dX3_inOnePiece_4 : decode cX3_inOnePiece 4 = .ok (.istore_n 2, 1) := by decide +kernel
theorem dX3_inOnePiece_5 : decode cX3_inOnePiece 5 = .ok (.iconst 1, 1) := by decide +kernel
theorem dX3_inOnePiece_6 : decode cX3_inOnePiece 6 = .ok (.istore_n 3, 1) := by decide +kernel
theorem dX3_inOnePiece_7 : decode cX3_inOnePiece 7 = .ok (.iload_n 3, 1) := by decide +kernel
theorem dX3_inOnePiece_8 : decode cX3_inOnePiece 8 = .ok (.bipush 10, 2) := by decide +kernel
theorem dX3_inOnePiece_10 : decode cX3_inOnePiece 10 = .ok (.if_icmp .ge 25, 3) := by decide +kernel
theorem dX3_inOnePiece_13 : decode cX3_inOnePiece 13 = .ok (.iload_n 2, 1) := by decide +kernel
theorem dX3_inOnePiece_14 : decode cX3_inOnePiece 14 = .ok (.iload_n 1, 1) := by decide +kernel
theorem dX3_inOnePiece_15 : decode cX3_inOnePiece 15 = .ok (.if_icmp .eq 20, 3) := by decide +kernel
theorem dX3_inOnePiece_18 : decode cX3_inOnePiece 18 = .ok (.iload_n 2, 1) := by decide +kernel
theorem dX3_inOnePiece_19 : decode cX3_inOnePiece 19 = .ok (.aload_n 0, 1) := by decide +kernel
theorem dX3_inOnePiece_20 : decode cX3_inOnePiece 20 = .ok (.getfield 21, 3) := by decide +kernel
theorem dX3_inOnePiece_23 : decode cX3_inOnePiece 23 = .ok (.iload_n 2, 1) := by decide +kernel
theorem dX3_inOnePiece_24 : decode cX3_inOnePiece 24 = .ok (.iaload, 1) := by decide +kernel
theorem dX3_inOnePiece_25 : decode cX3_inOnePiece 25 = .ok (.iload_n 1, 1) := by decide +kernel
theorem dX3_inOnePiece_26 : decode cX3_inOnePiece 26 = .ok (.iand, 1) := by decide +kernel
theorem dX3_inOnePiece_27 : decode cX3_inOnePiece 27 = .ok (.ior, 1) := by decide +kernel
theorem dX3_inOnePiece_28 : decode cX3_inOnePiece 28 = .ok (.istore_n 2, 1) := by decide +kernel
theorem dX3_inOnePiece_29 : decode cX3_inOnePiece 29 = .ok (.iinc 3 1, 3) := by decide +kernel
theorem dX3_inOnePiece_32 : decode cX3_inOnePiece 32 = .ok (.goto (-25), 3) := by decide +kernel
theorem dX3_inOnePiece_35 : decode cX3_inOnePiece 35 = .ok (.iload_n 2, 1) := by decide +kernel
theorem dX3_inOnePiece_36 : decode cX3_inOnePiece 36 = .ok (.iload_n 1, 1) := by decide +kernel
theorem dX3_inOnePiece_37 : decode cX3_inOnePiece 37 = .ok (.if_icmp .ne 7, 3) := by decide +kernel
theorem dX3_inOnePiece_40 : decode cX3_inOnePiece 40 = .ok (.iconst 1, 1) := by decide +kernel
theorem dX3_inOnePiece_41 : decode cX3_inOnePiece 41 = .ok (.goto 4, 3) := by decide +kernel
theorem dX3_inOnePiece_44 : decode cX3_inOnePiece 44 = .ok (.iconst 0, 1) := by decide +kernel
theorem dX3_inOnePiece_45 : decode cX3_inOnePiece 45 = .ok (.ireturn, 1) := by decide +kernel
abbrev rm_X3_inOnePiece : Room := { frames := 0, cells := 0, slots := 0, locals := 0 }
theorem hd_X3_inOnePiece : yX3_inOnePiece.cls ≠ "java/lang/invoke/MethodHandle" ∧ yX3_inOnePiece.cls ≠ "java/lang/invoke/VarHandle" ∧ (parseMethodDescriptor yX3_inOnePiece.desc).map (fun d => d.parameters.length) = some 1 := by decide +kernel
def bk_X3_inOnePiece_35 (Q : Int32 → Prop) (p1 : Int32) (x2 : Int32) : Prop :=
((¬ x2 = p1 → Q 0) ∧
(x2 = p1 → Q 1))
def bd_X3_inOnePiece_7 (Q : Int32 → Prop) (B7 : Int32 → Int32 → Prop) (p1 : Int32) (f_beside : Nat → Int32) (x2 : Int32) (x3 : Int32) : Prop :=
((10 ≤ x3 → bk_X3_inOnePiece_35 Q p1 x2) ∧
(¬ 10 ≤ x3 → ((x2 = p1 → bk_X3_inOnePiece_35 Q p1 x2) ∧
(¬ x2 = p1 → vp_in x2 1024 ∧ (∀ y5 : Int32, y5 = (x2 ||| ((f_beside x2.toNatClampNeg) &&& p1)) →
∀ y6 : Int32, y6 = (x3 + 1) →
B7 y5 y6)))))
def lp_X3_inOnePiece_7 (Q : Int32 → Prop) (p1 : Int32) (f_beside : Nat → Int32) (x2 : Int32) (x3 : Int32) : Prop :=
∃ I : Nat → Int32 → Int32 → Prop, (∃ n, I n x2 x3) ∧ ∀ n x2 x3, I n x2 x3 → bd_X3_inOnePiece_7 Q  (fun x2' x3' => ∃ n', n' < n ∧ I n' x2' x3') p1 f_beside x2 x3
def wp_X3_inOnePiece (p1 : Int32) (f_beside : Nat → Int32) (Q : Int32 → Prop) : Prop :=
∀ y1 : Int32, y1 = (p1 &&& (-p1)) →
lp_X3_inOnePiece_7 Q p1 f_beside y1 1
set_option maxHeartbeats 4000000 in
set_option maxRecDepth 100000 in
theorem J_X3_inOnePiece_35 {x : CX} {D : DG} {cyI cyJ cyZ : ClassId} {a_f a_f_needs a_f_sideCounts a_f_yardSums a_f_beside : Nat} {f_all : Int32} {f_wanted : Int32} {f_mostSides : Int32} {f_needs : Nat → Int32} {f_sideCounts : Nat → Int32} {f_yardSums : Nat → Int32} {f_beside : Nat → Int32} {p1 : Int32} {x2 : Int32} {Q : Int32 → Prop} (cx : Cx x cX3_inOnePiece 4 RX3 rm_X3_inOnePiece D [(cyI, .int), (cyJ, .long), (cyZ, .boolean)]) (hR : ∀ (v : Int32) (pc : Nat) (lv : List (Nat × Value)), decode cX3_inOnePiece pc = .ok (.ireturn, 1) → (v = 0 ∨ v = 1) → Q v → J x 0 0 4 (W_FT cyI cyJ cyZ a_f a_f_needs a_f_sideCounts a_f_yardSums a_f_beside f_all f_wanted f_mostSides f_needs f_sideCounts f_yardSums f_beside) lv pc [.int v]) (h : bk_X3_inOnePiece_35 Q  p1 x2) :
    J x 0 0 4 (W_FT cyI cyJ cyZ a_f a_f_needs a_f_sideCounts a_f_yardSums a_f_beside f_all f_wanted f_mostSides f_needs f_sideCounts f_yardSums f_beside) [(1, .int p1), (2, .int x2)] 35 [] := by
  unfold bk_X3_inOnePiece_35 at h
  refine j_iload_n cx 1 rfl rfl dX3_inOnePiece_35 (pn := 36) rfl ?_
  refine j_iload_n cx 0 rfl rfl dX3_inOnePiece_36 (pn := 37) rfl ?_
  refine j_icmp_ne cx 44 dX3_inOnePiece_37 (pn := 40) rfl rfl (fun c3 => ?_) (fun c3 => ?_)
  · have h := h.1 c3
    refine j_iconst cx (v := 0) (by decide) dX3_inOnePiece_44 (pn := 45) rfl ?_
    exact hR 0 45 _ dX3_inOnePiece_45 (Or.inl rfl) h
  · have h := h.2 c3
    refine j_iconst cx (v := 1) (by decide) dX3_inOnePiece_40 (pn := 41) rfl ?_
    refine j_goto cx 45 dX3_inOnePiece_41 rfl ?_
    exact hR 1 45 _ dX3_inOnePiece_45 (Or.inr rfl) h
set_option maxHeartbeats 4000000 in
set_option maxRecDepth 100000 in
theorem B_X3_inOnePiece_7 {x : CX} {D : DG} {cyI cyJ cyZ : ClassId} {a_f a_f_needs a_f_sideCounts a_f_yardSums a_f_beside : Nat} {f_all : Int32} {f_wanted : Int32} {f_mostSides : Int32} {f_needs : Nat → Int32} {f_sideCounts : Nat → Int32} {f_yardSums : Nat → Int32} {f_beside : Nat → Int32} {p1 : Int32} {x2 : Int32} {x3 : Int32} {Q : Int32 → Prop} {B7 : Int32 → Int32 → Prop} (cx : Cx x cX3_inOnePiece 4 RX3 rm_X3_inOnePiece D [(cyI, .int), (cyJ, .long), (cyZ, .boolean)]) (hR : ∀ (v : Int32) (pc : Nat) (lv : List (Nat × Value)), decode cX3_inOnePiece pc = .ok (.ireturn, 1) → (v = 0 ∨ v = 1) → Q v → J x 0 0 4 (W_FT cyI cyJ cyZ a_f a_f_needs a_f_sideCounts a_f_yardSums a_f_beside f_all f_wanted f_mostSides f_needs f_sideCounts f_yardSums f_beside) lv pc [.int v]) (hB7 : ∀ (x2 : Int32) (x3 : Int32), B7 x2 x3 → J x 0 0 4 (W_FT cyI cyJ cyZ a_f a_f_needs a_f_sideCounts a_f_yardSums a_f_beside f_all f_wanted f_mostSides f_needs f_sideCounts f_yardSums f_beside) [(0, .ref a_f), (1, .int p1), (2, .int x2), (3, .int x3)] 7 []) (h : bd_X3_inOnePiece_7 Q B7 p1 f_beside x2 x3) :
    J x 0 0 4 (W_FT cyI cyJ cyZ a_f a_f_needs a_f_sideCounts a_f_yardSums a_f_beside f_all f_wanted f_mostSides f_needs f_sideCounts f_yardSums f_beside) [(0, .ref a_f), (1, .int p1), (2, .int x2), (3, .int x3)] 7 [] := by
  unfold bd_X3_inOnePiece_7 at h
  refine j_iload_n cx 3 rfl rfl dX3_inOnePiece_7 (pn := 8) rfl ?_
  refine j_bipush cx (v := 10) (by decide) dX3_inOnePiece_8 (pn := 10) rfl ?_
  refine j_icmp_ge cx 35 dX3_inOnePiece_10 (pn := 13) rfl rfl (fun c2 => ?_) (fun c2 => ?_)
  · have h := h.1 c2
    refine j_sub [1, 2] [(1, .int p1), (2, .int x2)] rfl ?_
    exact J_X3_inOnePiece_35 cx hR h
  · have h := h.2 c2
    refine j_iload_n cx 2 rfl rfl dX3_inOnePiece_13 (pn := 14) rfl ?_
    refine j_iload_n cx 1 rfl rfl dX3_inOnePiece_14 (pn := 15) rfl ?_
    refine j_icmp_eq cx 35 dX3_inOnePiece_15 (pn := 18) rfl rfl (fun c4 => ?_) (fun c4 => ?_)
    · have h := h.1 c4
      refine j_sub [1, 2] [(1, .int p1), (2, .int x2)] rfl ?_
      exact J_X3_inOnePiece_35 cx hR h
    · have h := h.2 c4
      refine j_iload_n cx 2 rfl rfl dX3_inOnePiece_18 (pn := 19) rfl ?_
      refine j_aload_n cx 0 rfl rfl dX3_inOnePiece_19 (pn := 20) rfl ?_
      refine j_get cx inGX3 0 rfl rfl 3 (by decide) q_fl_X3_21 rfl rfl dX3_inOnePiece_20 (pn := 23) rfl ?_
      refine j_iload_n cx 2 rfl rfl dX3_inOnePiece_23 (pn := 24) rfl ?_
      refine j_iald cx 4 0 rfl rfl h.1 dX3_inOnePiece_24 (pn := 25) rfl ?_
      have h := h.2
      refine j_iload_n cx 1 rfl rfl dX3_inOnePiece_25 (pn := 26) rfl ?_
      refine j_iand cx dX3_inOnePiece_26 (pn := 27) rfl ?_
      refine j_ior cx dX3_inOnePiece_27 (pn := 28) rfl ?_
      refine j_topi (fun y5 ey5 => ?_)
      have h := h y5 ey5
      refine j_istore_n cx rfl [(2, .int y5), (0, .ref a_f), (1, .int p1), (3, .int x3)] (by decide) rfl dX3_inOnePiece_28 (pn := 29) rfl ?_
      obtain ⟨y6, ey6⟩ : ∃ z : Int32, z = x3 + 1 := ⟨_, rfl⟩
      have h := h y6 ey6
      refine j_iinc cx 3 rfl (cst := 1) (by decide) ey6 [(3, .int y6), (2, .int y5), (0, .ref a_f), (1, .int p1)] (by decide) rfl dX3_inOnePiece_29 (pn := 32) rfl ?_
      refine j_goto cx 7 dX3_inOnePiece_32 rfl ?_
      refine j_sub [2, 3, 1, 0] [(0, .ref a_f), (1, .int p1), (2, .int y5), (3, .int y6)] rfl ?_
      exact hB7 _ _ h
set_option maxHeartbeats 4000000 in
set_option maxRecDepth 100000 in
theorem J_X3_inOnePiece_7 {x : CX} {D : DG} {cyI cyJ cyZ : ClassId} {a_f a_f_needs a_f_sideCounts a_f_yardSums a_f_beside : Nat} {f_all : Int32} {f_wanted : Int32} {f_mostSides : Int32} {f_needs : Nat → Int32} {f_sideCounts : Nat → Int32} {f_yardSums : Nat → Int32} {f_beside : Nat → Int32} {p1 : Int32} {x2 : Int32} {x3 : Int32} {Q : Int32 → Prop} (cx : Cx x cX3_inOnePiece 4 RX3 rm_X3_inOnePiece D [(cyI, .int), (cyJ, .long), (cyZ, .boolean)]) (hR : ∀ (v : Int32) (pc : Nat) (lv : List (Nat × Value)), decode cX3_inOnePiece pc = .ok (.ireturn, 1) → (v = 0 ∨ v = 1) → Q v → J x 0 0 4 (W_FT cyI cyJ cyZ a_f a_f_needs a_f_sideCounts a_f_yardSums a_f_beside f_all f_wanted f_mostSides f_needs f_sideCounts f_yardSums f_beside) lv pc [.int v]) (h : lp_X3_inOnePiece_7 Q  p1 f_beside x2 x3) :
    J x 0 0 4 (W_FT cyI cyJ cyZ a_f a_f_needs a_f_sideCounts a_f_yardSums a_f_beside f_all f_wanted f_mostSides f_needs f_sideCounts f_yardSums f_beside) [(0, .ref a_f), (1, .int p1), (2, .int x2), (3, .int x3)] 7 [] := by
  obtain ⟨I, ⟨n, h0⟩, hb⟩ := h
  revert x2 x3
  induction n using Nat.strongRecOn with
  | _ n ih =>
    intro x2 x3 h0
    exact B_X3_inOnePiece_7 cx hR (fun _ _ hz => by obtain ⟨n2, hlt, hI⟩ := hz; exact ih n2 hlt hI) (hb n x2 x3 h0)
set_option maxHeartbeats 4000000 in
set_option maxRecDepth 100000 in
theorem c_X3_inOnePiece {D : DG} {cyI cyJ cyZ : ClassId} {a_f a_f_needs a_f_sideCounts a_f_yardSums a_f_beside : Nat} {f_all : Int32} {f_wanted : Int32} {f_mostSides : Int32} {f_needs : Nat → Int32} {f_sideCounts : Nat → Int32} {f_yardSums : Nat → Int32} {f_beside : Nat → Int32} {p1 : Int32} {Q : Int32 → Prop} (h : wp_X3_inOnePiece p1 f_beside Q) :
    MetI yX3_inOnePiece cX3_inOnePiece 4 (some .boolean) rm_X3_inOnePiece D [(cyI, .int), (cyJ, .long), (cyZ, .boolean)] [.ref a_f, .int p1] (W_FT cyI cyJ cyZ a_f a_f_needs a_f_sideCounts a_f_yardSums a_f_beside f_all f_wanted f_mostSides f_needs f_sideCounts f_yardSums f_beside) (fun _ : Unit => (W_FT cyI cyJ cyZ a_f a_f_needs a_f_sideCounts a_f_yardSums a_f_beside f_all f_wanted f_mostSides f_needs f_sideCounts f_yardSums f_beside)) (fun v _ => Q v ) := by
  unfold wp_X3_inOnePiece at h
  refine metZ_of (by decide) (Nat.le_of_ble_eq_true rfl) (fun x cx0 hR0 => ?_)
  have cx : Cx x cX3_inOnePiece 4 RX3 rm_X3_inOnePiece D [(cyI, .int), (cyJ, .long), (cyZ, .boolean)] := cx0
  have hR : ∀ (v : Int32) (pc : Nat) (lv : List (Nat × Value)), decode cX3_inOnePiece pc = .ok (.ireturn, 1) → (v = 0 ∨ v = 1) → Q v → J x 0 0 4 (W_FT cyI cyJ cyZ a_f a_f_needs a_f_sideCounts a_f_yardSums a_f_beside f_all f_wanted f_mostSides f_needs f_sideCounts f_yardSums f_beside) lv pc [.int v] := (fun v pc lv d hz hq => hR0 v () pc lv d hz hq)
  show J x 0 0 4 (W_FT cyI cyJ cyZ a_f a_f_needs a_f_sideCounts a_f_yardSums a_f_beside f_all f_wanted f_mostSides f_needs f_sideCounts f_yardSums f_beside) [(0, .ref a_f), (1, .int p1)] 0 []
  refine j_iload_n cx 1 rfl rfl dX3_inOnePiece_0 (pn := 1) rfl ?_
  refine j_iload_n cx 1 rfl rfl dX3_inOnePiece_1 (pn := 2) rfl ?_
  refine j_ineg cx dX3_inOnePiece_2 (pn := 3) rfl ?_
  refine j_iand cx dX3_inOnePiece_3 (pn := 4) rfl ?_
  refine j_topi (fun y1 ey1 => ?_)
  have h := h y1 ey1
  refine j_istore_n cx rfl [(2, .int y1), (0, .ref a_f), (1, .int p1)] (by decide) rfl dX3_inOnePiece_4 (pn := 5) rfl ?_
  refine j_iconst cx (v := 1) (by decide) dX3_inOnePiece_5 (pn := 6) rfl ?_
  refine j_istore_n cx rfl [(3, .int 1), (2, .int y1), (0, .ref a_f), (1, .int p1)] (by decide) rfl dX3_inOnePiece_6 (pn := 7) rfl ?_
  refine j_sub [2, 3, 1, 0] [(0, .ref a_f), (1, .int p1), (2, .int y1), (3, .int 1)] rfl ?_
  exact J_X3_inOnePiece_7 cx hR h
theorem dX3_sortOut_0 : decode cX3_sortOut 0 = .ok (.aload_n 0, 1) := by decide +kernel
theorem dX3_sortOut_1 : decode cX3_sortOut 1 = .ok (.getfield 15, 3) := by decide +kernel
theorem dX3_sortOut_4 : decode cX3_sortOut 4 = .ok (.iconst 0, 1) := by decide +kernel
theorem dX3_sortOut_5 : decode cX3_sortOut 5 = .ok (.iconst (-1), 1) := by decide +kernel
theorem dX3_sortOut_6 : decode cX3_sortOut 6 = .ok (.iastore, 1) := by decide +kernel
theorem dX3_sortOut_7 : decode cX3_sortOut 7 = .ok (.iconst 1, 1) := by decide +kernel
theorem dX3_sortOut_8 : decode cX3_sortOut 8 = .ok (.istore_n 3, 1) := by decide +kernel
theorem dX3_sortOut_9 : decode cX3_sortOut 9 = .ok (.iload_n 3, 1) := by decide +kernel
theorem dX3_sortOut_10 : decode cX3_sortOut 10 = .ok (.aload_n 0, 1) := by decide +kernel
theorem dX3_sortOut_11 : decode cX3_sortOut 11 = .ok (.getfield 30, 3) := by decide +kernel
theorem dX3_sortOut_14 : decode cX3_sortOut 14 = .ok (.if_icmp .gt 84, 3) := by decide +kernel
theorem dX3_sortOut_17 : decode cX3_sortOut 17 = .ok (.iload_n 3, 1) := by decide +kernel
theorem dX3_sortOut_18 : decode cX3_sortOut 18 = .ok (.iload_n 1, 1) := by decide +kernel
theorem dX3_sortOut_19 : decode cX3_sortOut 19 = .ok (.iand, 1) := by decide +kernel
theorem dX3_sortOut_20 : decode cX3_sortOut 20 = .ok (.ifCond .ne 58, 3) := by decide +kernel
theorem dX3_sortOut_23 : decode cX3_sortOut 23 = .ok (.aload_n 0, 1) := by decide +kernel
theorem dX3_sortOut_24 : decode cX3_sortOut 24 = .ok (.iload_n 3, 1) := by decide +kernel
theorem dX3_sortOut_25 : decode cX3_sortOut 25 = .ok (.invokevirtual 67, 3) := by decide +kernel
theorem dX3_sortOut_28 : decode cX3_sortOut 28 = .ok (.ifCond .eq 50, 3) := by decide +kernel
theorem dX3_sortOut_31 : decode cX3_sortOut 31 = .ok (.aload_n 0, 1) := by decide +kernel
theorem dX3_sortOut_32 : decode cX3_sortOut 32 = .ok (.getfield 9, 3) := by decide +kernel
theorem dX3_sortOut_35 : decode cX3_sortOut 35 = .ok (.iload_n 3, 1) := by decide +kernel
theorem dX3_sortOut_36 : decode cX3_sortOut 36 = .ok (.dup2, 1) := by decide +kernel
theorem dX3_sortOut_37 : decode cX3_sortOut 37 = .ok (.iaload, 1) := by decide +kernel
theorem dX3_sortOut_38 : decode cX3_sortOut 38 = .ok (.iload_n 2, 1) := by decide +kernel
theorem dX3_sortOut_39 : decode cX3_sortOut 39 = .ok (.iconst (-1), 1) := by decide +kernel
theorem dX3_sortOut_40 : decode cX3_sortOut 40 = .ok (.ixor, 1) := by decide +kernel
theorem dX3_sortOut_41 : decode cX3_sortOut 41 = .ok (.iand, 1) := by decide +kernel
theorem dX3_sortOut_42 : decode cX3_sortOut 42 = .ok (.iastore, 1) := by decide +kernel
theorem dX3_sortOut_43 : decode cX3_sortOut 43 = .ok (.aload_n 0, 1) := by decide +kernel
theorem dX3_sortOut_44 : decode cX3_sortOut 44 = .ok (.getfield 15, 3) := by decide +kernel
theorem dX3_sortOut_47 : decode cX3_sortOut 47 = .ok (.iload_n 3, 1) := by decide +kernel
theorem dX3_sortOut_48 : decode cX3_sortOut 48 = .ok (.aload_n 0, 1) := by decide +kernel
theorem dX3_sortOut_49 : decode cX3_sortOut 49 = .ok (.getfield 9, 3) := by decide +kernel
theorem dX3_sortOut_52 : decode cX3_sortOut 52 = .ok (.iload_n 3, 1) := by decide +kernel
theorem dX3_sortOut_53 : decode cX3_sortOut 53 = .ok (.iaload, 1) := by decide +kernel
theorem dX3_sortOut_54 : decode cX3_sortOut 54 = .ok (.invokestatic 71, 3) := by decide +kernel
theorem dX3_sortOut_57 : decode cX3_sortOut 57 = .ok (.iastore, 1) := by decide +kernel
theorem dX3_sortOut_58 : decode cX3_sortOut 58 = .ok (.aload_n 0, 1) := by decide +kernel
theorem dX3_sortOut_59 : decode cX3_sortOut 59 = .ok (.aload_n 0, 1) := by decide +kernel
theorem dX3_sortOut_60 : decode cX3_sortOut 60 = .ok (.getfield 37, 3) := by decide +kernel
theorem dX3_sortOut_63 : decode cX3_sortOut 63 = .ok (.aload_n 0, 1) := by decide +kernel
theorem dX3_sortOut_64 : decode cX3_sortOut 64 = .ok (.getfield 15, 3) := by decide +kernel
theorem dX3_sortOut_67 : decode cX3_sortOut 67 = .ok (.iload_n 3, 1) := by decide +kernel
theorem dX3_sortOut_68 : decode cX3_sortOut 68 = .ok (.iaload, 1) := by decide +kernel
theorem dX3_sortOut_69 : decode cX3_sortOut 69 = .ok (.invokestatic 77, 3) := by decide +kernel
theorem dX3_sortOut_72 : decode cX3_sortOut 72 = .ok (.putfield 37, 3) := by decide +kernel
theorem dX3_sortOut_75 : decode cX3_sortOut 75 = .ok (.goto 17, 3) := by decide +kernel
theorem dX3_sortOut_78 : decode cX3_sortOut 78 = .ok (.aload_n 0, 1) := by decide +kernel
theorem dX3_sortOut_79 : decode cX3_sortOut 79 = .ok (.getfield 9, 3) := by decide +kernel
theorem dX3_sortOut_82 : decode cX3_sortOut 82 = .ok (.iload_n 3, 1) := by decide +kernel
theorem dX3_sortOut_83 : decode cX3_sortOut 83 = .ok (.iconst 0, 1) := by decide +kernel
theorem dX3_sortOut_84 : decode cX3_sortOut 84 = .ok (.iastore, 1) := by decide +kernel
theorem dX3_sortOut_85 : decode cX3_sortOut 85 = .ok (.aload_n 0, 1) := by decide +kernel
theorem dX3_sortOut_86 : decode cX3_sortOut 86 = .ok (.getfield 15, 3) := by decide +kernel
theorem dX3_sortOut_89 : decode cX3_sortOut 89 = .ok (.iload_n 3, 1) := by decide +kernel
theorem dX3_sortOut_90 : decode cX3_sortOut 90 = .ok (.iconst (-1), 1) := by decide +kernel
theorem dX3_sortOut_91 : decode cX3_sortOut 91 = .ok (.iastore, 1) := by decide +kernel
theorem dX3_sortOut_92 : decode cX3_sortOut 92 = .ok (.iinc 3 1, 3) := by decide +kernel
theorem dX3_sortOut_95 : decode cX3_sortOut 95 = .ok (.goto (-86), 3) := by decide +kernel
theorem dX3_sortOut_98 : decode cX3_sortOut 98 = .ok (.return_, 1) := by decide +kernel
abbrev rm_X3_sortOut : Room := { frames := 1, cells := 0, slots := 0, locals := 23 }
theorem hd_X3_sortOut : yX3_sortOut.cls ≠ "java/lang/invoke/MethodHandle" ∧ yX3_sortOut.cls ≠ "java/lang/invoke/VarHandle" ∧ (parseMethodDescriptor yX3_sortOut.desc).map (fun d => d.parameters.length) = some 2 := by decide +kernel
def bk_X3_sortOut_92 (Q : (Int32 × (Nat → Int32) × (Nat → Int32)) → Prop) (B9 : Int32 → (Nat → Int32) → (Nat → Int32) → Int32 → Prop) (x3 : Int32) (f_mostSides : Int32) (f_needs : Nat → Int32) (f_sideCounts : Nat → Int32) : Prop :=
∀ y6 : Int32, y6 = (x3 + 1) →
B9 f_mostSides f_needs f_sideCounts y6
def bk_X3_sortOut_78 (Q : (Int32 × (Nat → Int32) × (Nat → Int32)) → Prop) (B9 : Int32 → (Nat → Int32) → (Nat → Int32) → Int32 → Prop) (x3 : Int32) (f_mostSides : Int32) (f_needs : Nat → Int32) (f_sideCounts : Nat → Int32) : Prop :=
vp_in x3 1024 ∧ (∀ f4 : Nat → Int32, f4 = (upd f_needs x3.toNatClampNeg 0) →
vp_in x3 1024 ∧ (∀ f5 : Nat → Int32, f5 = (upd f_sideCounts x3.toNatClampNeg (-1)) →
bk_X3_sortOut_92 Q B9 x3 f_mostSides f4 f5))
def bd_X3_sortOut_9 (Q : (Int32 × (Nat → Int32) × (Nat → Int32)) → Prop) (B9 : Int32 → (Nat → Int32) → (Nat → Int32) → Int32 → Prop) (p1 : Int32) (p2 : Int32) (f_all : Int32) (f_beside : Nat → Int32) (f_mostSides : Int32) (f_needs : Nat → Int32) (f_sideCounts : Nat → Int32) (x3 : Int32) : Prop :=
((f_all < x3 → Q (f_mostSides, f_needs, f_sideCounts)) ∧
(¬ f_all < x3 → ((¬ (x3 &&& p1) = 0 → bk_X3_sortOut_78 Q B9 x3 f_mostSides f_needs f_sideCounts) ∧
((x3 &&& p1) = 0 → wp_X3_inOnePiece x3 f_beside (fun (r7 : Int32) => ((r7 = 0 → bk_X3_sortOut_78 Q B9 x3 f_mostSides f_needs f_sideCounts) ∧
(¬ r7 = 0 → vp_in x3 1024 ∧ (∀ y9 : Int32, y9 = ((f_needs x3.toNatClampNeg) &&& (p2 ^^^ (-1))) →
vp_in x3 1024 ∧ (∀ f10 : Nat → Int32, f10 = (upd f_needs x3.toNatClampNeg y9) →
vp_in x3 1024 ∧ wp_J6_bitCount_0f7a4 (f10 x3.toNatClampNeg) (fun (r11 : Int32) => vp_in x3 1024 ∧ (∀ f12 : Nat → Int32, f12 = (upd f_sideCounts x3.toNatClampNeg r11) →
vp_in x3 1024 ∧ (∀ y13 : Int32, y13 = (if f_mostSides < (f12 x3.toNatClampNeg) then (f12 x3.toNatClampNeg) else f_mostSides) →
bk_X3_sortOut_92 Q B9 x3 y13 f10 f12))))))))))))
def lp_X3_sortOut_9 (Q : (Int32 × (Nat → Int32) × (Nat → Int32)) → Prop) (p1 : Int32) (p2 : Int32) (f_all : Int32) (f_beside : Nat → Int32) (f_mostSides : Int32) (f_needs : Nat → Int32) (f_sideCounts : Nat → Int32) (x3 : Int32) : Prop :=
∃ I : Nat → Int32 → (Nat → Int32) → (Nat → Int32) → Int32 → Prop, (∃ n, I n f_mostSides f_needs f_sideCounts x3) ∧ ∀ n f_mostSides f_needs f_sideCounts x3, I n f_mostSides f_needs f_sideCounts x3 → bd_X3_sortOut_9 Q  (fun f_mostSides' f_needs' f_sideCounts' x3' => ∃ n', n' < n ∧ I n' f_mostSides' f_needs' f_sideCounts' x3') p1 p2 f_all f_beside f_mostSides f_needs f_sideCounts x3
def wp_X3_sortOut (p1 : Int32) (p2 : Int32) (f_all : Int32) (f_mostSides : Int32) (f_needs : Nat → Int32) (f_sideCounts : Nat → Int32) (f_beside : Nat → Int32) (Q : (Int32 × (Nat → Int32) × (Nat → Int32)) → Prop) : Prop :=
vp_in (0 : Int32) 1024 ∧ (∀ f1 : Nat → Int32, f1 = (upd f_sideCounts (0 : Int32).toNatClampNeg (-1)) →
lp_X3_sortOut_9 Q p1 p2 f_all f_beside f_mostSides f_needs f1 1)
set_option maxHeartbeats 4000000 in
set_option maxRecDepth 100000 in
theorem J_X3_sortOut_92 {x : CX} {D : DG} {cyI cyJ cyZ : ClassId} {a_f a_f_needs a_f_sideCounts a_f_yardSums a_f_beside : Nat} {f_all : Int32} {f_wanted : Int32} {f_mostSides : Int32} {f_needs : Nat → Int32} {f_sideCounts : Nat → Int32} {f_yardSums : Nat → Int32} {f_beside : Nat → Int32} {p1 : Int32} {p2 : Int32} {x3 : Int32} {Q : (Int32 × (Nat → Int32) × (Nat → Int32)) → Prop} {B9 : Int32 → (Nat → Int32) → (Nat → Int32) → Int32 → Prop} (cx : Cx x cX3_sortOut 4 RX3 rm_X3_sortOut D [(cyI, .int), (cyJ, .long), (cyZ, .boolean)]) (hR : ∀ (u : Int32 × (Nat → Int32) × (Nat → Int32)) (pc : Nat) (lv : List (Nat × Value)), decode cX3_sortOut pc = .ok (.return_, 1) → Q u → J x 0 0 4 (W_FT cyI cyJ cyZ a_f a_f_needs a_f_sideCounts a_f_yardSums a_f_beside f_all f_wanted u.1 u.2.1 u.2.2 f_yardSums f_beside) lv pc []) (hB9 : ∀ (f_mostSides : Int32) (f_needs : Nat → Int32) (f_sideCounts : Nat → Int32) (x3 : Int32), B9 f_mostSides f_needs f_sideCounts x3 → J x 0 0 4 (W_FT cyI cyJ cyZ a_f a_f_needs a_f_sideCounts a_f_yardSums a_f_beside f_all f_wanted f_mostSides f_needs f_sideCounts f_yardSums f_beside) [(0, .ref a_f), (1, .int p1), (2, .int p2), (3, .int x3)] 9 []) (h : bk_X3_sortOut_92 Q B9 x3 f_mostSides f_needs f_sideCounts) :
    J x 0 0 4 (W_FT cyI cyJ cyZ a_f a_f_needs a_f_sideCounts a_f_yardSums a_f_beside f_all f_wanted f_mostSides f_needs f_sideCounts f_yardSums f_beside) [(0, .ref a_f), (1, .int p1), (2, .int p2), (3, .int x3)] 92 [] := by
  unfold bk_X3_sortOut_92 at h
  obtain ⟨y6, ey6⟩ : ∃ z : Int32, z = x3 + 1 := ⟨_, rfl⟩
  have h := h y6 ey6
  refine j_iinc cx 3 rfl (cst := 1) (by decide) ey6 [(3, .int y6), (0, .ref a_f), (1, .int p1), (2, .int p2)] (by decide) rfl dX3_sortOut_92 (pn := 95) rfl ?_
  refine j_goto cx 9 dX3_sortOut_95 rfl ?_
  refine j_sub [1, 2, 3, 0] [(0, .ref a_f), (1, .int p1), (2, .int p2), (3, .int y6)] rfl ?_
  exact hB9 _ _ _ _ h
set_option maxHeartbeats 4000000 in
set_option maxRecDepth 100000 in
theorem J_X3_sortOut_78 {x : CX} {D : DG} {cyI cyJ cyZ : ClassId} {a_f a_f_needs a_f_sideCounts a_f_yardSums a_f_beside : Nat} {f_all : Int32} {f_wanted : Int32} {f_mostSides : Int32} {f_needs : Nat → Int32} {f_sideCounts : Nat → Int32} {f_yardSums : Nat → Int32} {f_beside : Nat → Int32} {p1 : Int32} {p2 : Int32} {x3 : Int32} {Q : (Int32 × (Nat → Int32) × (Nat → Int32)) → Prop} {B9 : Int32 → (Nat → Int32) → (Nat → Int32) → Int32 → Prop} (cx : Cx x cX3_sortOut 4 RX3 rm_X3_sortOut D [(cyI, .int), (cyJ, .long), (cyZ, .boolean)]) (hR : ∀ (u : Int32 × (Nat → Int32) × (Nat → Int32)) (pc : Nat) (lv : List (Nat × Value)), decode cX3_sortOut pc = .ok (.return_, 1) → Q u → J x 0 0 4 (W_FT cyI cyJ cyZ a_f a_f_needs a_f_sideCounts a_f_yardSums a_f_beside f_all f_wanted u.1 u.2.1 u.2.2 f_yardSums f_beside) lv pc []) (hB9 : ∀ (f_mostSides : Int32) (f_needs : Nat → Int32) (f_sideCounts : Nat → Int32) (x3 : Int32), B9 f_mostSides f_needs f_sideCounts x3 → J x 0 0 4 (W_FT cyI cyJ cyZ a_f a_f_needs a_f_sideCounts a_f_yardSums a_f_beside f_all f_wanted f_mostSides f_needs f_sideCounts f_yardSums f_beside) [(0, .ref a_f), (1, .int p1), (2, .int p2), (3, .int x3)] 9 []) (h : bk_X3_sortOut_78 Q B9 x3 f_mostSides f_needs f_sideCounts) :
    J x 0 0 4 (W_FT cyI cyJ cyZ a_f a_f_needs a_f_sideCounts a_f_yardSums a_f_beside f_all f_wanted f_mostSides f_needs f_sideCounts f_yardSums f_beside) [(0, .ref a_f), (1, .int p1), (2, .int p2), (3, .int x3)] 78 [] := by
  unfold bk_X3_sortOut_78 at h
  refine j_aload_n cx 0 rfl rfl dX3_sortOut_78 (pn := 79) rfl ?_
  refine j_get cx inGX3 0 rfl rfl 0 (by decide) q_fl_X3_9 rfl rfl dX3_sortOut_79 (pn := 82) rfl ?_
  refine j_iload_n cx 3 rfl rfl dX3_sortOut_82 (pn := 83) rfl ?_
  refine j_iconst cx (v := 0) (by decide) dX3_sortOut_83 (pn := 84) rfl ?_
  have hin := h.1
  obtain ⟨f4, ef4⟩ : ∃ z, z = upd f_needs x3.toNatClampNeg 0 := ⟨_, rfl⟩
  have h := h.2 f4 ef4
  refine j_iast cx 1 0 rfl rfl hin (W_FT cyI cyJ cyZ a_f a_f_needs a_f_sideCounts a_f_yardSums a_f_beside f_all f_wanted f_mostSides f4 f_sideCounts f_yardSums f_beside) (by subst ef4; rfl) dX3_sortOut_84 (pn := 85) rfl ?_
  refine j_aload_n cx 0 rfl rfl dX3_sortOut_85 (pn := 86) rfl ?_
  refine j_get cx inGX3 0 rfl rfl 1 (by decide) q_fl_X3_15 rfl rfl dX3_sortOut_86 (pn := 89) rfl ?_
  refine j_iload_n cx 3 rfl rfl dX3_sortOut_89 (pn := 90) rfl ?_
  refine j_iconst cx (v := (-1)) (by decide) dX3_sortOut_90 (pn := 91) rfl ?_
  have hin := h.1
  obtain ⟨f5, ef5⟩ : ∃ z, z = upd f_sideCounts x3.toNatClampNeg (-1) := ⟨_, rfl⟩
  have h := h.2 f5 ef5
  refine j_iast cx 2 0 rfl rfl hin (W_FT cyI cyJ cyZ a_f a_f_needs a_f_sideCounts a_f_yardSums a_f_beside f_all f_wanted f_mostSides f4 f5 f_yardSums f_beside) (by subst ef5; rfl) dX3_sortOut_91 (pn := 92) rfl ?_
  exact J_X3_sortOut_92 cx hR hB9 h
set_option maxHeartbeats 4000000 in
set_option maxRecDepth 100000 in
theorem B_X3_sortOut_9 {x : CX} {D : DG} {cyI cyJ cyZ : ClassId} {a_f a_f_needs a_f_sideCounts a_f_yardSums a_f_beside : Nat} {f_all : Int32} {f_wanted : Int32} {f_mostSides : Int32} {f_needs : Nat → Int32} {f_sideCounts : Nat → Int32} {f_yardSums : Nat → Int32} {f_beside : Nat → Int32} {p1 : Int32} {p2 : Int32} {x3 : Int32} {Q : (Int32 × (Nat → Int32) × (Nat → Int32)) → Prop} {B9 : Int32 → (Nat → Int32) → (Nat → Int32) → Int32 → Prop} (cx : Cx x cX3_sortOut 4 RX3 rm_X3_sortOut D [(cyI, .int), (cyJ, .long), (cyZ, .boolean)]) (hR : ∀ (u : Int32 × (Nat → Int32) × (Nat → Int32)) (pc : Nat) (lv : List (Nat × Value)), decode cX3_sortOut pc = .ok (.return_, 1) → Q u → J x 0 0 4 (W_FT cyI cyJ cyZ a_f a_f_needs a_f_sideCounts a_f_yardSums a_f_beside f_all f_wanted u.1 u.2.1 u.2.2 f_yardSums f_beside) lv pc []) (hB9 : ∀ (f_mostSides : Int32) (f_needs : Nat → Int32) (f_sideCounts : Nat → Int32) (x3 : Int32), B9 f_mostSides f_needs f_sideCounts x3 → J x 0 0 4 (W_FT cyI cyJ cyZ a_f a_f_needs a_f_sideCounts a_f_yardSums a_f_beside f_all f_wanted f_mostSides f_needs f_sideCounts f_yardSums f_beside) [(0, .ref a_f), (1, .int p1), (2, .int p2), (3, .int x3)] 9 []) (h : bd_X3_sortOut_9 Q B9 p1 p2 f_all f_beside f_mostSides f_needs f_sideCounts x3) :
    J x 0 0 4 (W_FT cyI cyJ cyZ a_f a_f_needs a_f_sideCounts a_f_yardSums a_f_beside f_all f_wanted f_mostSides f_needs f_sideCounts f_yardSums f_beside) [(0, .ref a_f), (1, .int p1), (2, .int p2), (3, .int x3)] 9 [] := by
  unfold bd_X3_sortOut_9 at h
  refine j_iload_n cx 3 rfl rfl dX3_sortOut_9 (pn := 10) rfl ?_
  refine j_aload_n cx 0 rfl rfl dX3_sortOut_10 (pn := 11) rfl ?_
  refine j_get cx inGX3 0 rfl rfl 4 (by decide) q_fl_X3_30 rfl rfl dX3_sortOut_11 (pn := 14) rfl ?_
  refine j_icmp_gt cx 98 dX3_sortOut_14 (pn := 17) rfl rfl (fun c2 => ?_) (fun c2 => ?_)
  · have h := h.1 c2
    exact hR (f_mostSides, f_needs, f_sideCounts) 98 _ dX3_sortOut_98 h
  · have h := h.2 c2
    refine j_iload_n cx 3 rfl rfl dX3_sortOut_17 (pn := 18) rfl ?_
    refine j_iload_n cx 1 rfl rfl dX3_sortOut_18 (pn := 19) rfl ?_
    refine j_iand cx dX3_sortOut_19 (pn := 20) rfl ?_
    refine j_if_ne cx 78 dX3_sortOut_20 (pn := 23) rfl rfl (fun c3 => ?_) (fun c3 => ?_)
    · have h := h.1 c3
      exact J_X3_sortOut_78 cx hR hB9 h
    · have h := h.2 c3
      refine j_aload_n cx 0 rfl rfl dX3_sortOut_23 (pn := 24) rfl ?_
      refine j_iload_n cx 3 rfl rfl dX3_sortOut_24 (pn := 25) rfl ?_
      refine j_callvI0 cx q_inst_X3_inOnePiece q_sel_X3_inOnePiece (b := a_f) (As := [.int x3]) (rest := []) (c_X3_inOnePiece h) ⟨q_code_X3_inOnePiece, q_ml_X3_67, q_init_X3, hd_X3_inOnePiece, ⟨Nat.le_of_ble_eq_true rfl, Nat.le_of_ble_eq_true rfl⟩, Nat.le_of_ble_eq_true rfl, Nat.le_of_ble_eq_true rfl⟩ (q0 := 0) rfl rfl rfl rfl (Nat.le_of_ble_eq_true rfl) dX3_sortOut_25 (pn := 28) rfl (fun r7 _ h => ?_)
      show J x 0 0 4 (W_FT cyI cyJ cyZ a_f a_f_needs a_f_sideCounts a_f_yardSums a_f_beside f_all f_wanted f_mostSides f_needs f_sideCounts f_yardSums f_beside) [(0, .ref a_f), (1, .int p1), (2, .int p2), (3, .int x3)] 28 [.int r7]
      refine j_if_eq cx 78 dX3_sortOut_28 (pn := 31) rfl rfl (fun c8 => ?_) (fun c8 => ?_)
      · have h := h.1 c8
        exact J_X3_sortOut_78 cx hR hB9 h
      · have h := h.2 c8
        refine j_aload_n cx 0 rfl rfl dX3_sortOut_31 (pn := 32) rfl ?_
        refine j_get cx inGX3 0 rfl rfl 0 (by decide) q_fl_X3_9 rfl rfl dX3_sortOut_32 (pn := 35) rfl ?_
        refine j_iload_n cx 3 rfl rfl dX3_sortOut_35 (pn := 36) rfl ?_
        refine j_dup2 cx rfl rfl dX3_sortOut_36 (pn := 37) rfl ?_
        refine j_iald cx 1 0 rfl rfl h.1 dX3_sortOut_37 (pn := 38) rfl ?_
        have h := h.2
        refine j_iload_n cx 2 rfl rfl dX3_sortOut_38 (pn := 39) rfl ?_
        refine j_iconst cx (v := (-1)) (by decide) dX3_sortOut_39 (pn := 40) rfl ?_
        refine j_ixor cx dX3_sortOut_40 (pn := 41) rfl ?_
        refine j_iand cx dX3_sortOut_41 (pn := 42) rfl ?_
        refine j_topi (fun y9 ey9 => ?_)
        have h := h y9 ey9
        have hin := h.1
        obtain ⟨f10, ef10⟩ : ∃ z, z = upd f_needs x3.toNatClampNeg y9 := ⟨_, rfl⟩
        have h := h.2 f10 ef10
        refine j_iast cx 1 0 rfl rfl hin (W_FT cyI cyJ cyZ a_f a_f_needs a_f_sideCounts a_f_yardSums a_f_beside f_all f_wanted f_mostSides f10 f_sideCounts f_yardSums f_beside) (by subst ef10; rfl) dX3_sortOut_42 (pn := 43) rfl ?_
        refine j_aload_n cx 0 rfl rfl dX3_sortOut_43 (pn := 44) rfl ?_
        refine j_get cx inGX3 0 rfl rfl 1 (by decide) q_fl_X3_15 rfl rfl dX3_sortOut_44 (pn := 47) rfl ?_
        refine j_iload_n cx 3 rfl rfl dX3_sortOut_47 (pn := 48) rfl ?_
        refine j_aload_n cx 0 rfl rfl dX3_sortOut_48 (pn := 49) rfl ?_
        refine j_get cx inGX3 0 rfl rfl 0 (by decide) q_fl_X3_9 rfl rfl dX3_sortOut_49 (pn := 52) rfl ?_
        refine j_iload_n cx 3 rfl rfl dX3_sortOut_52 (pn := 53) rfl ?_
        refine j_iald cx 1 0 rfl rfl h.1 dX3_sortOut_53 (pn := 54) rfl ?_
        have h := h.2
        refine j_calleI cx q_stat_J6_bitCount_0f7a4 (As := [.int (f10 x3.toNatClampNeg)]) (rest := [.int x3, .ref a_f_sideCounts]) (c_J6_bitCount_0f7a4 h) ⟨q_code_J6_bitCount_0f7a4, q_ml_X3_71, q_init_J6, hd_J6_bitCount_0f7a4, ⟨Nat.le_of_ble_eq_true rfl, Nat.le_of_ble_eq_true rfl⟩, Nat.le_of_ble_eq_true rfl, Nat.le_of_ble_eq_true rfl⟩ rfl rfl (Nat.le_of_ble_eq_true rfl) dX3_sortOut_54 (pn := 57) rfl (fun r11 h => ?_)
        show J x 0 0 4 (W_FT cyI cyJ cyZ a_f a_f_needs a_f_sideCounts a_f_yardSums a_f_beside f_all f_wanted f_mostSides f10 f_sideCounts f_yardSums f_beside) [(0, .ref a_f), (1, .int p1), (2, .int p2), (3, .int x3)] 57 [.int r11, .int x3, .ref a_f_sideCounts]
        have hin := h.1
        obtain ⟨f12, ef12⟩ : ∃ z, z = upd f_sideCounts x3.toNatClampNeg r11 := ⟨_, rfl⟩
        have h := h.2 f12 ef12
        refine j_iast cx 2 0 rfl rfl hin (W_FT cyI cyJ cyZ a_f a_f_needs a_f_sideCounts a_f_yardSums a_f_beside f_all f_wanted f_mostSides f10 f12 f_yardSums f_beside) (by subst ef12; rfl) dX3_sortOut_57 (pn := 58) rfl ?_
        refine j_aload_n cx 0 rfl rfl dX3_sortOut_58 (pn := 59) rfl ?_
        refine j_aload_n cx 0 rfl rfl dX3_sortOut_59 (pn := 60) rfl ?_
        refine j_get cx inGX3 0 rfl rfl 6 (by decide) q_fl_X3_37 rfl rfl dX3_sortOut_60 (pn := 63) rfl ?_
        refine j_aload_n cx 0 rfl rfl dX3_sortOut_63 (pn := 64) rfl ?_
        refine j_get cx inGX3 0 rfl rfl 1 (by decide) q_fl_X3_15 rfl rfl dX3_sortOut_64 (pn := 67) rfl ?_
        refine j_iload_n cx 3 rfl rfl dX3_sortOut_67 (pn := 68) rfl ?_
        refine j_iald cx 2 0 rfl rfl h.1 dX3_sortOut_68 (pn := 69) rfl ?_
        have h := h.2
        refine j_mmax cx q_ml_X3_77 q_stat_J9_max_7cf53 q_init_J9 q_code_J9_max_7cf53 (Nat.le_of_ble_eq_true rfl) (Nat.le_of_ble_eq_true rfl) (Nat.zero_le _) (Nat.zero_le _) dX3_sortOut_69 (pn := 72) rfl ?_
        refine j_topi (fun y13 ey13 => ?_)
        have h := h y13 ey13
        refine j_put cx tyX3 tyX3_ok nmX3 inGX3 0 rfl rfl 6 (by decide) q_fl_X3_37 rfl rfl rfl rfl rfl (Nat.le_of_ble_eq_true rfl) (W_FT cyI cyJ cyZ a_f a_f_needs a_f_sideCounts a_f_yardSums a_f_beside f_all f_wanted y13 f10 f12 f_yardSums f_beside) rfl dX3_sortOut_72 (pn := 75) rfl ?_
        refine j_goto cx 92 dX3_sortOut_75 rfl ?_
        exact J_X3_sortOut_92 cx hR hB9 h
set_option maxHeartbeats 4000000 in
set_option maxRecDepth 100000 in
theorem J_X3_sortOut_9 {x : CX} {D : DG} {cyI cyJ cyZ : ClassId} {a_f a_f_needs a_f_sideCounts a_f_yardSums a_f_beside : Nat} {f_all : Int32} {f_wanted : Int32} {f_mostSides : Int32} {f_needs : Nat → Int32} {f_sideCounts : Nat → Int32} {f_yardSums : Nat → Int32} {f_beside : Nat → Int32} {p1 : Int32} {p2 : Int32} {x3 : Int32} {Q : (Int32 × (Nat → Int32) × (Nat → Int32)) → Prop} (cx : Cx x cX3_sortOut 4 RX3 rm_X3_sortOut D [(cyI, .int), (cyJ, .long), (cyZ, .boolean)]) (hR : ∀ (u : Int32 × (Nat → Int32) × (Nat → Int32)) (pc : Nat) (lv : List (Nat × Value)), decode cX3_sortOut pc = .ok (.return_, 1) → Q u → J x 0 0 4 (W_FT cyI cyJ cyZ a_f a_f_needs a_f_sideCounts a_f_yardSums a_f_beside f_all f_wanted u.1 u.2.1 u.2.2 f_yardSums f_beside) lv pc []) (h : lp_X3_sortOut_9 Q  p1 p2 f_all f_beside f_mostSides f_needs f_sideCounts x3) :
    J x 0 0 4 (W_FT cyI cyJ cyZ a_f a_f_needs a_f_sideCounts a_f_yardSums a_f_beside f_all f_wanted f_mostSides f_needs f_sideCounts f_yardSums f_beside) [(0, .ref a_f), (1, .int p1), (2, .int p2), (3, .int x3)] 9 [] := by
  obtain ⟨I, ⟨n, h0⟩, hb⟩ := h
  revert f_mostSides f_needs f_sideCounts x3
  induction n using Nat.strongRecOn with
  | _ n ih =>
    intro f_mostSides f_needs f_sideCounts x3 h0
    exact B_X3_sortOut_9 cx hR (fun _ _ _ _ hz => by obtain ⟨n2, hlt, hI⟩ := hz; exact ih n2 hlt hI) (hb n f_mostSides f_needs f_sideCounts x3 h0)
set_option maxHeartbeats 4000000 in
set_option maxRecDepth 100000 in
theorem c_X3_sortOut {D : DG} {cyI cyJ cyZ : ClassId} {a_f a_f_needs a_f_sideCounts a_f_yardSums a_f_beside : Nat} {f_all : Int32} {f_wanted : Int32} {f_mostSides : Int32} {f_needs : Nat → Int32} {f_sideCounts : Nat → Int32} {f_yardSums : Nat → Int32} {f_beside : Nat → Int32} {p1 : Int32} {p2 : Int32} {Q : (Int32 × (Nat → Int32) × (Nat → Int32)) → Prop} (h : wp_X3_sortOut p1 p2 f_all f_mostSides f_needs f_sideCounts f_beside Q) :
    MetV yX3_sortOut cX3_sortOut 4 (none) rm_X3_sortOut D [(cyI, .int), (cyJ, .long), (cyZ, .boolean)] [.ref a_f, .int p1, .int p2] (W_FT cyI cyJ cyZ a_f a_f_needs a_f_sideCounts a_f_yardSums a_f_beside f_all f_wanted f_mostSides f_needs f_sideCounts f_yardSums f_beside) (fun u : Int32 × (Nat → Int32) × (Nat → Int32) => (W_FT cyI cyJ cyZ a_f a_f_needs a_f_sideCounts a_f_yardSums a_f_beside f_all f_wanted u.1 u.2.1 u.2.2 f_yardSums f_beside)) (fun u => Q u) := by
  unfold wp_X3_sortOut at h
  refine metV_of (by decide) (Nat.le_of_ble_eq_true rfl) (fun x cx0 hR0 => ?_)
  have cx : Cx x cX3_sortOut 4 RX3 rm_X3_sortOut D [(cyI, .int), (cyJ, .long), (cyZ, .boolean)] := cx0
  have hR : ∀ (u : Int32 × (Nat → Int32) × (Nat → Int32)) (pc : Nat) (lv : List (Nat × Value)), decode cX3_sortOut pc = .ok (.return_, 1) → Q u → J x 0 0 4 (W_FT cyI cyJ cyZ a_f a_f_needs a_f_sideCounts a_f_yardSums a_f_beside f_all f_wanted u.1 u.2.1 u.2.2 f_yardSums f_beside) lv pc [] := (fun u pc lv d hq => hR0 u pc lv d hq)
  show J x 0 0 4 (W_FT cyI cyJ cyZ a_f a_f_needs a_f_sideCounts a_f_yardSums a_f_beside f_all f_wanted f_mostSides f_needs f_sideCounts f_yardSums f_beside) [(0, .ref a_f), (1, .int p1), (2, .int p2)] 0 []
  refine j_aload_n cx 0 rfl rfl dX3_sortOut_0 (pn := 1) rfl ?_
  refine j_get cx inGX3 0 rfl rfl 1 (by decide) q_fl_X3_15 rfl rfl dX3_sortOut_1 (pn := 4) rfl ?_
  refine j_iconst cx (v := 0) (by decide) dX3_sortOut_4 (pn := 5) rfl ?_
  refine j_iconst cx (v := (-1)) (by decide) dX3_sortOut_5 (pn := 6) rfl ?_
  have hin := h.1
  obtain ⟨f1, ef1⟩ : ∃ z, z = upd f_sideCounts (0 : Int32).toNatClampNeg (-1) := ⟨_, rfl⟩
  have h := h.2 f1 ef1
  refine j_iast cx 2 0 rfl rfl hin (W_FT cyI cyJ cyZ a_f a_f_needs a_f_sideCounts a_f_yardSums a_f_beside f_all f_wanted f_mostSides f_needs f1 f_yardSums f_beside) (by subst ef1; rfl) dX3_sortOut_6 (pn := 7) rfl ?_
  refine j_iconst cx (v := 1) (by decide) dX3_sortOut_7 (pn := 8) rfl ?_
  refine j_istore_n cx rfl [(3, .int 1), (0, .ref a_f), (1, .int p1), (2, .int p2)] (by decide) rfl dX3_sortOut_8 (pn := 9) rfl ?_
  refine j_sub [1, 2, 3, 0] [(0, .ref a_f), (1, .int p1), (2, .int p2), (3, .int 1)] rfl ?_
  exact J_X3_sortOut_9 cx hR h
theorem dX3_build_0 : decode cX3_build 0 = .ok (.aload_n 0, 1) := by decide +kernel
theorem dX3_build_1 : decode cX3_build 1 = .ok (.iconst 1, 1) := by decide +kernel
theorem dX3_build_2 : decode cX3_build 2 = .ok (.aload_n 1, 1) := by decide +kernel
theorem dX3_build_3 : decode cX3_build 3 = .ok (.invokevirtual 24, 3) := by decide +kernel
theorem dX3_build_6 : decode cX3_build 6 = .ok (.ishl, 1) := by decide +kernel
theorem dX3_build_7 : decode cX3_build 7 = .ok (.iconst 1, 1) := by decide +kernel
theorem dX3_build_8 : decode cX3_build 8 = .ok (.isub, 1) := by decide +kernel
theorem dX3_build_9 : decode cX3_build 9 = .ok (.putfield 30, 3) := by decide +kernel
theorem dX3_build_12 : decode cX3_build 12 = .ok (.aload_n 0, 1) := by decide +kernel
theorem dX3_build_13 : decode cX3_build 13 = .ok (.iconst 0, 1) := by decide +kernel
theorem dX3_build_14 : decode cX3_build 14 = .ok (.putfield 34, 3) := by decide +kernel
theorem dX3_build_17 : decode cX3_build 17 = .ok (.aload_n 0, 1) := by decide +kernel
theorem dX3_build_18 : decode cX3_build 18 = .ok (.iconst 0, 1) := by decide +kernel
theorem dX3_build_19 : decode cX3_build 19 = .ok (.putfield 37, 3) := by decide +kernel
theorem dX3_build_22 : decode cX3_build 22 = .ok (.iconst 0, 1) := by decide +kernel
theorem dX3_build_23 : decode cX3_build 23 = .ok (.istore_n 3, 1) := by decide +kernel
theorem dX3_build_24 : decode cX3_build 24 = .ok (.aload_n 1, 1) := by decide +kernel
theorem dX3_build_25 : decode cX3_build 25 = .ok (.getfield 40, 3) := by decide +kernel
theorem dX3_build_28 : decode cX3_build 28 = .ok (.istore 4, 2) := by decide +kernel
theorem dX3_build_30 : decode cX3_build 30 = .ok (.iconst 0, 1) := by decide +kernel
theorem dX3_build_31 : decode cX3_build 31 = .ok (.istore 5, 2) := by decide +kernel
theorem dX3_build_33 : decode cX3_build 33 = .ok (.iload 5, 2) := by decide +kernel
theorem dX3_build_35 : decode cX3_build 35 = .ok (.aload_n 1, 1) := by decide +kernel
theorem dX3_build_36 : decode cX3_build 36 = .ok (.getfield 43, 3) := by decide +kernel
theorem dX3_build_39 : decode cX3_build 39 = .ok (.if_icmp .ge 142, 3) := by decide +kernel
theorem dX3_build_42 : decode cX3_build 42 = .ok (.iconst 0, 1) := by decide +kernel
theorem dX3_build_43 : decode cX3_build 43 = .ok (.istore 6, 2) := by decide +kernel
theorem dX3_build_45 : decode cX3_build 45 = .ok (.iload 6, 2) := by decide +kernel
theorem dX3_build_47 : decode cX3_build 47 = .ok (.aload_n 1, 1) := by decide +kernel
theorem dX3_build_48 : decode cX3_build 48 = .ok (.getfield 46, 3) := by decide +kernel
theorem dX3_build_51 : decode cX3_build 51 = .ok (.if_icmp .ge 124, 3) := by decide +kernel
theorem dX3_build_54 : decode cX3_build 54 = .ok (.aload_n 1, 1) := by decide +kernel
theorem dX3_build_55 : decode cX3_build 55 = .ok (.getfield 46, 3) := by decide +kernel
theorem dX3_build_58 : decode cX3_build 58 = .ok (.iload 5, 2) := by decide +kernel
theorem dX3_build_60 : decode cX3_build 60 = .ok (.imul, 1) := by decide +kernel
theorem dX3_build_61 : decode cX3_build 61 = .ok (.iload 6, 2) := by decide +kernel
theorem dX3_build_63 : decode cX3_build 63 = .ok (.iadd, 1) := by decide +kernel
theorem dX3_build_64 : decode cX3_build 64 = .ok (.istore 7, 2) := by decide +kernel
theorem dX3_build_66 : decode cX3_build 66 = .ok (.aload_n 1, 1) := by decide +kernel
theorem dX3_build_67 : decode cX3_build 67 = .ok (.getfield 49, 3) := by decide +kernel
theorem dX3_build_70 : decode cX3_build 70 = .ok (.iload 7, 2) := by decide +kernel
theorem dX3_build_72 : decode cX3_build 72 = .ok (.iaload, 1) := by decide +kernel
theorem dX3_build_73 : decode cX3_build 73 = .ok (.istore 8, 2) := by decide +kernel
theorem dX3_build_75 : decode cX3_build 75 = .ok (.aload_n 0, 1) := by decide +kernel
theorem dX3_build_76 : decode cX3_build 76 = .ok (.aload_n 1, 1) := by decide +kernel
theorem dX3_build_77 : decode cX3_build 77 = .ok (.iload 6, 2) := by decide +kernel
theorem dX3_build_79 : decode cX3_build 79 = .ok (.iload 5, 2) := by decide +kernel
theorem dX3_build_81 : decode cX3_build 81 = .ok (.invokevirtual 52, 3) := by decide +kernel
theorem dX3_build_84 : decode cX3_build 84 = .ok (.iload 8, 2) := by decide +kernel
theorem dX3_build_86 : decode cX3_build 86 = .ok (.bipush 10, 2) := by decide +kernel
theorem dX3_build_88 : decode cX3_build 88 = .ok (.if_icmp .lt 23, 3) := by decide +kernel
theorem dX3_build_91 : decode cX3_build 91 = .ok (.iload_n 3, 1) := by decide +kernel
theorem dX3_build_92 : decode cX3_build 92 = .ok (.iconst 1, 1) := by decide +kernel
theorem dX3_build_93 : decode cX3_build 93 = .ok (.iload 7, 2) := by decide +kernel
theorem dX3_build_95 : decode cX3_build 95 = .ok (.ishl, 1) := by decide +kernel
theorem dX3_build_96 : decode cX3_build 96 = .ok (.ior, 1) := by decide +kernel
theorem dX3_build_97 : decode cX3_build 97 = .ok (.istore_n 3, 1) := by decide +kernel
theorem dX3_build_98 : decode cX3_build 98 = .ok (.aload_n 0, 1) := by decide +kernel
theorem dX3_build_99 : decode cX3_build 99 = .ok (.getfield 18, 3) := by decide +kernel
theorem dX3_build_102 : decode cX3_build 102 = .ok (.iconst 1, 1) := by decide +kernel
theorem dX3_build_103 : decode cX3_build 103 = .ok (.iload 7, 2) := by decide +kernel
theorem dX3_build_105 : decode cX3_build 105 = .ok (.ishl, 1) := by decide +kernel
theorem dX3_build_106 : decode cX3_build 106 = .ok (.iconst 0, 1) := by decide +kernel
theorem dX3_build_107 : decode cX3_build 107 = .ok (.iastore, 1) := by decide +kernel
theorem dX3_build_108 : decode cX3_build 108 = .ok (.goto 36, 3) := by decide +kernel
theorem dX3_build_111 : decode cX3_build 111 = .ok (.aload_n 0, 1) := by decide +kernel
theorem dX3_build_112 : decode cX3_build 112 = .ok (.getfield 18, 3) := by decide +kernel
theorem dX3_build_115 : decode cX3_build 115 = .ok (.iconst 1, 1) := by decide +kernel
theorem dX3_build_116 : decode cX3_build 116 = .ok (.iload 7, 2) := by decide +kernel
theorem dX3_build_118 : decode cX3_build 118 = .ok (.ishl, 1) := by decide +kernel
theorem dX3_build_119 : decode cX3_build 119 = .ok (.iload 8, 2) := by decide +kernel
theorem dX3_build_121 : decode cX3_build 121 = .ok (.iastore, 1) := by decide +kernel
theorem dX3_build_122 : decode cX3_build 122 = .ok (.aload_n 0, 1) := by decide +kernel
theorem dX3_build_123 : decode cX3_build 123 = .ok (.dup, 1) := by decide +kernel
theorem dX3_build_124 : decode cX3_build 124 = .ok (.getfield 34, 3) := by decide +kernel
theorem dX3_build_127 : decode cX3_build 127 = .ok (.iload 8, 2) := by decide +kernel
theorem dX3_build_129 : decode cX3_build 129 = .ok (.ifCond .le 10, 3) := by decide +kernel
theorem dX3_build_132 : decode cX3_build 132 = .ok (.iconst 1, 1) := by decide +kernel
theorem dX3_build_133 : decode cX3_build 133 = .ok (.iload 7, 2) := by decide +kernel
theorem dX3_build_135 : decode cX3_build 135 = .ok (.ishl, 1) := by decide +kernel
theorem dX3_build_136 : decode cX3_build 136 = .ok (.goto 4, 3) := by decide +kernel
theorem dX3_build_139 : decode cX3_build 139 = .ok (.iconst 0, 1) := by decide +kernel
theorem dX3_build_140 : decode cX3_build 140 = .ok (.ior, 1) := by decide +kernel
theorem dX3_build_141 : decode cX3_build 141 = .ok (.putfield 34, 3) := by decide +kernel
theorem dX3_build_144 : decode cX3_build 144 = .ok (.iload 8, 2) := by decide +kernel
theorem dX3_build_146 : decode cX3_build 146 = .ok (.bipush 10, 2) := by decide +kernel
theorem dX3_build_148 : decode cX3_build 148 = .ok (.if_icmp .ne 21, 3) := by decide +kernel
theorem dX3_build_151 : decode cX3_build 151 = .ok (.iload_n 2, 1) := by decide +kernel
theorem dX3_build_152 : decode cX3_build 152 = .ok (.ifCond .ne 17, 3) := by decide +kernel
theorem dX3_build_155 : decode cX3_build 155 = .ok (.iload 4, 2) := by decide +kernel
theorem dX3_build_157 : decode cX3_build 157 = .ok (.aload_n 0, 1) := by decide +kernel
theorem dX3_build_158 : decode cX3_build 158 = .ok (.getfield 9, 3) := by decide +kernel
theorem dX3_build_161 : decode cX3_build 161 = .ok (.iconst 1, 1) := by decide +kernel
theorem dX3_build_162 : decode cX3_build 162 = .ok (.iload 7, 2) := by decide +kernel
theorem dX3_build_164 : decode cX3_build 164 = .ok (.ishl, 1) := by decide +kernel
theorem dX3_build_165 : decode cX3_build 165 = .ok (.iaload, 1) := by decide +kernel
theorem dX3_build_166 : decode cX3_build 166 = .ok (.ior, 1) := by decide +kernel
theorem dX3_build_167 : decode cX3_build 167 = .ok (.istore 4, 2) := by decide +kernel
theorem dX3_build_169 : decode cX3_build 169 = .ok (.iinc 6 1, 3) := by decide +kernel
theorem dX3_build_172 : decode cX3_build 172 = .ok (.goto (-127), 3) := by decide +kernel
theorem dX3_build_175 : decode cX3_build 175 = .ok (.iinc 5 1, 3) := by decide +kernel
theorem dX3_build_178 : decode cX3_build 178 = .ok (.goto (-145), 3) := by decide +kernel
theorem dX3_build_181 : decode cX3_build 181 = .ok (.aload_n 0, 1) := by decide +kernel
theorem dX3_build_182 : decode cX3_build 182 = .ok (.invokevirtual 56, 3) := by decide +kernel
theorem dX3_build_185 : decode cX3_build 185 = .ok (.aload_n 0, 1) := by decide +kernel
theorem dX3_build_186 : decode cX3_build 186 = .ok (.iload_n 2, 1) := by decide +kernel
theorem dX3_build_187 : decode cX3_build 187 = .ok (.ifCond .eq 7, 3) := by decide +kernel
theorem dX3_build_190 : decode cX3_build 190 = .ok (.iconst 0, 1) := by decide +kernel
theorem dX3_build_191 : decode cX3_build 191 = .ok (.goto 4, 3) := by decide +kernel
theorem dX3_build_194 : decode cX3_build 194 = .ok (.iload_n 3, 1) := by decide +kernel
theorem dX3_build_195 : decode cX3_build 195 = .ok (.iload 4, 2) := by decide +kernel
theorem dX3_build_197 : decode cX3_build 197 = .ok (.invokevirtual 59, 3) := by decide +kernel
theorem dX3_build_200 : decode cX3_build 200 = .ok (.return_, 1) := by decide +kernel
abbrev rm_X3_build : Room := { frames := 2, cells := 0, slots := 0, locals := 49 }
theorem hd_X3_build : yX3_build.cls ≠ "java/lang/invoke/MethodHandle" ∧ yX3_build.cls ≠ "java/lang/invoke/VarHandle" ∧ (parseMethodDescriptor yX3_build.desc).map (fun d => d.parameters.length) = some 2 := by decide +kernel
def bk_X3_build_195 (Q : (Int32 × Int32 × Int32 × (Nat → Int32) × (Nat → Int32) × (Nat → Int32) × (Nat → Int32)) → Prop) (x4 : Int32) (f_all : Int32) (f_wanted : Int32) (f_mostSides : Int32) (f_needs : Nat → Int32) (f_sideCounts : Nat → Int32) (f_yardSums : Nat → Int32) (f_beside : Nat → Int32) (s0 : Int32) : Prop :=
wp_X3_sortOut s0 x4 f_all f_mostSides f_needs f_sideCounts f_beside (fun (u6 : Int32 × (Nat → Int32) × (Nat → Int32)) => Q (f_all, f_wanted, u6.1, u6.2.1, u6.2.2, f_yardSums, f_beside))
def bk_X3_build_169 (Q : (Int32 × Int32 × Int32 × (Nat → Int32) × (Nat → Int32) × (Nat → Int32) × (Nat → Int32)) → Prop) (B33 : Int32 → (Nat → Int32) → (Nat → Int32) → (Nat → Int32) → Int32 → Int32 → Int32 → Prop) (B45 : Int32 → (Nat → Int32) → (Nat → Int32) → (Nat → Int32) → Int32 → Int32 → Int32 → Prop) (x3 : Int32) (x4 : Int32) (x6 : Int32) (f_wanted : Int32) (f_needs : Nat → Int32) (f_yardSums : Nat → Int32) (f_beside : Nat → Int32) : Prop :=
∀ y17 : Int32, y17 = (x6 + 1) →
B45 f_wanted f_needs f_yardSums f_beside x3 x4 y17
def bk_X3_build_144 (Q : (Int32 × Int32 × Int32 × (Nat → Int32) × (Nat → Int32) × (Nat → Int32) × (Nat → Int32)) → Prop) (B33 : Int32 → (Nat → Int32) → (Nat → Int32) → (Nat → Int32) → Int32 → Int32 → Int32 → Prop) (B45 : Int32 → (Nat → Int32) → (Nat → Int32) → (Nat → Int32) → Int32 → Int32 → Int32 → Prop) (p2 : Int32) (x3 : Int32) (x4 : Int32) (x6 : Int32) (x7 : Int32) (x8 : Int32) (f_wanted : Int32) (f_needs : Nat → Int32) (f_yardSums : Nat → Int32) (f_beside : Nat → Int32) : Prop :=
((¬ x8 = 10 → bk_X3_build_169 Q B33 B45 x3 x4 x6 f_wanted f_needs f_yardSums f_beside) ∧
(x8 = 10 → ((¬ p2 = 0 → bk_X3_build_169 Q B33 B45 x3 x4 x6 f_wanted f_needs f_yardSums f_beside) ∧
(p2 = 0 → vp_in (1 <<< (x7 &&& 31)) 1024 ∧ (∀ y19 : Int32, y19 = (x4 ||| (f_needs (1 <<< (x7 &&& 31)).toNatClampNeg)) →
bk_X3_build_169 Q B33 B45 x3 y19 x6 f_wanted f_needs f_yardSums f_beside)))))
def bk_X3_build_140 (Q : (Int32 × Int32 × Int32 × (Nat → Int32) × (Nat → Int32) × (Nat → Int32) × (Nat → Int32)) → Prop) (B33 : Int32 → (Nat → Int32) → (Nat → Int32) → (Nat → Int32) → Int32 → Int32 → Int32 → Prop) (B45 : Int32 → (Nat → Int32) → (Nat → Int32) → (Nat → Int32) → Int32 → Int32 → Int32 → Prop) (p2 : Int32) (x3 : Int32) (x4 : Int32) (x6 : Int32) (x7 : Int32) (x8 : Int32) (f_needs : Nat → Int32) (f_yardSums : Nat → Int32) (f_beside : Nat → Int32) (s0 : Int32) (s1 : Int32) : Prop :=
∀ y15 : Int32, y15 = (s1 ||| s0) →
bk_X3_build_144 Q B33 B45 p2 x3 x4 x6 x7 x8 y15 f_needs f_yardSums f_beside
def bd_X3_build_45 (Q : (Int32 × Int32 × Int32 × (Nat → Int32) × (Nat → Int32) × (Nat → Int32) × (Nat → Int32)) → Prop) (B33 : Int32 → (Nat → Int32) → (Nat → Int32) → (Nat → Int32) → Int32 → Int32 → Int32 → Prop) (B45 : Int32 → (Nat → Int32) → (Nat → Int32) → (Nat → Int32) → Int32 → Int32 → Int32 → Prop) (p2 : Int32) (x5 : Int32) (g_columns : Int32) (g_rows : Int32) (g_kinds : Nat → Int32) (f_wanted : Int32) (f_needs : Nat → Int32) (f_yardSums : Nat → Int32) (f_beside : Nat → Int32) (x3 : Int32) (x4 : Int32) (x6 : Int32) : Prop :=
((g_columns ≤ x6 → ∀ y8 : Int32, y8 = (x5 + 1) →
B33 f_wanted f_needs f_yardSums f_beside x3 x4 y8) ∧
(¬ g_columns ≤ x6 → ∀ y9 : Int32, y9 = ((g_columns * x5) + x6) →
vp_in y9 10 ∧ (∀ y10 : Int32, y10 = (g_kinds y9.toNatClampNeg) →
wp_X3_putSingle x6 x5 f_needs f_beside g_columns g_rows (fun (u11 : (Nat → Int32) × (Nat → Int32)) => ((y10 < 10 → vp_in (1 <<< (y9 &&& 31)) 1024 ∧ (∀ f13 : Nat → Int32, f13 = (upd f_yardSums (1 <<< (y9 &&& 31)).toNatClampNeg y10) →
((y10 ≤ 0 → bk_X3_build_140 Q B33 B45 p2 x3 x4 x6 y9 y10 u11.1 f13 u11.2 0 f_wanted) ∧
(¬ y10 ≤ 0 → bk_X3_build_140 Q B33 B45 p2 x3 x4 x6 y9 y10 u11.1 f13 u11.2 (1 <<< (y9 &&& 31)) f_wanted)))) ∧
(¬ y10 < 10 → ∀ y20 : Int32, y20 = (x3 ||| (1 <<< (y9 &&& 31))) →
vp_in (1 <<< (y9 &&& 31)) 1024 ∧ (∀ f21 : Nat → Int32, f21 = (upd f_yardSums (1 <<< (y9 &&& 31)).toNatClampNeg 0) →
bk_X3_build_144 Q B33 B45 p2 y20 x4 x6 y9 y10 f_wanted u11.1 f21 u11.2)))))))
def lp_X3_build_45 (Q : (Int32 × Int32 × Int32 × (Nat → Int32) × (Nat → Int32) × (Nat → Int32) × (Nat → Int32)) → Prop) (B33 : Int32 → (Nat → Int32) → (Nat → Int32) → (Nat → Int32) → Int32 → Int32 → Int32 → Prop) (p2 : Int32) (x5 : Int32) (g_columns : Int32) (g_rows : Int32) (g_kinds : Nat → Int32) (f_wanted : Int32) (f_needs : Nat → Int32) (f_yardSums : Nat → Int32) (f_beside : Nat → Int32) (x3 : Int32) (x4 : Int32) (x6 : Int32) : Prop :=
∃ I : Nat → Int32 → (Nat → Int32) → (Nat → Int32) → (Nat → Int32) → Int32 → Int32 → Int32 → Prop, (∃ n, I n f_wanted f_needs f_yardSums f_beside x3 x4 x6) ∧ ∀ n f_wanted f_needs f_yardSums f_beside x3 x4 x6, I n f_wanted f_needs f_yardSums f_beside x3 x4 x6 → bd_X3_build_45 Q B33 (fun f_wanted' f_needs' f_yardSums' f_beside' x3' x4' x6' => ∃ n', n' < n ∧ I n' f_wanted' f_needs' f_yardSums' f_beside' x3' x4' x6') p2 x5 g_columns g_rows g_kinds f_wanted f_needs f_yardSums f_beside x3 x4 x6
def bd_X3_build_33 (Q : (Int32 × Int32 × Int32 × (Nat → Int32) × (Nat → Int32) × (Nat → Int32) × (Nat → Int32)) → Prop) (B33 : Int32 → (Nat → Int32) → (Nat → Int32) → (Nat → Int32) → Int32 → Int32 → Int32 → Prop) (p2 : Int32) (f_all : Int32) (f_mostSides : Int32) (f_sideCounts : Nat → Int32) (g_columns : Int32) (g_rows : Int32) (g_kinds : Nat → Int32) (f_wanted : Int32) (f_needs : Nat → Int32) (f_yardSums : Nat → Int32) (f_beside : Nat → Int32) (x3 : Int32) (x4 : Int32) (x5 : Int32) : Prop :=
((g_rows ≤ x5 → wp_X3_joinAll f_all f_needs f_yardSums f_beside (fun (u4 : (Nat → Int32) × (Nat → Int32) × (Nat → Int32)) => ((p2 = 0 → bk_X3_build_195 Q x4 f_all f_wanted f_mostSides u4.1 f_sideCounts u4.2.1 u4.2.2 x3) ∧
(¬ p2 = 0 → bk_X3_build_195 Q x4 f_all f_wanted f_mostSides u4.1 f_sideCounts u4.2.1 u4.2.2 0)))) ∧
(¬ g_rows ≤ x5 → lp_X3_build_45 Q B33 p2 x5 g_columns g_rows g_kinds f_wanted f_needs f_yardSums f_beside x3 x4 0))
def lp_X3_build_33 (Q : (Int32 × Int32 × Int32 × (Nat → Int32) × (Nat → Int32) × (Nat → Int32) × (Nat → Int32)) → Prop) (p2 : Int32) (f_all : Int32) (f_mostSides : Int32) (f_sideCounts : Nat → Int32) (g_columns : Int32) (g_rows : Int32) (g_kinds : Nat → Int32) (f_wanted : Int32) (f_needs : Nat → Int32) (f_yardSums : Nat → Int32) (f_beside : Nat → Int32) (x3 : Int32) (x4 : Int32) (x5 : Int32) : Prop :=
∃ I : Nat → Int32 → (Nat → Int32) → (Nat → Int32) → (Nat → Int32) → Int32 → Int32 → Int32 → Prop, (∃ n, I n f_wanted f_needs f_yardSums f_beside x3 x4 x5) ∧ ∀ n f_wanted f_needs f_yardSums f_beside x3 x4 x5, I n f_wanted f_needs f_yardSums f_beside x3 x4 x5 → bd_X3_build_33 Q  (fun f_wanted' f_needs' f_yardSums' f_beside' x3' x4' x5' => ∃ n', n' < n ∧ I n' f_wanted' f_needs' f_yardSums' f_beside' x3' x4' x5') p2 f_all f_mostSides f_sideCounts g_columns g_rows g_kinds f_wanted f_needs f_yardSums f_beside x3 x4 x5
def wp_X3_build (p2 : Int32) (f_needs : Nat → Int32) (f_sideCounts : Nat → Int32) (f_yardSums : Nat → Int32) (f_beside : Nat → Int32) (g_columns : Int32) (g_rows : Int32) (g_hedges : Int32) (g_kinds : Nat → Int32) (Q : (Int32 × Int32 × Int32 × (Nat → Int32) × (Nat → Int32) × (Nat → Int32) × (Nat → Int32)) → Prop) : Prop :=
wp_X4_squares g_columns g_rows (fun (r1 : Int32) => ∀ y2 : Int32, y2 = ((1 <<< (r1 &&& 31)) - 1) →
lp_X3_build_33 Q p2 y2 0 f_sideCounts g_columns g_rows g_kinds 0 f_needs f_yardSums f_beside 0 g_hedges 0)
set_option maxHeartbeats 4000000 in
set_option maxRecDepth 100000 in
theorem J_X3_build_195 {x : CX} {D : DG} {cyI cyJ cyZ : ClassId} {a_f a_f_needs a_f_sideCounts a_f_yardSums a_f_beside a_g a_g_kinds a_g_wants : Nat} {f_all : Int32} {f_wanted : Int32} {f_mostSides : Int32} {f_needs : Nat → Int32} {f_sideCounts : Nat → Int32} {f_yardSums : Nat → Int32} {f_beside : Nat → Int32} {g_columns : Int32} {g_rows : Int32} {g_hedges : Int32} {g_hurdles : Int32} {g_wantCount : Int32} {g_rest : Int32} {g_frozen : Int32} {g_kinds : Nat → Int32} {g_wants : Nat → Int32} {x4 : Int32} {s0 : Int32} {Q : (Int32 × Int32 × Int32 × (Nat → Int32) × (Nat → Int32) × (Nat → Int32) × (Nat → Int32)) → Prop} (cx : Cx x cX3_build 9 RX3 rm_X3_build D [(cyI, .int), (cyJ, .long), (cyZ, .boolean)]) (hR : ∀ (u : Int32 × Int32 × Int32 × (Nat → Int32) × (Nat → Int32) × (Nat → Int32) × (Nat → Int32)) (pc : Nat) (lv : List (Nat × Value)), decode cX3_build pc = .ok (.return_, 1) → Q u → J x 0 0 9 (W_FTG cyI cyJ cyZ a_f a_f_needs a_f_sideCounts a_f_yardSums a_f_beside a_g a_g_kinds a_g_wants u.1 u.2.1 u.2.2.1 u.2.2.2.1 u.2.2.2.2.1 u.2.2.2.2.2.1 u.2.2.2.2.2.2 g_columns g_rows g_hedges g_hurdles g_wantCount g_rest g_frozen g_kinds g_wants) lv pc []) (h : bk_X3_build_195 Q  x4 f_all f_wanted f_mostSides f_needs f_sideCounts f_yardSums f_beside s0) :
    J x 0 0 9 (W_FTG cyI cyJ cyZ a_f a_f_needs a_f_sideCounts a_f_yardSums a_f_beside a_g a_g_kinds a_g_wants f_all f_wanted f_mostSides f_needs f_sideCounts f_yardSums f_beside g_columns g_rows g_hedges g_hurdles g_wantCount g_rest g_frozen g_kinds g_wants) [(4, .int x4)] 195 [.int s0, .ref a_f] := by
  unfold bk_X3_build_195 at h
  refine j_iload cx 0 rfl dX3_build_195 (pn := 197) rfl ?_
  refine j_callvV cx q_inst_X3_sortOut q_sel_X3_sortOut (b := a_f) (As := [.int s0, .int x4]) (rest := []) (W_FT cyI cyJ cyZ a_f a_f_needs a_f_sideCounts a_f_yardSums a_f_beside f_all f_wanted f_mostSides f_needs f_sideCounts f_yardSums f_beside) [(a_g, .inr (4, [.ref a_g_kinds, .ref a_g_wants, .int g_columns, .int g_rows, .int g_hedges, .int g_hurdles, .int g_wantCount, .int g_rest, .int g_frozen])), (a_g_kinds, .inl (cyI, 10, .inl g_kinds)), (a_g_wants, .inl (cyI, 7, .inl g_wants))] (c_X3_sortOut h) ⟨q_code_X3_sortOut, q_ml_X3_59, q_init_X3, hd_X3_sortOut, ⟨Nat.le_of_ble_eq_true rfl, Nat.le_of_ble_eq_true rfl⟩, Nat.le_of_ble_eq_true rfl, Nat.le_of_ble_eq_true rfl⟩ (q0 := 0) rfl rfl rfl [0, 1, 2, 3, 4] [5, 6, 7] [3, 4, 5, 6, 7, 0, 1, 2] rfl rfl rfl rfl rfl (by decide) (fun u : Int32 × (Nat → Int32) × (Nat → Int32) => (W_FTG cyI cyJ cyZ a_f a_f_needs a_f_sideCounts a_f_yardSums a_f_beside a_g a_g_kinds a_g_wants f_all f_wanted u.1 u.2.1 u.2.2 f_yardSums f_beside g_columns g_rows g_hedges g_hurdles g_wantCount g_rest g_frozen g_kinds g_wants)) (fun _ => rfl) (fun _ => rfl) rfl rfl (Nat.le_of_ble_eq_true rfl) dX3_build_197 (pn := 200) rfl (fun u6 h => ?_)
  show J x 0 0 9 (W_FTG cyI cyJ cyZ a_f a_f_needs a_f_sideCounts a_f_yardSums a_f_beside a_g a_g_kinds a_g_wants f_all f_wanted u6.1 u6.2.1 u6.2.2 f_yardSums f_beside g_columns g_rows g_hedges g_hurdles g_wantCount g_rest g_frozen g_kinds g_wants) [(4, .int x4)] 200 []
  exact hR (f_all, f_wanted, u6.1, u6.2.1, u6.2.2, f_yardSums, f_beside) 200 _ dX3_build_200 h
set_option maxHeartbeats 4000000 in
set_option maxRecDepth 100000 in
theorem J_X3_build_169 {x : CX} {D : DG} {cyI cyJ cyZ : ClassId} {a_f a_f_needs a_f_sideCounts a_f_yardSums a_f_beside a_g a_g_kinds a_g_wants : Nat} {f_all : Int32} {f_wanted : Int32} {f_mostSides : Int32} {f_needs : Nat → Int32} {f_sideCounts : Nat → Int32} {f_yardSums : Nat → Int32} {f_beside : Nat → Int32} {g_columns : Int32} {g_rows : Int32} {g_hedges : Int32} {g_hurdles : Int32} {g_wantCount : Int32} {g_rest : Int32} {g_frozen : Int32} {g_kinds : Nat → Int32} {g_wants : Nat → Int32} {p2 : Int32} {x3 : Int32} {x4 : Int32} {x5 : Int32} {x6 : Int32} {Q : (Int32 × Int32 × Int32 × (Nat → Int32) × (Nat → Int32) × (Nat → Int32) × (Nat → Int32)) → Prop} {B33 : Int32 → (Nat → Int32) → (Nat → Int32) → (Nat → Int32) → Int32 → Int32 → Int32 → Prop} {B45 : Int32 → (Nat → Int32) → (Nat → Int32) → (Nat → Int32) → Int32 → Int32 → Int32 → Prop} (cx : Cx x cX3_build 9 RX3 rm_X3_build D [(cyI, .int), (cyJ, .long), (cyZ, .boolean)]) (hR : ∀ (u : Int32 × Int32 × Int32 × (Nat → Int32) × (Nat → Int32) × (Nat → Int32) × (Nat → Int32)) (pc : Nat) (lv : List (Nat × Value)), decode cX3_build pc = .ok (.return_, 1) → Q u → J x 0 0 9 (W_FTG cyI cyJ cyZ a_f a_f_needs a_f_sideCounts a_f_yardSums a_f_beside a_g a_g_kinds a_g_wants u.1 u.2.1 u.2.2.1 u.2.2.2.1 u.2.2.2.2.1 u.2.2.2.2.2.1 u.2.2.2.2.2.2 g_columns g_rows g_hedges g_hurdles g_wantCount g_rest g_frozen g_kinds g_wants) lv pc []) (hB33 : ∀ (f_wanted : Int32) (f_needs : Nat → Int32) (f_yardSums : Nat → Int32) (f_beside : Nat → Int32) (x3 : Int32) (x4 : Int32) (x5 : Int32), B33 f_wanted f_needs f_yardSums f_beside x3 x4 x5 → J x 0 0 9 (W_FTG cyI cyJ cyZ a_f a_f_needs a_f_sideCounts a_f_yardSums a_f_beside a_g a_g_kinds a_g_wants f_all f_wanted f_mostSides f_needs f_sideCounts f_yardSums f_beside g_columns g_rows g_hedges g_hurdles g_wantCount g_rest g_frozen g_kinds g_wants) [(0, .ref a_f), (1, .ref a_g), (2, .int p2), (3, .int x3), (4, .int x4), (5, .int x5)] 33 []) (hB45 : ∀ (f_wanted : Int32) (f_needs : Nat → Int32) (f_yardSums : Nat → Int32) (f_beside : Nat → Int32) (x3 : Int32) (x4 : Int32) (x6 : Int32), B45 f_wanted f_needs f_yardSums f_beside x3 x4 x6 → J x 0 0 9 (W_FTG cyI cyJ cyZ a_f a_f_needs a_f_sideCounts a_f_yardSums a_f_beside a_g a_g_kinds a_g_wants f_all f_wanted f_mostSides f_needs f_sideCounts f_yardSums f_beside g_columns g_rows g_hedges g_hurdles g_wantCount g_rest g_frozen g_kinds g_wants) [(0, .ref a_f), (1, .ref a_g), (2, .int p2), (3, .int x3), (4, .int x4), (5, .int x5), (6, .int x6)] 45 []) (h : bk_X3_build_169 Q B33 B45 x3 x4 x6 f_wanted f_needs f_yardSums f_beside) :
    J x 0 0 9 (W_FTG cyI cyJ cyZ a_f a_f_needs a_f_sideCounts a_f_yardSums a_f_beside a_g a_g_kinds a_g_wants f_all f_wanted f_mostSides f_needs f_sideCounts f_yardSums f_beside g_columns g_rows g_hedges g_hurdles g_wantCount g_rest g_frozen g_kinds g_wants) [(0, .ref a_f), (1, .ref a_g), (2, .int p2), (3, .int x3), (4, .int x4), (5, .int x5), (6, .int x6)] 169 [] := by
  unfold bk_X3_build_169 at h
  obtain ⟨y17, ey17⟩ : ∃ z : Int32, z = x6 + 1 := ⟨_, rfl⟩
  have h := h y17 ey17
  refine j_iinc cx 6 rfl (cst := 1) (by decide) ey17 [(6, .int y17), (0, .ref a_f), (1, .ref a_g), (2, .int p2), (3, .int x3), (4, .int x4), (5, .int x5)] (by decide) rfl dX3_build_169 (pn := 172) rfl ?_
  refine j_goto cx 45 dX3_build_172 rfl ?_
  refine j_sub [1, 2, 3, 4, 5, 6, 0] [(0, .ref a_f), (1, .ref a_g), (2, .int p2), (3, .int x3), (4, .int x4), (5, .int x5), (6, .int y17)] rfl ?_
  exact hB45 _ _ _ _ _ _ _ h
set_option maxHeartbeats 4000000 in
set_option maxRecDepth 100000 in
theorem J_X3_build_144 {x : CX} {D : DG} {cyI cyJ cyZ : ClassId} {a_f a_f_needs a_f_sideCounts a_f_yardSums a_f_beside a_g a_g_kinds a_g_wants : Nat} {f_all : Int32} {f_wanted : Int32} {f_mostSides : Int32} {f_needs : Nat → Int32} {f_sideCounts : Nat → Int32} {f_yardSums : Nat → Int32} {f_beside : Nat → Int32} {g_columns : Int32} {g_rows : Int32} {g_hedges : Int32} {g_hurdles : Int32} {g_wantCount : Int32} {g_rest : Int32} {g_frozen : Int32} {g_kinds : Nat → Int32} {g_wants : Nat → Int32} {p2 : Int32} {x3 : Int32} {x4 : Int32} {x5 : Int32} {x6 : Int32} {x7 : Int32} {x8 : Int32} {Q : (Int32 × Int32 × Int32 × (Nat → Int32) × (Nat → Int32) × (Nat → Int32) × (Nat → Int32)) → Prop} {B33 : Int32 → (Nat → Int32) → (Nat → Int32) → (Nat → Int32) → Int32 → Int32 → Int32 → Prop} {B45 : Int32 → (Nat → Int32) → (Nat → Int32) → (Nat → Int32) → Int32 → Int32 → Int32 → Prop} (cx : Cx x cX3_build 9 RX3 rm_X3_build D [(cyI, .int), (cyJ, .long), (cyZ, .boolean)]) (hR : ∀ (u : Int32 × Int32 × Int32 × (Nat → Int32) × (Nat → Int32) × (Nat → Int32) × (Nat → Int32)) (pc : Nat) (lv : List (Nat × Value)), decode cX3_build pc = .ok (.return_, 1) → Q u → J x 0 0 9 (W_FTG cyI cyJ cyZ a_f a_f_needs a_f_sideCounts a_f_yardSums a_f_beside a_g a_g_kinds a_g_wants u.1 u.2.1 u.2.2.1 u.2.2.2.1 u.2.2.2.2.1 u.2.2.2.2.2.1 u.2.2.2.2.2.2 g_columns g_rows g_hedges g_hurdles g_wantCount g_rest g_frozen g_kinds g_wants) lv pc []) (hB33 : ∀ (f_wanted : Int32) (f_needs : Nat → Int32) (f_yardSums : Nat → Int32) (f_beside : Nat → Int32) (x3 : Int32) (x4 : Int32) (x5 : Int32), B33 f_wanted f_needs f_yardSums f_beside x3 x4 x5 → J x 0 0 9 (W_FTG cyI cyJ cyZ a_f a_f_needs a_f_sideCounts a_f_yardSums a_f_beside a_g a_g_kinds a_g_wants f_all f_wanted f_mostSides f_needs f_sideCounts f_yardSums f_beside g_columns g_rows g_hedges g_hurdles g_wantCount g_rest g_frozen g_kinds g_wants) [(0, .ref a_f), (1, .ref a_g), (2, .int p2), (3, .int x3), (4, .int x4), (5, .int x5)] 33 []) (hB45 : ∀ (f_wanted : Int32) (f_needs : Nat → Int32) (f_yardSums : Nat → Int32) (f_beside : Nat → Int32) (x3 : Int32) (x4 : Int32) (x6 : Int32), B45 f_wanted f_needs f_yardSums f_beside x3 x4 x6 → J x 0 0 9 (W_FTG cyI cyJ cyZ a_f a_f_needs a_f_sideCounts a_f_yardSums a_f_beside a_g a_g_kinds a_g_wants f_all f_wanted f_mostSides f_needs f_sideCounts f_yardSums f_beside g_columns g_rows g_hedges g_hurdles g_wantCount g_rest g_frozen g_kinds g_wants) [(0, .ref a_f), (1, .ref a_g), (2, .int p2), (3, .int x3), (4, .int x4), (5, .int x5), (6, .int x6)] 45 []) (h : bk_X3_build_144 Q B33 B45 p2 x3 x4 x6 x7 x8 f_wanted f_needs f_yardSums f_beside) :
    J x 0 0 9 (W_FTG cyI cyJ cyZ a_f a_f_needs a_f_sideCounts a_f_yardSums a_f_beside a_g a_g_kinds a_g_wants f_all f_wanted f_mostSides f_needs f_sideCounts f_yardSums f_beside g_columns g_rows g_hedges g_hurdles g_wantCount g_rest g_frozen g_kinds g_wants) [(0, .ref a_f), (1, .ref a_g), (2, .int p2), (3, .int x3), (4, .int x4), (5, .int x5), (6, .int x6), (7, .int x7), (8, .int x8)] 144 [] := by
  unfold bk_X3_build_144 at h
  refine j_iload cx 8 rfl dX3_build_144 (pn := 146) rfl ?_
  refine j_bipush cx (v := 10) (by decide) dX3_build_146 (pn := 148) rfl ?_
  refine j_icmp_ne cx 169 dX3_build_148 (pn := 151) rfl rfl (fun c16 => ?_) (fun c16 => ?_)
  · have h := h.1 c16
    refine j_sub [0, 1, 2, 3, 4, 5, 6] [(0, .ref a_f), (1, .ref a_g), (2, .int p2), (3, .int x3), (4, .int x4), (5, .int x5), (6, .int x6)] rfl ?_
    exact J_X3_build_169 cx hR hB33 hB45 h
  · have h := h.2 c16
    refine j_iload_n cx 2 rfl rfl dX3_build_151 (pn := 152) rfl ?_
    refine j_if_ne cx 169 dX3_build_152 (pn := 155) rfl rfl (fun c18 => ?_) (fun c18 => ?_)
    · have h := h.1 c18
      refine j_sub [0, 1, 2, 3, 4, 5, 6] [(0, .ref a_f), (1, .ref a_g), (2, .int p2), (3, .int x3), (4, .int x4), (5, .int x5), (6, .int x6)] rfl ?_
      exact J_X3_build_169 cx hR hB33 hB45 h
    · have h := h.2 c18
      refine j_iload cx 4 rfl dX3_build_155 (pn := 157) rfl ?_
      refine j_aload_n cx 0 rfl rfl dX3_build_157 (pn := 158) rfl ?_
      refine j_get cx inGX3 0 rfl rfl 0 (by decide) q_fl_X3_9 rfl rfl dX3_build_158 (pn := 161) rfl ?_
      refine j_iconst cx (v := 1) (by decide) dX3_build_161 (pn := 162) rfl ?_
      refine j_iload cx 7 rfl dX3_build_162 (pn := 164) rfl ?_
      refine j_ishl cx dX3_build_164 (pn := 165) rfl ?_
      refine j_iald cx 1 0 rfl rfl h.1 dX3_build_165 (pn := 166) rfl ?_
      have h := h.2
      refine j_ior cx dX3_build_166 (pn := 167) rfl ?_
      refine j_topi (fun y19 ey19 => ?_)
      have h := h y19 ey19
      refine j_istore cx [(4, .int y19), (0, .ref a_f), (1, .ref a_g), (2, .int p2), (3, .int x3), (5, .int x5), (6, .int x6), (7, .int x7), (8, .int x8)] (by decide) rfl dX3_build_167 (pn := 169) rfl ?_
      refine j_sub [1, 2, 3, 4, 0, 5, 6] [(0, .ref a_f), (1, .ref a_g), (2, .int p2), (3, .int x3), (4, .int y19), (5, .int x5), (6, .int x6)] rfl ?_
      exact J_X3_build_169 cx hR hB33 hB45 h
set_option maxHeartbeats 4000000 in
set_option maxRecDepth 100000 in
theorem J_X3_build_140 {x : CX} {D : DG} {cyI cyJ cyZ : ClassId} {a_f a_f_needs a_f_sideCounts a_f_yardSums a_f_beside a_g a_g_kinds a_g_wants : Nat} {f_all : Int32} {f_wanted : Int32} {f_mostSides : Int32} {f_needs : Nat → Int32} {f_sideCounts : Nat → Int32} {f_yardSums : Nat → Int32} {f_beside : Nat → Int32} {g_columns : Int32} {g_rows : Int32} {g_hedges : Int32} {g_hurdles : Int32} {g_wantCount : Int32} {g_rest : Int32} {g_frozen : Int32} {g_kinds : Nat → Int32} {g_wants : Nat → Int32} {p2 : Int32} {x3 : Int32} {x4 : Int32} {x5 : Int32} {x6 : Int32} {x7 : Int32} {x8 : Int32} {s0 : Int32} {s1 : Int32} {Q : (Int32 × Int32 × Int32 × (Nat → Int32) × (Nat → Int32) × (Nat → Int32) × (Nat → Int32)) → Prop} {B33 : Int32 → (Nat → Int32) → (Nat → Int32) → (Nat → Int32) → Int32 → Int32 → Int32 → Prop} {B45 : Int32 → (Nat → Int32) → (Nat → Int32) → (Nat → Int32) → Int32 → Int32 → Int32 → Prop} (cx : Cx x cX3_build 9 RX3 rm_X3_build D [(cyI, .int), (cyJ, .long), (cyZ, .boolean)]) (hR : ∀ (u : Int32 × Int32 × Int32 × (Nat → Int32) × (Nat → Int32) × (Nat → Int32) × (Nat → Int32)) (pc : Nat) (lv : List (Nat × Value)), decode cX3_build pc = .ok (.return_, 1) → Q u → J x 0 0 9 (W_FTG cyI cyJ cyZ a_f a_f_needs a_f_sideCounts a_f_yardSums a_f_beside a_g a_g_kinds a_g_wants u.1 u.2.1 u.2.2.1 u.2.2.2.1 u.2.2.2.2.1 u.2.2.2.2.2.1 u.2.2.2.2.2.2 g_columns g_rows g_hedges g_hurdles g_wantCount g_rest g_frozen g_kinds g_wants) lv pc []) (hB33 : ∀ (f_wanted : Int32) (f_needs : Nat → Int32) (f_yardSums : Nat → Int32) (f_beside : Nat → Int32) (x3 : Int32) (x4 : Int32) (x5 : Int32), B33 f_wanted f_needs f_yardSums f_beside x3 x4 x5 → J x 0 0 9 (W_FTG cyI cyJ cyZ a_f a_f_needs a_f_sideCounts a_f_yardSums a_f_beside a_g a_g_kinds a_g_wants f_all f_wanted f_mostSides f_needs f_sideCounts f_yardSums f_beside g_columns g_rows g_hedges g_hurdles g_wantCount g_rest g_frozen g_kinds g_wants) [(0, .ref a_f), (1, .ref a_g), (2, .int p2), (3, .int x3), (4, .int x4), (5, .int x5)] 33 []) (hB45 : ∀ (f_wanted : Int32) (f_needs : Nat → Int32) (f_yardSums : Nat → Int32) (f_beside : Nat → Int32) (x3 : Int32) (x4 : Int32) (x6 : Int32), B45 f_wanted f_needs f_yardSums f_beside x3 x4 x6 → J x 0 0 9 (W_FTG cyI cyJ cyZ a_f a_f_needs a_f_sideCounts a_f_yardSums a_f_beside a_g a_g_kinds a_g_wants f_all f_wanted f_mostSides f_needs f_sideCounts f_yardSums f_beside g_columns g_rows g_hedges g_hurdles g_wantCount g_rest g_frozen g_kinds g_wants) [(0, .ref a_f), (1, .ref a_g), (2, .int p2), (3, .int x3), (4, .int x4), (5, .int x5), (6, .int x6)] 45 []) (h : bk_X3_build_140 Q B33 B45 p2 x3 x4 x6 x7 x8 f_needs f_yardSums f_beside s0 s1) :
    J x 0 0 9 (W_FTG cyI cyJ cyZ a_f a_f_needs a_f_sideCounts a_f_yardSums a_f_beside a_g a_g_kinds a_g_wants f_all f_wanted f_mostSides f_needs f_sideCounts f_yardSums f_beside g_columns g_rows g_hedges g_hurdles g_wantCount g_rest g_frozen g_kinds g_wants) [(0, .ref a_f), (1, .ref a_g), (2, .int p2), (3, .int x3), (4, .int x4), (5, .int x5), (6, .int x6), (7, .int x7), (8, .int x8)] 140 [.int s0, .int s1, .ref a_f] := by
  unfold bk_X3_build_140 at h
  refine j_ior cx dX3_build_140 (pn := 141) rfl ?_
  refine j_topi (fun y15 ey15 => ?_)
  have h := h y15 ey15
  refine j_put cx tyX3 tyX3_ok nmX3 inGX3 0 rfl rfl 5 (by decide) q_fl_X3_34 rfl rfl rfl rfl rfl (Nat.le_of_ble_eq_true rfl) (W_FTG cyI cyJ cyZ a_f a_f_needs a_f_sideCounts a_f_yardSums a_f_beside a_g a_g_kinds a_g_wants f_all y15 f_mostSides f_needs f_sideCounts f_yardSums f_beside g_columns g_rows g_hedges g_hurdles g_wantCount g_rest g_frozen g_kinds g_wants) rfl dX3_build_141 (pn := 144) rfl ?_
  exact J_X3_build_144 cx hR hB33 hB45 h
set_option maxHeartbeats 4000000 in
set_option maxRecDepth 100000 in
theorem B_X3_build_45 {x : CX} {D : DG} {cyI cyJ cyZ : ClassId} {a_f a_f_needs a_f_sideCounts a_f_yardSums a_f_beside a_g a_g_kinds a_g_wants : Nat} {f_all : Int32} {f_wanted : Int32} {f_mostSides : Int32} {f_needs : Nat → Int32} {f_sideCounts : Nat → Int32} {f_yardSums : Nat → Int32} {f_beside : Nat → Int32} {g_columns : Int32} {g_rows : Int32} {g_hedges : Int32} {g_hurdles : Int32} {g_wantCount : Int32} {g_rest : Int32} {g_frozen : Int32} {g_kinds : Nat → Int32} {g_wants : Nat → Int32} {p2 : Int32} {x3 : Int32} {x4 : Int32} {x5 : Int32} {x6 : Int32} {Q : (Int32 × Int32 × Int32 × (Nat → Int32) × (Nat → Int32) × (Nat → Int32) × (Nat → Int32)) → Prop} {B33 : Int32 → (Nat → Int32) → (Nat → Int32) → (Nat → Int32) → Int32 → Int32 → Int32 → Prop} {B45 : Int32 → (Nat → Int32) → (Nat → Int32) → (Nat → Int32) → Int32 → Int32 → Int32 → Prop} (cx : Cx x cX3_build 9 RX3 rm_X3_build D [(cyI, .int), (cyJ, .long), (cyZ, .boolean)]) (hR : ∀ (u : Int32 × Int32 × Int32 × (Nat → Int32) × (Nat → Int32) × (Nat → Int32) × (Nat → Int32)) (pc : Nat) (lv : List (Nat × Value)), decode cX3_build pc = .ok (.return_, 1) → Q u → J x 0 0 9 (W_FTG cyI cyJ cyZ a_f a_f_needs a_f_sideCounts a_f_yardSums a_f_beside a_g a_g_kinds a_g_wants u.1 u.2.1 u.2.2.1 u.2.2.2.1 u.2.2.2.2.1 u.2.2.2.2.2.1 u.2.2.2.2.2.2 g_columns g_rows g_hedges g_hurdles g_wantCount g_rest g_frozen g_kinds g_wants) lv pc []) (hB33 : ∀ (f_wanted : Int32) (f_needs : Nat → Int32) (f_yardSums : Nat → Int32) (f_beside : Nat → Int32) (x3 : Int32) (x4 : Int32) (x5 : Int32), B33 f_wanted f_needs f_yardSums f_beside x3 x4 x5 → J x 0 0 9 (W_FTG cyI cyJ cyZ a_f a_f_needs a_f_sideCounts a_f_yardSums a_f_beside a_g a_g_kinds a_g_wants f_all f_wanted f_mostSides f_needs f_sideCounts f_yardSums f_beside g_columns g_rows g_hedges g_hurdles g_wantCount g_rest g_frozen g_kinds g_wants) [(0, .ref a_f), (1, .ref a_g), (2, .int p2), (3, .int x3), (4, .int x4), (5, .int x5)] 33 []) (hB45 : ∀ (f_wanted : Int32) (f_needs : Nat → Int32) (f_yardSums : Nat → Int32) (f_beside : Nat → Int32) (x3 : Int32) (x4 : Int32) (x6 : Int32), B45 f_wanted f_needs f_yardSums f_beside x3 x4 x6 → J x 0 0 9 (W_FTG cyI cyJ cyZ a_f a_f_needs a_f_sideCounts a_f_yardSums a_f_beside a_g a_g_kinds a_g_wants f_all f_wanted f_mostSides f_needs f_sideCounts f_yardSums f_beside g_columns g_rows g_hedges g_hurdles g_wantCount g_rest g_frozen g_kinds g_wants) [(0, .ref a_f), (1, .ref a_g), (2, .int p2), (3, .int x3), (4, .int x4), (5, .int x5), (6, .int x6)] 45 []) (h : bd_X3_build_45 Q B33 B45 p2 x5 g_columns g_rows g_kinds f_wanted f_needs f_yardSums f_beside x3 x4 x6) :
    J x 0 0 9 (W_FTG cyI cyJ cyZ a_f a_f_needs a_f_sideCounts a_f_yardSums a_f_beside a_g a_g_kinds a_g_wants f_all f_wanted f_mostSides f_needs f_sideCounts f_yardSums f_beside g_columns g_rows g_hedges g_hurdles g_wantCount g_rest g_frozen g_kinds g_wants) [(0, .ref a_f), (1, .ref a_g), (2, .int p2), (3, .int x3), (4, .int x4), (5, .int x5), (6, .int x6)] 45 [] := by
  unfold bd_X3_build_45 at h
  refine j_iload cx 6 rfl dX3_build_45 (pn := 47) rfl ?_
  refine j_aload_n cx 1 rfl rfl dX3_build_47 (pn := 48) rfl ?_
  refine j_getN cx inGX4 5 rfl rfl 2 (by decide) q_fl_X3_46 rfl rfl dX3_build_48 (pn := 51) rfl ?_
  refine j_icmp_ge cx 175 dX3_build_51 (pn := 54) rfl rfl (fun c7 => ?_) (fun c7 => ?_)
  · have h := h.1 c7
    obtain ⟨y8, ey8⟩ : ∃ z : Int32, z = x5 + 1 := ⟨_, rfl⟩
    have h := h y8 ey8
    refine j_iinc cx 5 rfl (cst := 1) (by decide) ey8 [(5, .int y8), (0, .ref a_f), (1, .ref a_g), (2, .int p2), (3, .int x3), (4, .int x4), (6, .int x6)] (by decide) rfl dX3_build_175 (pn := 178) rfl ?_
    refine j_goto cx 33 dX3_build_178 rfl ?_
    refine j_sub [1, 2, 3, 4, 5, 0] [(0, .ref a_f), (1, .ref a_g), (2, .int p2), (3, .int x3), (4, .int x4), (5, .int y8)] rfl ?_
    exact hB33 _ _ _ _ _ _ _ h
  · have h := h.2 c7
    refine j_aload_n cx 1 rfl rfl dX3_build_54 (pn := 55) rfl ?_
    refine j_getN cx inGX4 5 rfl rfl 2 (by decide) q_fl_X3_46 rfl rfl dX3_build_55 (pn := 58) rfl ?_
    refine j_iload cx 5 rfl dX3_build_58 (pn := 60) rfl ?_
    refine j_imul cx dX3_build_60 (pn := 61) rfl ?_
    refine j_iload cx 6 rfl dX3_build_61 (pn := 63) rfl ?_
    refine j_iadd cx dX3_build_63 (pn := 64) rfl ?_
    refine j_topi (fun y9 ey9 => ?_)
    have h := h y9 ey9
    refine j_istore cx [(7, .int y9), (0, .ref a_f), (1, .ref a_g), (2, .int p2), (3, .int x3), (4, .int x4), (5, .int x5), (6, .int x6)] (by decide) rfl dX3_build_64 (pn := 66) rfl ?_
    refine j_aload_n cx 2 rfl rfl dX3_build_66 (pn := 67) rfl ?_
    refine j_getN cx inGX4 5 rfl rfl 0 (by decide) q_fl_X3_49 rfl rfl dX3_build_67 (pn := 70) rfl ?_
    refine j_iload cx 0 rfl dX3_build_70 (pn := 72) rfl ?_
    refine j_iald cx 6 0 rfl rfl h.1 dX3_build_72 (pn := 73) rfl ?_
    have h := h.2
    refine j_topi (fun y10 ey10 => ?_)
    have h := h y10 ey10
    refine j_istore cx [(8, .int y10), (7, .int y9), (0, .ref a_f), (1, .ref a_g), (2, .int p2), (3, .int x3), (4, .int x4), (5, .int x5), (6, .int x6)] (by decide) rfl dX3_build_73 (pn := 75) rfl ?_
    refine j_aload_n cx 2 rfl rfl dX3_build_75 (pn := 76) rfl ?_
    refine j_aload_n cx 3 rfl rfl dX3_build_76 (pn := 77) rfl ?_
    refine j_iload cx 8 rfl dX3_build_77 (pn := 79) rfl ?_
    refine j_iload cx 7 rfl dX3_build_79 (pn := 81) rfl ?_
    refine j_callvV0 cx q_inst_X3_putSingle q_sel_X3_putSingle (b := a_f) (As := [.ref a_g, .int x6, .int x5]) (rest := []) (c_X3_putSingle h) ⟨q_code_X3_putSingle, q_ml_X3_52, q_init_X3, hd_X3_putSingle, ⟨Nat.le_of_ble_eq_true rfl, Nat.le_of_ble_eq_true rfl⟩, Nat.le_of_ble_eq_true rfl, Nat.le_of_ble_eq_true rfl⟩ (q0 := 0) rfl rfl rfl rfl (Nat.le_of_ble_eq_true rfl) dX3_build_81 (pn := 84) rfl (fun u11 h => ?_)
    show J x 0 0 9 (W_FTG cyI cyJ cyZ a_f a_f_needs a_f_sideCounts a_f_yardSums a_f_beside a_g a_g_kinds a_g_wants f_all f_wanted f_mostSides u11.1 f_sideCounts f_yardSums u11.2 g_columns g_rows g_hedges g_hurdles g_wantCount g_rest g_frozen g_kinds g_wants) [(8, .int y10), (7, .int y9), (0, .ref a_f), (1, .ref a_g), (2, .int p2), (3, .int x3), (4, .int x4), (5, .int x5), (6, .int x6)] 84 []
    refine j_iload cx 0 rfl dX3_build_84 (pn := 86) rfl ?_
    refine j_bipush cx (v := 10) (by decide) dX3_build_86 (pn := 88) rfl ?_
    refine j_icmp_lt cx 111 dX3_build_88 (pn := 91) rfl rfl (fun c12 => ?_) (fun c12 => ?_)
    · have h := h.1 c12
      refine j_aload_n cx 2 rfl rfl dX3_build_111 (pn := 112) rfl ?_
      refine j_get cx inGX3 0 rfl rfl 2 (by decide) q_fl_X3_18 rfl rfl dX3_build_112 (pn := 115) rfl ?_
      refine j_iconst cx (v := 1) (by decide) dX3_build_115 (pn := 116) rfl ?_
      refine j_iload cx 1 rfl dX3_build_116 (pn := 118) rfl ?_
      refine j_ishl cx dX3_build_118 (pn := 119) rfl ?_
      refine j_iload cx 0 rfl dX3_build_119 (pn := 121) rfl ?_
      have hin := h.1
      obtain ⟨f13, ef13⟩ : ∃ z, z = upd f_yardSums (1 <<< (y9 &&& 31)).toNatClampNeg y10 := ⟨_, rfl⟩
      have h := h.2 f13 ef13
      refine j_iast cx 3 0 rfl rfl hin (W_FTG cyI cyJ cyZ a_f a_f_needs a_f_sideCounts a_f_yardSums a_f_beside a_g a_g_kinds a_g_wants f_all f_wanted f_mostSides u11.1 f_sideCounts f13 u11.2 g_columns g_rows g_hedges g_hurdles g_wantCount g_rest g_frozen g_kinds g_wants) (by subst ef13; rfl) dX3_build_121 (pn := 122) rfl ?_
      refine j_aload_n cx 2 rfl rfl dX3_build_122 (pn := 123) rfl ?_
      refine j_dup cx rfl dX3_build_123 (pn := 124) rfl ?_
      refine j_get cx inGX3 0 rfl rfl 5 (by decide) q_fl_X3_34 rfl rfl dX3_build_124 (pn := 127) rfl ?_
      refine j_iload cx 0 rfl dX3_build_127 (pn := 129) rfl ?_
      refine j_if_le cx 139 dX3_build_129 (pn := 132) rfl rfl (fun c14 => ?_) (fun c14 => ?_)
      · have h := h.1 c14
        refine j_iconst cx (v := 0) (by decide) dX3_build_139 (pn := 140) rfl ?_
        refine j_sub [2, 3, 4, 5, 6, 7, 8, 1, 0] [(0, .ref a_f), (1, .ref a_g), (2, .int p2), (3, .int x3), (4, .int x4), (5, .int x5), (6, .int x6), (7, .int y9), (8, .int y10)] rfl ?_
        exact J_X3_build_140 cx hR hB33 hB45 h
      · have h := h.2 c14
        refine j_iconst cx (v := 1) (by decide) dX3_build_132 (pn := 133) rfl ?_
        refine j_iload cx 1 rfl dX3_build_133 (pn := 135) rfl ?_
        refine j_ishl cx dX3_build_135 (pn := 136) rfl ?_
        refine j_goto cx 140 dX3_build_136 rfl ?_
        refine j_sub [2, 3, 4, 5, 6, 7, 8, 1, 0] [(0, .ref a_f), (1, .ref a_g), (2, .int p2), (3, .int x3), (4, .int x4), (5, .int x5), (6, .int x6), (7, .int y9), (8, .int y10)] rfl ?_
        exact J_X3_build_140 cx hR hB33 hB45 h
    · have h := h.2 c12
      refine j_iload_n cx 5 rfl rfl dX3_build_91 (pn := 92) rfl ?_
      refine j_iconst cx (v := 1) (by decide) dX3_build_92 (pn := 93) rfl ?_
      refine j_iload cx 1 rfl dX3_build_93 (pn := 95) rfl ?_
      refine j_ishl cx dX3_build_95 (pn := 96) rfl ?_
      refine j_ior cx dX3_build_96 (pn := 97) rfl ?_
      refine j_topi (fun y20 ey20 => ?_)
      have h := h y20 ey20
      refine j_istore_n cx rfl [(3, .int y20), (8, .int y10), (7, .int y9), (0, .ref a_f), (1, .ref a_g), (2, .int p2), (4, .int x4), (5, .int x5), (6, .int x6)] (by decide) rfl dX3_build_97 (pn := 98) rfl ?_
      refine j_aload_n cx 3 rfl rfl dX3_build_98 (pn := 99) rfl ?_
      refine j_get cx inGX3 0 rfl rfl 2 (by decide) q_fl_X3_18 rfl rfl dX3_build_99 (pn := 102) rfl ?_
      refine j_iconst cx (v := 1) (by decide) dX3_build_102 (pn := 103) rfl ?_
      refine j_iload cx 2 rfl dX3_build_103 (pn := 105) rfl ?_
      refine j_ishl cx dX3_build_105 (pn := 106) rfl ?_
      refine j_iconst cx (v := 0) (by decide) dX3_build_106 (pn := 107) rfl ?_
      have hin := h.1
      obtain ⟨f21, ef21⟩ : ∃ z, z = upd f_yardSums (1 <<< (y9 &&& 31)).toNatClampNeg 0 := ⟨_, rfl⟩
      have h := h.2 f21 ef21
      refine j_iast cx 3 0 rfl rfl hin (W_FTG cyI cyJ cyZ a_f a_f_needs a_f_sideCounts a_f_yardSums a_f_beside a_g a_g_kinds a_g_wants f_all f_wanted f_mostSides u11.1 f_sideCounts f21 u11.2 g_columns g_rows g_hedges g_hurdles g_wantCount g_rest g_frozen g_kinds g_wants) (by subst ef21; rfl) dX3_build_107 (pn := 108) rfl ?_
      refine j_goto cx 144 dX3_build_108 rfl ?_
      refine j_sub [3, 4, 5, 0, 6, 7, 8, 2, 1] [(0, .ref a_f), (1, .ref a_g), (2, .int p2), (3, .int y20), (4, .int x4), (5, .int x5), (6, .int x6), (7, .int y9), (8, .int y10)] rfl ?_
      exact J_X3_build_144 cx hR hB33 hB45 h
set_option maxHeartbeats 4000000 in
set_option maxRecDepth 100000 in
theorem J_X3_build_45 {x : CX} {D : DG} {cyI cyJ cyZ : ClassId} {a_f a_f_needs a_f_sideCounts a_f_yardSums a_f_beside a_g a_g_kinds a_g_wants : Nat} {f_all : Int32} {f_wanted : Int32} {f_mostSides : Int32} {f_needs : Nat → Int32} {f_sideCounts : Nat → Int32} {f_yardSums : Nat → Int32} {f_beside : Nat → Int32} {g_columns : Int32} {g_rows : Int32} {g_hedges : Int32} {g_hurdles : Int32} {g_wantCount : Int32} {g_rest : Int32} {g_frozen : Int32} {g_kinds : Nat → Int32} {g_wants : Nat → Int32} {p2 : Int32} {x3 : Int32} {x4 : Int32} {x5 : Int32} {x6 : Int32} {Q : (Int32 × Int32 × Int32 × (Nat → Int32) × (Nat → Int32) × (Nat → Int32) × (Nat → Int32)) → Prop} {B33 : Int32 → (Nat → Int32) → (Nat → Int32) → (Nat → Int32) → Int32 → Int32 → Int32 → Prop} (cx : Cx x cX3_build 9 RX3 rm_X3_build D [(cyI, .int), (cyJ, .long), (cyZ, .boolean)]) (hR : ∀ (u : Int32 × Int32 × Int32 × (Nat → Int32) × (Nat → Int32) × (Nat → Int32) × (Nat → Int32)) (pc : Nat) (lv : List (Nat × Value)), decode cX3_build pc = .ok (.return_, 1) → Q u → J x 0 0 9 (W_FTG cyI cyJ cyZ a_f a_f_needs a_f_sideCounts a_f_yardSums a_f_beside a_g a_g_kinds a_g_wants u.1 u.2.1 u.2.2.1 u.2.2.2.1 u.2.2.2.2.1 u.2.2.2.2.2.1 u.2.2.2.2.2.2 g_columns g_rows g_hedges g_hurdles g_wantCount g_rest g_frozen g_kinds g_wants) lv pc []) (hB33 : ∀ (f_wanted : Int32) (f_needs : Nat → Int32) (f_yardSums : Nat → Int32) (f_beside : Nat → Int32) (x3 : Int32) (x4 : Int32) (x5 : Int32), B33 f_wanted f_needs f_yardSums f_beside x3 x4 x5 → J x 0 0 9 (W_FTG cyI cyJ cyZ a_f a_f_needs a_f_sideCounts a_f_yardSums a_f_beside a_g a_g_kinds a_g_wants f_all f_wanted f_mostSides f_needs f_sideCounts f_yardSums f_beside g_columns g_rows g_hedges g_hurdles g_wantCount g_rest g_frozen g_kinds g_wants) [(0, .ref a_f), (1, .ref a_g), (2, .int p2), (3, .int x3), (4, .int x4), (5, .int x5)] 33 []) (h : lp_X3_build_45 Q B33 p2 x5 g_columns g_rows g_kinds f_wanted f_needs f_yardSums f_beside x3 x4 x6) :
    J x 0 0 9 (W_FTG cyI cyJ cyZ a_f a_f_needs a_f_sideCounts a_f_yardSums a_f_beside a_g a_g_kinds a_g_wants f_all f_wanted f_mostSides f_needs f_sideCounts f_yardSums f_beside g_columns g_rows g_hedges g_hurdles g_wantCount g_rest g_frozen g_kinds g_wants) [(0, .ref a_f), (1, .ref a_g), (2, .int p2), (3, .int x3), (4, .int x4), (5, .int x5), (6, .int x6)] 45 [] := by
  obtain ⟨I, ⟨n, h0⟩, hb⟩ := h
  revert f_wanted f_needs f_yardSums f_beside x3 x4 x6
  induction n using Nat.strongRecOn with
  | _ n ih =>
    intro f_wanted f_needs f_yardSums f_beside x3 x4 x6 h0
    exact B_X3_build_45 cx hR hB33 (fun _ _ _ _ _ _ _ hz => by obtain ⟨n2, hlt, hI⟩ := hz; exact ih n2 hlt hI) (hb n f_wanted f_needs f_yardSums f_beside x3 x4 x6 h0)
set_option maxHeartbeats 4000000 in
set_option maxRecDepth 100000 in
theorem B_X3_build_33 {x : CX} {D : DG} {cyI cyJ cyZ : ClassId} {a_f a_f_needs a_f_sideCounts a_f_yardSums a_f_beside a_g a_g_kinds a_g_wants : Nat} {f_all : Int32} {f_wanted : Int32} {f_mostSides : Int32} {f_needs : Nat → Int32} {f_sideCounts : Nat → Int32} {f_yardSums : Nat → Int32} {f_beside : Nat → Int32} {g_columns : Int32} {g_rows : Int32} {g_hedges : Int32} {g_hurdles : Int32} {g_wantCount : Int32} {g_rest : Int32} {g_frozen : Int32} {g_kinds : Nat → Int32} {g_wants : Nat → Int32} {p2 : Int32} {x3 : Int32} {x4 : Int32} {x5 : Int32} {Q : (Int32 × Int32 × Int32 × (Nat → Int32) × (Nat → Int32) × (Nat → Int32) × (Nat → Int32)) → Prop} {B33 : Int32 → (Nat → Int32) → (Nat → Int32) → (Nat → Int32) → Int32 → Int32 → Int32 → Prop} (cx : Cx x cX3_build 9 RX3 rm_X3_build D [(cyI, .int), (cyJ, .long), (cyZ, .boolean)]) (hR : ∀ (u : Int32 × Int32 × Int32 × (Nat → Int32) × (Nat → Int32) × (Nat → Int32) × (Nat → Int32)) (pc : Nat) (lv : List (Nat × Value)), decode cX3_build pc = .ok (.return_, 1) → Q u → J x 0 0 9 (W_FTG cyI cyJ cyZ a_f a_f_needs a_f_sideCounts a_f_yardSums a_f_beside a_g a_g_kinds a_g_wants u.1 u.2.1 u.2.2.1 u.2.2.2.1 u.2.2.2.2.1 u.2.2.2.2.2.1 u.2.2.2.2.2.2 g_columns g_rows g_hedges g_hurdles g_wantCount g_rest g_frozen g_kinds g_wants) lv pc []) (hB33 : ∀ (f_wanted : Int32) (f_needs : Nat → Int32) (f_yardSums : Nat → Int32) (f_beside : Nat → Int32) (x3 : Int32) (x4 : Int32) (x5 : Int32), B33 f_wanted f_needs f_yardSums f_beside x3 x4 x5 → J x 0 0 9 (W_FTG cyI cyJ cyZ a_f a_f_needs a_f_sideCounts a_f_yardSums a_f_beside a_g a_g_kinds a_g_wants f_all f_wanted f_mostSides f_needs f_sideCounts f_yardSums f_beside g_columns g_rows g_hedges g_hurdles g_wantCount g_rest g_frozen g_kinds g_wants) [(0, .ref a_f), (1, .ref a_g), (2, .int p2), (3, .int x3), (4, .int x4), (5, .int x5)] 33 []) (h : bd_X3_build_33 Q B33 p2 f_all f_mostSides f_sideCounts g_columns g_rows g_kinds f_wanted f_needs f_yardSums f_beside x3 x4 x5) :
    J x 0 0 9 (W_FTG cyI cyJ cyZ a_f a_f_needs a_f_sideCounts a_f_yardSums a_f_beside a_g a_g_kinds a_g_wants f_all f_wanted f_mostSides f_needs f_sideCounts f_yardSums f_beside g_columns g_rows g_hedges g_hurdles g_wantCount g_rest g_frozen g_kinds g_wants) [(0, .ref a_f), (1, .ref a_g), (2, .int p2), (3, .int x3), (4, .int x4), (5, .int x5)] 33 [] := by
  unfold bd_X3_build_33 at h
  refine j_iload cx 5 rfl dX3_build_33 (pn := 35) rfl ?_
  refine j_aload_n cx 1 rfl rfl dX3_build_35 (pn := 36) rfl ?_
  refine j_getN cx inGX4 5 rfl rfl 3 (by decide) q_fl_X3_43 rfl rfl dX3_build_36 (pn := 39) rfl ?_
  refine j_icmp_ge cx 181 dX3_build_39 (pn := 42) rfl rfl (fun c3 => ?_) (fun c3 => ?_)
  · have h := h.1 c3
    refine j_aload_n cx 0 rfl rfl dX3_build_181 (pn := 182) rfl ?_
    refine j_callvV cx q_inst_X3_joinAll q_sel_X3_joinAll (b := a_f) (As := []) (rest := []) (W_FT cyI cyJ cyZ a_f a_f_needs a_f_sideCounts a_f_yardSums a_f_beside f_all f_wanted f_mostSides f_needs f_sideCounts f_yardSums f_beside) [(a_g, .inr (4, [.ref a_g_kinds, .ref a_g_wants, .int g_columns, .int g_rows, .int g_hedges, .int g_hurdles, .int g_wantCount, .int g_rest, .int g_frozen])), (a_g_kinds, .inl (cyI, 10, .inl g_kinds)), (a_g_wants, .inl (cyI, 7, .inl g_wants))] (c_X3_joinAll h) ⟨q_code_X3_joinAll, q_ml_X3_56, q_init_X3, hd_X3_joinAll, ⟨Nat.le_of_ble_eq_true rfl, Nat.le_of_ble_eq_true rfl⟩, Nat.le_of_ble_eq_true rfl, Nat.le_of_ble_eq_true rfl⟩ (q0 := 0) rfl rfl rfl [0, 1, 2, 3, 4] [5, 6, 7] [3, 4, 5, 6, 7, 0, 1, 2] rfl rfl rfl rfl rfl (by decide) (fun u : (Nat → Int32) × (Nat → Int32) × (Nat → Int32) => (W_FTG cyI cyJ cyZ a_f a_f_needs a_f_sideCounts a_f_yardSums a_f_beside a_g a_g_kinds a_g_wants f_all f_wanted f_mostSides u.1 f_sideCounts u.2.1 u.2.2 g_columns g_rows g_hedges g_hurdles g_wantCount g_rest g_frozen g_kinds g_wants)) (fun _ => rfl) (fun _ => rfl) rfl rfl (Nat.le_of_ble_eq_true rfl) dX3_build_182 (pn := 185) rfl (fun u4 h => ?_)
    show J x 0 0 9 (W_FTG cyI cyJ cyZ a_f a_f_needs a_f_sideCounts a_f_yardSums a_f_beside a_g a_g_kinds a_g_wants f_all f_wanted f_mostSides u4.1 f_sideCounts u4.2.1 u4.2.2 g_columns g_rows g_hedges g_hurdles g_wantCount g_rest g_frozen g_kinds g_wants) [(0, .ref a_f), (1, .ref a_g), (2, .int p2), (3, .int x3), (4, .int x4), (5, .int x5)] 185 []
    refine j_aload_n cx 0 rfl rfl dX3_build_185 (pn := 186) rfl ?_
    refine j_iload_n cx 2 rfl rfl dX3_build_186 (pn := 187) rfl ?_
    refine j_if_eq cx 194 dX3_build_187 (pn := 190) rfl rfl (fun c5 => ?_) (fun c5 => ?_)
    · have h := h.1 c5
      refine j_iload_n cx 3 rfl rfl dX3_build_194 (pn := 195) rfl ?_
      refine j_sub [4] [(4, .int x4)] rfl ?_
      exact J_X3_build_195 cx hR h
    · have h := h.2 c5
      refine j_iconst cx (v := 0) (by decide) dX3_build_190 (pn := 191) rfl ?_
      refine j_goto cx 195 dX3_build_191 rfl ?_
      refine j_sub [4] [(4, .int x4)] rfl ?_
      exact J_X3_build_195 cx hR h
  · have h := h.2 c3
    refine j_iconst cx (v := 0) (by decide) dX3_build_42 (pn := 43) rfl ?_
    refine j_istore cx [(6, .int 0), (0, .ref a_f), (1, .ref a_g), (2, .int p2), (3, .int x3), (4, .int x4), (5, .int x5)] (by decide) rfl dX3_build_43 (pn := 45) rfl ?_
    refine j_sub [1, 2, 3, 4, 5, 6, 0] [(0, .ref a_f), (1, .ref a_g), (2, .int p2), (3, .int x3), (4, .int x4), (5, .int x5), (6, .int 0)] rfl ?_
    exact J_X3_build_45 cx hR hB33 h
set_option maxHeartbeats 4000000 in
set_option maxRecDepth 100000 in
theorem J_X3_build_33 {x : CX} {D : DG} {cyI cyJ cyZ : ClassId} {a_f a_f_needs a_f_sideCounts a_f_yardSums a_f_beside a_g a_g_kinds a_g_wants : Nat} {f_all : Int32} {f_wanted : Int32} {f_mostSides : Int32} {f_needs : Nat → Int32} {f_sideCounts : Nat → Int32} {f_yardSums : Nat → Int32} {f_beside : Nat → Int32} {g_columns : Int32} {g_rows : Int32} {g_hedges : Int32} {g_hurdles : Int32} {g_wantCount : Int32} {g_rest : Int32} {g_frozen : Int32} {g_kinds : Nat → Int32} {g_wants : Nat → Int32} {p2 : Int32} {x3 : Int32} {x4 : Int32} {x5 : Int32} {Q : (Int32 × Int32 × Int32 × (Nat → Int32) × (Nat → Int32) × (Nat → Int32) × (Nat → Int32)) → Prop} (cx : Cx x cX3_build 9 RX3 rm_X3_build D [(cyI, .int), (cyJ, .long), (cyZ, .boolean)]) (hR : ∀ (u : Int32 × Int32 × Int32 × (Nat → Int32) × (Nat → Int32) × (Nat → Int32) × (Nat → Int32)) (pc : Nat) (lv : List (Nat × Value)), decode cX3_build pc = .ok (.return_, 1) → Q u → J x 0 0 9 (W_FTG cyI cyJ cyZ a_f a_f_needs a_f_sideCounts a_f_yardSums a_f_beside a_g a_g_kinds a_g_wants u.1 u.2.1 u.2.2.1 u.2.2.2.1 u.2.2.2.2.1 u.2.2.2.2.2.1 u.2.2.2.2.2.2 g_columns g_rows g_hedges g_hurdles g_wantCount g_rest g_frozen g_kinds g_wants) lv pc []) (h : lp_X3_build_33 Q  p2 f_all f_mostSides f_sideCounts g_columns g_rows g_kinds f_wanted f_needs f_yardSums f_beside x3 x4 x5) :
    J x 0 0 9 (W_FTG cyI cyJ cyZ a_f a_f_needs a_f_sideCounts a_f_yardSums a_f_beside a_g a_g_kinds a_g_wants f_all f_wanted f_mostSides f_needs f_sideCounts f_yardSums f_beside g_columns g_rows g_hedges g_hurdles g_wantCount g_rest g_frozen g_kinds g_wants) [(0, .ref a_f), (1, .ref a_g), (2, .int p2), (3, .int x3), (4, .int x4), (5, .int x5)] 33 [] := by
  obtain ⟨I, ⟨n, h0⟩, hb⟩ := h
  revert f_wanted f_needs f_yardSums f_beside x3 x4 x5
  induction n using Nat.strongRecOn with
  | _ n ih =>
    intro f_wanted f_needs f_yardSums f_beside x3 x4 x5 h0
    exact B_X3_build_33 cx hR (fun _ _ _ _ _ _ _ hz => by obtain ⟨n2, hlt, hI⟩ := hz; exact ih n2 hlt hI) (hb n f_wanted f_needs f_yardSums f_beside x3 x4 x5 h0)
set_option maxHeartbeats 4000000 in
set_option maxRecDepth 100000 in
theorem c_X3_build {D : DG} {cyI cyJ cyZ : ClassId} {a_f a_f_needs a_f_sideCounts a_f_yardSums a_f_beside a_g a_g_kinds a_g_wants : Nat} {f_all : Int32} {f_wanted : Int32} {f_mostSides : Int32} {f_needs : Nat → Int32} {f_sideCounts : Nat → Int32} {f_yardSums : Nat → Int32} {f_beside : Nat → Int32} {g_columns : Int32} {g_rows : Int32} {g_hedges : Int32} {g_hurdles : Int32} {g_wantCount : Int32} {g_rest : Int32} {g_frozen : Int32} {g_kinds : Nat → Int32} {g_wants : Nat → Int32} {p2 : Int32} {Q : (Int32 × Int32 × Int32 × (Nat → Int32) × (Nat → Int32) × (Nat → Int32) × (Nat → Int32)) → Prop} (h : wp_X3_build p2 f_needs f_sideCounts f_yardSums f_beside g_columns g_rows g_hedges g_kinds Q) :
    MetV yX3_build cX3_build 9 (none) rm_X3_build D [(cyI, .int), (cyJ, .long), (cyZ, .boolean)] [.ref a_f, .ref a_g, .int p2] (W_FTG cyI cyJ cyZ a_f a_f_needs a_f_sideCounts a_f_yardSums a_f_beside a_g a_g_kinds a_g_wants f_all f_wanted f_mostSides f_needs f_sideCounts f_yardSums f_beside g_columns g_rows g_hedges g_hurdles g_wantCount g_rest g_frozen g_kinds g_wants) (fun u : Int32 × Int32 × Int32 × (Nat → Int32) × (Nat → Int32) × (Nat → Int32) × (Nat → Int32) => (W_FTG cyI cyJ cyZ a_f a_f_needs a_f_sideCounts a_f_yardSums a_f_beside a_g a_g_kinds a_g_wants u.1 u.2.1 u.2.2.1 u.2.2.2.1 u.2.2.2.2.1 u.2.2.2.2.2.1 u.2.2.2.2.2.2 g_columns g_rows g_hedges g_hurdles g_wantCount g_rest g_frozen g_kinds g_wants)) (fun u => Q u) := by
  unfold wp_X3_build at h
  refine metV_of (by decide) (Nat.le_of_ble_eq_true rfl) (fun x cx0 hR0 => ?_)
  have cx : Cx x cX3_build 9 RX3 rm_X3_build D [(cyI, .int), (cyJ, .long), (cyZ, .boolean)] := cx0
  have hR : ∀ (u : Int32 × Int32 × Int32 × (Nat → Int32) × (Nat → Int32) × (Nat → Int32) × (Nat → Int32)) (pc : Nat) (lv : List (Nat × Value)), decode cX3_build pc = .ok (.return_, 1) → Q u → J x 0 0 9 (W_FTG cyI cyJ cyZ a_f a_f_needs a_f_sideCounts a_f_yardSums a_f_beside a_g a_g_kinds a_g_wants u.1 u.2.1 u.2.2.1 u.2.2.2.1 u.2.2.2.2.1 u.2.2.2.2.2.1 u.2.2.2.2.2.2 g_columns g_rows g_hedges g_hurdles g_wantCount g_rest g_frozen g_kinds g_wants) lv pc [] := (fun u pc lv d hq => hR0 u pc lv d hq)
  show J x 0 0 9 (W_FTG cyI cyJ cyZ a_f a_f_needs a_f_sideCounts a_f_yardSums a_f_beside a_g a_g_kinds a_g_wants f_all f_wanted f_mostSides f_needs f_sideCounts f_yardSums f_beside g_columns g_rows g_hedges g_hurdles g_wantCount g_rest g_frozen g_kinds g_wants) [(0, .ref a_f), (1, .ref a_g), (2, .int p2)] 0 []
  refine j_aload_n cx 0 rfl rfl dX3_build_0 (pn := 1) rfl ?_
  refine j_iconst cx (v := 1) (by decide) dX3_build_1 (pn := 2) rfl ?_
  refine j_aload_n cx 1 rfl rfl dX3_build_2 (pn := 3) rfl ?_
  refine j_callvI cx q_inst_X4_squares q_sel_X4_squares (b := a_g) (As := []) (rest := [.int 1, .ref a_f]) (W_Ground cyI cyJ cyZ a_g a_g_kinds a_g_wants g_columns g_rows g_hedges g_hurdles g_wantCount g_rest g_frozen g_kinds g_wants) [(a_f, .inr (3, [.ref a_f_needs, .ref a_f_sideCounts, .ref a_f_yardSums, .ref a_f_beside, .int f_all, .int f_wanted, .int f_mostSides])), (a_f_needs, .inl (cyI, 1024, .inl f_needs)), (a_f_sideCounts, .inl (cyI, 1024, .inl f_sideCounts)), (a_f_yardSums, .inl (cyI, 1024, .inl f_yardSums)), (a_f_beside, .inl (cyI, 1024, .inl f_beside))] (c_X4_squares h) ⟨q_code_X4_squares, q_ml_X3_24, q_init_X4, hd_X4_squares, ⟨Nat.le_of_ble_eq_true rfl, Nat.le_of_ble_eq_true rfl⟩, Nat.le_of_ble_eq_true rfl, Nat.le_of_ble_eq_true rfl⟩ (q0 := 0) rfl rfl rfl [5, 6, 7] [0, 1, 2, 3, 4] [0, 1, 2, 3, 4, 5, 6, 7] rfl rfl rfl rfl rfl (by decide) (fun _ : Unit => (W_FTG cyI cyJ cyZ a_f a_f_needs a_f_sideCounts a_f_yardSums a_f_beside a_g a_g_kinds a_g_wants f_all f_wanted f_mostSides f_needs f_sideCounts f_yardSums f_beside g_columns g_rows g_hedges g_hurdles g_wantCount g_rest g_frozen g_kinds g_wants)) (fun _ => rfl) (fun _ => rfl) rfl rfl (Nat.le_of_ble_eq_true rfl) dX3_build_3 (pn := 6) rfl (fun r1 _ h => ?_)
  show J x 0 0 9 (W_FTG cyI cyJ cyZ a_f a_f_needs a_f_sideCounts a_f_yardSums a_f_beside a_g a_g_kinds a_g_wants f_all f_wanted f_mostSides f_needs f_sideCounts f_yardSums f_beside g_columns g_rows g_hedges g_hurdles g_wantCount g_rest g_frozen g_kinds g_wants) [(0, .ref a_f), (1, .ref a_g), (2, .int p2)] 6 [.int r1, .int 1, .ref a_f]
  refine j_ishl cx dX3_build_6 (pn := 7) rfl ?_
  refine j_iconst cx (v := 1) (by decide) dX3_build_7 (pn := 8) rfl ?_
  refine j_isub cx dX3_build_8 (pn := 9) rfl ?_
  refine j_topi (fun y2 ey2 => ?_)
  have h := h y2 ey2
  refine j_put cx tyX3 tyX3_ok nmX3 inGX3 0 rfl rfl 4 (by decide) q_fl_X3_30 rfl rfl rfl rfl rfl (Nat.le_of_ble_eq_true rfl) (W_FTG cyI cyJ cyZ a_f a_f_needs a_f_sideCounts a_f_yardSums a_f_beside a_g a_g_kinds a_g_wants y2 f_wanted f_mostSides f_needs f_sideCounts f_yardSums f_beside g_columns g_rows g_hedges g_hurdles g_wantCount g_rest g_frozen g_kinds g_wants) rfl dX3_build_9 (pn := 12) rfl ?_
  refine j_aload_n cx 0 rfl rfl dX3_build_12 (pn := 13) rfl ?_
  refine j_iconst cx (v := 0) (by decide) dX3_build_13 (pn := 14) rfl ?_
  refine j_put cx tyX3 tyX3_ok nmX3 inGX3 0 rfl rfl 5 (by decide) q_fl_X3_34 rfl rfl rfl rfl rfl (Nat.le_of_ble_eq_true rfl) (W_FTG cyI cyJ cyZ a_f a_f_needs a_f_sideCounts a_f_yardSums a_f_beside a_g a_g_kinds a_g_wants y2 0 f_mostSides f_needs f_sideCounts f_yardSums f_beside g_columns g_rows g_hedges g_hurdles g_wantCount g_rest g_frozen g_kinds g_wants) rfl dX3_build_14 (pn := 17) rfl ?_
  refine j_aload_n cx 0 rfl rfl dX3_build_17 (pn := 18) rfl ?_
  refine j_iconst cx (v := 0) (by decide) dX3_build_18 (pn := 19) rfl ?_
  refine j_put cx tyX3 tyX3_ok nmX3 inGX3 0 rfl rfl 6 (by decide) q_fl_X3_37 rfl rfl rfl rfl rfl (Nat.le_of_ble_eq_true rfl) (W_FTG cyI cyJ cyZ a_f a_f_needs a_f_sideCounts a_f_yardSums a_f_beside a_g a_g_kinds a_g_wants y2 0 0 f_needs f_sideCounts f_yardSums f_beside g_columns g_rows g_hedges g_hurdles g_wantCount g_rest g_frozen g_kinds g_wants) rfl dX3_build_19 (pn := 22) rfl ?_
  refine j_iconst cx (v := 0) (by decide) dX3_build_22 (pn := 23) rfl ?_
  refine j_istore_n cx rfl [(3, .int 0), (0, .ref a_f), (1, .ref a_g), (2, .int p2)] (by decide) rfl dX3_build_23 (pn := 24) rfl ?_
  refine j_aload_n cx 2 rfl rfl dX3_build_24 (pn := 25) rfl ?_
  refine j_getN cx inGX4 5 rfl rfl 4 (by decide) q_fl_X3_40 rfl rfl dX3_build_25 (pn := 28) rfl ?_
  refine j_istore cx [(4, .int g_hedges), (3, .int 0), (0, .ref a_f), (1, .ref a_g), (2, .int p2)] (by decide) rfl dX3_build_28 (pn := 30) rfl ?_
  refine j_iconst cx (v := 0) (by decide) dX3_build_30 (pn := 31) rfl ?_
  refine j_istore cx [(5, .int 0), (4, .int g_hedges), (3, .int 0), (0, .ref a_f), (1, .ref a_g), (2, .int p2)] (by decide) rfl dX3_build_31 (pn := 33) rfl ?_
  refine j_sub [3, 4, 5, 2, 1, 0] [(0, .ref a_f), (1, .ref a_g), (2, .int p2), (3, .int 0), (4, .int g_hedges), (5, .int 0)] rfl ?_
  exact J_X3_build_33 cx hR h
theorem dX3_knows_0 : decode cX3_knows 0 = .ok (.iload_n 1, 1) := by decide +kernel
theorem dX3_knows_1 : decode cX3_knows 1 = .ok (.ifCond .lt 15, 3) := by decide +kernel
theorem dX3_knows_4 : decode cX3_knows 4 = .ok (.iload_n 1, 1) := by decide +kernel
theorem dX3_knows_5 : decode cX3_knows 5 = .ok (.aload_n 0, 1) := by decide +kernel
theorem dX3_knows_6 : decode cX3_knows 6 = .ok (.getfield 30, 3) := by decide +kernel
theorem dX3_knows_9 : decode cX3_knows 9 = .ok (.if_icmp .gt 7, 3) := by decide +kernel
theorem dX3_knows_12 : decode cX3_knows 12 = .ok (.iconst 1, 1) := by decide +kernel
theorem dX3_knows_13 : decode cX3_knows 13 = .ok (.goto 4, 3) := by decide +kernel
theorem dX3_knows_16 : decode cX3_knows 16 = .ok (.iconst 0, 1) := by decide +kernel
theorem dX3_knows_17 : decode cX3_knows 17 = .ok (.ireturn, 1) := by decide +kernel
abbrev rm_X3_knows : Room := { frames := 0, cells := 0, slots := 0, locals := 0 }
theorem hd_X3_knows : yX3_knows.cls ≠ "java/lang/invoke/MethodHandle" ∧ yX3_knows.cls ≠ "java/lang/invoke/VarHandle" ∧ (parseMethodDescriptor yX3_knows.desc).map (fun d => d.parameters.length) = some 1 := by decide +kernel
def wp_X3_knows (p1 : Int32) (f_all : Int32) (Q : Int32 → Prop) : Prop :=
((p1 < 0 → Q 0) ∧
(¬ p1 < 0 → ((f_all < p1 → Q 0) ∧
(¬ f_all < p1 → Q 1))))
set_option maxHeartbeats 4000000 in
set_option maxRecDepth 100000 in
theorem c_X3_knows {D : DG} {cyI cyJ cyZ : ClassId} {a_f a_f_needs a_f_sideCounts a_f_yardSums a_f_beside : Nat} {f_all : Int32} {f_wanted : Int32} {f_mostSides : Int32} {f_needs : Nat → Int32} {f_sideCounts : Nat → Int32} {f_yardSums : Nat → Int32} {f_beside : Nat → Int32} {p1 : Int32} {Q : Int32 → Prop} (h : wp_X3_knows p1 f_all Q) :
    MetI yX3_knows cX3_knows 2 (some .boolean) rm_X3_knows D [(cyI, .int), (cyJ, .long), (cyZ, .boolean)] [.ref a_f, .int p1] (W_FT cyI cyJ cyZ a_f a_f_needs a_f_sideCounts a_f_yardSums a_f_beside f_all f_wanted f_mostSides f_needs f_sideCounts f_yardSums f_beside) (fun _ : Unit => (W_FT cyI cyJ cyZ a_f a_f_needs a_f_sideCounts a_f_yardSums a_f_beside f_all f_wanted f_mostSides f_needs f_sideCounts f_yardSums f_beside)) (fun v _ => Q v ) := by
  unfold wp_X3_knows at h
  refine metZ_of (by decide) (Nat.le_of_ble_eq_true rfl) (fun x cx0 hR0 => ?_)
  have cx : Cx x cX3_knows 2 RX3 rm_X3_knows D [(cyI, .int), (cyJ, .long), (cyZ, .boolean)] := cx0
  have hR : ∀ (v : Int32) (pc : Nat) (lv : List (Nat × Value)), decode cX3_knows pc = .ok (.ireturn, 1) → (v = 0 ∨ v = 1) → Q v → J x 0 0 2 (W_FT cyI cyJ cyZ a_f a_f_needs a_f_sideCounts a_f_yardSums a_f_beside f_all f_wanted f_mostSides f_needs f_sideCounts f_yardSums f_beside) lv pc [.int v] := (fun v pc lv d hz hq => hR0 v () pc lv d hz hq)
  show J x 0 0 2 (W_FT cyI cyJ cyZ a_f a_f_needs a_f_sideCounts a_f_yardSums a_f_beside f_all f_wanted f_mostSides f_needs f_sideCounts f_yardSums f_beside) [(0, .ref a_f), (1, .int p1)] 0 []
  refine j_iload_n cx 1 rfl rfl dX3_knows_0 (pn := 1) rfl ?_
  refine j_if_lt cx 16 dX3_knows_1 (pn := 4) rfl rfl (fun c1 => ?_) (fun c1 => ?_)
  · have h := h.1 c1
    refine j_iconst cx (v := 0) (by decide) dX3_knows_16 (pn := 17) rfl ?_
    exact hR 0 17 _ dX3_knows_17 (Or.inl rfl) h
  · have h := h.2 c1
    refine j_iload_n cx 1 rfl rfl dX3_knows_4 (pn := 5) rfl ?_
    refine j_aload_n cx 0 rfl rfl dX3_knows_5 (pn := 6) rfl ?_
    refine j_get cx inGX3 0 rfl rfl 4 (by decide) q_fl_X3_30 rfl rfl dX3_knows_6 (pn := 9) rfl ?_
    refine j_icmp_gt cx 16 dX3_knows_9 (pn := 12) rfl rfl (fun c2 => ?_) (fun c2 => ?_)
    · have h := h.1 c2
      refine j_iconst cx (v := 0) (by decide) dX3_knows_16 (pn := 17) rfl ?_
      exact hR 0 17 _ dX3_knows_17 (Or.inl rfl) h
    · have h := h.2 c2
      refine j_iconst cx (v := 1) (by decide) dX3_knows_12 (pn := 13) rfl ?_
      refine j_goto cx 17 dX3_knows_13 rfl ?_
      exact hR 1 17 _ dX3_knows_17 (Or.inr rfl) h
theorem dX3_isFold_0 : decode cX3_isFold 0 = .ok (.aload_n 0, 1) := by decide +kernel
theorem dX3_isFold_1 : decode cX3_isFold 1 = .ok (.getfield 15, 3) := by decide +kernel
theorem dX3_isFold_4 : decode cX3_isFold 4 = .ok (.iload_n 1, 1) := by decide +kernel
theorem dX3_isFold_5 : decode cX3_isFold 5 = .ok (.iaload, 1) := by decide +kernel
theorem dX3_isFold_6 : decode cX3_isFold 6 = .ok (.iconst (-1), 1) := by decide +kernel
theorem dX3_isFold_7 : decode cX3_isFold 7 = .ok (.if_icmp .eq 7, 3) := by decide +kernel
theorem dX3_isFold_10 : decode cX3_isFold 10 = .ok (.iconst 1, 1) := by decide +kernel
theorem dX3_isFold_11 : decode cX3_isFold 11 = .ok (.goto 4, 3) := by decide +kernel
theorem dX3_isFold_14 : decode cX3_isFold 14 = .ok (.iconst 0, 1) := by decide +kernel
theorem dX3_isFold_15 : decode cX3_isFold 15 = .ok (.ireturn, 1) := by decide +kernel
abbrev rm_X3_isFold : Room := { frames := 0, cells := 0, slots := 0, locals := 0 }
theorem hd_X3_isFold : yX3_isFold.cls ≠ "java/lang/invoke/MethodHandle" ∧ yX3_isFold.cls ≠ "java/lang/invoke/VarHandle" ∧ (parseMethodDescriptor yX3_isFold.desc).map (fun d => d.parameters.length) = some 1 := by decide +kernel
def wp_X3_isFold (p1 : Int32) (f_sideCounts : Nat → Int32) (Q : Int32 → Prop) : Prop :=
vp_in p1 1024 ∧ (((f_sideCounts p1.toNatClampNeg) = (-1) → Q 0) ∧
(¬ (f_sideCounts p1.toNatClampNeg) = (-1) → Q 1))
set_option maxHeartbeats 4000000 in
set_option maxRecDepth 100000 in
theorem c_X3_isFold {D : DG} {cyI cyJ cyZ : ClassId} {a_f a_f_needs a_f_sideCounts a_f_yardSums a_f_beside : Nat} {f_all : Int32} {f_wanted : Int32} {f_mostSides : Int32} {f_needs : Nat → Int32} {f_sideCounts : Nat → Int32} {f_yardSums : Nat → Int32} {f_beside : Nat → Int32} {p1 : Int32} {Q : Int32 → Prop} (h : wp_X3_isFold p1 f_sideCounts Q) :
    MetI yX3_isFold cX3_isFold 2 (some .boolean) rm_X3_isFold D [(cyI, .int), (cyJ, .long), (cyZ, .boolean)] [.ref a_f, .int p1] (W_FT cyI cyJ cyZ a_f a_f_needs a_f_sideCounts a_f_yardSums a_f_beside f_all f_wanted f_mostSides f_needs f_sideCounts f_yardSums f_beside) (fun _ : Unit => (W_FT cyI cyJ cyZ a_f a_f_needs a_f_sideCounts a_f_yardSums a_f_beside f_all f_wanted f_mostSides f_needs f_sideCounts f_yardSums f_beside)) (fun v _ => Q v ) := by
  unfold wp_X3_isFold at h
  refine metZ_of (by decide) (Nat.le_of_ble_eq_true rfl) (fun x cx0 hR0 => ?_)
  have cx : Cx x cX3_isFold 2 RX3 rm_X3_isFold D [(cyI, .int), (cyJ, .long), (cyZ, .boolean)] := cx0
  have hR : ∀ (v : Int32) (pc : Nat) (lv : List (Nat × Value)), decode cX3_isFold pc = .ok (.ireturn, 1) → (v = 0 ∨ v = 1) → Q v → J x 0 0 2 (W_FT cyI cyJ cyZ a_f a_f_needs a_f_sideCounts a_f_yardSums a_f_beside f_all f_wanted f_mostSides f_needs f_sideCounts f_yardSums f_beside) lv pc [.int v] := (fun v pc lv d hz hq => hR0 v () pc lv d hz hq)
  show J x 0 0 2 (W_FT cyI cyJ cyZ a_f a_f_needs a_f_sideCounts a_f_yardSums a_f_beside f_all f_wanted f_mostSides f_needs f_sideCounts f_yardSums f_beside) [(0, .ref a_f), (1, .int p1)] 0 []
  refine j_aload_n cx 0 rfl rfl dX3_isFold_0 (pn := 1) rfl ?_
  refine j_get cx inGX3 0 rfl rfl 1 (by decide) q_fl_X3_15 rfl rfl dX3_isFold_1 (pn := 4) rfl ?_
  refine j_iload_n cx 1 rfl rfl dX3_isFold_4 (pn := 5) rfl ?_
  refine j_iald cx 2 0 rfl rfl h.1 dX3_isFold_5 (pn := 6) rfl ?_
  have h := h.2
  refine j_iconst cx (v := (-1)) (by decide) dX3_isFold_6 (pn := 7) rfl ?_
  refine j_icmp_eq cx 14 dX3_isFold_7 (pn := 10) rfl rfl (fun c1 => ?_) (fun c1 => ?_)
  · have h := h.1 c1
    refine j_iconst cx (v := 0) (by decide) dX3_isFold_14 (pn := 15) rfl ?_
    exact hR 0 15 _ dX3_isFold_15 (Or.inl rfl) h
  · have h := h.2 c1
    refine j_iconst cx (v := 1) (by decide) dX3_isFold_10 (pn := 11) rfl ?_
    refine j_goto cx 15 dX3_isFold_11 rfl ?_
    exact hR 1 15 _ dX3_isFold_15 (Or.inr rfl) h
theorem dX3_nextTo_0 : decode cX3_nextTo 0 = .ok (.iload_n 1, 1) := by decide +kernel
theorem dX3_nextTo_1 : decode cX3_nextTo 1 = .ok (.ifCond .ne 10, 3) := by decide +kernel
theorem dX3_nextTo_4 : decode cX3_nextTo 4 = .ok (.aload_n 0, 1) := by decide +kernel
theorem dX3_nextTo_5 : decode cX3_nextTo 5 = .ok (.getfield 30, 3) := by decide +kernel
theorem dX3_nextTo_8 : decode cX3_nextTo 8 = .ok (.goto 9, 3) := by decide +kernel
theorem dX3_nextTo_11 : decode cX3_nextTo 11 = .ok (.aload_n 0, 1) := by decide +kernel
theorem dX3_nextTo_12 : decode cX3_nextTo 12 = .ok (.getfield 21, 3) := by decide +kernel
theorem dX3_nextTo_15 : decode cX3_nextTo 15 = .ok (.iload_n 1, 1) := by decide +kernel
theorem dX3_nextTo_16 : decode cX3_nextTo 16 = .ok (.iaload, 1) := by decide +kernel
theorem dX3_nextTo_17 : decode cX3_nextTo 17 = .ok (.ireturn, 1) := by decide +kernel
abbrev rm_X3_nextTo : Room := { frames := 0, cells := 0, slots := 0, locals := 0 }
theorem hd_X3_nextTo : yX3_nextTo.cls ≠ "java/lang/invoke/MethodHandle" ∧ yX3_nextTo.cls ≠ "java/lang/invoke/VarHandle" ∧ (parseMethodDescriptor yX3_nextTo.desc).map (fun d => d.parameters.length) = some 1 := by decide +kernel
def wp_X3_nextTo (p1 : Int32) (f_all : Int32) (f_beside : Nat → Int32) (Q : Int32 → Prop) : Prop :=
((¬ p1 = 0 → vp_in p1 1024 ∧ Q (f_beside p1.toNatClampNeg)) ∧
(p1 = 0 → Q f_all))
set_option maxHeartbeats 4000000 in
set_option maxRecDepth 100000 in
theorem c_X3_nextTo {D : DG} {cyI cyJ cyZ : ClassId} {a_f a_f_needs a_f_sideCounts a_f_yardSums a_f_beside : Nat} {f_all : Int32} {f_wanted : Int32} {f_mostSides : Int32} {f_needs : Nat → Int32} {f_sideCounts : Nat → Int32} {f_yardSums : Nat → Int32} {f_beside : Nat → Int32} {p1 : Int32} {Q : Int32 → Prop} (h : wp_X3_nextTo p1 f_all f_beside Q) :
    MetI yX3_nextTo cX3_nextTo 2 (some .int) rm_X3_nextTo D [(cyI, .int), (cyJ, .long), (cyZ, .boolean)] [.ref a_f, .int p1] (W_FT cyI cyJ cyZ a_f a_f_needs a_f_sideCounts a_f_yardSums a_f_beside f_all f_wanted f_mostSides f_needs f_sideCounts f_yardSums f_beside) (fun _ : Unit => (W_FT cyI cyJ cyZ a_f a_f_needs a_f_sideCounts a_f_yardSums a_f_beside f_all f_wanted f_mostSides f_needs f_sideCounts f_yardSums f_beside)) (fun v _ => Q v ) := by
  unfold wp_X3_nextTo at h
  refine metI_of (by decide) (Nat.le_of_ble_eq_true rfl) (fun x cx0 hR0 => ?_)
  have cx : Cx x cX3_nextTo 2 RX3 rm_X3_nextTo D [(cyI, .int), (cyJ, .long), (cyZ, .boolean)] := cx0
  have hR : ∀ (v : Int32) (pc : Nat) (lv : List (Nat × Value)), decode cX3_nextTo pc = .ok (.ireturn, 1) → Q v → J x 0 0 2 (W_FT cyI cyJ cyZ a_f a_f_needs a_f_sideCounts a_f_yardSums a_f_beside f_all f_wanted f_mostSides f_needs f_sideCounts f_yardSums f_beside) lv pc [.int v] := (fun v pc lv d hq => hR0 v () pc lv d hq)
  show J x 0 0 2 (W_FT cyI cyJ cyZ a_f a_f_needs a_f_sideCounts a_f_yardSums a_f_beside f_all f_wanted f_mostSides f_needs f_sideCounts f_yardSums f_beside) [(0, .ref a_f), (1, .int p1)] 0 []
  refine j_iload_n cx 1 rfl rfl dX3_nextTo_0 (pn := 1) rfl ?_
  refine j_if_ne cx 11 dX3_nextTo_1 (pn := 4) rfl rfl (fun c1 => ?_) (fun c1 => ?_)
  · have h := h.1 c1
    refine j_aload_n cx 0 rfl rfl dX3_nextTo_11 (pn := 12) rfl ?_
    refine j_get cx inGX3 0 rfl rfl 3 (by decide) q_fl_X3_21 rfl rfl dX3_nextTo_12 (pn := 15) rfl ?_
    refine j_iload_n cx 1 rfl rfl dX3_nextTo_15 (pn := 16) rfl ?_
    refine j_iald cx 4 0 rfl rfl h.1 dX3_nextTo_16 (pn := 17) rfl ?_
    have h := h.2
    exact hR (f_beside p1.toNatClampNeg) 17 _ dX3_nextTo_17 h
  · have h := h.2 c1
    refine j_aload_n cx 0 rfl rfl dX3_nextTo_4 (pn := 5) rfl ?_
    refine j_get cx inGX3 0 rfl rfl 4 (by decide) q_fl_X3_30 rfl rfl dX3_nextTo_5 (pn := 8) rfl ?_
    refine j_goto cx 17 dX3_nextTo_8 rfl ?_
    exact hR f_all 17 _ dX3_nextTo_17 h
theorem dX3_liftedTo_0 : decode cX3_liftedTo 0 = .ok (.aload_n 0, 1) := by decide +kernel
theorem dX3_liftedTo_1 : decode cX3_liftedTo 1 = .ok (.getfield 9, 3) := by decide +kernel
theorem dX3_liftedTo_4 : decode cX3_liftedTo 4 = .ok (.iload_n 1, 1) := by decide +kernel
theorem dX3_liftedTo_5 : decode cX3_liftedTo 5 = .ok (.iaload, 1) := by decide +kernel
theorem dX3_liftedTo_6 : decode cX3_liftedTo 6 = .ok (.aload_n 0, 1) := by decide +kernel
theorem dX3_liftedTo_7 : decode cX3_liftedTo 7 = .ok (.getfield 9, 3) := by decide +kernel
theorem dX3_liftedTo_10 : decode cX3_liftedTo 10 = .ok (.iload_n 2, 1) := by decide +kernel
theorem dX3_liftedTo_11 : decode cX3_liftedTo 11 = .ok (.iaload, 1) := by decide +kernel
theorem dX3_liftedTo_12 : decode cX3_liftedTo 12 = .ok (.iconst (-1), 1) := by decide +kernel
theorem dX3_liftedTo_13 : decode cX3_liftedTo 13 = .ok (.ixor, 1) := by decide +kernel
theorem dX3_liftedTo_14 : decode cX3_liftedTo 14 = .ok (.iand, 1) := by decide +kernel
theorem dX3_liftedTo_15 : decode cX3_liftedTo 15 = .ok (.invokestatic 71, 3) := by decide +kernel
theorem dX3_liftedTo_18 : decode cX3_liftedTo 18 = .ok (.ireturn, 1) := by decide +kernel
abbrev rm_X3_liftedTo : Room := { frames := 1, cells := 0, slots := 0, locals := 20 }
theorem hd_X3_liftedTo : yX3_liftedTo.cls ≠ "java/lang/invoke/MethodHandle" ∧ yX3_liftedTo.cls ≠ "java/lang/invoke/VarHandle" ∧ (parseMethodDescriptor yX3_liftedTo.desc).map (fun d => d.parameters.length) = some 2 := by decide +kernel
def wp_X3_liftedTo (p1 : Int32) (p2 : Int32) (f_needs : Nat → Int32) (Q : Int32 → Prop) : Prop :=
vp_in p1 1024 ∧ vp_in p2 1024 ∧ wp_J6_bitCount_0f7a4 ((f_needs p1.toNatClampNeg) &&& ((f_needs p2.toNatClampNeg) ^^^ (-1))) (fun (r1 : Int32) => Q r1)
set_option maxHeartbeats 4000000 in
set_option maxRecDepth 100000 in
theorem c_X3_liftedTo {D : DG} {cyI cyJ cyZ : ClassId} {a_f a_f_needs a_f_sideCounts a_f_yardSums a_f_beside : Nat} {f_all : Int32} {f_wanted : Int32} {f_mostSides : Int32} {f_needs : Nat → Int32} {f_sideCounts : Nat → Int32} {f_yardSums : Nat → Int32} {f_beside : Nat → Int32} {p1 : Int32} {p2 : Int32} {Q : Int32 → Prop} (h : wp_X3_liftedTo p1 p2 f_needs Q) :
    MetI yX3_liftedTo cX3_liftedTo 3 (some .int) rm_X3_liftedTo D [(cyI, .int), (cyJ, .long), (cyZ, .boolean)] [.ref a_f, .int p1, .int p2] (W_FT cyI cyJ cyZ a_f a_f_needs a_f_sideCounts a_f_yardSums a_f_beside f_all f_wanted f_mostSides f_needs f_sideCounts f_yardSums f_beside) (fun _ : Unit => (W_FT cyI cyJ cyZ a_f a_f_needs a_f_sideCounts a_f_yardSums a_f_beside f_all f_wanted f_mostSides f_needs f_sideCounts f_yardSums f_beside)) (fun v _ => Q v ) := by
  unfold wp_X3_liftedTo at h
  refine metI_of (by decide) (Nat.le_of_ble_eq_true rfl) (fun x cx0 hR0 => ?_)
  have cx : Cx x cX3_liftedTo 3 RX3 rm_X3_liftedTo D [(cyI, .int), (cyJ, .long), (cyZ, .boolean)] := cx0
  have hR : ∀ (v : Int32) (pc : Nat) (lv : List (Nat × Value)), decode cX3_liftedTo pc = .ok (.ireturn, 1) → Q v → J x 0 0 3 (W_FT cyI cyJ cyZ a_f a_f_needs a_f_sideCounts a_f_yardSums a_f_beside f_all f_wanted f_mostSides f_needs f_sideCounts f_yardSums f_beside) lv pc [.int v] := (fun v pc lv d hq => hR0 v () pc lv d hq)
  show J x 0 0 3 (W_FT cyI cyJ cyZ a_f a_f_needs a_f_sideCounts a_f_yardSums a_f_beside f_all f_wanted f_mostSides f_needs f_sideCounts f_yardSums f_beside) [(0, .ref a_f), (1, .int p1), (2, .int p2)] 0 []
  refine j_aload_n cx 0 rfl rfl dX3_liftedTo_0 (pn := 1) rfl ?_
  refine j_get cx inGX3 0 rfl rfl 0 (by decide) q_fl_X3_9 rfl rfl dX3_liftedTo_1 (pn := 4) rfl ?_
  refine j_iload_n cx 1 rfl rfl dX3_liftedTo_4 (pn := 5) rfl ?_
  refine j_iald cx 1 0 rfl rfl h.1 dX3_liftedTo_5 (pn := 6) rfl ?_
  have h := h.2
  refine j_aload_n cx 0 rfl rfl dX3_liftedTo_6 (pn := 7) rfl ?_
  refine j_get cx inGX3 0 rfl rfl 0 (by decide) q_fl_X3_9 rfl rfl dX3_liftedTo_7 (pn := 10) rfl ?_
  refine j_iload_n cx 2 rfl rfl dX3_liftedTo_10 (pn := 11) rfl ?_
  refine j_iald cx 1 0 rfl rfl h.1 dX3_liftedTo_11 (pn := 12) rfl ?_
  have h := h.2
  refine j_iconst cx (v := (-1)) (by decide) dX3_liftedTo_12 (pn := 13) rfl ?_
  refine j_ixor cx dX3_liftedTo_13 (pn := 14) rfl ?_
  refine j_iand cx dX3_liftedTo_14 (pn := 15) rfl ?_
  refine j_calleI cx q_stat_J6_bitCount_0f7a4 (As := [.int ((f_needs p1.toNatClampNeg) &&& ((f_needs p2.toNatClampNeg) ^^^ (-1)))]) (rest := []) (c_J6_bitCount_0f7a4 h) ⟨q_code_J6_bitCount_0f7a4, q_ml_X3_71, q_init_J6, hd_J6_bitCount_0f7a4, ⟨Nat.le_of_ble_eq_true rfl, Nat.le_of_ble_eq_true rfl⟩, Nat.le_of_ble_eq_true rfl, Nat.le_of_ble_eq_true rfl⟩ rfl rfl (Nat.le_of_ble_eq_true rfl) dX3_liftedTo_15 (pn := 18) rfl (fun r1 h => ?_)
  show J x 0 0 3 (W_FT cyI cyJ cyZ a_f a_f_needs a_f_sideCounts a_f_yardSums a_f_beside f_all f_wanted f_mostSides f_needs f_sideCounts f_yardSums f_beside) [(0, .ref a_f), (1, .int p1), (2, .int p2)] 18 [.int r1]
  exact hR r1 18 _ dX3_liftedTo_18 h
theorem dX3_leastSided_0 : decode cX3_leastSided 0 = .ok (.iconst (-1), 1) := by decide +kernel
theorem dX3_leastSided_1 : decode cX3_leastSided 1 = .ok (.istore_n 2, 1) := by decide +kernel
theorem dX3_leastSided_2 : decode cX3_leastSided 2 = .ok (.ldc 83, 2) := by decide +kernel
theorem dX3_leastSided_4 : decode cX3_leastSided 4 = .ok (.istore_n 3, 1) := by decide +kernel
theorem dX3_leastSided_5 : decode cX3_leastSided 5 = .ok (.iconst 1, 1) := by decide +kernel
theorem dX3_leastSided_6 : decode cX3_leastSided 6 = .ok (.istore 4, 2) := by decide +kernel
theorem dX3_leastSided_8 : decode cX3_leastSided 8 = .ok (.iload 4, 2) := by decide +kernel
theorem dX3_leastSided_10 : decode cX3_leastSided 10 = .ok (.aload_n 0, 1) := by decide +kernel
theorem dX3_leastSided_11 : decode cX3_leastSided 11 = .ok (.getfield 30, 3) := by decide +kernel
theorem dX3_leastSided_14 : decode cX3_leastSided 14 = .ok (.if_icmp .gt 51, 3) := by decide +kernel
theorem dX3_leastSided_17 : decode cX3_leastSided 17 = .ok (.aload_n 0, 1) := by decide +kernel
theorem dX3_leastSided_18 : decode cX3_leastSided 18 = .ok (.iload 4, 2) := by decide +kernel
theorem dX3_leastSided_20 : decode cX3_leastSided 20 = .ok (.invokevirtual 84, 3) := by decide +kernel
theorem dX3_leastSided_23 : decode cX3_leastSided 23 = .ok (.ifCond .eq 36, 3) := by decide +kernel
theorem dX3_leastSided_26 : decode cX3_leastSided 26 = .ok (.aload_n 0, 1) := by decide +kernel
theorem dX3_leastSided_27 : decode cX3_leastSided 27 = .ok (.getfield 18, 3) := by decide +kernel
theorem dX3_leastSided_30 : decode cX3_leastSided 30 = .ok (.iload 4, 2) := by decide +kernel
theorem dX3_leastSided_32 : decode cX3_leastSided 32 = .ok (.iaload, 1) := by decide +kernel
theorem dX3_leastSided_33 : decode cX3_leastSided 33 = .ok (.iload_n 1, 1) := by decide +kernel
theorem dX3_leastSided_34 : decode cX3_leastSided 34 = .ok (.if_icmp .lt 25, 3) := by decide +kernel
theorem dX3_leastSided_37 : decode cX3_leastSided 37 = .ok (.aload_n 0, 1) := by decide +kernel
theorem dX3_leastSided_38 : decode cX3_leastSided 38 = .ok (.getfield 15, 3) := by decide +kernel
theorem dX3_leastSided_41 : decode cX3_leastSided 41 = .ok (.iload 4, 2) := by decide +kernel
theorem dX3_leastSided_43 : decode cX3_leastSided 43 = .ok (.iaload, 1) := by decide +kernel
theorem dX3_leastSided_44 : decode cX3_leastSided 44 = .ok (.iload_n 3, 1) := by decide +kernel
theorem dX3_leastSided_45 : decode cX3_leastSided 45 = .ok (.if_icmp .ge 14, 3) := by decide +kernel
theorem dX3_leastSided_48 : decode cX3_leastSided 48 = .ok (.aload_n 0, 1) := by decide +kernel
theorem dX3_leastSided_49 : decode cX3_leastSided 49 = .ok (.getfield 15, 3) := by decide +kernel
theorem dX3_leastSided_52 : decode cX3_leastSided 52 = .ok (.iload 4, 2) := by decide +kernel
theorem dX3_leastSided_54 : decode cX3_leastSided 54 = .ok (.iaload, 1) := by decide +kernel
theorem dX3_leastSided_55 : decode cX3_leastSided 55 = .ok (.istore_n 3, 1) := by decide +kernel
theorem dX3_leastSided_56 : decode cX3_leastSided 56 = .ok (.iload 4, 2) := by decide +kernel
theorem dX3_leastSided_58 : decode cX3_leastSided 58 = .ok (.istore_n 2, 1) := by decide +kernel
theorem dX3_leastSided_59 : decode cX3_leastSided 59 = .ok (.iinc 4 1, 3) := by decide +kernel
theorem dX3_leastSided_62 : decode cX3_leastSided 62 = .ok (.goto (-54), 3) := by decide +kernel
theorem dX3_leastSided_65 : decode cX3_leastSided 65 = .ok (.iload_n 2, 1) := by decide +kernel
theorem dX3_leastSided_66 : decode cX3_leastSided 66 = .ok (.ireturn, 1) := by decide +kernel
abbrev rm_X3_leastSided : Room := { frames := 1, cells := 0, slots := 0, locals := 21 }
theorem hd_X3_leastSided : yX3_leastSided.cls ≠ "java/lang/invoke/MethodHandle" ∧ yX3_leastSided.cls ≠ "java/lang/invoke/VarHandle" ∧ (parseMethodDescriptor yX3_leastSided.desc).map (fun d => d.parameters.length) = some 1 := by decide +kernel
def bk_X3_leastSided_59 (Q : Int32 → Prop) (B8 : Int32 → Int32 → Int32 → Prop) (x2 : Int32) (x3 : Int32) (x4 : Int32) : Prop :=
∀ y4 : Int32, y4 = (x4 + 1) →
B8 x2 x3 y4
def bd_X3_leastSided_8 (Q : Int32 → Prop) (B8 : Int32 → Int32 → Int32 → Prop) (p1 : Int32) (f_all : Int32) (f_sideCounts : Nat → Int32) (f_yardSums : Nat → Int32) (x2 : Int32) (x3 : Int32) (x4 : Int32) : Prop :=
((f_all < x4 → Q x2) ∧
(¬ f_all < x4 → wp_X3_isFold x4 f_sideCounts (fun (r2 : Int32) => ((r2 = 0 → bk_X3_leastSided_59 Q B8 x2 x3 x4) ∧
(¬ r2 = 0 → vp_in x4 1024 ∧ (((f_yardSums x4.toNatClampNeg) < p1 → bk_X3_leastSided_59 Q B8 x2 x3 x4) ∧
(¬ (f_yardSums x4.toNatClampNeg) < p1 → vp_in x4 1024 ∧ ((x3 ≤ (f_sideCounts x4.toNatClampNeg) → bk_X3_leastSided_59 Q B8 x2 x3 x4) ∧
(¬ x3 ≤ (f_sideCounts x4.toNatClampNeg) → vp_in x4 1024 ∧ (∀ y7 : Int32, y7 = (f_sideCounts x4.toNatClampNeg) →
bk_X3_leastSided_59 Q B8 x4 y7 x4))))))))))
def lp_X3_leastSided_8 (Q : Int32 → Prop) (p1 : Int32) (f_all : Int32) (f_sideCounts : Nat → Int32) (f_yardSums : Nat → Int32) (x2 : Int32) (x3 : Int32) (x4 : Int32) : Prop :=
∃ I : Nat → Int32 → Int32 → Int32 → Prop, (∃ n, I n x2 x3 x4) ∧ ∀ n x2 x3 x4, I n x2 x3 x4 → bd_X3_leastSided_8 Q  (fun x2' x3' x4' => ∃ n', n' < n ∧ I n' x2' x3' x4') p1 f_all f_sideCounts f_yardSums x2 x3 x4
def wp_X3_leastSided (p1 : Int32) (f_all : Int32) (f_sideCounts : Nat → Int32) (f_yardSums : Nat → Int32) (Q : Int32 → Prop) : Prop :=
lp_X3_leastSided_8 Q p1 f_all f_sideCounts f_yardSums (-1) 1048576 1
set_option maxHeartbeats 4000000 in
set_option maxRecDepth 100000 in
theorem J_X3_leastSided_59 {x : CX} {D : DG} {cyI cyJ cyZ : ClassId} {a_f a_f_needs a_f_sideCounts a_f_yardSums a_f_beside : Nat} {f_all : Int32} {f_wanted : Int32} {f_mostSides : Int32} {f_needs : Nat → Int32} {f_sideCounts : Nat → Int32} {f_yardSums : Nat → Int32} {f_beside : Nat → Int32} {p1 : Int32} {x2 : Int32} {x3 : Int32} {x4 : Int32} {Q : Int32 → Prop} {B8 : Int32 → Int32 → Int32 → Prop} (cx : Cx x cX3_leastSided 5 RX3 rm_X3_leastSided D [(cyI, .int), (cyJ, .long), (cyZ, .boolean)]) (hR : ∀ (v : Int32) (pc : Nat) (lv : List (Nat × Value)), decode cX3_leastSided pc = .ok (.ireturn, 1) → Q v → J x 0 0 5 (W_FT cyI cyJ cyZ a_f a_f_needs a_f_sideCounts a_f_yardSums a_f_beside f_all f_wanted f_mostSides f_needs f_sideCounts f_yardSums f_beside) lv pc [.int v]) (hB8 : ∀ (x2 : Int32) (x3 : Int32) (x4 : Int32), B8 x2 x3 x4 → J x 0 0 5 (W_FT cyI cyJ cyZ a_f a_f_needs a_f_sideCounts a_f_yardSums a_f_beside f_all f_wanted f_mostSides f_needs f_sideCounts f_yardSums f_beside) [(0, .ref a_f), (1, .int p1), (2, .int x2), (3, .int x3), (4, .int x4)] 8 []) (h : bk_X3_leastSided_59 Q B8 x2 x3 x4) :
    J x 0 0 5 (W_FT cyI cyJ cyZ a_f a_f_needs a_f_sideCounts a_f_yardSums a_f_beside f_all f_wanted f_mostSides f_needs f_sideCounts f_yardSums f_beside) [(0, .ref a_f), (1, .int p1), (2, .int x2), (3, .int x3), (4, .int x4)] 59 [] := by
  unfold bk_X3_leastSided_59 at h
  obtain ⟨y4, ey4⟩ : ∃ z : Int32, z = x4 + 1 := ⟨_, rfl⟩
  have h := h y4 ey4
  refine j_iinc cx 4 rfl (cst := 1) (by decide) ey4 [(4, .int y4), (0, .ref a_f), (1, .int p1), (2, .int x2), (3, .int x3)] (by decide) rfl dX3_leastSided_59 (pn := 62) rfl ?_
  refine j_goto cx 8 dX3_leastSided_62 rfl ?_
  refine j_sub [1, 2, 3, 4, 0] [(0, .ref a_f), (1, .int p1), (2, .int x2), (3, .int x3), (4, .int y4)] rfl ?_
  exact hB8 _ _ _ h
set_option maxHeartbeats 4000000 in
set_option maxRecDepth 100000 in
theorem B_X3_leastSided_8 {x : CX} {D : DG} {cyI cyJ cyZ : ClassId} {a_f a_f_needs a_f_sideCounts a_f_yardSums a_f_beside : Nat} {f_all : Int32} {f_wanted : Int32} {f_mostSides : Int32} {f_needs : Nat → Int32} {f_sideCounts : Nat → Int32} {f_yardSums : Nat → Int32} {f_beside : Nat → Int32} {p1 : Int32} {x2 : Int32} {x3 : Int32} {x4 : Int32} {Q : Int32 → Prop} {B8 : Int32 → Int32 → Int32 → Prop} (cx : Cx x cX3_leastSided 5 RX3 rm_X3_leastSided D [(cyI, .int), (cyJ, .long), (cyZ, .boolean)]) (hR : ∀ (v : Int32) (pc : Nat) (lv : List (Nat × Value)), decode cX3_leastSided pc = .ok (.ireturn, 1) → Q v → J x 0 0 5 (W_FT cyI cyJ cyZ a_f a_f_needs a_f_sideCounts a_f_yardSums a_f_beside f_all f_wanted f_mostSides f_needs f_sideCounts f_yardSums f_beside) lv pc [.int v]) (hB8 : ∀ (x2 : Int32) (x3 : Int32) (x4 : Int32), B8 x2 x3 x4 → J x 0 0 5 (W_FT cyI cyJ cyZ a_f a_f_needs a_f_sideCounts a_f_yardSums a_f_beside f_all f_wanted f_mostSides f_needs f_sideCounts f_yardSums f_beside) [(0, .ref a_f), (1, .int p1), (2, .int x2), (3, .int x3), (4, .int x4)] 8 []) (h : bd_X3_leastSided_8 Q B8 p1 f_all f_sideCounts f_yardSums x2 x3 x4) :
    J x 0 0 5 (W_FT cyI cyJ cyZ a_f a_f_needs a_f_sideCounts a_f_yardSums a_f_beside f_all f_wanted f_mostSides f_needs f_sideCounts f_yardSums f_beside) [(0, .ref a_f), (1, .int p1), (2, .int x2), (3, .int x3), (4, .int x4)] 8 [] := by
  unfold bd_X3_leastSided_8 at h
  refine j_iload cx 4 rfl dX3_leastSided_8 (pn := 10) rfl ?_
  refine j_aload_n cx 0 rfl rfl dX3_leastSided_10 (pn := 11) rfl ?_
  refine j_get cx inGX3 0 rfl rfl 4 (by decide) q_fl_X3_30 rfl rfl dX3_leastSided_11 (pn := 14) rfl ?_
  refine j_icmp_gt cx 65 dX3_leastSided_14 (pn := 17) rfl rfl (fun c1 => ?_) (fun c1 => ?_)
  · have h := h.1 c1
    refine j_iload_n cx 2 rfl rfl dX3_leastSided_65 (pn := 66) rfl ?_
    exact hR x2 66 _ dX3_leastSided_66 h
  · have h := h.2 c1
    refine j_aload_n cx 0 rfl rfl dX3_leastSided_17 (pn := 18) rfl ?_
    refine j_iload cx 4 rfl dX3_leastSided_18 (pn := 20) rfl ?_
    refine j_callvI0 cx q_inst_X3_isFold q_sel_X3_isFold (b := a_f) (As := [.int x4]) (rest := []) (c_X3_isFold h) ⟨q_code_X3_isFold, q_ml_X3_84, q_init_X3, hd_X3_isFold, ⟨Nat.le_of_ble_eq_true rfl, Nat.le_of_ble_eq_true rfl⟩, Nat.le_of_ble_eq_true rfl, Nat.le_of_ble_eq_true rfl⟩ (q0 := 0) rfl rfl rfl rfl (Nat.le_of_ble_eq_true rfl) dX3_leastSided_20 (pn := 23) rfl (fun r2 _ h => ?_)
    show J x 0 0 5 (W_FT cyI cyJ cyZ a_f a_f_needs a_f_sideCounts a_f_yardSums a_f_beside f_all f_wanted f_mostSides f_needs f_sideCounts f_yardSums f_beside) [(0, .ref a_f), (1, .int p1), (2, .int x2), (3, .int x3), (4, .int x4)] 23 [.int r2]
    refine j_if_eq cx 59 dX3_leastSided_23 (pn := 26) rfl rfl (fun c3 => ?_) (fun c3 => ?_)
    · have h := h.1 c3
      exact J_X3_leastSided_59 cx hR hB8 h
    · have h := h.2 c3
      refine j_aload_n cx 0 rfl rfl dX3_leastSided_26 (pn := 27) rfl ?_
      refine j_get cx inGX3 0 rfl rfl 2 (by decide) q_fl_X3_18 rfl rfl dX3_leastSided_27 (pn := 30) rfl ?_
      refine j_iload cx 4 rfl dX3_leastSided_30 (pn := 32) rfl ?_
      refine j_iald cx 3 0 rfl rfl h.1 dX3_leastSided_32 (pn := 33) rfl ?_
      have h := h.2
      refine j_iload_n cx 1 rfl rfl dX3_leastSided_33 (pn := 34) rfl ?_
      refine j_icmp_lt cx 59 dX3_leastSided_34 (pn := 37) rfl rfl (fun c5 => ?_) (fun c5 => ?_)
      · have h := h.1 c5
        exact J_X3_leastSided_59 cx hR hB8 h
      · have h := h.2 c5
        refine j_aload_n cx 0 rfl rfl dX3_leastSided_37 (pn := 38) rfl ?_
        refine j_get cx inGX3 0 rfl rfl 1 (by decide) q_fl_X3_15 rfl rfl dX3_leastSided_38 (pn := 41) rfl ?_
        refine j_iload cx 4 rfl dX3_leastSided_41 (pn := 43) rfl ?_
        refine j_iald cx 2 0 rfl rfl h.1 dX3_leastSided_43 (pn := 44) rfl ?_
        have h := h.2
        refine j_iload_n cx 3 rfl rfl dX3_leastSided_44 (pn := 45) rfl ?_
        refine j_icmp_ge cx 59 dX3_leastSided_45 (pn := 48) rfl rfl (fun c6 => ?_) (fun c6 => ?_)
        · have h := h.1 c6
          exact J_X3_leastSided_59 cx hR hB8 h
        · have h := h.2 c6
          refine j_aload_n cx 0 rfl rfl dX3_leastSided_48 (pn := 49) rfl ?_
          refine j_get cx inGX3 0 rfl rfl 1 (by decide) q_fl_X3_15 rfl rfl dX3_leastSided_49 (pn := 52) rfl ?_
          refine j_iload cx 4 rfl dX3_leastSided_52 (pn := 54) rfl ?_
          refine j_iald cx 2 0 rfl rfl h.1 dX3_leastSided_54 (pn := 55) rfl ?_
          have h := h.2
          refine j_topi (fun y7 ey7 => ?_)
          have h := h y7 ey7
          refine j_istore_n cx rfl [(3, .int y7), (0, .ref a_f), (1, .int p1), (2, .int x2), (4, .int x4)] (by decide) rfl dX3_leastSided_55 (pn := 56) rfl ?_
          refine j_iload cx 4 rfl dX3_leastSided_56 (pn := 58) rfl ?_
          refine j_istore_n cx rfl [(2, .int x4), (3, .int y7), (0, .ref a_f), (1, .int p1), (4, .int x4)] (by decide) rfl dX3_leastSided_58 (pn := 59) rfl ?_
          refine j_sub [2, 3, 0, 1, 4] [(0, .ref a_f), (1, .int p1), (2, .int x4), (3, .int y7), (4, .int x4)] rfl ?_
          exact J_X3_leastSided_59 cx hR hB8 h
set_option maxHeartbeats 4000000 in
set_option maxRecDepth 100000 in
theorem J_X3_leastSided_8 {x : CX} {D : DG} {cyI cyJ cyZ : ClassId} {a_f a_f_needs a_f_sideCounts a_f_yardSums a_f_beside : Nat} {f_all : Int32} {f_wanted : Int32} {f_mostSides : Int32} {f_needs : Nat → Int32} {f_sideCounts : Nat → Int32} {f_yardSums : Nat → Int32} {f_beside : Nat → Int32} {p1 : Int32} {x2 : Int32} {x3 : Int32} {x4 : Int32} {Q : Int32 → Prop} (cx : Cx x cX3_leastSided 5 RX3 rm_X3_leastSided D [(cyI, .int), (cyJ, .long), (cyZ, .boolean)]) (hR : ∀ (v : Int32) (pc : Nat) (lv : List (Nat × Value)), decode cX3_leastSided pc = .ok (.ireturn, 1) → Q v → J x 0 0 5 (W_FT cyI cyJ cyZ a_f a_f_needs a_f_sideCounts a_f_yardSums a_f_beside f_all f_wanted f_mostSides f_needs f_sideCounts f_yardSums f_beside) lv pc [.int v]) (h : lp_X3_leastSided_8 Q  p1 f_all f_sideCounts f_yardSums x2 x3 x4) :
    J x 0 0 5 (W_FT cyI cyJ cyZ a_f a_f_needs a_f_sideCounts a_f_yardSums a_f_beside f_all f_wanted f_mostSides f_needs f_sideCounts f_yardSums f_beside) [(0, .ref a_f), (1, .int p1), (2, .int x2), (3, .int x3), (4, .int x4)] 8 [] := by
  obtain ⟨I, ⟨n, h0⟩, hb⟩ := h
  revert x2 x3 x4
  induction n using Nat.strongRecOn with
  | _ n ih =>
    intro x2 x3 x4 h0
    exact B_X3_leastSided_8 cx hR (fun _ _ _ hz => by obtain ⟨n2, hlt, hI⟩ := hz; exact ih n2 hlt hI) (hb n x2 x3 x4 h0)
set_option maxHeartbeats 4000000 in
set_option maxRecDepth 100000 in
theorem c_X3_leastSided {D : DG} {cyI cyJ cyZ : ClassId} {a_f a_f_needs a_f_sideCounts a_f_yardSums a_f_beside : Nat} {f_all : Int32} {f_wanted : Int32} {f_mostSides : Int32} {f_needs : Nat → Int32} {f_sideCounts : Nat → Int32} {f_yardSums : Nat → Int32} {f_beside : Nat → Int32} {p1 : Int32} {Q : Int32 → Prop} (h : wp_X3_leastSided p1 f_all f_sideCounts f_yardSums Q) :
    MetI yX3_leastSided cX3_leastSided 5 (some .int) rm_X3_leastSided D [(cyI, .int), (cyJ, .long), (cyZ, .boolean)] [.ref a_f, .int p1] (W_FT cyI cyJ cyZ a_f a_f_needs a_f_sideCounts a_f_yardSums a_f_beside f_all f_wanted f_mostSides f_needs f_sideCounts f_yardSums f_beside) (fun _ : Unit => (W_FT cyI cyJ cyZ a_f a_f_needs a_f_sideCounts a_f_yardSums a_f_beside f_all f_wanted f_mostSides f_needs f_sideCounts f_yardSums f_beside)) (fun v _ => Q v ) := by
  unfold wp_X3_leastSided at h
  refine metI_of (by decide) (Nat.le_of_ble_eq_true rfl) (fun x cx0 hR0 => ?_)
  have cx : Cx x cX3_leastSided 5 RX3 rm_X3_leastSided D [(cyI, .int), (cyJ, .long), (cyZ, .boolean)] := cx0
  have hR : ∀ (v : Int32) (pc : Nat) (lv : List (Nat × Value)), decode cX3_leastSided pc = .ok (.ireturn, 1) → Q v → J x 0 0 5 (W_FT cyI cyJ cyZ a_f a_f_needs a_f_sideCounts a_f_yardSums a_f_beside f_all f_wanted f_mostSides f_needs f_sideCounts f_yardSums f_beside) lv pc [.int v] := (fun v pc lv d hq => hR0 v () pc lv d hq)
  show J x 0 0 5 (W_FT cyI cyJ cyZ a_f a_f_needs a_f_sideCounts a_f_yardSums a_f_beside f_all f_wanted f_mostSides f_needs f_sideCounts f_yardSums f_beside) [(0, .ref a_f), (1, .int p1)] 0 []
  refine j_iconst cx (v := (-1)) (by decide) dX3_leastSided_0 (pn := 1) rfl ?_
  refine j_istore_n cx rfl [(2, .int (-1)), (0, .ref a_f), (1, .int p1)] (by decide) rfl dX3_leastSided_1 (pn := 2) rfl ?_
  refine j_ldc cx q_c_X3_83 dX3_leastSided_2 (pn := 4) rfl ?_
  refine j_istore_n cx rfl [(3, .int 1048576), (2, .int (-1)), (0, .ref a_f), (1, .int p1)] (by decide) rfl dX3_leastSided_4 (pn := 5) rfl ?_
  refine j_iconst cx (v := 1) (by decide) dX3_leastSided_5 (pn := 6) rfl ?_
  refine j_istore cx [(4, .int 1), (3, .int 1048576), (2, .int (-1)), (0, .ref a_f), (1, .int p1)] (by decide) rfl dX3_leastSided_6 (pn := 8) rfl ?_
  refine j_sub [3, 4, 2, 1, 0] [(0, .ref a_f), (1, .int p1), (2, .int (-1)), (3, .int 1048576), (4, .int 1)] rfl ?_
  exact J_X3_leastSided_8 cx hR h
