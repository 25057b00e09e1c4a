theorem dX11_walk_0 : decode cX11_walk 0 = .ok (.iconst 0, 1) := by decide +kernel
theorem dX11_walk_1 : decode cX11_walk 1 = .ok (.istore_n 3, 1) := by decide +kernel
theorem dX11_walk_2 : decode cX11_walk 2 = .ok (.aload_n 0, 1) := by decide +kernel
theorem dX11_walk_3 : decode cX11_walk 3 = .ok (.getfield 42, 3) := by decide +kernel
theorem dX11_walk_6 : decode cX11_walk 6 = .ok (.iload_n 3, 1) := by decide +kernel
theorem dX11_walk_7 : decode cX11_walk 7 = .ok (.iaload, 1) := by decide +kernel
theorem dX11_walk_8 : decode cX11_walk 8 = .ok (.iload_n 1, 1) := by decide +kernel
theorem dX11_walk_9 : decode cX11_walk 9 = .ok (.if_icmp .gt 31, 3) := by decide +kernel
theorem dX11_walk_12 : decode cX11_walk 12 = .ok (.aload_n 0, 1) := by decide +kernel
theorem dX11_walk_13 : decode cX11_walk 13 = .ok (.getfield 42, 3) := by decide +kernel
theorem dX11_walk_16 : decode cX11_walk 16 = .ok (.iload_n 3, 1) := by decide +kernel
theorem dX11_walk_17 : decode cX11_walk 17 = .ok (.iaload, 1) := by decide +kernel
theorem dX11_walk_18 : decode cX11_walk 18 = .ok (.aload_n 0, 1) := by decide +kernel
theorem dX11_walk_19 : decode cX11_walk 19 = .ok (.getfield 49, 3) := by decide +kernel
theorem dX11_walk_22 : decode cX11_walk 22 = .ok (.sipush 280, 3) := by decide +kernel
theorem dX11_walk_25 : decode cX11_walk 25 = .ok (.aload_n 0, 1) := by decide +kernel
theorem dX11_walk_26 : decode cX11_walk 26 = .ok (.getfield 35, 3) := by decide +kernel
theorem dX11_walk_29 : decode cX11_walk 29 = .ok (.iload_n 3, 1) := by decide +kernel
theorem dX11_walk_30 : decode cX11_walk 30 = .ok (.iaload, 1) := by decide +kernel
theorem dX11_walk_31 : decode cX11_walk 31 = .ok (.imul, 1) := by decide +kernel
theorem dX11_walk_32 : decode cX11_walk 32 = .ok (.iload_n 3, 1) := by decide +kernel
theorem dX11_walk_33 : decode cX11_walk 33 = .ok (.iadd, 1) := by decide +kernel
theorem dX11_walk_34 : decode cX11_walk 34 = .ok (.iaload, 1) := by decide +kernel
theorem dX11_walk_35 : decode cX11_walk 35 = .ok (.iadd, 1) := by decide +kernel
theorem dX11_walk_36 : decode cX11_walk 36 = .ok (.iload_n 2, 1) := by decide +kernel
theorem dX11_walk_37 : decode cX11_walk 37 = .ok (.if_icmp .eq 9, 3) := by decide +kernel
theorem dX11_walk_40 : decode cX11_walk 40 = .ok (.iinc 3 1, 3) := by decide +kernel
theorem dX11_walk_43 : decode cX11_walk 43 = .ok (.goto (-41), 3) := by decide +kernel
theorem dX11_walk_46 : decode cX11_walk 46 = .ok (.aload_n 0, 1) := by decide +kernel
theorem dX11_walk_47 : decode cX11_walk 47 = .ok (.getfield 35, 3) := by decide +kernel
theorem dX11_walk_50 : decode cX11_walk 50 = .ok (.iload_n 3, 1) := by decide +kernel
theorem dX11_walk_51 : decode cX11_walk 51 = .ok (.iaload, 1) := by decide +kernel
theorem dX11_walk_52 : decode cX11_walk 52 = .ok (.istore 4, 2) := by decide +kernel
theorem dX11_walk_54 : decode cX11_walk 54 = .ok (.iload_n 2, 1) := by decide +kernel
theorem dX11_walk_55 : decode cX11_walk 55 = .ok (.aload_n 0, 1) := by decide +kernel
theorem dX11_walk_56 : decode cX11_walk 56 = .ok (.getfield 42, 3) := by decide +kernel
theorem dX11_walk_59 : decode cX11_walk 59 = .ok (.iload_n 3, 1) := by decide +kernel
theorem dX11_walk_60 : decode cX11_walk 60 = .ok (.iaload, 1) := by decide +kernel
theorem dX11_walk_61 : decode cX11_walk 61 = .ok (.isub, 1) := by decide +kernel
theorem dX11_walk_62 : decode cX11_walk 62 = .ok (.istore 5, 2) := by decide +kernel
theorem dX11_walk_64 : decode cX11_walk 64 = .ok (.aload_n 0, 1) := by decide +kernel
theorem dX11_walk_65 : decode cX11_walk 65 = .ok (.getfield 83, 3) := by decide +kernel
theorem dX11_walk_68 : decode cX11_walk 68 = .ok (.iconst 0, 1) := by decide +kernel
theorem dX11_walk_69 : decode cX11_walk 69 = .ok (.iload 4, 2) := by decide +kernel
theorem dX11_walk_71 : decode cX11_walk 71 = .ok (.iastore, 1) := by decide +kernel
theorem dX11_walk_72 : decode cX11_walk 72 = .ok (.iconst 1, 1) := by decide +kernel
theorem dX11_walk_73 : decode cX11_walk 73 = .ok (.istore 6, 2) := by decide +kernel
theorem dX11_walk_75 : decode cX11_walk 75 = .ok (.iconst 1, 1) := by decide +kernel
theorem dX11_walk_76 : decode cX11_walk 76 = .ok (.istore 7, 2) := by decide +kernel
theorem dX11_walk_78 : decode cX11_walk 78 = .ok (.iload 7, 2) := by decide +kernel
theorem dX11_walk_80 : decode cX11_walk 80 = .ok (.ifCond .eq 178, 3) := by decide +kernel
theorem dX11_walk_83 : decode cX11_walk 83 = .ok (.iload 5, 2) := by decide +kernel
theorem dX11_walk_85 : decode cX11_walk 85 = .ok (.ifCond .gt 15, 3) := by decide +kernel
theorem dX11_walk_88 : decode cX11_walk 88 = .ok (.aload_n 0, 1) := by decide +kernel
theorem dX11_walk_89 : decode cX11_walk 89 = .ok (.invokevirtual 290, 3) := by decide +kernel
theorem dX11_walk_92 : decode cX11_walk 92 = .ok (.iload 4, 2) := by decide +kernel
theorem dX11_walk_94 : decode cX11_walk 94 = .ok (.iconst (-1), 1) := by decide +kernel
theorem dX11_walk_95 : decode cX11_walk 95 = .ok (.ixor, 1) := by decide +kernel
theorem dX11_walk_96 : decode cX11_walk 96 = .ok (.iand, 1) := by decide +kernel
theorem dX11_walk_97 : decode cX11_walk 97 = .ok (.ifCond .eq 7, 3) := by decide +kernel
theorem dX11_walk_100 : decode cX11_walk 100 = .ok (.iconst 1, 1) := by decide +kernel
theorem dX11_walk_101 : decode cX11_walk 101 = .ok (.goto 4, 3) := by decide +kernel
theorem dX11_walk_104 : decode cX11_walk 104 = .ok (.iconst 0, 1) := by decide +kernel
theorem dX11_walk_105 : decode cX11_walk 105 = .ok (.istore 7, 2) := by decide +kernel
theorem dX11_walk_107 : decode cX11_walk 107 = .ok (.iconst 0, 1) := by decide +kernel
theorem dX11_walk_108 : decode cX11_walk 108 = .ok (.istore 8, 2) := by decide +kernel
theorem dX11_walk_110 : decode cX11_walk 110 = .ok (.iload 7, 2) := by decide +kernel
theorem dX11_walk_112 : decode cX11_walk 112 = .ok (.ifCond .eq 81, 3) := by decide +kernel
theorem dX11_walk_115 : decode cX11_walk 115 = .ok (.aload_n 0, 1) := by decide +kernel
theorem dX11_walk_116 : decode cX11_walk 116 = .ok (.getfield 42, 3) := by decide +kernel
theorem dX11_walk_119 : decode cX11_walk 119 = .ok (.iload 8, 2) := by decide +kernel
theorem dX11_walk_121 : decode cX11_walk 121 = .ok (.iaload, 1) := by decide +kernel
theorem dX11_walk_122 : decode cX11_walk 122 = .ok (.iload_n 1, 1) := by decide +kernel
theorem dX11_walk_123 : decode cX11_walk 123 = .ok (.if_icmp .gt 64, 3) := by decide +kernel
theorem dX11_walk_126 : decode cX11_walk 126 = .ok (.aload_n 0, 1) := by decide +kernel
theorem dX11_walk_127 : decode cX11_walk 127 = .ok (.iload 4, 2) := by decide +kernel
theorem dX11_walk_129 : decode cX11_walk 129 = .ok (.iload_n 3, 1) := by decide +kernel
theorem dX11_walk_130 : decode cX11_walk 130 = .ok (.iload 8, 2) := by decide +kernel
theorem dX11_walk_132 : decode cX11_walk 132 = .ok (.invokevirtual 306, 3) := by decide +kernel
theorem dX11_walk_135 : decode cX11_walk 135 = .ok (.ifCond .eq 52, 3) := by decide +kernel
theorem dX11_walk_138 : decode cX11_walk 138 = .ok (.aload_n 0, 1) := by decide +kernel
theorem dX11_walk_139 : decode cX11_walk 139 = .ok (.getfield 38, 3) := by decide +kernel
theorem dX11_walk_142 : decode cX11_walk 142 = .ok (.iload 8, 2) := by decide +kernel
theorem dX11_walk_144 : decode cX11_walk 144 = .ok (.laload, 1) := by decide +kernel
theorem dX11_walk_145 : decode cX11_walk 145 = .ok (.aload_n 0, 1) := by decide +kernel
theorem dX11_walk_146 : decode cX11_walk 146 = .ok (.getfield 38, 3) := by decide +kernel
theorem dX11_walk_149 : decode cX11_walk 149 = .ok (.iload_n 3, 1) := by decide +kernel
theorem dX11_walk_150 : decode cX11_walk 150 = .ok (.laload, 1) := by decide +kernel
theorem dX11_walk_151 : decode cX11_walk 151 = .ok (.ldc2_w 123, 3) := by decide +kernel
theorem dX11_walk_154 : decode cX11_walk 154 = .ok (.lxor, 1) := by decide +kernel
theorem dX11_walk_155 : decode cX11_walk 155 = .ok (.land, 1) := by decide +kernel
theorem dX11_walk_156 : decode cX11_walk 156 = .ok (.invokestatic 244, 3) := by decide +kernel
theorem dX11_walk_159 : decode cX11_walk 159 = .ok (.aload_n 0, 1) := by decide +kernel
theorem dX11_walk_160 : decode cX11_walk 160 = .ok (.getfield 49, 3) := by decide +kernel
theorem dX11_walk_163 : decode cX11_walk 163 = .ok (.sipush 280, 3) := by decide +kernel
theorem dX11_walk_166 : decode cX11_walk 166 = .ok (.iload 4, 2) := by decide +kernel
theorem dX11_walk_168 : decode cX11_walk 168 = .ok (.aload_n 0, 1) := by decide +kernel
theorem dX11_walk_169 : decode cX11_walk 169 = .ok (.getfield 35, 3) := by decide +kernel
theorem dX11_walk_172 : decode cX11_walk 172 = .ok (.iload 8, 2) := by decide +kernel
theorem dX11_walk_174 : decode cX11_walk 174 = .ok (.iaload, 1) := by decide +kernel
theorem dX11_walk_175 : decode cX11_walk 175 = .ok (.ior, 1) := by decide +kernel
theorem dX11_walk_176 : decode cX11_walk 176 = .ok (.imul, 1) := by decide +kernel
theorem dX11_walk_177 : decode cX11_walk 177 = .ok (.iload 8, 2) := by decide +kernel
theorem dX11_walk_179 : decode cX11_walk 179 = .ok (.iadd, 1) := by decide +kernel
theorem dX11_walk_180 : decode cX11_walk 180 = .ok (.iaload, 1) := by decide +kernel
theorem dX11_walk_181 : decode cX11_walk 181 = .ok (.iadd, 1) := by decide +kernel
theorem dX11_walk_182 : decode cX11_walk 182 = .ok (.iload 5, 2) := by decide +kernel
theorem dX11_walk_184 : decode cX11_walk 184 = .ok (.if_icmp .eq 9, 3) := by decide +kernel
theorem dX11_walk_187 : decode cX11_walk 187 = .ok (.iinc 8 1, 3) := by decide +kernel
theorem dX11_walk_190 : decode cX11_walk 190 = .ok (.goto (-80), 3) := by decide +kernel
theorem dX11_walk_193 : decode cX11_walk 193 = .ok (.iload 7, 2) := by decide +kernel
theorem dX11_walk_195 : decode cX11_walk 195 = .ok (.ifCond .eq 60, 3) := by decide +kernel
theorem dX11_walk_198 : decode cX11_walk 198 = .ok (.iload 5, 2) := by decide +kernel
theorem dX11_walk_200 : decode cX11_walk 200 = .ok (.aload_n 0, 1) := by decide +kernel
theorem dX11_walk_201 : decode cX11_walk 201 = .ok (.getfield 38, 3) := by decide +kernel
theorem dX11_walk_204 : decode cX11_walk 204 = .ok (.iload 8, 2) := by decide +kernel
theorem dX11_walk_206 : decode cX11_walk 206 = .ok (.laload, 1) := by decide +kernel
theorem dX11_walk_207 : decode cX11_walk 207 = .ok (.aload_n 0, 1) := by decide +kernel
theorem dX11_walk_208 : decode cX11_walk 208 = .ok (.getfield 38, 3) := by decide +kernel
theorem dX11_walk_211 : decode cX11_walk 211 = .ok (.iload_n 3, 1) := by decide +kernel
theorem dX11_walk_212 : decode cX11_walk 212 = .ok (.laload, 1) := by decide +kernel
theorem dX11_walk_213 : decode cX11_walk 213 = .ok (.ldc2_w 123, 3) := by decide +kernel
theorem dX11_walk_216 : decode cX11_walk 216 = .ok (.lxor, 1) := by decide +kernel
theorem dX11_walk_217 : decode cX11_walk 217 = .ok (.land, 1) := by decide +kernel
theorem dX11_walk_218 : decode cX11_walk 218 = .ok (.invokestatic 244, 3) := by decide +kernel
theorem dX11_walk_221 : decode cX11_walk 221 = .ok (.isub, 1) := by decide +kernel
theorem dX11_walk_222 : decode cX11_walk 222 = .ok (.istore 5, 2) := by decide +kernel
theorem dX11_walk_224 : decode cX11_walk 224 = .ok (.iload 4, 2) := by decide +kernel
theorem dX11_walk_226 : decode cX11_walk 226 = .ok (.aload_n 0, 1) := by decide +kernel
theorem dX11_walk_227 : decode cX11_walk 227 = .ok (.getfield 35, 3) := by decide +kernel
theorem dX11_walk_230 : decode cX11_walk 230 = .ok (.iload 8, 2) := by decide +kernel
theorem dX11_walk_232 : decode cX11_walk 232 = .ok (.iaload, 1) := by decide +kernel
theorem dX11_walk_233 : decode cX11_walk 233 = .ok (.ior, 1) := by decide +kernel
theorem dX11_walk_234 : decode cX11_walk 234 = .ok (.istore 4, 2) := by decide +kernel
theorem dX11_walk_236 : decode cX11_walk 236 = .ok (.iload 8, 2) := by decide +kernel
theorem dX11_walk_238 : decode cX11_walk 238 = .ok (.istore_n 3, 1) := by decide +kernel
theorem dX11_walk_239 : decode cX11_walk 239 = .ok (.aload_n 0, 1) := by decide +kernel
theorem dX11_walk_240 : decode cX11_walk 240 = .ok (.getfield 83, 3) := by decide +kernel
theorem dX11_walk_243 : decode cX11_walk 243 = .ok (.iload 6, 2) := by decide +kernel
theorem dX11_walk_245 : decode cX11_walk 245 = .ok (.aload_n 0, 1) := by decide +kernel
theorem dX11_walk_246 : decode cX11_walk 246 = .ok (.getfield 35, 3) := by decide +kernel
theorem dX11_walk_249 : decode cX11_walk 249 = .ok (.iload_n 3, 1) := by decide +kernel
theorem dX11_walk_250 : decode cX11_walk 250 = .ok (.iaload, 1) := by decide +kernel
theorem dX11_walk_251 : decode cX11_walk 251 = .ok (.iastore, 1) := by decide +kernel
theorem dX11_walk_252 : decode cX11_walk 252 = .ok (.iinc 6 1, 3) := by decide +kernel
theorem dX11_walk_255 : decode cX11_walk 255 = .ok (.goto (-177), 3) := by decide +kernel
theorem dX11_walk_258 : decode cX11_walk 258 = .ok (.iload 6, 2) := by decide +kernel
theorem dX11_walk_260 : decode cX11_walk 260 = .ok (.ireturn, 1) := by decide +kernel
abbrev rm_X11_walk : Room := { frames := 4, cells := 0, slots := 0, locals := 94 }
theorem hd_X11_walk : yX11_walk.cls ≠ "java/lang/invoke/MethodHandle" ∧ yX11_walk.cls ≠ "java/lang/invoke/VarHandle" ∧ (parseMethodDescriptor yX11_walk.desc).map (fun d => d.parameters.length) = some 2 := by decide +kernel
def bk_X11_walk_40 (Q : Int32 → ((Nat → Int32)) → Prop) (B2 : Int32 → Prop) (x3 : Int32) : Prop :=
∀ y2 : Int32, y2 = (x3 + 1) →
B2 y2
def bk_X11_walk_255 (Q : Int32 → ((Nat → Int32)) → Prop) (B78 : (Nat → Int32) → Int32 → Int32 → Int32 → Int32 → Int32 → Prop) (x3 : Int32) (x4 : Int32) (x5 : Int32) (x6 : Int32) (x7 : Int32) (M_path : Nat → Int32) : Prop :=
B78 M_path x3 x4 x5 x6 x7
def bk_X11_walk_193 (Q : Int32 → ((Nat → Int32)) → Prop) (B78 : (Nat → Int32) → Int32 → Int32 → Int32 → Int32 → Int32 → Prop) (x3 : Int32) (x4 : Int32) (x5 : Int32) (x6 : Int32) (x7 : Int32) (x8 : Int32) (M_foldSet : Nat → Int32) (M_foldEdges : Nat → Int64) (M_path : Nat → Int32) : Prop :=
((x7 = 0 → bk_X11_walk_255 Q B78 x3 x4 x5 x6 x7 M_path) ∧
(¬ x7 = 0 → vp_in x8 280 ∧ vp_in x3 280 ∧ wp_X11_bits ((M_foldEdges x8.toNatClampNeg) &&& ((M_foldEdges x3.toNatClampNeg) ^^^ (-1))) (fun (r11 : Int32) => ∀ y12 : Int32, y12 = (x5 - r11) →
vp_in x8 280 ∧ (∀ y13 : Int32, y13 = (x4 ||| (M_foldSet x8.toNatClampNeg)) →
vp_in x8 280 ∧ (∀ y14 : Int32, y14 = (M_foldSet x8.toNatClampNeg) →
vp_in x6 10 ∧ (∀ f15 : Nat → Int32, f15 = (upd M_path x6.toNatClampNeg y14) →
∀ y16 : Int32, y16 = (x6 + 1) →
bk_X11_walk_255 Q B78 x8 y13 y12 y16 x7 f15))))))
def bk_X11_walk_187 (Q : Int32 → ((Nat → Int32)) → Prop) (B78 : (Nat → Int32) → Int32 → Int32 → Int32 → Int32 → Int32 → Prop) (B110 : Int32 → Prop) (x8 : Int32) : Prop :=
∀ y18 : Int32, y18 = (x8 + 1) →
B110 y18
def bd_X11_walk_110 (Q : Int32 → ((Nat → Int32)) → Prop) (B78 : (Nat → Int32) → Int32 → Int32 → Int32 → Int32 → Int32 → Prop) (B110 : Int32 → Prop) (p1 : Int32) (x3 : Int32) (x4 : Int32) (x5 : Int32) (x6 : Int32) (x7 : Int32) (M_wide : Int32) (M_high : Int32) (M_foldSet : Nat → Int32) (M_foldEdges : Nat → Int64) (M_foldNeeds : Nat → Int32) (M_least : Nat → Int32) (M_path : Nat → Int32) (x8 : Int32) : Prop :=
((x7 = 0 → bk_X11_walk_193 Q B78 x3 x4 x5 x6 x7 x8 M_foldSet M_foldEdges M_path) ∧
(¬ x7 = 0 → vp_in x8 280 ∧ ((p1 < (M_foldNeeds x8.toNatClampNeg) → bk_X11_walk_187 Q B78 B110 x8) ∧
(¬ p1 < (M_foldNeeds x8.toNatClampNeg) → wp_X11_canFollow x4 x3 x8 M_wide M_high M_foldSet (fun (r19 : Int32) => ((r19 = 0 → bk_X11_walk_187 Q B78 B110 x8) ∧
(¬ r19 = 0 → vp_in x8 280 ∧ vp_in x3 280 ∧ wp_X11_bits ((M_foldEdges x8.toNatClampNeg) &&& ((M_foldEdges x3.toNatClampNeg) ^^^ (-1))) (fun (r21 : Int32) => vp_in x8 280 ∧ vp_in ((280 * (x4 ||| (M_foldSet x8.toNatClampNeg))) + x8) 286720 ∧ (((r21 + (M_least ((280 * (x4 ||| (M_foldSet x8.toNatClampNeg))) + x8).toNatClampNeg)) = x5 → bk_X11_walk_193 Q B78 x3 x4 x5 x6 x7 x8 M_foldSet M_foldEdges M_path) ∧
(¬ (r21 + (M_least ((280 * (x4 ||| (M_foldSet x8.toNatClampNeg))) + x8).toNatClampNeg)) = x5 → bk_X11_walk_187 Q B78 B110 x8))))))))))
def lp_X11_walk_110 (Q : Int32 → ((Nat → Int32)) → Prop) (B78 : (Nat → Int32) → Int32 → Int32 → Int32 → Int32 → Int32 → Prop) (p1 : Int32) (x3 : Int32) (x4 : Int32) (x5 : Int32) (x6 : Int32) (x7 : Int32) (M_wide : Int32) (M_high : Int32) (M_foldSet : Nat → Int32) (M_foldEdges : Nat → Int64) (M_foldNeeds : Nat → Int32) (M_least : Nat → Int32) (M_path : Nat → Int32) (x8 : Int32) : Prop :=
∃ I : Nat → Int32 → Prop, (∃ n, I n x8) ∧ ∀ n x8, I n x8 → bd_X11_walk_110 Q B78 (fun x8' => ∃ n', n' < n ∧ I n' x8') p1 x3 x4 x5 x6 x7 M_wide M_high M_foldSet M_foldEdges M_foldNeeds M_least M_path x8
def bk_X11_walk_105 (Q : Int32 → ((Nat → Int32)) → Prop) (B78 : (Nat → Int32) → Int32 → Int32 → Int32 → Int32 → Int32 → Prop) (p1 : Int32) (x3 : Int32) (x4 : Int32) (x5 : Int32) (x6 : Int32) (M_wide : Int32) (M_high : Int32) (M_foldSet : Nat → Int32) (M_foldEdges : Nat → Int64) (M_foldNeeds : Nat → Int32) (M_least : Nat → Int32) (M_path : Nat → Int32) (s0 : Int32) : Prop :=
lp_X11_walk_110 Q B78 p1 x3 x4 x5 x6 s0 M_wide M_high M_foldSet M_foldEdges M_foldNeeds M_least M_path 0
def bk_X11_walk_100 (Q : Int32 → ((Nat → Int32)) → Prop) (B78 : (Nat → Int32) → Int32 → Int32 → Int32 → Int32 → Int32 → Prop) (p1 : Int32) (x3 : Int32) (x4 : Int32) (x5 : Int32) (x6 : Int32) (M_wide : Int32) (M_high : Int32) (M_foldSet : Nat → Int32) (M_foldEdges : Nat → Int64) (M_foldNeeds : Nat → Int32) (M_least : Nat → Int32) (M_path : Nat → Int32) : Prop :=
bk_X11_walk_105 Q B78 p1 x3 x4 x5 x6 M_wide M_high M_foldSet M_foldEdges M_foldNeeds M_least M_path 1
def bd_X11_walk_78 (Q : Int32 → ((Nat → Int32)) → Prop) (B78 : (Nat → Int32) → Int32 → Int32 → Int32 → Int32 → Int32 → Prop) (p1 : Int32) (M_wide : Int32) (M_high : Int32) (M_square : Nat → Int32) (M_foldSet : Nat → Int32) (M_foldEdges : Nat → Int64) (M_foldNeeds : Nat → Int32) (M_least : Nat → Int32) (M_path : Nat → Int32) (x3 : Int32) (x4 : Int32) (x5 : Int32) (x6 : Int32) (x7 : Int32) : Prop :=
((x7 = 0 → Q x6 M_path) ∧
(¬ x7 = 0 → ((0 < x5 → bk_X11_walk_100 Q B78 p1 x3 x4 x5 x6 M_wide M_high M_foldSet M_foldEdges M_foldNeeds M_least M_path) ∧
(¬ 0 < x5 → wp_X11_rich M_wide M_high M_square (fun (r23 : Int32) => (((r23 &&& (x4 ^^^ (-1))) = 0 → bk_X11_walk_105 Q B78 p1 x3 x4 x5 x6 M_wide M_high M_foldSet M_foldEdges M_foldNeeds M_least M_path 0) ∧
(¬ (r23 &&& (x4 ^^^ (-1))) = 0 → bk_X11_walk_100 Q B78 p1 x3 x4 x5 x6 M_wide M_high M_foldSet M_foldEdges M_foldNeeds M_least M_path)))))))
def lp_X11_walk_78 (Q : Int32 → ((Nat → Int32)) → Prop) (p1 : Int32) (M_wide : Int32) (M_high : Int32) (M_square : Nat → Int32) (M_foldSet : Nat → Int32) (M_foldEdges : Nat → Int64) (M_foldNeeds : Nat → Int32) (M_least : Nat → Int32) (M_path : Nat → Int32) (x3 : Int32) (x4 : Int32) (x5 : Int32) (x6 : Int32) (x7 : Int32) : Prop :=
∃ I : Nat → (Nat → Int32) → Int32 → Int32 → Int32 → Int32 → Int32 → Prop, (∃ n, I n M_path x3 x4 x5 x6 x7) ∧ ∀ n M_path x3 x4 x5 x6 x7, I n M_path x3 x4 x5 x6 x7 → bd_X11_walk_78 Q  (fun M_path' x3' x4' x5' x6' x7' => ∃ n', n' < n ∧ I n' M_path' x3' x4' x5' x6' x7') p1 M_wide M_high M_square M_foldSet M_foldEdges M_foldNeeds M_least M_path x3 x4 x5 x6 x7
def bd_X11_walk_2 (Q : Int32 → ((Nat → Int32)) → Prop) (B2 : Int32 → Prop) (p1 : Int32) (p2 : Int32) (M_wide : Int32) (M_high : Int32) (M_square : Nat → Int32) (M_foldSet : Nat → Int32) (M_foldEdges : Nat → Int64) (M_foldNeeds : Nat → Int32) (M_least : Nat → Int32) (M_path : Nat → Int32) (x3 : Int32) : Prop :=
vp_in x3 280 ∧ ((p1 < (M_foldNeeds x3.toNatClampNeg) → bk_X11_walk_40 Q B2 x3) ∧
(¬ p1 < (M_foldNeeds x3.toNatClampNeg) → vp_in x3 280 ∧ vp_in x3 280 ∧ vp_in ((280 * (M_foldSet x3.toNatClampNeg)) + x3) 286720 ∧ ((((M_foldNeeds x3.toNatClampNeg) + (M_least ((280 * (M_foldSet x3.toNatClampNeg)) + x3).toNatClampNeg)) = p2 → vp_in x3 280 ∧ (∀ y4 : Int32, y4 = (M_foldSet x3.toNatClampNeg) →
vp_in x3 280 ∧ (∀ y5 : Int32, y5 = (p2 - (M_foldNeeds x3.toNatClampNeg)) →
vp_in (0 : Int32) 10 ∧ (∀ f6 : Nat → Int32, f6 = (upd M_path (0 : Int32).toNatClampNeg y4) →
lp_X11_walk_78 Q p1 M_wide M_high M_square M_foldSet M_foldEdges M_foldNeeds M_least f6 x3 y4 y5 1 1)))) ∧
(¬ ((M_foldNeeds x3.toNatClampNeg) + (M_least ((280 * (M_foldSet x3.toNatClampNeg)) + x3).toNatClampNeg)) = p2 → bk_X11_walk_40 Q B2 x3))))
def lp_X11_walk_2 (Q : Int32 → ((Nat → Int32)) → Prop) (p1 : Int32) (p2 : Int32) (M_wide : Int32) (M_high : Int32) (M_square : Nat → Int32) (M_foldSet : Nat → Int32) (M_foldEdges : Nat → Int64) (M_foldNeeds : Nat → Int32) (M_least : Nat → Int32) (M_path : Nat → Int32) (x3 : Int32) : Prop :=
∃ I : Nat → Int32 → Prop, (∃ n, I n x3) ∧ ∀ n x3, I n x3 → bd_X11_walk_2 Q  (fun x3' => ∃ n', n' < n ∧ I n' x3') p1 p2 M_wide M_high M_square M_foldSet M_foldEdges M_foldNeeds M_least M_path x3
def wp_X11_walk (p1 : Int32) (p2 : Int32) (M_wide : Int32) (M_high : Int32) (M_square : Nat → Int32) (M_foldSet : Nat → Int32) (M_foldEdges : Nat → Int64) (M_foldNeeds : Nat → Int32) (M_least : Nat → Int32) (M_path : Nat → Int32) (Q : Int32 → ((Nat → Int32)) → Prop) : Prop :=
lp_X11_walk_2 Q p1 p2 M_wide M_high M_square M_foldSet M_foldEdges M_foldNeeds M_least M_path 0
set_option maxHeartbeats 4000000 in
set_option maxRecDepth 100000 in
theorem J_X11_walk_40 {x : CX} {D : DG} {cyI cyJ cyZ : ClassId} {a_M a_M_square a_M_want a_M_text a_M_read a_M_row a_M_foldSet a_M_foldEdges a_M_foldNeeds a_M_foldYards a_M_least a_M_ways a_M_price a_M_rowBy a_M_columnBy a_M_rowOf a_M_wayBack a_M_slack a_M_isUsed a_M_lifted a_M_freed a_M_path : Nat} {M_wide : Int32} {M_high : Int32} {M_hedges : Int64} {M_hurdles : Int32} {M_wants : Int32} {M_rest : Int32} {M_frozen : Int32} {M_bytes : Int32} {M_position : Int32} {M_tokenAt : Int32} {M_token : Int64} {M_digits : Int32} {M_number : Int32} {M_faultAt : Int32} {M_readMany : Int32} {M_readWide : Int32} {M_readHigh : Int32} {M_nights : Int32} {M_why : Int32} {M_folds : Int32} {M_square : Nat → Int32} {M_want : Nat → Int32} {M_text : Nat → Int32} {M_read : Nat → Int32} {M_row : Nat → Int32} {M_foldSet : Nat → Int32} {M_foldEdges : Nat → Int64} {M_foldNeeds : Nat → Int32} {M_foldYards : Nat → Int32} {M_least : Nat → Int32} {M_ways : Nat → Int32} {M_price : Nat → Int32} {M_rowBy : Nat → Int32} {M_columnBy : Nat → Int32} {M_rowOf : Nat → Int32} {M_wayBack : Nat → Int32} {M_slack : Nat → Int32} {M_isUsed : Nat → Int32} {M_lifted : Nat → Int32} {M_freed : Nat → Int32} {M_path : Nat → Int32} {p1 : Int32} {p2 : Int32} {x3 : Int32} {Q : Int32 → ((Nat → Int32)) → Prop} {B2 : Int32 → Prop} (cx : Cx x cX11_walk 9 RX11 rm_X11_walk D [(cyI, .int), (cyJ, .long), (cyZ, .boolean)]) (hR : ∀ (v : Int32) (u : (Nat → Int32)) (pc : Nat) (lv : List (Nat × Value)), decode cX11_walk pc = .ok (.ireturn, 1) → Q v u → J x 0 0 9 (W_Model cyI cyJ cyZ a_M a_M_square a_M_want a_M_text a_M_read a_M_row a_M_foldSet a_M_foldEdges a_M_foldNeeds a_M_foldYards a_M_least a_M_ways a_M_price a_M_rowBy a_M_columnBy a_M_rowOf a_M_wayBack a_M_slack a_M_isUsed a_M_lifted a_M_freed a_M_path M_wide M_high M_hedges M_hurdles M_wants M_rest M_frozen M_bytes M_position M_tokenAt M_token M_digits M_number M_faultAt M_readMany M_readWide M_readHigh M_nights M_why M_folds M_square M_want M_text M_read M_row M_foldSet M_foldEdges M_foldNeeds M_foldYards M_least M_ways M_price M_rowBy M_columnBy M_rowOf M_wayBack M_slack M_isUsed M_lifted M_freed u) lv pc [.int v]) (hB2 : ∀ (x3 : Int32), B2 x3 → J x 0 0 9 (W_Model cyI cyJ cyZ a_M a_M_square a_M_want a_M_text a_M_read a_M_row a_M_foldSet a_M_foldEdges a_M_foldNeeds a_M_foldYards a_M_least a_M_ways a_M_price a_M_rowBy a_M_columnBy a_M_rowOf a_M_wayBack a_M_slack a_M_isUsed a_M_lifted a_M_freed a_M_path M_wide M_high M_hedges M_hurdles M_wants M_rest M_frozen M_bytes M_position M_tokenAt M_token M_digits M_number M_faultAt M_readMany M_readWide M_readHigh M_nights M_why M_folds M_square M_want M_text M_read M_row M_foldSet M_foldEdges M_foldNeeds M_foldYards M_least M_ways M_price M_rowBy M_columnBy M_rowOf M_wayBack M_slack M_isUsed M_lifted M_freed M_path) [(0, .ref a_M), (1, .int p1), (2, .int p2), (3, .int x3)] 2 []) (h : bk_X11_walk_40 Q B2 x3) :
    J x 0 0 9 (W_Model cyI cyJ cyZ a_M a_M_square a_M_want a_M_text a_M_read a_M_row a_M_foldSet a_M_foldEdges a_M_foldNeeds a_M_foldYards a_M_least a_M_ways a_M_price a_M_rowBy a_M_columnBy a_M_rowOf a_M_wayBack a_M_slack a_M_isUsed a_M_lifted a_M_freed a_M_path M_wide M_high M_hedges M_hurdles M_wants M_rest M_frozen M_bytes M_position M_tokenAt M_token M_digits M_number M_faultAt M_readMany M_readWide M_readHigh M_nights M_why M_folds M_square M_want M_text M_read M_row M_foldSet M_foldEdges M_foldNeeds M_foldYards M_least M_ways M_price M_rowBy M_columnBy M_rowOf M_wayBack M_slack M_isUsed M_lifted M_freed M_path) [(0, .ref a_M), (1, .int p1), (2, .int p2), (3, .int x3)] 40 [] := by
  unfold bk_X11_walk_40 at h
  obtain ⟨y2, ey2⟩ : ∃ z : Int32, z = x3 + 1 := ⟨_, rfl⟩
  have h := h y2 ey2
  refine j_iinc cx 3 rfl (cst := 1) (by decide) ey2 [(3, .int y2), (0, .ref a_M), (1, .int p1), (2, .int p2)] (by decide) rfl dX11_walk_40 (pn := 43) rfl ?_
  refine j_goto cx 2 dX11_walk_43 rfl ?_
  refine j_sub [1, 2, 3, 0] [(0, .ref a_M), (1, .int p1), (2, .int p2), (3, .int y2)] rfl ?_
  exact hB2 _ h
set_option maxHeartbeats 4000000 in
set_option maxRecDepth 100000 in
theorem J_X11_walk_255 {x : CX} {D : DG} {cyI cyJ cyZ : ClassId} {a_M a_M_square a_M_want a_M_text a_M_read a_M_row a_M_foldSet a_M_foldEdges a_M_foldNeeds a_M_foldYards a_M_least a_M_ways a_M_price a_M_rowBy a_M_columnBy a_M_rowOf a_M_wayBack a_M_slack a_M_isUsed a_M_lifted a_M_freed a_M_path : Nat} {M_wide : Int32} {M_high : Int32} {M_hedges : Int64} {M_hurdles : Int32} {M_wants : Int32} {M_rest : Int32} {M_frozen : Int32} {M_bytes : Int32} {M_position : Int32} {M_tokenAt : Int32} {M_token : Int64} {M_digits : Int32} {M_number : Int32} {M_faultAt : Int32} {M_readMany : Int32} {M_readWide : Int32} {M_readHigh : Int32} {M_nights : Int32} {M_why : Int32} {M_folds : Int32} {M_square : Nat → Int32} {M_want : Nat → Int32} {M_text : Nat → Int32} {M_read : Nat → Int32} {M_row : Nat → Int32} {M_foldSet : Nat → Int32} {M_foldEdges : Nat → Int64} {M_foldNeeds : Nat → Int32} {M_foldYards : Nat → Int32} {M_least : Nat → Int32} {M_ways : Nat → Int32} {M_price : Nat → Int32} {M_rowBy : Nat → Int32} {M_columnBy : Nat → Int32} {M_rowOf : Nat → Int32} {M_wayBack : Nat → Int32} {M_slack : Nat → Int32} {M_isUsed : Nat → Int32} {M_lifted : Nat → Int32} {M_freed : Nat → Int32} {M_path : Nat → Int32} {p1 : Int32} {x3 : Int32} {x4 : Int32} {x5 : Int32} {x6 : Int32} {x7 : Int32} {Q : Int32 → ((Nat → Int32)) → Prop} {B78 : (Nat → Int32) → Int32 → Int32 → Int32 → Int32 → Int32 → Prop} (cx : Cx x cX11_walk 9 RX11 rm_X11_walk D [(cyI, .int), (cyJ, .long), (cyZ, .boolean)]) (hR : ∀ (v : Int32) (u : (Nat → Int32)) (pc : Nat) (lv : List (Nat × Value)), decode cX11_walk pc = .ok (.ireturn, 1) → Q v u → J x 0 0 9 (W_Model cyI cyJ cyZ a_M a_M_square a_M_want a_M_text a_M_read a_M_row a_M_foldSet a_M_foldEdges a_M_foldNeeds a_M_foldYards a_M_least a_M_ways a_M_price a_M_rowBy a_M_columnBy a_M_rowOf a_M_wayBack a_M_slack a_M_isUsed a_M_lifted a_M_freed a_M_path M_wide M_high M_hedges M_hurdles M_wants M_rest M_frozen M_bytes M_position M_tokenAt M_token M_digits M_number M_faultAt M_readMany M_readWide M_readHigh M_nights M_why M_folds M_square M_want M_text M_read M_row M_foldSet M_foldEdges M_foldNeeds M_foldYards M_least M_ways M_price M_rowBy M_columnBy M_rowOf M_wayBack M_slack M_isUsed M_lifted M_freed u) lv pc [.int v]) (hB78 : ∀ (M_path : Nat → Int32) (x3 : Int32) (x4 : Int32) (x5 : Int32) (x6 : Int32) (x7 : Int32), B78 M_path x3 x4 x5 x6 x7 → J x 0 0 9 (W_Model cyI cyJ cyZ a_M a_M_square a_M_want a_M_text a_M_read a_M_row a_M_foldSet a_M_foldEdges a_M_foldNeeds a_M_foldYards a_M_least a_M_ways a_M_price a_M_rowBy a_M_columnBy a_M_rowOf a_M_wayBack a_M_slack a_M_isUsed a_M_lifted a_M_freed a_M_path M_wide M_high M_hedges M_hurdles M_wants M_rest M_frozen M_bytes M_position M_tokenAt M_token M_digits M_number M_faultAt M_readMany M_readWide M_readHigh M_nights M_why M_folds M_square M_want M_text M_read M_row M_foldSet M_foldEdges M_foldNeeds M_foldYards M_least M_ways M_price M_rowBy M_columnBy M_rowOf M_wayBack M_slack M_isUsed M_lifted M_freed M_path) [(0, .ref a_M), (1, .int p1), (3, .int x3), (4, .int x4), (5, .int x5), (6, .int x6), (7, .int x7)] 78 []) (h : bk_X11_walk_255 Q B78 x3 x4 x5 x6 x7 M_path) :
    J x 0 0 9 (W_Model cyI cyJ cyZ a_M a_M_square a_M_want a_M_text a_M_read a_M_row a_M_foldSet a_M_foldEdges a_M_foldNeeds a_M_foldYards a_M_least a_M_ways a_M_price a_M_rowBy a_M_columnBy a_M_rowOf a_M_wayBack a_M_slack a_M_isUsed a_M_lifted a_M_freed a_M_path M_wide M_high M_hedges M_hurdles M_wants M_rest M_frozen M_bytes M_position M_tokenAt M_token M_digits M_number M_faultAt M_readMany M_readWide M_readHigh M_nights M_why M_folds M_square M_want M_text M_read M_row M_foldSet M_foldEdges M_foldNeeds M_foldYards M_least M_ways M_price M_rowBy M_columnBy M_rowOf M_wayBack M_slack M_isUsed M_lifted M_freed M_path) [(0, .ref a_M), (1, .int p1), (3, .int x3), (4, .int x4), (5, .int x5), (6, .int x6), (7, .int x7)] 255 [] := by
  unfold bk_X11_walk_255 at h
  refine j_goto cx 78 dX11_walk_255 rfl ?_
  exact hB78 _ _ _ _ _ _ h
set_option maxHeartbeats 4000000 in
set_option maxRecDepth 100000 in
theorem J_X11_walk_193 {x : CX} {D : DG} {cyI cyJ cyZ : ClassId} {a_M a_M_square a_M_want a_M_text a_M_read a_M_row a_M_foldSet a_M_foldEdges a_M_foldNeeds a_M_foldYards a_M_least a_M_ways a_M_price a_M_rowBy a_M_columnBy a_M_rowOf a_M_wayBack a_M_slack a_M_isUsed a_M_lifted a_M_freed a_M_path : Nat} {M_wide : Int32} {M_high : Int32} {M_hedges : Int64} {M_hurdles : Int32} {M_wants : Int32} {M_rest : Int32} {M_frozen : Int32} {M_bytes : Int32} {M_position : Int32} {M_tokenAt : Int32} {M_token : Int64} {M_digits : Int32} {M_number : Int32} {M_faultAt : Int32} {M_readMany : Int32} {M_readWide : Int32} {M_readHigh : Int32} {M_nights : Int32} {M_why : Int32} {M_folds : Int32} {M_square : Nat → Int32} {M_want : Nat → Int32} {M_text : Nat → Int32} {M_read : Nat → Int32} {M_row : Nat → Int32} {M_foldSet : Nat → Int32} {M_foldEdges : Nat → Int64} {M_foldNeeds : Nat → Int32} {M_foldYards : Nat → Int32} {M_least : Nat → Int32} {M_ways : Nat → Int32} {M_price : Nat → Int32} {M_rowBy : Nat → Int32} {M_columnBy : Nat → Int32} {M_rowOf : Nat → Int32} {M_wayBack : Nat → Int32} {M_slack : Nat → Int32} {M_isUsed : Nat → Int32} {M_lifted : Nat → Int32} {M_freed : Nat → Int32} {M_path : Nat → Int32} {p1 : Int32} {x3 : Int32} {x4 : Int32} {x5 : Int32} {x6 : Int32} {x7 : Int32} {x8 : Int32} {Q : Int32 → ((Nat → Int32)) → Prop} {B78 : (Nat → Int32) → Int32 → Int32 → Int32 → Int32 → Int32 → Prop} (cx : Cx x cX11_walk 9 RX11 rm_X11_walk D [(cyI, .int), (cyJ, .long), (cyZ, .boolean)]) (hR : ∀ (v : Int32) (u : (Nat → Int32)) (pc : Nat) (lv : List (Nat × Value)), decode cX11_walk pc = .ok (.ireturn, 1) → Q v u → J x 0 0 9 (W_Model cyI cyJ cyZ a_M a_M_square a_M_want a_M_text a_M_read a_M_row a_M_foldSet a_M_foldEdges a_M_foldNeeds a_M_foldYards a_M_least a_M_ways a_M_price a_M_rowBy a_M_columnBy a_M_rowOf a_M_wayBack a_M_slack a_M_isUsed a_M_lifted a_M_freed a_M_path M_wide M_high M_hedges M_hurdles M_wants M_rest M_frozen M_bytes M_position M_tokenAt M_token M_digits M_number M_faultAt M_readMany M_readWide M_readHigh M_nights M_why M_folds M_square M_want M_text M_read M_row M_foldSet M_foldEdges M_foldNeeds M_foldYards M_least M_ways M_price M_rowBy M_columnBy M_rowOf M_wayBack M_slack M_isUsed M_lifted M_freed u) lv pc [.int v]) (hB78 : ∀ (M_path : Nat → Int32) (x3 : Int32) (x4 : Int32) (x5 : Int32) (x6 : Int32) (x7 : Int32), B78 M_path x3 x4 x5 x6 x7 → J x 0 0 9 (W_Model cyI cyJ cyZ a_M a_M_square a_M_want a_M_text a_M_read a_M_row a_M_foldSet a_M_foldEdges a_M_foldNeeds a_M_foldYards a_M_least a_M_ways a_M_price a_M_rowBy a_M_columnBy a_M_rowOf a_M_wayBack a_M_slack a_M_isUsed a_M_lifted a_M_freed a_M_path M_wide M_high M_hedges M_hurdles M_wants M_rest M_frozen M_bytes M_position M_tokenAt M_token M_digits M_number M_faultAt M_readMany M_readWide M_readHigh M_nights M_why M_folds M_square M_want M_text M_read M_row M_foldSet M_foldEdges M_foldNeeds M_foldYards M_least M_ways M_price M_rowBy M_columnBy M_rowOf M_wayBack M_slack M_isUsed M_lifted M_freed M_path) [(0, .ref a_M), (1, .int p1), (3, .int x3), (4, .int x4), (5, .int x5), (6, .int x6), (7, .int x7)] 78 []) (h : bk_X11_walk_193 Q B78 x3 x4 x5 x6 x7 x8 M_foldSet M_foldEdges M_path) :
    J x 0 0 9 (W_Model cyI cyJ cyZ a_M a_M_square a_M_want a_M_text a_M_read a_M_row a_M_foldSet a_M_foldEdges a_M_foldNeeds a_M_foldYards a_M_least a_M_ways a_M_price a_M_rowBy a_M_columnBy a_M_rowOf a_M_wayBack a_M_slack a_M_isUsed a_M_lifted a_M_freed a_M_path M_wide M_high M_hedges M_hurdles M_wants M_rest M_frozen M_bytes M_position M_tokenAt M_token M_digits M_number M_faultAt M_readMany M_readWide M_readHigh M_nights M_why M_folds M_square M_want M_text M_read M_row M_foldSet M_foldEdges M_foldNeeds M_foldYards M_least M_ways M_price M_rowBy M_columnBy M_rowOf M_wayBack M_slack M_isUsed M_lifted M_freed M_path) [(0, .ref a_M), (1, .int p1), (3, .int x3), (4, .int x4), (5, .int x5), (6, .int x6), (7, .int x7), (8, .int x8)] 193 [] := by
  unfold bk_X11_walk_193 at h
  refine j_iload cx 6 rfl dX11_walk_193 (pn := 195) rfl ?_
  refine j_if_eq cx 255 dX11_walk_195 (pn := 198) rfl rfl (fun c10 => ?_) (fun c10 => ?_)
  · have h := h.1 c10
    refine j_sub [0, 1, 2, 3, 4, 5, 6] [(0, .ref a_M), (1, .int p1), (3, .int x3), (4, .int x4), (5, .int x5), (6, .int x6), (7, .int x7)] rfl ?_
    exact J_X11_walk_255 cx hR hB78 h
  · have h := h.2 c10
    refine j_iload cx 4 rfl dX11_walk_198 (pn := 200) rfl ?_
    refine j_aload_n cx 0 rfl rfl dX11_walk_200 (pn := 201) rfl ?_
    refine j_get cx inGX11 0 rfl rfl 26 (by decide) q_fl_X11_38 rfl rfl dX11_walk_201 (pn := 204) rfl ?_
    refine j_iload cx 7 rfl dX11_walk_204 (pn := 206) rfl ?_
    refine j_lald cx 7 1 rfl rfl h.1 dX11_walk_206 (pn := 207) rfl ?_
    have h := h.2
    refine j_aload_n cx 0 rfl rfl dX11_walk_207 (pn := 208) rfl ?_
    refine j_get cx inGX11 0 rfl rfl 26 (by decide) q_fl_X11_38 rfl rfl dX11_walk_208 (pn := 211) rfl ?_
    refine j_iload_n cx 2 rfl rfl dX11_walk_211 (pn := 212) rfl ?_
    refine j_lald cx 7 1 rfl rfl h.1 dX11_walk_212 (pn := 213) rfl ?_
    have h := h.2
    refine j_ldc2 cx q_cl_X11_123 dX11_walk_213 (pn := 216) rfl ?_
    refine j_lxor cx dX11_walk_216 (pn := 217) rfl ?_
    refine j_land cx dX11_walk_217 (pn := 218) rfl ?_
    refine j_calleI cx q_stat_X11_bits (As := [.long ((M_foldEdges x8.toNatClampNeg) &&& ((M_foldEdges x3.toNatClampNeg) ^^^ (-1)))]) (rest := [.int x5]) (c_X11_bits h) ⟨q_code_X11_bits, q_ml_X11_244, q_init_X11, hd_X11_bits, ⟨Nat.le_of_ble_eq_true rfl, Nat.le_of_ble_eq_true rfl⟩, Nat.le_of_ble_eq_true rfl, Nat.le_of_ble_eq_true rfl⟩ rfl rfl (Nat.le_of_ble_eq_true rfl) dX11_walk_218 (pn := 221) rfl (fun r11 h => ?_)
    show J x 0 0 9 (W_Model cyI cyJ cyZ a_M a_M_square a_M_want a_M_text a_M_read a_M_row a_M_foldSet a_M_foldEdges a_M_foldNeeds a_M_foldYards a_M_least a_M_ways a_M_price a_M_rowBy a_M_columnBy a_M_rowOf a_M_wayBack a_M_slack a_M_isUsed a_M_lifted a_M_freed a_M_path M_wide M_high M_hedges M_hurdles M_wants M_rest M_frozen M_bytes M_position M_tokenAt M_token M_digits M_number M_faultAt M_readMany M_readWide M_readHigh M_nights M_why M_folds M_square M_want M_text M_read M_row M_foldSet M_foldEdges M_foldNeeds M_foldYards M_least M_ways M_price M_rowBy M_columnBy M_rowOf M_wayBack M_slack M_isUsed M_lifted M_freed M_path) [(0, .ref a_M), (1, .int p1), (3, .int x3), (4, .int x4), (5, .int x5), (6, .int x6), (7, .int x7), (8, .int x8)] 221 [.int r11, .int x5]
    refine j_isub cx dX11_walk_221 (pn := 222) rfl ?_
    refine j_topi (fun y12 ey12 => ?_)
    have h := h y12 ey12
    refine j_istore cx [(5, .int y12), (0, .ref a_M), (1, .int p1), (3, .int x3), (4, .int x4), (6, .int x6), (7, .int x7), (8, .int x8)] (by decide) rfl dX11_walk_222 (pn := 224) rfl ?_
    refine j_iload cx 4 rfl dX11_walk_224 (pn := 226) rfl ?_
    refine j_aload_n cx 1 rfl rfl dX11_walk_226 (pn := 227) rfl ?_
    refine j_get cx inGX11 0 rfl rfl 25 (by decide) q_fl_X11_35 rfl rfl dX11_walk_227 (pn := 230) rfl ?_
    refine j_iload cx 7 rfl dX11_walk_230 (pn := 232) rfl ?_
    refine j_iald cx 6 0 rfl rfl h.1 dX11_walk_232 (pn := 233) rfl ?_
    have h := h.2
    refine j_ior cx dX11_walk_233 (pn := 234) rfl ?_
    refine j_topi (fun y13 ey13 => ?_)
    have h := h y13 ey13
    refine j_istore cx [(4, .int y13), (5, .int y12), (0, .ref a_M), (1, .int p1), (3, .int x3), (6, .int x6), (7, .int x7), (8, .int x8)] (by decide) rfl dX11_walk_234 (pn := 236) rfl ?_
    refine j_iload cx 7 rfl dX11_walk_236 (pn := 238) rfl ?_
    refine j_istore_n cx rfl [(3, .int x8), (4, .int y13), (5, .int y12), (0, .ref a_M), (1, .int p1), (6, .int x6), (7, .int x7), (8, .int x8)] (by decide) rfl dX11_walk_238 (pn := 239) rfl ?_
    refine j_aload_n cx 3 rfl rfl dX11_walk_239 (pn := 240) rfl ?_
    refine j_get cx inGX11 0 rfl rfl 40 (by decide) q_fl_X11_83 rfl rfl dX11_walk_240 (pn := 243) rfl ?_
    refine j_iload cx 5 rfl dX11_walk_243 (pn := 245) rfl ?_
    refine j_aload_n cx 3 rfl rfl dX11_walk_245 (pn := 246) rfl ?_
    refine j_get cx inGX11 0 rfl rfl 25 (by decide) q_fl_X11_35 rfl rfl dX11_walk_246 (pn := 249) rfl ?_
    refine j_iload_n cx 0 rfl rfl dX11_walk_249 (pn := 250) rfl ?_
    refine j_iald cx 6 0 rfl rfl h.1 dX11_walk_250 (pn := 251) rfl ?_
    have h := h.2
    refine j_topi (fun y14 ey14 => ?_)
    have h := h y14 ey14
    have hin := h.1
    obtain ⟨f15, ef15⟩ : ∃ z, z = upd M_path x6.toNatClampNeg y14 := ⟨_, rfl⟩
    have h := h.2 f15 ef15
    refine j_iast cx 21 0 rfl rfl hin (W_Model cyI cyJ cyZ a_M a_M_square a_M_want a_M_text a_M_read a_M_row a_M_foldSet a_M_foldEdges a_M_foldNeeds a_M_foldYards a_M_least a_M_ways a_M_price a_M_rowBy a_M_columnBy a_M_rowOf a_M_wayBack a_M_slack a_M_isUsed a_M_lifted a_M_freed a_M_path M_wide M_high M_hedges M_hurdles M_wants M_rest M_frozen M_bytes M_position M_tokenAt M_token M_digits M_number M_faultAt M_readMany M_readWide M_readHigh M_nights M_why M_folds M_square M_want M_text M_read M_row M_foldSet M_foldEdges M_foldNeeds M_foldYards M_least M_ways M_price M_rowBy M_columnBy M_rowOf M_wayBack M_slack M_isUsed M_lifted M_freed f15) (by subst ef15; rfl) dX11_walk_251 (pn := 252) rfl ?_
    obtain ⟨y16, ey16⟩ : ∃ z : Int32, z = x6 + 1 := ⟨_, rfl⟩
    have h := h y16 ey16
    refine j_iinc cx 5 rfl (cst := 1) (by decide) ey16 [(6, .int y16), (3, .int x8), (4, .int y13), (5, .int y12), (0, .ref a_M), (1, .int p1), (7, .int x7), (8, .int x8)] (by decide) rfl dX11_walk_252 (pn := 255) rfl ?_
    refine j_sub [4, 5, 1, 2, 3, 0, 6] [(0, .ref a_M), (1, .int p1), (3, .int x8), (4, .int y13), (5, .int y12), (6, .int y16), (7, .int x7)] rfl ?_
    exact J_X11_walk_255 cx hR hB78 h
set_option maxHeartbeats 4000000 in
set_option maxRecDepth 100000 in
theorem J_X11_walk_187 {x : CX} {D : DG} {cyI cyJ cyZ : ClassId} {a_M a_M_square a_M_want a_M_text a_M_read a_M_row a_M_foldSet a_M_foldEdges a_M_foldNeeds a_M_foldYards a_M_least a_M_ways a_M_price a_M_rowBy a_M_columnBy a_M_rowOf a_M_wayBack a_M_slack a_M_isUsed a_M_lifted a_M_freed a_M_path : Nat} {M_wide : Int32} {M_high : Int32} {M_hedges : Int64} {M_hurdles : Int32} {M_wants : Int32} {M_rest : Int32} {M_frozen : Int32} {M_bytes : Int32} {M_position : Int32} {M_tokenAt : Int32} {M_token : Int64} {M_digits : Int32} {M_number : Int32} {M_faultAt : Int32} {M_readMany : Int32} {M_readWide : Int32} {M_readHigh : Int32} {M_nights : Int32} {M_why : Int32} {M_folds : Int32} {M_square : Nat → Int32} {M_want : Nat → Int32} {M_text : Nat → Int32} {M_read : Nat → Int32} {M_row : Nat → Int32} {M_foldSet : Nat → Int32} {M_foldEdges : Nat → Int64} {M_foldNeeds : Nat → Int32} {M_foldYards : Nat → Int32} {M_least : Nat → Int32} {M_ways : Nat → Int32} {M_price : Nat → Int32} {M_rowBy : Nat → Int32} {M_columnBy : Nat → Int32} {M_rowOf : Nat → Int32} {M_wayBack : Nat → Int32} {M_slack : Nat → Int32} {M_isUsed : Nat → Int32} {M_lifted : Nat → Int32} {M_freed : Nat → Int32} {M_path : Nat → Int32} {p1 : Int32} {x3 : Int32} {x4 : Int32} {x5 : Int32} {x6 : Int32} {x7 : Int32} {x8 : Int32} {Q : Int32 → ((Nat → Int32)) → Prop} {B78 : (Nat → Int32) → Int32 → Int32 → Int32 → Int32 → Int32 → Prop} {B110 : Int32 → Prop} (cx : Cx x cX11_walk 9 RX11 rm_X11_walk D [(cyI, .int), (cyJ, .long), (cyZ, .boolean)]) (hR : ∀ (v : Int32) (u : (Nat → Int32)) (pc : Nat) (lv : List (Nat × Value)), decode cX11_walk pc = .ok (.ireturn, 1) → Q v u → J x 0 0 9 (W_Model cyI cyJ cyZ a_M a_M_square a_M_want a_M_text a_M_read a_M_row a_M_foldSet a_M_foldEdges a_M_foldNeeds a_M_foldYards a_M_least a_M_ways a_M_price a_M_rowBy a_M_columnBy a_M_rowOf a_M_wayBack a_M_slack a_M_isUsed a_M_lifted a_M_freed a_M_path M_wide M_high M_hedges M_hurdles M_wants M_rest M_frozen M_bytes M_position M_tokenAt M_token M_digits M_number M_faultAt M_readMany M_readWide M_readHigh M_nights M_why M_folds M_square M_want M_text M_read M_row M_foldSet M_foldEdges M_foldNeeds M_foldYards M_least M_ways M_price M_rowBy M_columnBy M_rowOf M_wayBack M_slack M_isUsed M_lifted M_freed u) lv pc [.int v]) (hB78 : ∀ (M_path : Nat → Int32) (x3 : Int32) (x4 : Int32) (x5 : Int32) (x6 : Int32) (x7 : Int32), B78 M_path x3 x4 x5 x6 x7 → J x 0 0 9 (W_Model cyI cyJ cyZ a_M a_M_square a_M_want a_M_text a_M_read a_M_row a_M_foldSet a_M_foldEdges a_M_foldNeeds a_M_foldYards a_M_least a_M_ways a_M_price a_M_rowBy a_M_columnBy a_M_rowOf a_M_wayBack a_M_slack a_M_isUsed a_M_lifted a_M_freed a_M_path M_wide M_high M_hedges M_hurdles M_wants M_rest M_frozen M_bytes M_position M_tokenAt M_token M_digits M_number M_faultAt M_readMany M_readWide M_readHigh M_nights M_why M_folds M_square M_want M_text M_read M_row M_foldSet M_foldEdges M_foldNeeds M_foldYards M_least M_ways M_price M_rowBy M_columnBy M_rowOf M_wayBack M_slack M_isUsed M_lifted M_freed M_path) [(0, .ref a_M), (1, .int p1), (3, .int x3), (4, .int x4), (5, .int x5), (6, .int x6), (7, .int x7)] 78 []) (hB110 : ∀ (x8 : Int32), B110 x8 → J x 0 0 9 (W_Model cyI cyJ cyZ a_M a_M_square a_M_want a_M_text a_M_read a_M_row a_M_foldSet a_M_foldEdges a_M_foldNeeds a_M_foldYards a_M_least a_M_ways a_M_price a_M_rowBy a_M_columnBy a_M_rowOf a_M_wayBack a_M_slack a_M_isUsed a_M_lifted a_M_freed a_M_path M_wide M_high M_hedges M_hurdles M_wants M_rest M_frozen M_bytes M_position M_tokenAt M_token M_digits M_number M_faultAt M_readMany M_readWide M_readHigh M_nights M_why M_folds M_square M_want M_text M_read M_row M_foldSet M_foldEdges M_foldNeeds M_foldYards M_least M_ways M_price M_rowBy M_columnBy M_rowOf M_wayBack M_slack M_isUsed M_lifted M_freed M_path) [(0, .ref a_M), (1, .int p1), (3, .int x3), (4, .int x4), (5, .int x5), (6, .int x6), (7, .int x7), (8, .int x8)] 110 []) (h : bk_X11_walk_187 Q B78 B110 x8) :
    J x 0 0 9 (W_Model cyI cyJ cyZ a_M a_M_square a_M_want a_M_text a_M_read a_M_row a_M_foldSet a_M_foldEdges a_M_foldNeeds a_M_foldYards a_M_least a_M_ways a_M_price a_M_rowBy a_M_columnBy a_M_rowOf a_M_wayBack a_M_slack a_M_isUsed a_M_lifted a_M_freed a_M_path M_wide M_high M_hedges M_hurdles M_wants M_rest M_frozen M_bytes M_position M_tokenAt M_token M_digits M_number M_faultAt M_readMany M_readWide M_readHigh M_nights M_why M_folds M_square M_want M_text M_read M_row M_foldSet M_foldEdges M_foldNeeds M_foldYards M_least M_ways M_price M_rowBy M_columnBy M_rowOf M_wayBack M_slack M_isUsed M_lifted M_freed M_path) [(0, .ref a_M), (1, .int p1), (3, .int x3), (4, .int x4), (5, .int x5), (6, .int x6), (7, .int x7), (8, .int x8)] 187 [] := by
  unfold bk_X11_walk_187 at h
  obtain ⟨y18, ey18⟩ : ∃ z : Int32, z = x8 + 1 := ⟨_, rfl⟩
  have h := h y18 ey18
  refine j_iinc cx 7 rfl (cst := 1) (by decide) ey18 [(8, .int y18), (0, .ref a_M), (1, .int p1), (3, .int x3), (4, .int x4), (5, .int x5), (6, .int x6), (7, .int x7)] (by decide) rfl dX11_walk_187 (pn := 190) rfl ?_
  refine j_goto cx 110 dX11_walk_190 rfl ?_
  refine j_sub [1, 2, 3, 4, 5, 6, 7, 0] [(0, .ref a_M), (1, .int p1), (3, .int x3), (4, .int x4), (5, .int x5), (6, .int x6), (7, .int x7), (8, .int y18)] rfl ?_
  exact hB110 _ h
set_option maxHeartbeats 4000000 in
set_option maxRecDepth 100000 in
theorem B_X11_walk_110 {x : CX} {D : DG} {cyI cyJ cyZ : ClassId} {a_M a_M_square a_M_want a_M_text a_M_read a_M_row a_M_foldSet a_M_foldEdges a_M_foldNeeds a_M_foldYards a_M_least a_M_ways a_M_price a_M_rowBy a_M_columnBy a_M_rowOf a_M_wayBack a_M_slack a_M_isUsed a_M_lifted a_M_freed a_M_path : Nat} {M_wide : Int32} {M_high : Int32} {M_hedges : Int64} {M_hurdles : Int32} {M_wants : Int32} {M_rest : Int32} {M_frozen : Int32} {M_bytes : Int32} {M_position : Int32} {M_tokenAt : Int32} {M_token : Int64} {M_digits : Int32} {M_number : Int32} {M_faultAt : Int32} {M_readMany : Int32} {M_readWide : Int32} {M_readHigh : Int32} {M_nights : Int32} {M_why : Int32} {M_folds : Int32} {M_square : Nat → Int32} {M_want : Nat → Int32} {M_text : Nat → Int32} {M_read : Nat → Int32} {M_row : Nat → Int32} {M_foldSet : Nat → Int32} {M_foldEdges : Nat → Int64} {M_foldNeeds : Nat → Int32} {M_foldYards : Nat → Int32} {M_least : Nat → Int32} {M_ways : Nat → Int32} {M_price : Nat → Int32} {M_rowBy : Nat → Int32} {M_columnBy : Nat → Int32} {M_rowOf : Nat → Int32} {M_wayBack : Nat → Int32} {M_slack : Nat → Int32} {M_isUsed : Nat → Int32} {M_lifted : Nat → Int32} {M_freed : Nat → Int32} {M_path : Nat → Int32} {p1 : Int32} {x3 : Int32} {x4 : Int32} {x5 : Int32} {x6 : Int32} {x7 : Int32} {x8 : Int32} {Q : Int32 → ((Nat → Int32)) → Prop} {B78 : (Nat → Int32) → Int32 → Int32 → Int32 → Int32 → Int32 → Prop} {B110 : Int32 → Prop} (cx : Cx x cX11_walk 9 RX11 rm_X11_walk D [(cyI, .int), (cyJ, .long), (cyZ, .boolean)]) (hR : ∀ (v : Int32) (u : (Nat → Int32)) (pc : Nat) (lv : List (Nat × Value)), decode cX11_walk pc = .ok (.ireturn, 1) → Q v u → J x 0 0 9 (W_Model cyI cyJ cyZ a_M a_M_square a_M_want a_M_text a_M_read a_M_row a_M_foldSet a_M_foldEdges a_M_foldNeeds a_M_foldYards a_M_least a_M_ways a_M_price a_M_rowBy a_M_columnBy a_M_rowOf a_M_wayBack a_M_slack a_M_isUsed a_M_lifted a_M_freed a_M_path M_wide M_high M_hedges M_hurdles M_wants M_rest M_frozen M_bytes M_position M_tokenAt M_token M_digits M_number M_faultAt M_readMany M_readWide M_readHigh M_nights M_why M_folds M_square M_want M_text M_read M_row M_foldSet M_foldEdges M_foldNeeds M_foldYards M_least M_ways M_price M_rowBy M_columnBy M_rowOf M_wayBack M_slack M_isUsed M_lifted M_freed u) lv pc [.int v]) (hB78 : ∀ (M_path : Nat → Int32) (x3 : Int32) (x4 : Int32) (x5 : Int32) (x6 : Int32) (x7 : Int32), B78 M_path x3 x4 x5 x6 x7 → J x 0 0 9 (W_Model cyI cyJ cyZ a_M a_M_square a_M_want a_M_text a_M_read a_M_row a_M_foldSet a_M_foldEdges a_M_foldNeeds a_M_foldYards a_M_least a_M_ways a_M_price a_M_rowBy a_M_columnBy a_M_rowOf a_M_wayBack a_M_slack a_M_isUsed a_M_lifted a_M_freed a_M_path M_wide M_high M_hedges M_hurdles M_wants M_rest M_frozen M_bytes M_position M_tokenAt M_token M_digits M_number M_faultAt M_readMany M_readWide M_readHigh M_nights M_why M_folds M_square M_want M_text M_read M_row M_foldSet M_foldEdges M_foldNeeds M_foldYards M_least M_ways M_price M_rowBy M_columnBy M_rowOf M_wayBack M_slack M_isUsed M_lifted M_freed M_path) [(0, .ref a_M), (1, .int p1), (3, .int x3), (4, .int x4), (5, .int x5), (6, .int x6), (7, .int x7)] 78 []) (hB110 : ∀ (x8 : Int32), B110 x8 → J x 0 0 9 (W_Model cyI cyJ cyZ a_M a_M_square a_M_want a_M_text a_M_read a_M_row a_M_foldSet a_M_foldEdges a_M_foldNeeds a_M_foldYards a_M_least a_M_ways a_M_price a_M_rowBy a_M_columnBy a_M_rowOf a_M_wayBack a_M_slack a_M_isUsed a_M_lifted a_M_freed a_M_path M_wide M_high M_hedges M_hurdles M_wants M_rest M_frozen M_bytes M_position M_tokenAt M_token M_digits M_number M_faultAt M_readMany M_readWide M_readHigh M_nights M_why M_folds M_square M_want M_text M_read M_row M_foldSet M_foldEdges M_foldNeeds M_foldYards M_least M_ways M_price M_rowBy M_columnBy M_rowOf M_wayBack M_slack M_isUsed M_lifted M_freed M_path) [(0, .ref a_M), (1, .int p1), (3, .int x3), (4, .int x4), (5, .int x5), (6, .int x6), (7, .int x7), (8, .int x8)] 110 []) (h : bd_X11_walk_110 Q B78 B110 p1 x3 x4 x5 x6 x7 M_wide M_high M_foldSet M_foldEdges M_foldNeeds M_least M_path x8) :
    J x 0 0 9 (W_Model cyI cyJ cyZ a_M a_M_square a_M_want a_M_text a_M_read a_M_row a_M_foldSet a_M_foldEdges a_M_foldNeeds a_M_foldYards a_M_least a_M_ways a_M_price a_M_rowBy a_M_columnBy a_M_rowOf a_M_wayBack a_M_slack a_M_isUsed a_M_lifted a_M_freed a_M_path M_wide M_high M_hedges M_hurdles M_wants M_rest M_frozen M_bytes M_position M_tokenAt M_token M_digits M_number M_faultAt M_readMany M_readWide M_readHigh M_nights M_why M_folds M_square M_want M_text M_read M_row M_foldSet M_foldEdges M_foldNeeds M_foldYards M_least M_ways M_price M_rowBy M_columnBy M_rowOf M_wayBack M_slack M_isUsed M_lifted M_freed M_path) [(0, .ref a_M), (1, .int p1), (3, .int x3), (4, .int x4), (5, .int x5), (6, .int x6), (7, .int x7), (8, .int x8)] 110 [] := by
  unfold bd_X11_walk_110 at h
  refine j_iload cx 6 rfl dX11_walk_110 (pn := 112) rfl ?_
  refine j_if_eq cx 193 dX11_walk_112 (pn := 115) rfl rfl (fun c9 => ?_) (fun c9 => ?_)
  · have h := h.1 c9
    exact J_X11_walk_193 cx hR hB78 h
  · have h := h.2 c9
    refine j_aload_n cx 0 rfl rfl dX11_walk_115 (pn := 116) rfl ?_
    refine j_get cx inGX11 0 rfl rfl 27 (by decide) q_fl_X11_42 rfl rfl dX11_walk_116 (pn := 119) rfl ?_
    refine j_iload cx 7 rfl dX11_walk_119 (pn := 121) rfl ?_
    refine j_iald cx 8 0 rfl rfl h.1 dX11_walk_121 (pn := 122) rfl ?_
    have h := h.2
    refine j_iload_n cx 1 rfl rfl dX11_walk_122 (pn := 123) rfl ?_
    refine j_icmp_gt cx 187 dX11_walk_123 (pn := 126) rfl rfl (fun c17 => ?_) (fun c17 => ?_)
    · have h := h.1 c17
      exact J_X11_walk_187 cx hR hB78 hB110 h
    · have h := h.2 c17
      refine j_aload_n cx 0 rfl rfl dX11_walk_126 (pn := 127) rfl ?_
      refine j_iload cx 3 rfl dX11_walk_127 (pn := 129) rfl ?_
      refine j_iload_n cx 2 rfl rfl dX11_walk_129 (pn := 130) rfl ?_
      refine j_iload cx 7 rfl dX11_walk_130 (pn := 132) rfl ?_
      refine j_callvI0 cx q_inst_X11_canFollow q_sel_X11_canFollow (b := a_M) (As := [.int x4, .int x3, .int x8]) (rest := []) (c_X11_canFollow h) ⟨q_code_X11_canFollow, q_ml_X11_306, q_init_X11, hd_X11_canFollow, ⟨Nat.le_of_ble_eq_true rfl, Nat.le_of_ble_eq_true rfl⟩, Nat.le_of_ble_eq_true rfl, Nat.le_of_ble_eq_true rfl⟩ (q0 := 0) rfl rfl rfl rfl (Nat.le_of_ble_eq_true rfl) dX11_walk_132 (pn := 135) rfl (fun r19 _ h => ?_)
      show J x 0 0 9 (W_Model cyI cyJ cyZ a_M a_M_square a_M_want a_M_text a_M_read a_M_row a_M_foldSet a_M_foldEdges a_M_foldNeeds a_M_foldYards a_M_least a_M_ways a_M_price a_M_rowBy a_M_columnBy a_M_rowOf a_M_wayBack a_M_slack a_M_isUsed a_M_lifted a_M_freed a_M_path M_wide M_high M_hedges M_hurdles M_wants M_rest M_frozen M_bytes M_position M_tokenAt M_token M_digits M_number M_faultAt M_readMany M_readWide M_readHigh M_nights M_why M_folds M_square M_want M_text M_read M_row M_foldSet M_foldEdges M_foldNeeds M_foldYards M_least M_ways M_price M_rowBy M_columnBy M_rowOf M_wayBack M_slack M_isUsed M_lifted M_freed M_path) [(0, .ref a_M), (1, .int p1), (3, .int x3), (4, .int x4), (5, .int x5), (6, .int x6), (7, .int x7), (8, .int x8)] 135 [.int r19]
      refine j_if_eq cx 187 dX11_walk_135 (pn := 138) rfl rfl (fun c20 => ?_) (fun c20 => ?_)
      · have h := h.1 c20
        exact J_X11_walk_187 cx hR hB78 hB110 h
      · have h := h.2 c20
        refine j_aload_n cx 0 rfl rfl dX11_walk_138 (pn := 139) rfl ?_
        refine j_get cx inGX11 0 rfl rfl 26 (by decide) q_fl_X11_38 rfl rfl dX11_walk_139 (pn := 142) rfl ?_
        refine j_iload cx 7 rfl dX11_walk_142 (pn := 144) rfl ?_
        refine j_lald cx 7 1 rfl rfl h.1 dX11_walk_144 (pn := 145) rfl ?_
        have h := h.2
        refine j_aload_n cx 0 rfl rfl dX11_walk_145 (pn := 146) rfl ?_
        refine j_get cx inGX11 0 rfl rfl 26 (by decide) q_fl_X11_38 rfl rfl dX11_walk_146 (pn := 149) rfl ?_
        refine j_iload_n cx 2 rfl rfl dX11_walk_149 (pn := 150) rfl ?_
        refine j_lald cx 7 1 rfl rfl h.1 dX11_walk_150 (pn := 151) rfl ?_
        have h := h.2
        refine j_ldc2 cx q_cl_X11_123 dX11_walk_151 (pn := 154) rfl ?_
        refine j_lxor cx dX11_walk_154 (pn := 155) rfl ?_
        refine j_land cx dX11_walk_155 (pn := 156) rfl ?_
        refine j_calleI cx q_stat_X11_bits (As := [.long ((M_foldEdges x8.toNatClampNeg) &&& ((M_foldEdges x3.toNatClampNeg) ^^^ (-1)))]) (rest := []) (c_X11_bits h) ⟨q_code_X11_bits, q_ml_X11_244, q_init_X11, hd_X11_bits, ⟨Nat.le_of_ble_eq_true rfl, Nat.le_of_ble_eq_true rfl⟩, Nat.le_of_ble_eq_true rfl, Nat.le_of_ble_eq_true rfl⟩ rfl rfl (Nat.le_of_ble_eq_true rfl) dX11_walk_156 (pn := 159) rfl (fun r21 h => ?_)
        show J x 0 0 9 (W_Model cyI cyJ cyZ a_M a_M_square a_M_want a_M_text a_M_read a_M_row a_M_foldSet a_M_foldEdges a_M_foldNeeds a_M_foldYards a_M_least a_M_ways a_M_price a_M_rowBy a_M_columnBy a_M_rowOf a_M_wayBack a_M_slack a_M_isUsed a_M_lifted a_M_freed a_M_path M_wide M_high M_hedges M_hurdles M_wants M_rest M_frozen M_bytes M_position M_tokenAt M_token M_digits M_number M_faultAt M_readMany M_readWide M_readHigh M_nights M_why M_folds M_square M_want M_text M_read M_row M_foldSet M_foldEdges M_foldNeeds M_foldYards M_least M_ways M_price M_rowBy M_columnBy M_rowOf M_wayBack M_slack M_isUsed M_lifted M_freed M_path) [(0, .ref a_M), (1, .int p1), (3, .int x3), (4, .int x4), (5, .int x5), (6, .int x6), (7, .int x7), (8, .int x8)] 159 [.int r21]
        refine j_aload_n cx 0 rfl rfl dX11_walk_159 (pn := 160) rfl ?_
        refine j_get cx inGX11 0 rfl rfl 29 (by decide) q_fl_X11_49 rfl rfl dX11_walk_160 (pn := 163) rfl ?_
        refine j_sipush cx (v := 280) (by decide) dX11_walk_163 (pn := 166) rfl ?_
        refine j_iload cx 3 rfl dX11_walk_166 (pn := 168) rfl ?_
        refine j_aload_n cx 0 rfl rfl dX11_walk_168 (pn := 169) rfl ?_
        refine j_get cx inGX11 0 rfl rfl 25 (by decide) q_fl_X11_35 rfl rfl dX11_walk_169 (pn := 172) rfl ?_
        refine j_iload cx 7 rfl dX11_walk_172 (pn := 174) rfl ?_
        refine j_iald cx 6 0 rfl rfl h.1 dX11_walk_174 (pn := 175) rfl ?_
        have h := h.2
        refine j_ior cx dX11_walk_175 (pn := 176) rfl ?_
        refine j_imul cx dX11_walk_176 (pn := 177) rfl ?_
        refine j_iload cx 7 rfl dX11_walk_177 (pn := 179) rfl ?_
        refine j_iadd cx dX11_walk_179 (pn := 180) rfl ?_
        refine j_iald cx 10 0 rfl rfl h.1 dX11_walk_180 (pn := 181) rfl ?_
        have h := h.2
        refine j_iadd cx dX11_walk_181 (pn := 182) rfl ?_
        refine j_iload cx 4 rfl dX11_walk_182 (pn := 184) rfl ?_
        refine j_icmp_eq cx 193 dX11_walk_184 (pn := 187) rfl rfl (fun c22 => ?_) (fun c22 => ?_)
        · have h := h.1 c22
          exact J_X11_walk_193 cx hR hB78 h
        · have h := h.2 c22
          exact J_X11_walk_187 cx hR hB78 hB110 h
set_option maxHeartbeats 4000000 in
set_option maxRecDepth 100000 in
theorem J_X11_walk_110 {x : CX} {D : DG} {cyI cyJ cyZ : ClassId} {a_M a_M_square a_M_want a_M_text a_M_read a_M_row a_M_foldSet a_M_foldEdges a_M_foldNeeds a_M_foldYards a_M_least a_M_ways a_M_price a_M_rowBy a_M_columnBy a_M_rowOf a_M_wayBack a_M_slack a_M_isUsed a_M_lifted a_M_freed a_M_path : Nat} {M_wide : Int32} {M_high : Int32} {M_hedges : Int64} {M_hurdles : Int32} {M_wants : Int32} {M_rest : Int32} {M_frozen : Int32} {M_bytes : Int32} {M_position : Int32} {M_tokenAt : Int32} {M_token : Int64} {M_digits : Int32} {M_number : Int32} {M_faultAt : Int32} {M_readMany : Int32} {M_readWide : Int32} {M_readHigh : Int32} {M_nights : Int32} {M_why : Int32} {M_folds : Int32} {M_square : Nat → Int32} {M_want : Nat → Int32} {M_text : Nat → Int32} {M_read : Nat → Int32} {M_row : Nat → Int32} {M_foldSet : Nat → Int32} {M_foldEdges : Nat → Int64} {M_foldNeeds : Nat → Int32} {M_foldYards : Nat → Int32} {M_least : Nat → Int32} {M_ways : Nat → Int32} {M_price : Nat → Int32} {M_rowBy : Nat → Int32} {M_columnBy : Nat → Int32} {M_rowOf : Nat → Int32} {M_wayBack : Nat → Int32} {M_slack : Nat → Int32} {M_isUsed : Nat → Int32} {M_lifted : Nat → Int32} {M_freed : Nat → Int32} {M_path : Nat → Int32} {p1 : Int32} {x3 : Int32} {x4 : Int32} {x5 : Int32} {x6 : Int32} {x7 : Int32} {x8 : Int32} {Q : Int32 → ((Nat → Int32)) → Prop} {B78 : (Nat → Int32) → Int32 → Int32 → Int32 → Int32 → Int32 → Prop} (cx : Cx x cX11_walk 9 RX11 rm_X11_walk D [(cyI, .int), (cyJ, .long), (cyZ, .boolean)]) (hR : ∀ (v : Int32) (u : (Nat → Int32)) (pc : Nat) (lv : List (Nat × Value)), decode cX11_walk pc = .ok (.ireturn, 1) → Q v u → J x 0 0 9 (W_Model cyI cyJ cyZ a_M a_M_square a_M_want a_M_text a_M_read a_M_row a_M_foldSet a_M_foldEdges a_M_foldNeeds a_M_foldYards a_M_least a_M_ways a_M_price a_M_rowBy a_M_columnBy a_M_rowOf a_M_wayBack a_M_slack a_M_isUsed a_M_lifted a_M_freed a_M_path M_wide M_high M_hedges M_hurdles M_wants M_rest M_frozen M_bytes M_position M_tokenAt M_token M_digits M_number M_faultAt M_readMany M_readWide M_readHigh M_nights M_why M_folds M_square M_want M_text M_read M_row M_foldSet M_foldEdges M_foldNeeds M_foldYards M_least M_ways M_price M_rowBy M_columnBy M_rowOf M_wayBack M_slack M_isUsed M_lifted M_freed u) lv pc [.int v]) (hB78 : ∀ (M_path : Nat → Int32) (x3 : Int32) (x4 : Int32) (x5 : Int32) (x6 : Int32) (x7 : Int32), B78 M_path x3 x4 x5 x6 x7 → J x 0 0 9 (W_Model cyI cyJ cyZ a_M a_M_square a_M_want a_M_text a_M_read a_M_row a_M_foldSet a_M_foldEdges a_M_foldNeeds a_M_foldYards a_M_least a_M_ways a_M_price a_M_rowBy a_M_columnBy a_M_rowOf a_M_wayBack a_M_slack a_M_isUsed a_M_lifted a_M_freed a_M_path M_wide M_high M_hedges M_hurdles M_wants M_rest M_frozen M_bytes M_position M_tokenAt M_token M_digits M_number M_faultAt M_readMany M_readWide M_readHigh M_nights M_why M_folds M_square M_want M_text M_read M_row M_foldSet M_foldEdges M_foldNeeds M_foldYards M_least M_ways M_price M_rowBy M_columnBy M_rowOf M_wayBack M_slack M_isUsed M_lifted M_freed M_path) [(0, .ref a_M), (1, .int p1), (3, .int x3), (4, .int x4), (5, .int x5), (6, .int x6), (7, .int x7)] 78 []) (h : lp_X11_walk_110 Q B78 p1 x3 x4 x5 x6 x7 M_wide M_high M_foldSet M_foldEdges M_foldNeeds M_least M_path x8) :
    J x 0 0 9 (W_Model cyI cyJ cyZ a_M a_M_square a_M_want a_M_text a_M_read a_M_row a_M_foldSet a_M_foldEdges a_M_foldNeeds a_M_foldYards a_M_least a_M_ways a_M_price a_M_rowBy a_M_columnBy a_M_rowOf a_M_wayBack a_M_slack a_M_isUsed a_M_lifted a_M_freed a_M_path M_wide M_high M_hedges M_hurdles M_wants M_rest M_frozen M_bytes M_position M_tokenAt M_token M_digits M_number M_faultAt M_readMany M_readWide M_readHigh M_nights M_why M_folds M_square M_want M_text M_read M_row M_foldSet M_foldEdges M_foldNeeds M_foldYards M_least M_ways M_price M_rowBy M_columnBy M_rowOf M_wayBack M_slack M_isUsed M_lifted M_freed M_path) [(0, .ref a_M), (1, .int p1), (3, .int x3), (4, .int x4), (5, .int x5), (6, .int x6), (7, .int x7), (8, .int x8)] 110 [] := by
  obtain ⟨I, ⟨n, h0⟩, hb⟩ := h
  revert x8
  induction n using Nat.strongRecOn with
  | _ n ih =>
    intro x8 h0
    exact B_X11_walk_110 cx hR hB78 (fun _ hz => by obtain ⟨n2, hlt, hI⟩ := hz; exact ih n2 hlt hI) (hb n x8 h0)
set_option maxHeartbeats 4000000 in
set_option maxRecDepth 100000 in
theorem J_X11_walk_105 {x : CX} {D : DG} {cyI cyJ cyZ : ClassId} {a_M a_M_square a_M_want a_M_text a_M_read a_M_row a_M_foldSet a_M_foldEdges a_M_foldNeeds a_M_foldYards a_M_least a_M_ways a_M_price a_M_rowBy a_M_columnBy a_M_rowOf a_M_wayBack a_M_slack a_M_isUsed a_M_lifted a_M_freed a_M_path : Nat} {M_wide : Int32} {M_high : Int32} {M_hedges : Int64} {M_hurdles : Int32} {M_wants : Int32} {M_rest : Int32} {M_frozen : Int32} {M_bytes : Int32} {M_position : Int32} {M_tokenAt : Int32} {M_token : Int64} {M_digits : Int32} {M_number : Int32} {M_faultAt : Int32} {M_readMany : Int32} {M_readWide : Int32} {M_readHigh : Int32} {M_nights : Int32} {M_why : Int32} {M_folds : Int32} {M_square : Nat → Int32} {M_want : Nat → Int32} {M_text : Nat → Int32} {M_read : Nat → Int32} {M_row : Nat → Int32} {M_foldSet : Nat → Int32} {M_foldEdges : Nat → Int64} {M_foldNeeds : Nat → Int32} {M_foldYards : Nat → Int32} {M_least : Nat → Int32} {M_ways : Nat → Int32} {M_price : Nat → Int32} {M_rowBy : Nat → Int32} {M_columnBy : Nat → Int32} {M_rowOf : Nat → Int32} {M_wayBack : Nat → Int32} {M_slack : Nat → Int32} {M_isUsed : Nat → Int32} {M_lifted : Nat → Int32} {M_freed : Nat → Int32} {M_path : Nat → Int32} {p1 : Int32} {x3 : Int32} {x4 : Int32} {x5 : Int32} {x6 : Int32} {s0 : Int32} {Q : Int32 → ((Nat → Int32)) → Prop} {B78 : (Nat → Int32) → Int32 → Int32 → Int32 → Int32 → Int32 → Prop} (cx : Cx x cX11_walk 9 RX11 rm_X11_walk D [(cyI, .int), (cyJ, .long), (cyZ, .boolean)]) (hR : ∀ (v : Int32) (u : (Nat → Int32)) (pc : Nat) (lv : List (Nat × Value)), decode cX11_walk pc = .ok (.ireturn, 1) → Q v u → J x 0 0 9 (W_Model cyI cyJ cyZ a_M a_M_square a_M_want a_M_text a_M_read a_M_row a_M_foldSet a_M_foldEdges a_M_foldNeeds a_M_foldYards a_M_least a_M_ways a_M_price a_M_rowBy a_M_columnBy a_M_rowOf a_M_wayBack a_M_slack a_M_isUsed a_M_lifted a_M_freed a_M_path M_wide M_high M_hedges M_hurdles M_wants M_rest M_frozen M_bytes M_position M_tokenAt M_token M_digits M_number M_faultAt M_readMany M_readWide M_readHigh M_nights M_why M_folds M_square M_want M_text M_read M_row M_foldSet M_foldEdges M_foldNeeds M_foldYards M_least M_ways M_price M_rowBy M_columnBy M_rowOf M_wayBack M_slack M_isUsed M_lifted M_freed u) lv pc [.int v]) (hB78 : ∀ (M_path : Nat → Int32) (x3 : Int32) (x4 : Int32) (x5 : Int32) (x6 : Int32) (x7 : Int32), B78 M_path x3 x4 x5 x6 x7 → J x 0 0 9 (W_Model cyI cyJ cyZ a_M a_M_square a_M_want a_M_text a_M_read a_M_row a_M_foldSet a_M_foldEdges a_M_foldNeeds a_M_foldYards a_M_least a_M_ways a_M_price a_M_rowBy a_M_columnBy a_M_rowOf a_M_wayBack a_M_slack a_M_isUsed a_M_lifted a_M_freed a_M_path M_wide M_high M_hedges M_hurdles M_wants M_rest M_frozen M_bytes M_position M_tokenAt M_token M_digits M_number M_faultAt M_readMany M_readWide M_readHigh M_nights M_why M_folds M_square M_want M_text M_read M_row M_foldSet M_foldEdges M_foldNeeds M_foldYards M_least M_ways M_price M_rowBy M_columnBy M_rowOf M_wayBack M_slack M_isUsed M_lifted M_freed M_path) [(0, .ref a_M), (1, .int p1), (3, .int x3), (4, .int x4), (5, .int x5), (6, .int x6), (7, .int x7)] 78 []) (h : bk_X11_walk_105 Q B78 p1 x3 x4 x5 x6 M_wide M_high M_foldSet M_foldEdges M_foldNeeds M_least M_path s0) :
    J x 0 0 9 (W_Model cyI cyJ cyZ a_M a_M_square a_M_want a_M_text a_M_read a_M_row a_M_foldSet a_M_foldEdges a_M_foldNeeds a_M_foldYards a_M_least a_M_ways a_M_price a_M_rowBy a_M_columnBy a_M_rowOf a_M_wayBack a_M_slack a_M_isUsed a_M_lifted a_M_freed a_M_path M_wide M_high M_hedges M_hurdles M_wants M_rest M_frozen M_bytes M_position M_tokenAt M_token M_digits M_number M_faultAt M_readMany M_readWide M_readHigh M_nights M_why M_folds M_square M_want M_text M_read M_row M_foldSet M_foldEdges M_foldNeeds M_foldYards M_least M_ways M_price M_rowBy M_columnBy M_rowOf M_wayBack M_slack M_isUsed M_lifted M_freed M_path) [(0, .ref a_M), (1, .int p1), (3, .int x3), (4, .int x4), (5, .int x5), (6, .int x6)] 105 [.int s0] := by
  unfold bk_X11_walk_105 at h
  refine j_istore cx [(7, .int s0), (0, .ref a_M), (1, .int p1), (3, .int x3), (4, .int x4), (5, .int x5), (6, .int x6)] (by decide) rfl dX11_walk_105 (pn := 107) rfl ?_
  refine j_iconst cx (v := 0) (by decide) dX11_walk_107 (pn := 108) rfl ?_
  refine j_istore cx [(8, .int 0), (7, .int s0), (0, .ref a_M), (1, .int p1), (3, .int x3), (4, .int x4), (5, .int x5), (6, .int x6)] (by decide) rfl dX11_walk_108 (pn := 110) rfl ?_
  refine j_sub [2, 3, 4, 5, 6, 7, 1, 0] [(0, .ref a_M), (1, .int p1), (3, .int x3), (4, .int x4), (5, .int x5), (6, .int x6), (7, .int s0), (8, .int 0)] rfl ?_
  exact J_X11_walk_110 cx hR hB78 h
set_option maxHeartbeats 4000000 in
set_option maxRecDepth 100000 in
theorem J_X11_walk_100 {x : CX} {D : DG} {cyI cyJ cyZ : ClassId} {a_M a_M_square a_M_want a_M_text a_M_read a_M_row a_M_foldSet a_M_foldEdges a_M_foldNeeds a_M_foldYards a_M_least a_M_ways a_M_price a_M_rowBy a_M_columnBy a_M_rowOf a_M_wayBack a_M_slack a_M_isUsed a_M_lifted a_M_freed a_M_path : Nat} {M_wide : Int32} {M_high : Int32} {M_hedges : Int64} {M_hurdles : Int32} {M_wants : Int32} {M_rest : Int32} {M_frozen : Int32} {M_bytes : Int32} {M_position : Int32} {M_tokenAt : Int32} {M_token : Int64} {M_digits : Int32} {M_number : Int32} {M_faultAt : Int32} {M_readMany : Int32} {M_readWide : Int32} {M_readHigh : Int32} {M_nights : Int32} {M_why : Int32} {M_folds : Int32} {M_square : Nat → Int32} {M_want : Nat → Int32} {M_text : Nat → Int32} {M_read : Nat → Int32} {M_row : Nat → Int32} {M_foldSet : Nat → Int32} {M_foldEdges : Nat → Int64} {M_foldNeeds : Nat → Int32} {M_foldYards : Nat → Int32} {M_least : Nat → Int32} {M_ways : Nat → Int32} {M_price : Nat → Int32} {M_rowBy : Nat → Int32} {M_columnBy : Nat → Int32} {M_rowOf : Nat → Int32} {M_wayBack : Nat → Int32} {M_slack : Nat → Int32} {M_isUsed : Nat → Int32} {M_lifted : Nat → Int32} {M_freed : Nat → Int32} {M_path : Nat → Int32} {p1 : Int32} {x3 : Int32} {x4 : Int32} {x5 : Int32} {x6 : Int32} {Q : Int32 → ((Nat → Int32)) → Prop} {B78 : (Nat → Int32) → Int32 → Int32 → Int32 → Int32 → Int32 → Prop} (cx : Cx x cX11_walk 9 RX11 rm_X11_walk D [(cyI, .int), (cyJ, .long), (cyZ, .boolean)]) (hR : ∀ (v : Int32) (u : (Nat → Int32)) (pc : Nat) (lv : List (Nat × Value)), decode cX11_walk pc = .ok (.ireturn, 1) → Q v u → J x 0 0 9 (W_Model cyI cyJ cyZ a_M a_M_square a_M_want a_M_text a_M_read a_M_row a_M_foldSet a_M_foldEdges a_M_foldNeeds a_M_foldYards a_M_least a_M_ways a_M_price a_M_rowBy a_M_columnBy a_M_rowOf a_M_wayBack a_M_slack a_M_isUsed a_M_lifted a_M_freed a_M_path M_wide M_high M_hedges M_hurdles M_wants M_rest M_frozen M_bytes M_position M_tokenAt M_token M_digits M_number M_faultAt M_readMany M_readWide M_readHigh M_nights M_why M_folds M_square M_want M_text M_read M_row M_foldSet M_foldEdges M_foldNeeds M_foldYards M_least M_ways M_price M_rowBy M_columnBy M_rowOf M_wayBack M_slack M_isUsed M_lifted M_freed u) lv pc [.int v]) (hB78 : ∀ (M_path : Nat → Int32) (x3 : Int32) (x4 : Int32) (x5 : Int32) (x6 : Int32) (x7 : Int32), B78 M_path x3 x4 x5 x6 x7 → J x 0 0 9 (W_Model cyI cyJ cyZ a_M a_M_square a_M_want a_M_text a_M_read a_M_row a_M_foldSet a_M_foldEdges a_M_foldNeeds a_M_foldYards a_M_least a_M_ways a_M_price a_M_rowBy a_M_columnBy a_M_rowOf a_M_wayBack a_M_slack a_M_isUsed a_M_lifted a_M_freed a_M_path M_wide M_high M_hedges M_hurdles M_wants M_rest M_frozen M_bytes M_position M_tokenAt M_token M_digits M_number M_faultAt M_readMany M_readWide M_readHigh M_nights M_why M_folds M_square M_want M_text M_read M_row M_foldSet M_foldEdges M_foldNeeds M_foldYards M_least M_ways M_price M_rowBy M_columnBy M_rowOf M_wayBack M_slack M_isUsed M_lifted M_freed M_path) [(0, .ref a_M), (1, .int p1), (3, .int x3), (4, .int x4), (5, .int x5), (6, .int x6), (7, .int x7)] 78 []) (h : bk_X11_walk_100 Q B78 p1 x3 x4 x5 x6 M_wide M_high M_foldSet M_foldEdges M_foldNeeds M_least M_path) :
    J x 0 0 9 (W_Model cyI cyJ cyZ a_M a_M_square a_M_want a_M_text a_M_read a_M_row a_M_foldSet a_M_foldEdges a_M_foldNeeds a_M_foldYards a_M_least a_M_ways a_M_price a_M_rowBy a_M_columnBy a_M_rowOf a_M_wayBack a_M_slack a_M_isUsed a_M_lifted a_M_freed a_M_path M_wide M_high M_hedges M_hurdles M_wants M_rest M_frozen M_bytes M_position M_tokenAt M_token M_digits M_number M_faultAt M_readMany M_readWide M_readHigh M_nights M_why M_folds M_square M_want M_text M_read M_row M_foldSet M_foldEdges M_foldNeeds M_foldYards M_least M_ways M_price M_rowBy M_columnBy M_rowOf M_wayBack M_slack M_isUsed M_lifted M_freed M_path) [(0, .ref a_M), (1, .int p1), (3, .int x3), (4, .int x4), (5, .int x5), (6, .int x6)] 100 [] := by
  unfold bk_X11_walk_100 at h
  refine j_iconst cx (v := 1) (by decide) dX11_walk_100 (pn := 101) rfl ?_
  refine j_goto cx 105 dX11_walk_101 rfl ?_
  exact J_X11_walk_105 cx hR hB78 h
set_option maxHeartbeats 4000000 in
set_option maxRecDepth 100000 in
theorem B_X11_walk_78 {x : CX} {D : DG} {cyI cyJ cyZ : ClassId} {a_M a_M_square a_M_want a_M_text a_M_read a_M_row a_M_foldSet a_M_foldEdges a_M_foldNeeds a_M_foldYards a_M_least a_M_ways a_M_price a_M_rowBy a_M_columnBy a_M_rowOf a_M_wayBack a_M_slack a_M_isUsed a_M_lifted a_M_freed a_M_path : Nat} {M_wide : Int32} {M_high : Int32} {M_hedges : Int64} {M_hurdles : Int32} {M_wants : Int32} {M_rest : Int32} {M_frozen : Int32} {M_bytes : Int32} {M_position : Int32} {M_tokenAt : Int32} {M_token : Int64} {M_digits : Int32} {M_number : Int32} {M_faultAt : Int32} {M_readMany : Int32} {M_readWide : Int32} {M_readHigh : Int32} {M_nights : Int32} {M_why : Int32} {M_folds : Int32} {M_square : Nat → Int32} {M_want : Nat → Int32} {M_text : Nat → Int32} {M_read : Nat → Int32} {M_row : Nat → Int32} {M_foldSet : Nat → Int32} {M_foldEdges : Nat → Int64} {M_foldNeeds : Nat → Int32} {M_foldYards : Nat → Int32} {M_least : Nat → Int32} {M_ways : Nat → Int32} {M_price : Nat → Int32} {M_rowBy : Nat → Int32} {M_columnBy : Nat → Int32} {M_rowOf : Nat → Int32} {M_wayBack : Nat → Int32} {M_slack : Nat → Int32} {M_isUsed : Nat → Int32} {M_lifted : Nat → Int32} {M_freed : Nat → Int32} {M_path : Nat → Int32} {p1 : Int32} {x3 : Int32} {x4 : Int32} {x5 : Int32} {x6 : Int32} {x7 : Int32} {Q : Int32 → ((Nat → Int32)) → Prop} {B78 : (Nat → Int32) → Int32 → Int32 → Int32 → Int32 → Int32 → Prop} (cx : Cx x cX11_walk 9 RX11 rm_X11_walk D [(cyI, .int), (cyJ, .long), (cyZ, .boolean)]) (hR : ∀ (v : Int32) (u : (Nat → Int32)) (pc : Nat) (lv : List (Nat × Value)), decode cX11_walk pc = .ok (.ireturn, 1) → Q v u → J x 0 0 9 (W_Model cyI cyJ cyZ a_M a_M_square a_M_want a_M_text a_M_read a_M_row a_M_foldSet a_M_foldEdges a_M_foldNeeds a_M_foldYards a_M_least a_M_ways a_M_price a_M_rowBy a_M_columnBy a_M_rowOf a_M_wayBack a_M_slack a_M_isUsed a_M_lifted a_M_freed a_M_path M_wide M_high M_hedges M_hurdles M_wants M_rest M_frozen M_bytes M_position M_tokenAt M_token M_digits M_number M_faultAt M_readMany M_readWide M_readHigh M_nights M_why M_folds M_square M_want M_text M_read M_row M_foldSet M_foldEdges M_foldNeeds M_foldYards M_least M_ways M_price M_rowBy M_columnBy M_rowOf M_wayBack M_slack M_isUsed M_lifted M_freed u) lv pc [.int v]) (hB78 : ∀ (M_path : Nat → Int32) (x3 : Int32) (x4 : Int32) (x5 : Int32) (x6 : Int32) (x7 : Int32), B78 M_path x3 x4 x5 x6 x7 → J x 0 0 9 (W_Model cyI cyJ cyZ a_M a_M_square a_M_want a_M_text a_M_read a_M_row a_M_foldSet a_M_foldEdges a_M_foldNeeds a_M_foldYards a_M_least a_M_ways a_M_price a_M_rowBy a_M_columnBy a_M_rowOf a_M_wayBack a_M_slack a_M_isUsed a_M_lifted a_M_freed a_M_path M_wide M_high M_hedges M_hurdles M_wants M_rest M_frozen M_bytes M_position M_tokenAt M_token M_digits M_number M_faultAt M_readMany M_readWide M_readHigh M_nights M_why M_folds M_square M_want M_text M_read M_row M_foldSet M_foldEdges M_foldNeeds M_foldYards M_least M_ways M_price M_rowBy M_columnBy M_rowOf M_wayBack M_slack M_isUsed M_lifted M_freed M_path) [(0, .ref a_M), (1, .int p1), (3, .int x3), (4, .int x4), (5, .int x5), (6, .int x6), (7, .int x7)] 78 []) (h : bd_X11_walk_78 Q B78 p1 M_wide M_high M_square M_foldSet M_foldEdges M_foldNeeds M_least M_path x3 x4 x5 x6 x7) :
    J x 0 0 9 (W_Model cyI cyJ cyZ a_M a_M_square a_M_want a_M_text a_M_read a_M_row a_M_foldSet a_M_foldEdges a_M_foldNeeds a_M_foldYards a_M_least a_M_ways a_M_price a_M_rowBy a_M_columnBy a_M_rowOf a_M_wayBack a_M_slack a_M_isUsed a_M_lifted a_M_freed a_M_path M_wide M_high M_hedges M_hurdles M_wants M_rest M_frozen M_bytes M_position M_tokenAt M_token M_digits M_number M_faultAt M_readMany M_readWide M_readHigh M_nights M_why M_folds M_square M_want M_text M_read M_row M_foldSet M_foldEdges M_foldNeeds M_foldYards M_least M_ways M_price M_rowBy M_columnBy M_rowOf M_wayBack M_slack M_isUsed M_lifted M_freed M_path) [(0, .ref a_M), (1, .int p1), (3, .int x3), (4, .int x4), (5, .int x5), (6, .int x6), (7, .int x7)] 78 [] := by
  unfold bd_X11_walk_78 at h
  refine j_iload cx 6 rfl dX11_walk_78 (pn := 80) rfl ?_
  refine j_if_eq cx 258 dX11_walk_80 (pn := 83) rfl rfl (fun c7 => ?_) (fun c7 => ?_)
  · have h := h.1 c7
    refine j_iload cx 5 rfl dX11_walk_258 (pn := 260) rfl ?_
    exact hR x6 M_path 260 _ dX11_walk_260 h
  · have h := h.2 c7
    refine j_iload cx 4 rfl dX11_walk_83 (pn := 85) rfl ?_
    refine j_if_gt cx 100 dX11_walk_85 (pn := 88) rfl rfl (fun c8 => ?_) (fun c8 => ?_)
    · have h := h.1 c8
      refine j_sub [0, 1, 2, 3, 4, 5] [(0, .ref a_M), (1, .int p1), (3, .int x3), (4, .int x4), (5, .int x5), (6, .int x6)] rfl ?_
      exact J_X11_walk_100 cx hR hB78 h
    · have h := h.2 c8
      refine j_aload_n cx 0 rfl rfl dX11_walk_88 (pn := 89) rfl ?_
      refine j_callvI0 cx q_inst_X11_rich q_sel_X11_rich (b := a_M) (As := []) (rest := []) (c_X11_rich h) ⟨q_code_X11_rich, q_ml_X11_290, q_init_X11, hd_X11_rich, ⟨Nat.le_of_ble_eq_true rfl, Nat.le_of_ble_eq_true rfl⟩, Nat.le_of_ble_eq_true rfl, Nat.le_of_ble_eq_true rfl⟩ (q0 := 0) rfl rfl rfl rfl (Nat.le_of_ble_eq_true rfl) dX11_walk_89 (pn := 92) rfl (fun r23 _ h => ?_)
      show J x 0 0 9 (W_Model cyI cyJ cyZ a_M a_M_square a_M_want a_M_text a_M_read a_M_row a_M_foldSet a_M_foldEdges a_M_foldNeeds a_M_foldYards a_M_least a_M_ways a_M_price a_M_rowBy a_M_columnBy a_M_rowOf a_M_wayBack a_M_slack a_M_isUsed a_M_lifted a_M_freed a_M_path M_wide M_high M_hedges M_hurdles M_wants M_rest M_frozen M_bytes M_position M_tokenAt M_token M_digits M_number M_faultAt M_readMany M_readWide M_readHigh M_nights M_why M_folds M_square M_want M_text M_read M_row M_foldSet M_foldEdges M_foldNeeds M_foldYards M_least M_ways M_price M_rowBy M_columnBy M_rowOf M_wayBack M_slack M_isUsed M_lifted M_freed M_path) [(0, .ref a_M), (1, .int p1), (3, .int x3), (4, .int x4), (5, .int x5), (6, .int x6), (7, .int x7)] 92 [.int r23]
      refine j_iload cx 3 rfl dX11_walk_92 (pn := 94) rfl ?_
      refine j_iconst cx (v := (-1)) (by decide) dX11_walk_94 (pn := 95) rfl ?_
      refine j_ixor cx dX11_walk_95 (pn := 96) rfl ?_
      refine j_iand cx dX11_walk_96 (pn := 97) rfl ?_
      refine j_if_eq cx 104 dX11_walk_97 (pn := 100) rfl rfl (fun c24 => ?_) (fun c24 => ?_)
      · have h := h.1 c24
        refine j_iconst cx (v := 0) (by decide) dX11_walk_104 (pn := 105) rfl ?_
        refine j_sub [0, 1, 2, 3, 4, 5] [(0, .ref a_M), (1, .int p1), (3, .int x3), (4, .int x4), (5, .int x5), (6, .int x6)] rfl ?_
        exact J_X11_walk_105 cx hR hB78 h
      · have h := h.2 c24
        refine j_sub [0, 1, 2, 3, 4, 5] [(0, .ref a_M), (1, .int p1), (3, .int x3), (4, .int x4), (5, .int x5), (6, .int x6)] rfl ?_
        exact J_X11_walk_100 cx hR hB78 h
set_option maxHeartbeats 4000000 in
set_option maxRecDepth 100000 in
theorem J_X11_walk_78 {x : CX} {D : DG} {cyI cyJ cyZ : ClassId} {a_M a_M_square a_M_want a_M_text a_M_read a_M_row a_M_foldSet a_M_foldEdges a_M_foldNeeds a_M_foldYards a_M_least a_M_ways a_M_price a_M_rowBy a_M_columnBy a_M_rowOf a_M_wayBack a_M_slack a_M_isUsed a_M_lifted a_M_freed a_M_path : Nat} {M_wide : Int32} {M_high : Int32} {M_hedges : Int64} {M_hurdles : Int32} {M_wants : Int32} {M_rest : Int32} {M_frozen : Int32} {M_bytes : Int32} {M_position : Int32} {M_tokenAt : Int32} {M_token : Int64} {M_digits : Int32} {M_number : Int32} {M_faultAt : Int32} {M_readMany : Int32} {M_readWide : Int32} {M_readHigh : Int32} {M_nights : Int32} {M_why : Int32} {M_folds : Int32} {M_square : Nat → Int32} {M_want : Nat → Int32} {M_text : Nat → Int32} {M_read : Nat → Int32} {M_row : Nat → Int32} {M_foldSet : Nat → Int32} {M_foldEdges : Nat → Int64} {M_foldNeeds : Nat → Int32} {M_foldYards : Nat → Int32} {M_least : Nat → Int32} {M_ways : Nat → Int32} {M_price : Nat → Int32} {M_rowBy : Nat → Int32} {M_columnBy : Nat → Int32} {M_rowOf : Nat → Int32} {M_wayBack : Nat → Int32} {M_slack : Nat → Int32} {M_isUsed : Nat → Int32} {M_lifted : Nat → Int32} {M_freed : Nat → Int32} {M_path : Nat → Int32} {p1 : Int32} {x3 : Int32} {x4 : Int32} {x5 : Int32} {x6 : Int32} {x7 : Int32} {Q : Int32 → ((Nat → Int32)) → Prop} (cx : Cx x cX11_walk 9 RX11 rm_X11_walk D [(cyI, .int), (cyJ, .long), (cyZ, .boolean)]) (hR : ∀ (v : Int32) (u : (Nat → Int32)) (pc : Nat) (lv : List (Nat × Value)), decode cX11_walk pc = .ok (.ireturn, 1) → Q v u → J x 0 0 9 (W_Model cyI cyJ cyZ a_M a_M_square a_M_want a_M_text a_M_read a_M_row a_M_foldSet a_M_foldEdges a_M_foldNeeds a_M_foldYards a_M_least a_M_ways a_M_price a_M_rowBy a_M_columnBy a_M_rowOf a_M_wayBack a_M_slack a_M_isUsed a_M_lifted a_M_freed a_M_path M_wide M_high M_hedges M_hurdles M_wants M_rest M_frozen M_bytes M_position M_tokenAt M_token M_digits M_number M_faultAt M_readMany M_readWide M_readHigh M_nights M_why M_folds M_square M_want M_text M_read M_row M_foldSet M_foldEdges M_foldNeeds M_foldYards M_least M_ways M_price M_rowBy M_columnBy M_rowOf M_wayBack M_slack M_isUsed M_lifted M_freed u) lv pc [.int v]) (h : lp_X11_walk_78 Q  p1 M_wide M_high M_square M_foldSet M_foldEdges M_foldNeeds M_least M_path x3 x4 x5 x6 x7) :
    J x 0 0 9 (W_Model cyI cyJ cyZ a_M a_M_square a_M_want a_M_text a_M_read a_M_row a_M_foldSet a_M_foldEdges a_M_foldNeeds a_M_foldYards a_M_least a_M_ways a_M_price a_M_rowBy a_M_columnBy a_M_rowOf a_M_wayBack a_M_slack a_M_isUsed a_M_lifted a_M_freed a_M_path M_wide M_high M_hedges M_hurdles M_wants M_rest M_frozen M_bytes M_position M_tokenAt M_token M_digits M_number M_faultAt M_readMany M_readWide M_readHigh M_nights M_why M_folds M_square M_want M_text M_read M_row M_foldSet M_foldEdges M_foldNeeds M_foldYards M_least M_ways M_price M_rowBy M_columnBy M_rowOf M_wayBack M_slack M_isUsed M_lifted M_freed M_path) [(0, .ref a_M), (1, .int p1), (3, .int x3), (4, .int x4), (5, .int x5), (6, .int x6), (7, .int x7)] 78 [] := by
  obtain ⟨I, ⟨n, h0⟩, hb⟩ := h
  revert M_path x3 x4 x5 x6 x7
  induction n using Nat.strongRecOn with
  | _ n ih =>
    intro M_path x3 x4 x5 x6 x7 h0
    exact B_X11_walk_78 cx hR (fun _ _ _ _ _ _ hz => by obtain ⟨n2, hlt, hI⟩ := hz; exact ih n2 hlt hI) (hb n M_path x3 x4 x5 x6 x7 h0)
set_option maxHeartbeats 4000000 in
set_option maxRecDepth 100000 in
theorem B_X11_walk_2 {x : CX} {D : DG} {cyI cyJ cyZ : ClassId} {a_M a_M_square a_M_want a_M_text a_M_read a_M_row a_M_foldSet a_M_foldEdges a_M_foldNeeds a_M_foldYards a_M_least a_M_ways a_M_price a_M_rowBy a_M_columnBy a_M_rowOf a_M_wayBack a_M_slack a_M_isUsed a_M_lifted a_M_freed a_M_path : Nat} {M_wide : Int32} {M_high : Int32} {M_hedges : Int64} {M_hurdles : Int32} {M_wants : Int32} {M_rest : Int32} {M_frozen : Int32} {M_bytes : Int32} {M_position : Int32} {M_tokenAt : Int32} {M_token : Int64} {M_digits : Int32} {M_number : Int32} {M_faultAt : Int32} {M_readMany : Int32} {M_readWide : Int32} {M_readHigh : Int32} {M_nights : Int32} {M_why : Int32} {M_folds : Int32} {M_square : Nat → Int32} {M_want : Nat → Int32} {M_text : Nat → Int32} {M_read : Nat → Int32} {M_row : Nat → Int32} {M_foldSet : Nat → Int32} {M_foldEdges : Nat → Int64} {M_foldNeeds : Nat → Int32} {M_foldYards : Nat → Int32} {M_least : Nat → Int32} {M_ways : Nat → Int32} {M_price : Nat → Int32} {M_rowBy : Nat → Int32} {M_columnBy : Nat → Int32} {M_rowOf : Nat → Int32} {M_wayBack : Nat → Int32} {M_slack : Nat → Int32} {M_isUsed : Nat → Int32} {M_lifted : Nat → Int32} {M_freed : Nat → Int32} {M_path : Nat → Int32} {p1 : Int32} {p2 : Int32} {x3 : Int32} {Q : Int32 → ((Nat → Int32)) → Prop} {B2 : Int32 → Prop} (cx : Cx x cX11_walk 9 RX11 rm_X11_walk D [(cyI, .int), (cyJ, .long), (cyZ, .boolean)]) (hR : ∀ (v : Int32) (u : (Nat → Int32)) (pc : Nat) (lv : List (Nat × Value)), decode cX11_walk pc = .ok (.ireturn, 1) → Q v u → J x 0 0 9 (W_Model cyI cyJ cyZ a_M a_M_square a_M_want a_M_text a_M_read a_M_row a_M_foldSet a_M_foldEdges a_M_foldNeeds a_M_foldYards a_M_least a_M_ways a_M_price a_M_rowBy a_M_columnBy a_M_rowOf a_M_wayBack a_M_slack a_M_isUsed a_M_lifted a_M_freed a_M_path M_wide M_high M_hedges M_hurdles M_wants M_rest M_frozen M_bytes M_position M_tokenAt M_token M_digits M_number M_faultAt M_readMany M_readWide M_readHigh M_nights M_why M_folds M_square M_want M_text M_read M_row M_foldSet M_foldEdges M_foldNeeds M_foldYards M_least M_ways M_price M_rowBy M_columnBy M_rowOf M_wayBack M_slack M_isUsed M_lifted M_freed u) lv pc [.int v]) (hB2 : ∀ (x3 : Int32), B2 x3 → J x 0 0 9 (W_Model cyI cyJ cyZ a_M a_M_square a_M_want a_M_text a_M_read a_M_row a_M_foldSet a_M_foldEdges a_M_foldNeeds a_M_foldYards a_M_least a_M_ways a_M_price a_M_rowBy a_M_columnBy a_M_rowOf a_M_wayBack a_M_slack a_M_isUsed a_M_lifted a_M_freed a_M_path M_wide M_high M_hedges M_hurdles M_wants M_rest M_frozen M_bytes M_position M_tokenAt M_token M_digits M_number M_faultAt M_readMany M_readWide M_readHigh M_nights M_why M_folds M_square M_want M_text M_read M_row M_foldSet M_foldEdges M_foldNeeds M_foldYards M_least M_ways M_price M_rowBy M_columnBy M_rowOf M_wayBack M_slack M_isUsed M_lifted M_freed M_path) [(0, .ref a_M), (1, .int p1), (2, .int p2), (3, .int x3)] 2 []) (h : bd_X11_walk_2 Q B2 p1 p2 M_wide M_high M_square M_foldSet M_foldEdges M_foldNeeds M_least M_path x3) :
    J x 0 0 9 (W_Model cyI cyJ cyZ a_M a_M_square a_M_want a_M_text a_M_read a_M_row a_M_foldSet a_M_foldEdges a_M_foldNeeds a_M_foldYards a_M_least a_M_ways a_M_price a_M_rowBy a_M_columnBy a_M_rowOf a_M_wayBack a_M_slack a_M_isUsed a_M_lifted a_M_freed a_M_path M_wide M_high M_hedges M_hurdles M_wants M_rest M_frozen M_bytes M_position M_tokenAt M_token M_digits M_number M_faultAt M_readMany M_readWide M_readHigh M_nights M_why M_folds M_square M_want M_text M_read M_row M_foldSet M_foldEdges M_foldNeeds M_foldYards M_least M_ways M_price M_rowBy M_columnBy M_rowOf M_wayBack M_slack M_isUsed M_lifted M_freed M_path) [(0, .ref a_M), (1, .int p1), (2, .int p2), (3, .int x3)] 2 [] := by
  unfold bd_X11_walk_2 at h
  refine j_aload_n cx 0 rfl rfl dX11_walk_2 (pn := 3) rfl ?_
  refine j_get cx inGX11 0 rfl rfl 27 (by decide) q_fl_X11_42 rfl rfl dX11_walk_3 (pn := 6) rfl ?_
  refine j_iload_n cx 3 rfl rfl dX11_walk_6 (pn := 7) rfl ?_
  refine j_iald cx 8 0 rfl rfl h.1 dX11_walk_7 (pn := 8) rfl ?_
  have h := h.2
  refine j_iload_n cx 1 rfl rfl dX11_walk_8 (pn := 9) rfl ?_
  refine j_icmp_gt cx 40 dX11_walk_9 (pn := 12) rfl rfl (fun c1 => ?_) (fun c1 => ?_)
  · have h := h.1 c1
    exact J_X11_walk_40 cx hR hB2 h
  · have h := h.2 c1
    refine j_aload_n cx 0 rfl rfl dX11_walk_12 (pn := 13) rfl ?_
    refine j_get cx inGX11 0 rfl rfl 27 (by decide) q_fl_X11_42 rfl rfl dX11_walk_13 (pn := 16) rfl ?_
    refine j_iload_n cx 3 rfl rfl dX11_walk_16 (pn := 17) rfl ?_
    refine j_iald cx 8 0 rfl rfl h.1 dX11_walk_17 (pn := 18) rfl ?_
    have h := h.2
    refine j_aload_n cx 0 rfl rfl dX11_walk_18 (pn := 19) rfl ?_
    refine j_get cx inGX11 0 rfl rfl 29 (by decide) q_fl_X11_49 rfl rfl dX11_walk_19 (pn := 22) rfl ?_
    refine j_sipush cx (v := 280) (by decide) dX11_walk_22 (pn := 25) rfl ?_
    refine j_aload_n cx 0 rfl rfl dX11_walk_25 (pn := 26) rfl ?_
    refine j_get cx inGX11 0 rfl rfl 25 (by decide) q_fl_X11_35 rfl rfl dX11_walk_26 (pn := 29) rfl ?_
    refine j_iload_n cx 3 rfl rfl dX11_walk_29 (pn := 30) rfl ?_
    refine j_iald cx 6 0 rfl rfl h.1 dX11_walk_30 (pn := 31) rfl ?_
    have h := h.2
    refine j_imul cx dX11_walk_31 (pn := 32) rfl ?_
    refine j_iload_n cx 3 rfl rfl dX11_walk_32 (pn := 33) rfl ?_
    refine j_iadd cx dX11_walk_33 (pn := 34) rfl ?_
    refine j_iald cx 10 0 rfl rfl h.1 dX11_walk_34 (pn := 35) rfl ?_
    have h := h.2
    refine j_iadd cx dX11_walk_35 (pn := 36) rfl ?_
    refine j_iload_n cx 2 rfl rfl dX11_walk_36 (pn := 37) rfl ?_
    refine j_icmp_eq cx 46 dX11_walk_37 (pn := 40) rfl rfl (fun c3 => ?_) (fun c3 => ?_)
    · have h := h.1 c3
      refine j_aload_n cx 0 rfl rfl dX11_walk_46 (pn := 47) rfl ?_
      refine j_get cx inGX11 0 rfl rfl 25 (by decide) q_fl_X11_35 rfl rfl dX11_walk_47 (pn := 50) rfl ?_
      refine j_iload_n cx 3 rfl rfl dX11_walk_50 (pn := 51) rfl ?_
      refine j_iald cx 6 0 rfl rfl h.1 dX11_walk_51 (pn := 52) rfl ?_
      have h := h.2
      refine j_topi (fun y4 ey4 => ?_)
      have h := h y4 ey4
      refine j_istore cx [(4, .int y4), (0, .ref a_M), (1, .int p1), (2, .int p2), (3, .int x3)] (by decide) rfl dX11_walk_52 (pn := 54) rfl ?_
      refine j_iload_n cx 3 rfl rfl dX11_walk_54 (pn := 55) rfl ?_
      refine j_aload_n cx 1 rfl rfl dX11_walk_55 (pn := 56) rfl ?_
      refine j_get cx inGX11 0 rfl rfl 27 (by decide) q_fl_X11_42 rfl rfl dX11_walk_56 (pn := 59) rfl ?_
      refine j_iload_n cx 4 rfl rfl dX11_walk_59 (pn := 60) rfl ?_
      refine j_iald cx 8 0 rfl rfl h.1 dX11_walk_60 (pn := 61) rfl ?_
      have h := h.2
      refine j_isub cx dX11_walk_61 (pn := 62) rfl ?_
      refine j_topi (fun y5 ey5 => ?_)
      have h := h y5 ey5
      refine j_istore cx [(5, .int y5), (4, .int y4), (0, .ref a_M), (1, .int p1), (2, .int p2), (3, .int x3)] (by decide) rfl dX11_walk_62 (pn := 64) rfl ?_
      refine j_aload_n cx 2 rfl rfl dX11_walk_64 (pn := 65) rfl ?_
      refine j_get cx inGX11 0 rfl rfl 40 (by decide) q_fl_X11_83 rfl rfl dX11_walk_65 (pn := 68) rfl ?_
      refine j_iconst cx (v := 0) (by decide) dX11_walk_68 (pn := 69) rfl ?_
      refine j_iload cx 1 rfl dX11_walk_69 (pn := 71) rfl ?_
      have hin := h.1
      obtain ⟨f6, ef6⟩ : ∃ z, z = upd M_path (0 : Int32).toNatClampNeg y4 := ⟨_, rfl⟩
      have h := h.2 f6 ef6
      refine j_iast cx 21 0 rfl rfl hin (W_Model cyI cyJ cyZ a_M a_M_square a_M_want a_M_text a_M_read a_M_row a_M_foldSet a_M_foldEdges a_M_foldNeeds a_M_foldYards a_M_least a_M_ways a_M_price a_M_rowBy a_M_columnBy a_M_rowOf a_M_wayBack a_M_slack a_M_isUsed a_M_lifted a_M_freed a_M_path M_wide M_high M_hedges M_hurdles M_wants M_rest M_frozen M_bytes M_position M_tokenAt M_token M_digits M_number M_faultAt M_readMany M_readWide M_readHigh M_nights M_why M_folds M_square M_want M_text M_read M_row M_foldSet M_foldEdges M_foldNeeds M_foldYards M_least M_ways M_price M_rowBy M_columnBy M_rowOf M_wayBack M_slack M_isUsed M_lifted M_freed f6) (by subst ef6; rfl) dX11_walk_71 (pn := 72) rfl ?_
      refine j_iconst cx (v := 1) (by decide) dX11_walk_72 (pn := 73) rfl ?_
      refine j_istore cx [(6, .int 1), (5, .int y5), (4, .int y4), (0, .ref a_M), (1, .int p1), (2, .int p2), (3, .int x3)] (by decide) rfl dX11_walk_73 (pn := 75) rfl ?_
      refine j_iconst cx (v := 1) (by decide) dX11_walk_75 (pn := 76) rfl ?_
      refine j_istore cx [(7, .int 1), (6, .int 1), (5, .int y5), (4, .int y4), (0, .ref a_M), (1, .int p1), (2, .int p2), (3, .int x3)] (by decide) rfl dX11_walk_76 (pn := 78) rfl ?_
      refine j_sub [4, 5, 7, 3, 2, 1, 0] [(0, .ref a_M), (1, .int p1), (3, .int x3), (4, .int y4), (5, .int y5), (6, .int 1), (7, .int 1)] rfl ?_
      exact J_X11_walk_78 cx hR h
    · have h := h.2 c3
      exact J_X11_walk_40 cx hR hB2 h
set_option maxHeartbeats 4000000 in
set_option maxRecDepth 100000 in
theorem J_X11_walk_2 {x : CX} {D : DG} {cyI cyJ cyZ : ClassId} {a_M a_M_square a_M_want a_M_text a_M_read a_M_row a_M_foldSet a_M_foldEdges a_M_foldNeeds a_M_foldYards a_M_least a_M_ways a_M_price a_M_rowBy a_M_columnBy a_M_rowOf a_M_wayBack a_M_slack a_M_isUsed a_M_lifted a_M_freed a_M_path : Nat} {M_wide : Int32} {M_high : Int32} {M_hedges : Int64} {M_hurdles : Int32} {M_wants : Int32} {M_rest : Int32} {M_frozen : Int32} {M_bytes : Int32} {M_position : Int32} {M_tokenAt : Int32} {M_token : Int64} {M_digits : Int32} {M_number : Int32} {M_faultAt : Int32} {M_readMany : Int32} {M_readWide : Int32} {M_readHigh : Int32} {M_nights : Int32} {M_why : Int32} {M_folds : Int32} {M_square : Nat → Int32} {M_want : Nat → Int32} {M_text : Nat → Int32} {M_read : Nat → Int32} {M_row : Nat → Int32} {M_foldSet : Nat → Int32} {M_foldEdges : Nat → Int64} {M_foldNeeds : Nat → Int32} {M_foldYards : Nat → Int32} {M_least : Nat → Int32} {M_ways : Nat → Int32} {M_price : Nat → Int32} {M_rowBy : Nat → Int32} {M_columnBy : Nat → Int32} {M_rowOf : Nat → Int32} {M_wayBack : Nat → Int32} {M_slack : Nat → Int32} {M_isUsed : Nat → Int32} {M_lifted : Nat → Int32} {M_freed : Nat → Int32} {M_path : Nat → Int32} {p1 : Int32} {p2 : Int32} {x3 : Int32} {Q : Int32 → ((Nat → Int32)) → Prop} (cx : Cx x cX11_walk 9 RX11 rm_X11_walk D [(cyI, .int), (cyJ, .long), (cyZ, .boolean)]) (hR : ∀ (v : Int32) (u : (Nat → Int32)) (pc : Nat) (lv : List (Nat × Value)), decode cX11_walk pc = .ok (.ireturn, 1) → Q v u → J x 0 0 9 (W_Model cyI cyJ cyZ a_M a_M_square a_M_want a_M_text a_M_read a_M_row a_M_foldSet a_M_foldEdges a_M_foldNeeds a_M_foldYards a_M_least a_M_ways a_M_price a_M_rowBy a_M_columnBy a_M_rowOf a_M_wayBack a_M_slack a_M_isUsed a_M_lifted a_M_freed a_M_path M_wide M_high M_hedges M_hurdles M_wants M_rest M_frozen M_bytes M_position M_tokenAt M_token M_digits M_number M_faultAt M_readMany M_readWide M_readHigh M_nights M_why M_folds M_square M_want M_text M_read M_row M_foldSet M_foldEdges M_foldNeeds M_foldYards M_least M_ways M_price M_rowBy M_columnBy M_rowOf M_wayBack M_slack M_isUsed M_lifted M_freed u) lv pc [.int v]) (h : lp_X11_walk_2 Q  p1 p2 M_wide M_high M_square M_foldSet M_foldEdges M_foldNeeds M_least M_path x3) :
    J x 0 0 9 (W_Model cyI cyJ cyZ a_M a_M_square a_M_want a_M_text a_M_read a_M_row a_M_foldSet a_M_foldEdges a_M_foldNeeds a_M_foldYards a_M_least a_M_ways a_M_price a_M_rowBy a_M_columnBy a_M_rowOf a_M_wayBack a_M_slack a_M_isUsed a_M_lifted a_M_freed a_M_path M_wide M_high M_hedges M_hurdles M_wants M_rest M_frozen M_bytes M_position M_tokenAt M_token M_digits M_number M_faultAt M_readMany M_readWide M_readHigh M_nights M_why M_folds M_square M_want M_text M_read M_row M_foldSet M_foldEdges M_foldNeeds M_foldYards M_least M_ways M_price M_rowBy M_columnBy M_rowOf M_wayBack M_slack M_isUsed M_lifted M_freed M_path) [(0, .ref a_M), (1, .int p1), (2, .int p2), (3, .int x3)] 2 [] := by
  obtain ⟨I, ⟨n, h0⟩, hb⟩ := h
  revert x3
  induction n using Nat.strongRecOn with
  | _ n ih =>
    intro x3 h0
    exact B_X11_walk_2 cx hR (fun _ hz => by obtain ⟨n2, hlt, hI⟩ := hz; exact ih n2 hlt hI) (hb n x3 h0)
set_option maxHeartbeats 4000000 in
set_option maxRecDepth 100000 in
theorem c_X11_walk {D : DG} {cyI cyJ cyZ : ClassId} {a_M a_M_square a_M_want a_M_text a_M_read a_M_row a_M_foldSet a_M_foldEdges a_M_foldNeeds a_M_foldYards a_M_least a_M_ways a_M_price a_M_rowBy a_M_columnBy a_M_rowOf a_M_wayBack a_M_slack a_M_isUsed a_M_lifted a_M_freed a_M_path : Nat} {M_wide : Int32} {M_high : Int32} {M_hedges : Int64} {M_hurdles : Int32} {M_wants : Int32} {M_rest : Int32} {M_frozen : Int32} {M_bytes : Int32} {M_position : Int32} {M_tokenAt : Int32} {M_token : Int64} {M_digits : Int32} {M_number : Int32} {M_faultAt : Int32} {M_readMany : Int32} {M_readWide : Int32} {M_readHigh : Int32} {M_nights : Int32} {M_why : Int32} {M_folds : Int32} {M_square : Nat → Int32} {M_want : Nat → Int32} {M_text : Nat → Int32} {M_read : Nat → Int32} {M_row : Nat → Int32} {M_foldSet : Nat → Int32} {M_foldEdges : Nat → Int64} {M_foldNeeds : Nat → Int32} {M_foldYards : Nat → Int32} {M_least : Nat → Int32} {M_ways : Nat → Int32} {M_price : Nat → Int32} {M_rowBy : Nat → Int32} {M_columnBy : Nat → Int32} {M_rowOf : Nat → Int32} {M_wayBack : Nat → Int32} {M_slack : Nat → Int32} {M_isUsed : Nat → Int32} {M_lifted : Nat → Int32} {M_freed : Nat → Int32} {M_path : Nat → Int32} {p1 : Int32} {p2 : Int32} {Q : Int32 → ((Nat → Int32)) → Prop} (h : wp_X11_walk p1 p2 M_wide M_high M_square M_foldSet M_foldEdges M_foldNeeds M_least M_path Q) :
    MetI yX11_walk cX11_walk 9 (some .int) rm_X11_walk D [(cyI, .int), (cyJ, .long), (cyZ, .boolean)] [.ref a_M, .int p1, .int p2] (W_Model cyI cyJ cyZ a_M a_M_square a_M_want a_M_text a_M_read a_M_row a_M_foldSet a_M_foldEdges a_M_foldNeeds a_M_foldYards a_M_least a_M_ways a_M_price a_M_rowBy a_M_columnBy a_M_rowOf a_M_wayBack a_M_slack a_M_isUsed a_M_lifted a_M_freed a_M_path M_wide M_high M_hedges M_hurdles M_wants M_rest M_frozen M_bytes M_position M_tokenAt M_token M_digits M_number M_faultAt M_readMany M_readWide M_readHigh M_nights M_why M_folds M_square M_want M_text M_read M_row M_foldSet M_foldEdges M_foldNeeds M_foldYards M_least M_ways M_price M_rowBy M_columnBy M_rowOf M_wayBack M_slack M_isUsed M_lifted M_freed M_path) (fun u : (Nat → Int32) => (W_Model cyI cyJ cyZ a_M a_M_square a_M_want a_M_text a_M_read a_M_row a_M_foldSet a_M_foldEdges a_M_foldNeeds a_M_foldYards a_M_least a_M_ways a_M_price a_M_rowBy a_M_columnBy a_M_rowOf a_M_wayBack a_M_slack a_M_isUsed a_M_lifted a_M_freed a_M_path M_wide M_high M_hedges M_hurdles M_wants M_rest M_frozen M_bytes M_position M_tokenAt M_token M_digits M_number M_faultAt M_readMany M_readWide M_readHigh M_nights M_why M_folds M_square M_want M_text M_read M_row M_foldSet M_foldEdges M_foldNeeds M_foldYards M_least M_ways M_price M_rowBy M_columnBy M_rowOf M_wayBack M_slack M_isUsed M_lifted M_freed u)) (fun v u => Q v u) := by
  unfold wp_X11_walk at h
  refine metI_of (by decide) (Nat.le_of_ble_eq_true rfl) (fun x cx0 hR0 => ?_)
  have cx : Cx x cX11_walk 9 RX11 rm_X11_walk D [(cyI, .int), (cyJ, .long), (cyZ, .boolean)] := cx0
  have hR : ∀ (v : Int32) (u : (Nat → Int32)) (pc : Nat) (lv : List (Nat × Value)), decode cX11_walk pc = .ok (.ireturn, 1) → Q v u → J x 0 0 9 (W_Model cyI cyJ cyZ a_M a_M_square a_M_want a_M_text a_M_read a_M_row a_M_foldSet a_M_foldEdges a_M_foldNeeds a_M_foldYards a_M_least a_M_ways a_M_price a_M_rowBy a_M_columnBy a_M_rowOf a_M_wayBack a_M_slack a_M_isUsed a_M_lifted a_M_freed a_M_path M_wide M_high M_hedges M_hurdles M_wants M_rest M_frozen M_bytes M_position M_tokenAt M_token M_digits M_number M_faultAt M_readMany M_readWide M_readHigh M_nights M_why M_folds M_square M_want M_text M_read M_row M_foldSet M_foldEdges M_foldNeeds M_foldYards M_least M_ways M_price M_rowBy M_columnBy M_rowOf M_wayBack M_slack M_isUsed M_lifted M_freed u) lv pc [.int v] := (fun v u pc lv d hq => hR0 v u pc lv d hq)
  show J x 0 0 9 (W_Model cyI cyJ cyZ a_M a_M_square a_M_want a_M_text a_M_read a_M_row a_M_foldSet a_M_foldEdges a_M_foldNeeds a_M_foldYards a_M_least a_M_ways a_M_price a_M_rowBy a_M_columnBy a_M_rowOf a_M_wayBack a_M_slack a_M_isUsed a_M_lifted a_M_freed a_M_path M_wide M_high M_hedges M_hurdles M_wants M_rest M_frozen M_bytes M_position M_tokenAt M_token M_digits M_number M_faultAt M_readMany M_readWide M_readHigh M_nights M_why M_folds M_square M_want M_text M_read M_row M_foldSet M_foldEdges M_foldNeeds M_foldYards M_least M_ways M_price M_rowBy M_columnBy M_rowOf M_wayBack M_slack M_isUsed M_lifted M_freed M_path) [(0, .ref a_M), (1, .int p1), (2, .int p2)] 0 []
  refine j_iconst cx (v := 0) (by decide) dX11_walk_0 (pn := 1) rfl ?_
  refine j_istore_n cx rfl [(3, .int 0), (0, .ref a_M), (1, .int p1), (2, .int p2)] (by decide) rfl dX11_walk_1 (pn := 2) rfl ?_
  refine j_sub [1, 2, 3, 0] [(0, .ref a_M), (1, .int p1), (2, .int p2), (3, .int 0)] rfl ?_
  exact J_X11_walk_2 cx hR h
theorem dX11_best_0 : decode cX11_best 0 = .ok (.iload_n 1, 1) := by decide +kernel
theorem dX11_best_1 : decode cX11_best 1 = .ok (.iconst 1, 1) := by decide +kernel
theorem dX11_best_2 : decode cX11_best 2 = .ok (.bipush 90, 2) := by decide +kernel
theorem dX11_best_4 : decode cX11_best 4 = .ok (.invokestatic 90, 3) := by decide +kernel
theorem dX11_best_7 : decode cX11_best 7 = .ok (.ifCond .eq 19, 3) := by decide +kernel
theorem dX11_best_10 : decode cX11_best 10 = .ok (.iload_n 2, 1) := by decide +kernel
theorem dX11_best_11 : decode cX11_best 11 = .ok (.iconst 0, 1) := by decide +kernel
theorem dX11_best_12 : decode cX11_best 12 = .ok (.bipush 60, 2) := by decide +kernel
theorem dX11_best_14 : decode cX11_best 14 = .ok (.invokestatic 90, 3) := by decide +kernel
theorem dX11_best_17 : decode cX11_best 17 = .ok (.ifCond .eq 9, 3) := by decide +kernel
theorem dX11_best_20 : decode cX11_best 20 = .ok (.iload_n 3, 1) := by decide +kernel
theorem dX11_best_21 : decode cX11_best 21 = .ok (.bipush (-2), 2) := by decide +kernel
theorem dX11_best_23 : decode cX11_best 23 = .ok (.if_icmp .ge 6, 3) := by decide +kernel
theorem dX11_best_26 : decode cX11_best 26 = .ok (.bipush (-3), 2) := by decide +kernel
theorem dX11_best_28 : decode cX11_best 28 = .ok (.ireturn, 1) := by decide +kernel
theorem dX11_best_29 : decode cX11_best 29 = .ok (.aload_n 0, 1) := by decide +kernel
theorem dX11_best_30 : decode cX11_best 30 = .ok (.iload_n 1, 1) := by decide +kernel
theorem dX11_best_31 : decode cX11_best 31 = .ok (.iload_n 2, 1) := by decide +kernel
theorem dX11_best_32 : decode cX11_best 32 = .ok (.invokevirtual 309, 3) := by decide +kernel
theorem dX11_best_35 : decode cX11_best 35 = .ok (.istore 4, 2) := by decide +kernel
theorem dX11_best_37 : decode cX11_best 37 = .ok (.iload 4, 2) := by decide +kernel
theorem dX11_best_39 : decode cX11_best 39 = .ok (.iconst (-1), 1) := by decide +kernel
theorem dX11_best_40 : decode cX11_best 40 = .ok (.if_icmp .eq 9, 3) := by decide +kernel
theorem dX11_best_43 : decode cX11_best 43 = .ok (.iload_n 3, 1) := by decide +kernel
theorem dX11_best_44 : decode cX11_best 44 = .ok (.bipush (-2), 2) := by decide +kernel
theorem dX11_best_46 : decode cX11_best 46 = .ok (.if_icmp .ne 6, 3) := by decide +kernel
theorem dX11_best_49 : decode cX11_best 49 = .ok (.iload 4, 2) := by decide +kernel
theorem dX11_best_51 : decode cX11_best 51 = .ok (.ireturn, 1) := by decide +kernel
theorem dX11_best_52 : decode cX11_best 52 = .ok (.aload_n 0, 1) := by decide +kernel
theorem dX11_best_53 : decode cX11_best 53 = .ok (.iload_n 2, 1) := by decide +kernel
theorem dX11_best_54 : decode cX11_best 54 = .ok (.iload 4, 2) := by decide +kernel
theorem dX11_best_56 : decode cX11_best 56 = .ok (.invokevirtual 312, 3) := by decide +kernel
theorem dX11_best_59 : decode cX11_best 59 = .ok (.istore 5, 2) := by decide +kernel
theorem dX11_best_61 : decode cX11_best 61 = .ok (.iload_n 3, 1) := by decide +kernel
theorem dX11_best_62 : decode cX11_best 62 = .ok (.iconst (-1), 1) := by decide +kernel
theorem dX11_best_63 : decode cX11_best 63 = .ok (.if_icmp .ne 8, 3) := by decide +kernel
theorem dX11_best_66 : decode cX11_best 66 = .ok (.iload 5, 2) := by decide +kernel
theorem dX11_best_68 : decode cX11_best 68 = .ok (.goto 19, 3) := by decide +kernel
theorem dX11_best_71 : decode cX11_best 71 = .ok (.iload_n 3, 1) := by decide +kernel
theorem dX11_best_72 : decode cX11_best 72 = .ok (.iload 5, 2) := by decide +kernel
theorem dX11_best_74 : decode cX11_best 74 = .ok (.if_icmp .ge 12, 3) := by decide +kernel
theorem dX11_best_77 : decode cX11_best 77 = .ok (.aload_n 0, 1) := by decide +kernel
theorem dX11_best_78 : decode cX11_best 78 = .ok (.getfield 83, 3) := by decide +kernel
theorem dX11_best_81 : decode cX11_best 81 = .ok (.iload_n 3, 1) := by decide +kernel
theorem dX11_best_82 : decode cX11_best 82 = .ok (.iaload, 1) := by decide +kernel
theorem dX11_best_83 : decode cX11_best 83 = .ok (.goto 4, 3) := by decide +kernel
theorem dX11_best_86 : decode cX11_best 86 = .ok (.iconst (-1), 1) := by decide +kernel
theorem dX11_best_87 : decode cX11_best 87 = .ok (.ireturn, 1) := by decide +kernel
abbrev rm_X11_best : Room := { frames := 7, cells := 0, slots := 0, locals := 168 }
theorem hd_X11_best : yX11_best.cls ≠ "java/lang/invoke/MethodHandle" ∧ yX11_best.cls ≠ "java/lang/invoke/VarHandle" ∧ (parseMethodDescriptor yX11_best.desc).map (fun d => d.parameters.length) = some 3 := by decide +kernel
def wp_X11_best (p1 : Int32) (p2 : Int32) (p3 : Int32) (M_wide : Int32) (M_high : Int32) (M_hedges : Int64) (M_folds : Int32) (M_square : Nat → Int32) (M_foldSet : Nat → Int32) (M_foldEdges : Nat → Int64) (M_foldNeeds : Nat → Int32) (M_foldYards : Nat → Int32) (M_least : Nat → Int32) (M_ways : Nat → Int32) (M_path : Nat → Int32) (Q : Int32 → (Int32 × (Nat → Int32) × (Nat → Int64) × (Nat → Int32) × (Nat → Int32) × (Nat → Int32) × (Nat → Int32) × (Nat → Int32)) → Prop) : Prop :=
wp_X11_in p1 1 90 (fun (r1 : Int32) => ((r1 = 0 → Q (-3) (M_folds, M_foldSet, M_foldEdges, M_foldNeeds, M_foldYards, M_least, M_ways, M_path)) ∧
(¬ r1 = 0 → wp_X11_in p2 0 60 (fun (r3 : Int32) => ((r3 = 0 → Q (-3) (M_folds, M_foldSet, M_foldEdges, M_foldNeeds, M_foldYards, M_least, M_ways, M_path)) ∧
(¬ r3 = 0 → (((-2) ≤ p3 → wp_X11_leastLifted p1 p2 M_wide M_high M_hedges M_square M_foldSet M_foldEdges M_foldNeeds M_foldYards M_least M_ways (fun (r6 : Int32) (u7 : Int32 × (Nat → Int32) × (Nat → Int64) × (Nat → Int32) × (Nat → Int32) × (Nat → Int32) × (Nat → Int32)) => ((r6 = (-1) → Q r6 (u7.1, u7.2.1, u7.2.2.1, u7.2.2.2.1, u7.2.2.2.2.1, u7.2.2.2.2.2.1, u7.2.2.2.2.2.2, M_path)) ∧
(¬ r6 = (-1) → ((¬ p3 = (-2) → wp_X11_walk p2 r6 M_wide M_high M_square u7.2.1 u7.2.2.1 u7.2.2.2.1 u7.2.2.2.2.2.1 M_path (fun (r10 : Int32) (u11 : (Nat → Int32)) => ((¬ p3 = (-1) → ((r10 ≤ p3 → Q (-1) (u7.1, u7.2.1, u7.2.2.1, u7.2.2.2.1, u7.2.2.2.2.1, u7.2.2.2.2.2.1, u7.2.2.2.2.2.2, u11)) ∧
(¬ r10 ≤ p3 → vp_in p3 10 ∧ Q (u11 p3.toNatClampNeg) (u7.1, u7.2.1, u7.2.2.1, u7.2.2.2.1, u7.2.2.2.2.1, u7.2.2.2.2.2.1, u7.2.2.2.2.2.2, u11)))) ∧
(p3 = (-1) → Q r10 (u7.1, u7.2.1, u7.2.2.1, u7.2.2.2.1, u7.2.2.2.2.1, u7.2.2.2.2.2.1, u7.2.2.2.2.2.2, u11))))) ∧
(p3 = (-2) → Q r6 (u7.1, u7.2.1, u7.2.2.1, u7.2.2.2.1, u7.2.2.2.2.1, u7.2.2.2.2.2.1, u7.2.2.2.2.2.2, M_path))))))) ∧
(¬ (-2) ≤ p3 → Q (-3) (M_folds, M_foldSet, M_foldEdges, M_foldNeeds, M_foldYards, M_least, M_ways, M_path)))))))))
set_option maxHeartbeats 4000000 in
set_option maxRecDepth 100000 in
theorem c_X11_best {D : DG} {cyI cyJ cyZ : ClassId} {a_M a_M_square a_M_want a_M_text a_M_read a_M_row a_M_foldSet a_M_foldEdges a_M_foldNeeds a_M_foldYards a_M_least a_M_ways a_M_price a_M_rowBy a_M_columnBy a_M_rowOf a_M_wayBack a_M_slack a_M_isUsed a_M_lifted a_M_freed a_M_path : Nat} {M_wide : Int32} {M_high : Int32} {M_hedges : Int64} {M_hurdles : Int32} {M_wants : Int32} {M_rest : Int32} {M_frozen : Int32} {M_bytes : Int32} {M_position : Int32} {M_tokenAt : Int32} {M_token : Int64} {M_digits : Int32} {M_number : Int32} {M_faultAt : Int32} {M_readMany : Int32} {M_readWide : Int32} {M_readHigh : Int32} {M_nights : Int32} {M_why : Int32} {M_folds : Int32} {M_square : Nat → Int32} {M_want : Nat → Int32} {M_text : Nat → Int32} {M_read : Nat → Int32} {M_row : Nat → Int32} {M_foldSet : Nat → Int32} {M_foldEdges : Nat → Int64} {M_foldNeeds : Nat → Int32} {M_foldYards : Nat → Int32} {M_least : Nat → Int32} {M_ways : Nat → Int32} {M_price : Nat → Int32} {M_rowBy : Nat → Int32} {M_columnBy : Nat → Int32} {M_rowOf : Nat → Int32} {M_wayBack : Nat → Int32} {M_slack : Nat → Int32} {M_isUsed : Nat → Int32} {M_lifted : Nat → Int32} {M_freed : Nat → Int32} {M_path : Nat → Int32} {p1 : Int32} {p2 : Int32} {p3 : Int32} {Q : Int32 → (Int32 × (Nat → Int32) × (Nat → Int64) × (Nat → Int32) × (Nat → Int32) × (Nat → Int32) × (Nat → Int32) × (Nat → Int32)) → Prop} (h : wp_X11_best p1 p2 p3 M_wide M_high M_hedges M_folds M_square M_foldSet M_foldEdges M_foldNeeds M_foldYards M_least M_ways M_path Q) :
    MetI yX11_best cX11_best 6 (some .int) rm_X11_best D [(cyI, .int), (cyJ, .long), (cyZ, .boolean)] [.ref a_M, .int p1, .int p2, .int p3] (W_Model cyI cyJ cyZ a_M a_M_square a_M_want a_M_text a_M_read a_M_row a_M_foldSet a_M_foldEdges a_M_foldNeeds a_M_foldYards a_M_least a_M_ways a_M_price a_M_rowBy a_M_columnBy a_M_rowOf a_M_wayBack a_M_slack a_M_isUsed a_M_lifted a_M_freed a_M_path M_wide M_high M_hedges M_hurdles M_wants M_rest M_frozen M_bytes M_position M_tokenAt M_token M_digits M_number M_faultAt M_readMany M_readWide M_readHigh M_nights M_why M_folds M_square M_want M_text M_read M_row M_foldSet M_foldEdges M_foldNeeds M_foldYards M_least M_ways M_price M_rowBy M_columnBy M_rowOf M_wayBack M_slack M_isUsed M_lifted M_freed M_path) (fun u : Int32 × (Nat → Int32) × (Nat → Int64) × (Nat → Int32) × (Nat → Int32) × (Nat → Int32) × (Nat → Int32) × (Nat → Int32) => (W_Model cyI cyJ cyZ a_M a_M_square a_M_want a_M_text a_M_read a_M_row a_M_foldSet a_M_foldEdges a_M_foldNeeds a_M_foldYards a_M_least a_M_ways a_M_price a_M_rowBy a_M_columnBy a_M_rowOf a_M_wayBack a_M_slack a_M_isUsed a_M_lifted a_M_freed a_M_path M_wide M_high M_hedges M_hurdles M_wants M_rest M_frozen M_bytes M_position M_tokenAt M_token M_digits M_number M_faultAt M_readMany M_readWide M_readHigh M_nights M_why u.1 M_square M_want M_text M_read M_row u.2.1 u.2.2.1 u.2.2.2.1 u.2.2.2.2.1 u.2.2.2.2.2.1 u.2.2.2.2.2.2.1 M_price M_rowBy M_columnBy M_rowOf M_wayBack M_slack M_isUsed M_lifted M_freed u.2.2.2.2.2.2.2)) (fun v u => Q v u) := by
  unfold wp_X11_best at h
  refine metI_of (by decide) (Nat.le_of_ble_eq_true rfl) (fun x cx0 hR0 => ?_)
  have cx : Cx x cX11_best 6 RX11 rm_X11_best D [(cyI, .int), (cyJ, .long), (cyZ, .boolean)] := cx0
  have hR : ∀ (v : Int32) (u : Int32 × (Nat → Int32) × (Nat → Int64) × (Nat → Int32) × (Nat → Int32) × (Nat → Int32) × (Nat → Int32) × (Nat → Int32)) (pc : Nat) (lv : List (Nat × Value)), decode cX11_best pc = .ok (.ireturn, 1) → Q v u → J x 0 0 6 (W_Model cyI cyJ cyZ a_M a_M_square a_M_want a_M_text a_M_read a_M_row a_M_foldSet a_M_foldEdges a_M_foldNeeds a_M_foldYards a_M_least a_M_ways a_M_price a_M_rowBy a_M_columnBy a_M_rowOf a_M_wayBack a_M_slack a_M_isUsed a_M_lifted a_M_freed a_M_path M_wide M_high M_hedges M_hurdles M_wants M_rest M_frozen M_bytes M_position M_tokenAt M_token M_digits M_number M_faultAt M_readMany M_readWide M_readHigh M_nights M_why u.1 M_square M_want M_text M_read M_row u.2.1 u.2.2.1 u.2.2.2.1 u.2.2.2.2.1 u.2.2.2.2.2.1 u.2.2.2.2.2.2.1 M_price M_rowBy M_columnBy M_rowOf M_wayBack M_slack M_isUsed M_lifted M_freed u.2.2.2.2.2.2.2) lv pc [.int v] := (fun v u pc lv d hq => hR0 v u pc lv d hq)
  show J x 0 0 6 (W_Model cyI cyJ cyZ a_M a_M_square a_M_want a_M_text a_M_read a_M_row a_M_foldSet a_M_foldEdges a_M_foldNeeds a_M_foldYards a_M_least a_M_ways a_M_price a_M_rowBy a_M_columnBy a_M_rowOf a_M_wayBack a_M_slack a_M_isUsed a_M_lifted a_M_freed a_M_path M_wide M_high M_hedges M_hurdles M_wants M_rest M_frozen M_bytes M_position M_tokenAt M_token M_digits M_number M_faultAt M_readMany M_readWide M_readHigh M_nights M_why M_folds M_square M_want M_text M_read M_row M_foldSet M_foldEdges M_foldNeeds M_foldYards M_least M_ways M_price M_rowBy M_columnBy M_rowOf M_wayBack M_slack M_isUsed M_lifted M_freed M_path) [(0, .ref a_M), (1, .int p1), (2, .int p2), (3, .int p3)] 0 []
  refine j_iload_n cx 1 rfl rfl dX11_best_0 (pn := 1) rfl ?_
  refine j_iconst cx (v := 1) (by decide) dX11_best_1 (pn := 2) rfl ?_
  refine j_bipush cx (v := 90) (by decide) dX11_best_2 (pn := 4) rfl ?_
  refine j_calleI cx q_stat_X11_in (As := [.int p1, .int 1, .int 90]) (rest := []) (c_X11_in h) ⟨q_code_X11_in, q_ml_X11_90, q_init_X11, hd_X11_in, ⟨Nat.le_of_ble_eq_true rfl, Nat.le_of_ble_eq_true rfl⟩, Nat.le_of_ble_eq_true rfl, Nat.le_of_ble_eq_true rfl⟩ rfl rfl (Nat.le_of_ble_eq_true rfl) dX11_best_4 (pn := 7) rfl (fun r1 h => ?_)
  show J x 0 0 6 (W_Model cyI cyJ cyZ a_M a_M_square a_M_want a_M_text a_M_read a_M_row a_M_foldSet a_M_foldEdges a_M_foldNeeds a_M_foldYards a_M_least a_M_ways a_M_price a_M_rowBy a_M_columnBy a_M_rowOf a_M_wayBack a_M_slack a_M_isUsed a_M_lifted a_M_freed a_M_path M_wide M_high M_hedges M_hurdles M_wants M_rest M_frozen M_bytes M_position M_tokenAt M_token M_digits M_number M_faultAt M_readMany M_readWide M_readHigh M_nights M_why M_folds M_square M_want M_text M_read M_row M_foldSet M_foldEdges M_foldNeeds M_foldYards M_least M_ways M_price M_rowBy M_columnBy M_rowOf M_wayBack M_slack M_isUsed M_lifted M_freed M_path) [(0, .ref a_M), (1, .int p1), (2, .int p2), (3, .int p3)] 7 [.int r1]
  refine j_if_eq cx 26 dX11_best_7 (pn := 10) rfl rfl (fun c2 => ?_) (fun c2 => ?_)
  · have h := h.1 c2
    refine j_bipush cx (v := (-3)) (by decide) dX11_best_26 (pn := 28) rfl ?_
    exact hR (-3) (M_folds, M_foldSet, M_foldEdges, M_foldNeeds, M_foldYards, M_least, M_ways, M_path) 28 _ dX11_best_28 h
  · have h := h.2 c2
    refine j_iload_n cx 2 rfl rfl dX11_best_10 (pn := 11) rfl ?_
    refine j_iconst cx (v := 0) (by decide) dX11_best_11 (pn := 12) rfl ?_
    refine j_bipush cx (v := 60) (by decide) dX11_best_12 (pn := 14) rfl ?_
    refine j_calleI cx q_stat_X11_in (As := [.int p2, .int 0, .int 60]) (rest := []) (c_X11_in h) ⟨q_code_X11_in, q_ml_X11_90, q_init_X11, hd_X11_in, ⟨Nat.le_of_ble_eq_true rfl, Nat.le_of_ble_eq_true rfl⟩, Nat.le_of_ble_eq_true rfl, Nat.le_of_ble_eq_true rfl⟩ rfl rfl (Nat.le_of_ble_eq_true rfl) dX11_best_14 (pn := 17) rfl (fun r3 h => ?_)
    show J x 0 0 6 (W_Model cyI cyJ cyZ a_M a_M_square a_M_want a_M_text a_M_read a_M_row a_M_foldSet a_M_foldEdges a_M_foldNeeds a_M_foldYards a_M_least a_M_ways a_M_price a_M_rowBy a_M_columnBy a_M_rowOf a_M_wayBack a_M_slack a_M_isUsed a_M_lifted a_M_freed a_M_path M_wide M_high M_hedges M_hurdles M_wants M_rest M_frozen M_bytes M_position M_tokenAt M_token M_digits M_number M_faultAt M_readMany M_readWide M_readHigh M_nights M_why M_folds M_square M_want M_text M_read M_row M_foldSet M_foldEdges M_foldNeeds M_foldYards M_least M_ways M_price M_rowBy M_columnBy M_rowOf M_wayBack M_slack M_isUsed M_lifted M_freed M_path) [(0, .ref a_M), (1, .int p1), (2, .int p2), (3, .int p3)] 17 [.int r3]
    refine j_if_eq cx 26 dX11_best_17 (pn := 20) rfl rfl (fun c4 => ?_) (fun c4 => ?_)
    · have h := h.1 c4
      refine j_bipush cx (v := (-3)) (by decide) dX11_best_26 (pn := 28) rfl ?_
      exact hR (-3) (M_folds, M_foldSet, M_foldEdges, M_foldNeeds, M_foldYards, M_least, M_ways, M_path) 28 _ dX11_best_28 h
    · have h := h.2 c4
      refine j_iload_n cx 3 rfl rfl dX11_best_20 (pn := 21) rfl ?_
      refine j_bipush cx (v := (-2)) (by decide) dX11_best_21 (pn := 23) rfl ?_
      refine j_icmp_ge cx 29 dX11_best_23 (pn := 26) rfl rfl (fun c5 => ?_) (fun c5 => ?_)
      · have h := h.1 c5
        refine j_aload_n cx 0 rfl rfl dX11_best_29 (pn := 30) rfl ?_
        refine j_iload_n cx 1 rfl rfl dX11_best_30 (pn := 31) rfl ?_
        refine j_iload_n cx 2 rfl rfl dX11_best_31 (pn := 32) rfl ?_
        refine j_callvI0 cx q_inst_X11_leastLifted q_sel_X11_leastLifted (b := a_M) (As := [.int p1, .int p2]) (rest := []) (c_X11_leastLifted h) ⟨q_code_X11_leastLifted, q_ml_X11_309, q_init_X11, hd_X11_leastLifted, ⟨Nat.le_of_ble_eq_true rfl, Nat.le_of_ble_eq_true rfl⟩, Nat.le_of_ble_eq_true rfl, Nat.le_of_ble_eq_true rfl⟩ (q0 := 0) rfl rfl rfl rfl (Nat.le_of_ble_eq_true rfl) dX11_best_32 (pn := 35) rfl (fun r6 u7 h => ?_)
        show J x 0 0 6 (W_Model cyI cyJ cyZ a_M a_M_square a_M_want a_M_text a_M_read a_M_row a_M_foldSet a_M_foldEdges a_M_foldNeeds a_M_foldYards a_M_least a_M_ways a_M_price a_M_rowBy a_M_columnBy a_M_rowOf a_M_wayBack a_M_slack a_M_isUsed a_M_lifted a_M_freed a_M_path M_wide M_high M_hedges M_hurdles M_wants M_rest M_frozen M_bytes M_position M_tokenAt M_token M_digits M_number M_faultAt M_readMany M_readWide M_readHigh M_nights M_why u7.1 M_square M_want M_text M_read M_row u7.2.1 u7.2.2.1 u7.2.2.2.1 u7.2.2.2.2.1 u7.2.2.2.2.2.1 u7.2.2.2.2.2.2 M_price M_rowBy M_columnBy M_rowOf M_wayBack M_slack M_isUsed M_lifted M_freed M_path) [(0, .ref a_M), (1, .int p1), (2, .int p2), (3, .int p3)] 35 [.int r6]
        refine j_istore cx [(4, .int r6), (0, .ref a_M), (1, .int p1), (2, .int p2), (3, .int p3)] (by decide) rfl dX11_best_35 (pn := 37) rfl ?_
        refine j_iload cx 0 rfl dX11_best_37 (pn := 39) rfl ?_
        refine j_iconst cx (v := (-1)) (by decide) dX11_best_39 (pn := 40) rfl ?_
        refine j_icmp_eq cx 49 dX11_best_40 (pn := 43) rfl rfl (fun c8 => ?_) (fun c8 => ?_)
        · have h := h.1 c8
          refine j_iload cx 0 rfl dX11_best_49 (pn := 51) rfl ?_
          exact hR r6 (u7.1, u7.2.1, u7.2.2.1, u7.2.2.2.1, u7.2.2.2.2.1, u7.2.2.2.2.2.1, u7.2.2.2.2.2.2, M_path) 51 _ dX11_best_51 h
        · have h := h.2 c8
          refine j_iload_n cx 4 rfl rfl dX11_best_43 (pn := 44) rfl ?_
          refine j_bipush cx (v := (-2)) (by decide) dX11_best_44 (pn := 46) rfl ?_
          refine j_icmp_ne cx 52 dX11_best_46 (pn := 49) rfl rfl (fun c9 => ?_) (fun c9 => ?_)
          · have h := h.1 c9
            refine j_aload_n cx 1 rfl rfl dX11_best_52 (pn := 53) rfl ?_
            refine j_iload_n cx 3 rfl rfl dX11_best_53 (pn := 54) rfl ?_
            refine j_iload cx 0 rfl dX11_best_54 (pn := 56) rfl ?_
            refine j_callvI0 cx q_inst_X11_walk q_sel_X11_walk (b := a_M) (As := [.int p2, .int r6]) (rest := []) (c_X11_walk h) ⟨q_code_X11_walk, q_ml_X11_312, q_init_X11, hd_X11_walk, ⟨Nat.le_of_ble_eq_true rfl, Nat.le_of_ble_eq_true rfl⟩, Nat.le_of_ble_eq_true rfl, Nat.le_of_ble_eq_true rfl⟩ (q0 := 0) rfl rfl rfl rfl (Nat.le_of_ble_eq_true rfl) dX11_best_56 (pn := 59) rfl (fun r10 u11 h => ?_)
            show J x 0 0 6 (W_Model cyI cyJ cyZ a_M a_M_square a_M_want a_M_text a_M_read a_M_row a_M_foldSet a_M_foldEdges a_M_foldNeeds a_M_foldYards a_M_least a_M_ways a_M_price a_M_rowBy a_M_columnBy a_M_rowOf a_M_wayBack a_M_slack a_M_isUsed a_M_lifted a_M_freed a_M_path M_wide M_high M_hedges M_hurdles M_wants M_rest M_frozen M_bytes M_position M_tokenAt M_token M_digits M_number M_faultAt M_readMany M_readWide M_readHigh M_nights M_why u7.1 M_square M_want M_text M_read M_row u7.2.1 u7.2.2.1 u7.2.2.2.1 u7.2.2.2.2.1 u7.2.2.2.2.2.1 u7.2.2.2.2.2.2 M_price M_rowBy M_columnBy M_rowOf M_wayBack M_slack M_isUsed M_lifted M_freed u11) [(4, .int r6), (0, .ref a_M), (1, .int p1), (2, .int p2), (3, .int p3)] 59 [.int r10]
            refine j_istore cx [(5, .int r10), (4, .int r6), (0, .ref a_M), (1, .int p1), (2, .int p2), (3, .int p3)] (by decide) rfl dX11_best_59 (pn := 61) rfl ?_
            refine j_iload_n cx 5 rfl rfl dX11_best_61 (pn := 62) rfl ?_
            refine j_iconst cx (v := (-1)) (by decide) dX11_best_62 (pn := 63) rfl ?_
            refine j_icmp_ne cx 71 dX11_best_63 (pn := 66) rfl rfl (fun c12 => ?_) (fun c12 => ?_)
            · have h := h.1 c12
              refine j_iload_n cx 5 rfl rfl dX11_best_71 (pn := 72) rfl ?_
              refine j_iload cx 0 rfl dX11_best_72 (pn := 74) rfl ?_
              refine j_icmp_ge cx 86 dX11_best_74 (pn := 77) rfl rfl (fun c13 => ?_) (fun c13 => ?_)
              · have h := h.1 c13
                refine j_iconst cx (v := (-1)) (by decide) dX11_best_86 (pn := 87) rfl ?_
                exact hR (-1) (u7.1, u7.2.1, u7.2.2.1, u7.2.2.2.1, u7.2.2.2.2.1, u7.2.2.2.2.2.1, u7.2.2.2.2.2.2, u11) 87 _ dX11_best_87 h
              · have h := h.2 c13
                refine j_aload_n cx 2 rfl rfl dX11_best_77 (pn := 78) rfl ?_
                refine j_get cx inGX11 0 rfl rfl 40 (by decide) q_fl_X11_83 rfl rfl dX11_best_78 (pn := 81) rfl ?_
                refine j_iload_n cx 5 rfl rfl dX11_best_81 (pn := 82) rfl ?_
                refine j_iald cx 21 0 rfl rfl h.1 dX11_best_82 (pn := 83) rfl ?_
                have h := h.2
                refine j_goto cx 87 dX11_best_83 rfl ?_
                exact hR (u11 p3.toNatClampNeg) (u7.1, u7.2.1, u7.2.2.1, u7.2.2.2.1, u7.2.2.2.2.1, u7.2.2.2.2.2.1, u7.2.2.2.2.2.2, u11) 87 _ dX11_best_87 h
            · have h := h.2 c12
              refine j_iload cx 0 rfl dX11_best_66 (pn := 68) rfl ?_
              refine j_goto cx 87 dX11_best_68 rfl ?_
              exact hR r10 (u7.1, u7.2.1, u7.2.2.1, u7.2.2.2.1, u7.2.2.2.2.1, u7.2.2.2.2.2.1, u7.2.2.2.2.2.2, u11) 87 _ dX11_best_87 h
          · have h := h.2 c9
            refine j_iload cx 0 rfl dX11_best_49 (pn := 51) rfl ?_
            exact hR r6 (u7.1, u7.2.1, u7.2.2.1, u7.2.2.2.1, u7.2.2.2.2.1, u7.2.2.2.2.2.1, u7.2.2.2.2.2.2, M_path) 51 _ dX11_best_51 h
      · have h := h.2 c5
        refine j_bipush cx (v := (-3)) (by decide) dX11_best_26 (pn := 28) rfl ?_
        exact hR (-3) (M_folds, M_foldSet, M_foldEdges, M_foldNeeds, M_foldYards, M_least, M_ways, M_path) 28 _ dX11_best_28 h
theorem dX11_courses_0 : decode cX11_courses 0 = .ok (.iload_n 1, 1) := by decide +kernel
theorem dX11_courses_1 : decode cX11_courses 1 = .ok (.iconst 1, 1) := by decide +kernel
theorem dX11_courses_2 : decode cX11_courses 2 = .ok (.bipush 90, 2) := by decide +kernel
theorem dX11_courses_4 : decode cX11_courses 4 = .ok (.invokestatic 90, 3) := by decide +kernel
theorem dX11_courses_7 : decode cX11_courses 7 = .ok (.ifCond .eq 13, 3) := by decide +kernel
theorem dX11_courses_10 : decode cX11_courses 10 = .ok (.iload_n 2, 1) := by decide +kernel
theorem dX11_courses_11 : decode cX11_courses 11 = .ok (.iconst 0, 1) := by decide +kernel
theorem dX11_courses_12 : decode cX11_courses 12 = .ok (.bipush 60, 2) := by decide +kernel
theorem dX11_courses_14 : decode cX11_courses 14 = .ok (.invokestatic 90, 3) := by decide +kernel
theorem dX11_courses_17 : decode cX11_courses 17 = .ok (.ifCond .ne 6, 3) := by decide +kernel
theorem dX11_courses_20 : decode cX11_courses 20 = .ok (.bipush (-3), 2) := by decide +kernel
theorem dX11_courses_22 : decode cX11_courses 22 = .ok (.ireturn, 1) := by decide +kernel
theorem dX11_courses_23 : decode cX11_courses 23 = .ok (.aload_n 0, 1) := by decide +kernel
theorem dX11_courses_24 : decode cX11_courses 24 = .ok (.iload_n 1, 1) := by decide +kernel
theorem dX11_courses_25 : decode cX11_courses 25 = .ok (.iload_n 2, 1) := by decide +kernel
theorem dX11_courses_26 : decode cX11_courses 26 = .ok (.iconst 1, 1) := by decide +kernel
theorem dX11_courses_27 : decode cX11_courses 27 = .ok (.invokevirtual 299, 3) := by decide +kernel
theorem dX11_courses_30 : decode cX11_courses 30 = .ok (.lconst 0, 1) := by decide +kernel
theorem dX11_courses_31 : decode cX11_courses 31 = .ok (.lstore_n 3, 1) := by decide +kernel
theorem dX11_courses_32 : decode cX11_courses 32 = .ok (.iconst 0, 1) := by decide +kernel
theorem dX11_courses_33 : decode cX11_courses 33 = .ok (.istore 5, 2) := by decide +kernel
theorem dX11_courses_35 : decode cX11_courses 35 = .ok (.iload 5, 2) := by decide +kernel
theorem dX11_courses_37 : decode cX11_courses 37 = .ok (.aload_n 0, 1) := by decide +kernel
theorem dX11_courses_38 : decode cX11_courses 38 = .ok (.getfield 284, 3) := by decide +kernel
theorem dX11_courses_41 : decode cX11_courses 41 = .ok (.if_icmp .ge 47, 3) := by decide +kernel
theorem dX11_courses_44 : decode cX11_courses 44 = .ok (.lload_n 3, 1) := by decide +kernel
theorem dX11_courses_45 : decode cX11_courses 45 = .ok (.aload_n 0, 1) := by decide +kernel
theorem dX11_courses_46 : decode cX11_courses 46 = .ok (.getfield 42, 3) := by decide +kernel
theorem dX11_courses_49 : decode cX11_courses 49 = .ok (.iload 5, 2) := by decide +kernel
theorem dX11_courses_51 : decode cX11_courses 51 = .ok (.iaload, 1) := by decide +kernel
theorem dX11_courses_52 : decode cX11_courses 52 = .ok (.iload_n 2, 1) := by decide +kernel
theorem dX11_courses_53 : decode cX11_courses 53 = .ok (.if_icmp .gt 26, 3) := by decide +kernel
theorem dX11_courses_56 : decode cX11_courses 56 = .ok (.aload_n 0, 1) := by decide +kernel
theorem dX11_courses_57 : decode cX11_courses 57 = .ok (.getfield 52, 3) := by decide +kernel
theorem dX11_courses_60 : decode cX11_courses 60 = .ok (.sipush 280, 3) := by decide +kernel
theorem dX11_courses_63 : decode cX11_courses 63 = .ok (.aload_n 0, 1) := by decide +kernel
theorem dX11_courses_64 : decode cX11_courses 64 = .ok (.getfield 35, 3) := by decide +kernel
theorem dX11_courses_67 : decode cX11_courses 67 = .ok (.iload 5, 2) := by decide +kernel
theorem dX11_courses_69 : decode cX11_courses 69 = .ok (.iaload, 1) := by decide +kernel
theorem dX11_courses_70 : decode cX11_courses 70 = .ok (.imul, 1) := by decide +kernel
theorem dX11_courses_71 : decode cX11_courses 71 = .ok (.iload 5, 2) := by decide +kernel
theorem dX11_courses_73 : decode cX11_courses 73 = .ok (.iadd, 1) := by decide +kernel
theorem dX11_courses_74 : decode cX11_courses 74 = .ok (.iaload, 1) := by decide +kernel
theorem dX11_courses_75 : decode cX11_courses 75 = .ok (.i2l, 1) := by decide +kernel
theorem dX11_courses_76 : decode cX11_courses 76 = .ok (.goto 4, 3) := by decide +kernel
theorem dX11_courses_79 : decode cX11_courses 79 = .ok (.lconst 0, 1) := by decide +kernel
theorem dX11_courses_80 : decode cX11_courses 80 = .ok (.ladd, 1) := by decide +kernel
theorem dX11_courses_81 : decode cX11_courses 81 = .ok (.lstore_n 3, 1) := by decide +kernel
theorem dX11_courses_82 : decode cX11_courses 82 = .ok (.iinc 5 1, 3) := by decide +kernel
theorem dX11_courses_85 : decode cX11_courses 85 = .ok (.goto (-50), 3) := by decide +kernel
theorem dX11_courses_88 : decode cX11_courses 88 = .ok (.lload_n 3, 1) := by decide +kernel
theorem dX11_courses_89 : decode cX11_courses 89 = .ok (.ldc2_w 297, 3) := by decide +kernel
theorem dX11_courses_92 : decode cX11_courses 92 = .ok (.lrem, 1) := by decide +kernel
theorem dX11_courses_93 : decode cX11_courses 93 = .ok (.l2i, 1) := by decide +kernel
theorem dX11_courses_94 : decode cX11_courses 94 = .ok (.ireturn, 1) := by decide +kernel
abbrev rm_X11_courses : Room := { frames := 6, cells := 0, slots := 0, locals := 143 }
theorem hd_X11_courses : yX11_courses.cls ≠ "java/lang/invoke/MethodHandle" ∧ yX11_courses.cls ≠ "java/lang/invoke/VarHandle" ∧ (parseMethodDescriptor yX11_courses.desc).map (fun d => d.parameters.length) = some 2 := by decide +kernel
def bk_X11_courses_80 (Q : Int32 → (Int32 × (Nat → Int32) × (Nat → Int64) × (Nat → Int32) × (Nat → Int32) × (Nat → Int32) × (Nat → Int32)) → Prop) (B35 : Int64 → Int32 → Prop) (x5 : Int32) (s0 : Int64) (s1 : Int64) : Prop :=
∀ y8 : Int64, y8 = (s1 + s0) →
∀ y9 : Int32, y9 = (x5 + 1) →
B35 y8 y9
def bd_X11_courses_35 (Q : Int32 → (Int32 × (Nat → Int32) × (Nat → Int64) × (Nat → Int32) × (Nat → Int32) × (Nat → Int32) × (Nat → Int32)) → Prop) (B35 : Int64 → Int32 → Prop) (p2 : Int32) (M_folds : Int32) (M_foldSet : Nat → Int32) (M_foldEdges : Nat → Int64) (M_foldNeeds : Nat → Int32) (M_foldYards : Nat → Int32) (M_least : Nat → Int32) (M_ways : Nat → Int32) (xl3 : Int64) (x5 : Int32) : Prop :=
((M_folds ≤ x5 → Q ((xl3 - xl3 / 1000000007 * 1000000007).toInt32) (M_folds, M_foldSet, M_foldEdges, M_foldNeeds, M_foldYards, M_least, M_ways)) ∧
(¬ M_folds ≤ x5 → vp_in x5 280 ∧ ((p2 < (M_foldNeeds x5.toNatClampNeg) → bk_X11_courses_80 Q B35 x5 0 xl3) ∧
(¬ p2 < (M_foldNeeds x5.toNatClampNeg) → vp_in x5 280 ∧ vp_in ((280 * (M_foldSet x5.toNatClampNeg)) + x5) 286720 ∧ bk_X11_courses_80 Q B35 x5 ((M_ways ((280 * (M_foldSet x5.toNatClampNeg)) + x5).toNatClampNeg).toInt64) xl3))))
def lp_X11_courses_35 (Q : Int32 → (Int32 × (Nat → Int32) × (Nat → Int64) × (Nat → Int32) × (Nat → Int32) × (Nat → Int32) × (Nat → Int32)) → Prop) (p2 : Int32) (M_folds : Int32) (M_foldSet : Nat → Int32) (M_foldEdges : Nat → Int64) (M_foldNeeds : Nat → Int32) (M_foldYards : Nat → Int32) (M_least : Nat → Int32) (M_ways : Nat → Int32) (xl3 : Int64) (x5 : Int32) : Prop :=
∃ I : Nat → Int64 → Int32 → Prop, (∃ n, I n xl3 x5) ∧ ∀ n xl3 x5, I n xl3 x5 → bd_X11_courses_35 Q  (fun xl3' x5' => ∃ n', n' < n ∧ I n' xl3' x5') p2 M_folds M_foldSet M_foldEdges M_foldNeeds M_foldYards M_least M_ways xl3 x5
def wp_X11_courses (p1 : Int32) (p2 : Int32) (M_wide : Int32) (M_high : Int32) (M_hedges : Int64) (M_folds : Int32) (M_square : Nat → Int32) (M_foldSet : Nat → Int32) (M_foldEdges : Nat → Int64) (M_foldNeeds : Nat → Int32) (M_foldYards : Nat → Int32) (M_least : Nat → Int32) (M_ways : Nat → Int32) (Q : Int32 → (Int32 × (Nat → Int32) × (Nat → Int64) × (Nat → Int32) × (Nat → Int32) × (Nat → Int32) × (Nat → Int32)) → Prop) : Prop :=
wp_X11_in p1 1 90 (fun (r1 : Int32) => ((r1 = 0 → Q (-3) (M_folds, M_foldSet, M_foldEdges, M_foldNeeds, M_foldYards, M_least, M_ways)) ∧
(¬ r1 = 0 → wp_X11_in p2 0 60 (fun (r3 : Int32) => ((¬ r3 = 0 → wp_X11_layCourses p1 p2 1 M_wide M_high M_hedges M_square M_foldSet M_foldEdges M_foldNeeds M_foldYards M_least M_ways (fun (u5 : Int32 × (Nat → Int32) × (Nat → Int64) × (Nat → Int32) × (Nat → Int32) × (Nat → Int32) × (Nat → Int32)) => lp_X11_courses_35 Q p2 u5.1 u5.2.1 u5.2.2.1 u5.2.2.2.1 u5.2.2.2.2.1 u5.2.2.2.2.2.1 u5.2.2.2.2.2.2 0 0)) ∧
(r3 = 0 → Q (-3) (M_folds, M_foldSet, M_foldEdges, M_foldNeeds, M_foldYards, M_least, M_ways)))))))
set_option maxHeartbeats 4000000 in
set_option maxRecDepth 100000 in
theorem J_X11_courses_80 {x : CX} {D : DG} {cyI cyJ cyZ : ClassId} {a_M a_M_square a_M_want a_M_text a_M_read a_M_row a_M_foldSet a_M_foldEdges a_M_foldNeeds a_M_foldYards a_M_least a_M_ways a_M_price a_M_rowBy a_M_columnBy a_M_rowOf a_M_wayBack a_M_slack a_M_isUsed a_M_lifted a_M_freed a_M_path : Nat} {M_wide : Int32} {M_high : Int32} {M_hedges : Int64} {M_hurdles : Int32} {M_wants : Int32} {M_rest : Int32} {M_frozen : Int32} {M_bytes : Int32} {M_position : Int32} {M_tokenAt : Int32} {M_token : Int64} {M_digits : Int32} {M_number : Int32} {M_faultAt : Int32} {M_readMany : Int32} {M_readWide : Int32} {M_readHigh : Int32} {M_nights : Int32} {M_why : Int32} {M_folds : Int32} {M_square : Nat → Int32} {M_want : Nat → Int32} {M_text : Nat → Int32} {M_read : Nat → Int32} {M_row : Nat → Int32} {M_foldSet : Nat → Int32} {M_foldEdges : Nat → Int64} {M_foldNeeds : Nat → Int32} {M_foldYards : Nat → Int32} {M_least : Nat → Int32} {M_ways : Nat → Int32} {M_price : Nat → Int32} {M_rowBy : Nat → Int32} {M_columnBy : Nat → Int32} {M_rowOf : Nat → Int32} {M_wayBack : Nat → Int32} {M_slack : Nat → Int32} {M_isUsed : Nat → Int32} {M_lifted : Nat → Int32} {M_freed : Nat → Int32} {M_path : Nat → Int32} {p2 : Int32} {x5 : Int32} {s0 : Int64} {s1 : Int64} {Q : Int32 → (Int32 × (Nat → Int32) × (Nat → Int64) × (Nat → Int32) × (Nat → Int32) × (Nat → Int32) × (Nat → Int32)) → Prop} {B35 : Int64 → Int32 → Prop} (cx : Cx x cX11_courses 6 RX11 rm_X11_courses D [(cyI, .int), (cyJ, .long), (cyZ, .boolean)]) (hR : ∀ (v : Int32) (u : Int32 × (Nat → Int32) × (Nat → Int64) × (Nat → Int32) × (Nat → Int32) × (Nat → Int32) × (Nat → Int32)) (pc : Nat) (lv : List (Nat × Value)), decode cX11_courses pc = .ok (.ireturn, 1) → Q v u → J x 0 0 6 (W_Model cyI cyJ cyZ a_M a_M_square a_M_want a_M_text a_M_read a_M_row a_M_foldSet a_M_foldEdges a_M_foldNeeds a_M_foldYards a_M_least a_M_ways a_M_price a_M_rowBy a_M_columnBy a_M_rowOf a_M_wayBack a_M_slack a_M_isUsed a_M_lifted a_M_freed a_M_path M_wide M_high M_hedges M_hurdles M_wants M_rest M_frozen M_bytes M_position M_tokenAt M_token M_digits M_number M_faultAt M_readMany M_readWide M_readHigh M_nights M_why u.1 M_square M_want M_text M_read M_row u.2.1 u.2.2.1 u.2.2.2.1 u.2.2.2.2.1 u.2.2.2.2.2.1 u.2.2.2.2.2.2 M_price M_rowBy M_columnBy M_rowOf M_wayBack M_slack M_isUsed M_lifted M_freed M_path) lv pc [.int v]) (hB35 : ∀ (xl3 : Int64) (x5 : Int32), B35 xl3 x5 → J x 0 0 6 (W_Model cyI cyJ cyZ a_M a_M_square a_M_want a_M_text a_M_read a_M_row a_M_foldSet a_M_foldEdges a_M_foldNeeds a_M_foldYards a_M_least a_M_ways a_M_price a_M_rowBy a_M_columnBy a_M_rowOf a_M_wayBack a_M_slack a_M_isUsed a_M_lifted a_M_freed a_M_path M_wide M_high M_hedges M_hurdles M_wants M_rest M_frozen M_bytes M_position M_tokenAt M_token M_digits M_number M_faultAt M_readMany M_readWide M_readHigh M_nights M_why M_folds M_square M_want M_text M_read M_row M_foldSet M_foldEdges M_foldNeeds M_foldYards M_least M_ways M_price M_rowBy M_columnBy M_rowOf M_wayBack M_slack M_isUsed M_lifted M_freed M_path) [(0, .ref a_M), (2, .int p2), (3, .long xl3), (5, .int x5)] 35 []) (h : bk_X11_courses_80 Q B35 x5 s0 s1) :
    J x 0 0 6 (W_Model cyI cyJ cyZ a_M a_M_square a_M_want a_M_text a_M_read a_M_row a_M_foldSet a_M_foldEdges a_M_foldNeeds a_M_foldYards a_M_least a_M_ways a_M_price a_M_rowBy a_M_columnBy a_M_rowOf a_M_wayBack a_M_slack a_M_isUsed a_M_lifted a_M_freed a_M_path M_wide M_high M_hedges M_hurdles M_wants M_rest M_frozen M_bytes M_position M_tokenAt M_token M_digits M_number M_faultAt M_readMany M_readWide M_readHigh M_nights M_why M_folds M_square M_want M_text M_read M_row M_foldSet M_foldEdges M_foldNeeds M_foldYards M_least M_ways M_price M_rowBy M_columnBy M_rowOf M_wayBack M_slack M_isUsed M_lifted M_freed M_path) [(0, .ref a_M), (2, .int p2), (5, .int x5)] 80 [.long s0, .long s1] := by
  unfold bk_X11_courses_80 at h
  refine j_ladd cx dX11_courses_80 (pn := 81) rfl ?_
  refine j_topl (fun y8 ey8 => ?_)
  have h := h y8 ey8
  refine j_lstore_n cx rfl [(3, .long y8), (0, .ref a_M), (2, .int p2), (5, .int x5)] (by decide) rfl dX11_courses_81 (pn := 82) rfl ?_
  obtain ⟨y9, ey9⟩ : ∃ z : Int32, z = x5 + 1 := ⟨_, rfl⟩
  have h := h y9 ey9
  refine j_iinc cx 3 rfl (cst := 1) (by decide) ey9 [(5, .int y9), (3, .long y8), (0, .ref a_M), (2, .int p2)] (by decide) rfl dX11_courses_82 (pn := 85) rfl ?_
  refine j_goto cx 35 dX11_courses_85 rfl ?_
  refine j_sub [2, 3, 1, 0] [(0, .ref a_M), (2, .int p2), (3, .long y8), (5, .int y9)] rfl ?_
  exact hB35 _ _ h
set_option maxHeartbeats 4000000 in
set_option maxRecDepth 100000 in
theorem B_X11_courses_35 {x : CX} {D : DG} {cyI cyJ cyZ : ClassId} {a_M a_M_square a_M_want a_M_text a_M_read a_M_row a_M_foldSet a_M_foldEdges a_M_foldNeeds a_M_foldYards a_M_least a_M_ways a_M_price a_M_rowBy a_M_columnBy a_M_rowOf a_M_wayBack a_M_slack a_M_isUsed a_M_lifted a_M_freed a_M_path : Nat} {M_wide : Int32} {M_high : Int32} {M_hedges : Int64} {M_hurdles : Int32} {M_wants : Int32} {M_rest : Int32} {M_frozen : Int32} {M_bytes : Int32} {M_position : Int32} {M_tokenAt : Int32} {M_token : Int64} {M_digits : Int32} {M_number : Int32} {M_faultAt : Int32} {M_readMany : Int32} {M_readWide : Int32} {M_readHigh : Int32} {M_nights : Int32} {M_why : Int32} {M_folds : Int32} {M_square : Nat → Int32} {M_want : Nat → Int32} {M_text : Nat → Int32} {M_read : Nat → Int32} {M_row : Nat → Int32} {M_foldSet : Nat → Int32} {M_foldEdges : Nat → Int64} {M_foldNeeds : Nat → Int32} {M_foldYards : Nat → Int32} {M_least : Nat → Int32} {M_ways : Nat → Int32} {M_price : Nat → Int32} {M_rowBy : Nat → Int32} {M_columnBy : Nat → Int32} {M_rowOf : Nat → Int32} {M_wayBack : Nat → Int32} {M_slack : Nat → Int32} {M_isUsed : Nat → Int32} {M_lifted : Nat → Int32} {M_freed : Nat → Int32} {M_path : Nat → Int32} {p2 : Int32} {xl3 : Int64} {x5 : Int32} {Q : Int32 → (Int32 × (Nat → Int32) × (Nat → Int64) × (Nat → Int32) × (Nat → Int32) × (Nat → Int32) × (Nat → Int32)) → Prop} {B35 : Int64 → Int32 → Prop} (cx : Cx x cX11_courses 6 RX11 rm_X11_courses D [(cyI, .int), (cyJ, .long), (cyZ, .boolean)]) (hR : ∀ (v : Int32) (u : Int32 × (Nat → Int32) × (Nat → Int64) × (Nat → Int32) × (Nat → Int32) × (Nat → Int32) × (Nat → Int32)) (pc : Nat) (lv : List (Nat × Value)), decode cX11_courses pc = .ok (.ireturn, 1) → Q v u → J x 0 0 6 (W_Model cyI cyJ cyZ a_M a_M_square a_M_want a_M_text a_M_read a_M_row a_M_foldSet a_M_foldEdges a_M_foldNeeds a_M_foldYards a_M_least a_M_ways a_M_price a_M_rowBy a_M_columnBy a_M_rowOf a_M_wayBack a_M_slack a_M_isUsed a_M_lifted a_M_freed a_M_path M_wide M_high M_hedges M_hurdles M_wants M_rest M_frozen M_bytes M_position M_tokenAt M_token M_digits M_number M_faultAt M_readMany M_readWide M_readHigh M_nights M_why u.1 M_square M_want M_text M_read M_row u.2.1 u.2.2.1 u.2.2.2.1 u.2.2.2.2.1 u.2.2.2.2.2.1 u.2.2.2.2.2.2 M_price M_rowBy M_columnBy M_rowOf M_wayBack M_slack M_isUsed M_lifted M_freed M_path) lv pc [.int v]) (hB35 : ∀ (xl3 : Int64) (x5 : Int32), B35 xl3 x5 → J x 0 0 6 (W_Model cyI cyJ cyZ a_M a_M_square a_M_want a_M_text a_M_read a_M_row a_M_foldSet a_M_foldEdges a_M_foldNeeds a_M_foldYards a_M_least a_M_ways a_M_price a_M_rowBy a_M_columnBy a_M_rowOf a_M_wayBack a_M_slack a_M_isUsed a_M_lifted a_M_freed a_M_path M_wide M_high M_hedges M_hurdles M_wants M_rest M_frozen M_bytes M_position M_tokenAt M_token M_digits M_number M_faultAt M_readMany M_readWide M_readHigh M_nights M_why M_folds M_square M_want M_text M_read M_row M_foldSet M_foldEdges M_foldNeeds M_foldYards M_least M_ways M_price M_rowBy M_columnBy M_rowOf M_wayBack M_slack M_isUsed M_lifted M_freed M_path) [(0, .ref a_M), (2, .int p2), (3, .long xl3), (5, .int x5)] 35 []) (h : bd_X11_courses_35 Q B35 p2 M_folds M_foldSet M_foldEdges M_foldNeeds M_foldYards M_least M_ways xl3 x5) :
    J x 0 0 6 (W_Model cyI cyJ cyZ a_M a_M_square a_M_want a_M_text a_M_read a_M_row a_M_foldSet a_M_foldEdges a_M_foldNeeds a_M_foldYards a_M_least a_M_ways a_M_price a_M_rowBy a_M_columnBy a_M_rowOf a_M_wayBack a_M_slack a_M_isUsed a_M_lifted a_M_freed a_M_path M_wide M_high M_hedges M_hurdles M_wants M_rest M_frozen M_bytes M_position M_tokenAt M_token M_digits M_number M_faultAt M_readMany M_readWide M_readHigh M_nights M_why M_folds M_square M_want M_text M_read M_row M_foldSet M_foldEdges M_foldNeeds M_foldYards M_least M_ways M_price M_rowBy M_columnBy M_rowOf M_wayBack M_slack M_isUsed M_lifted M_freed M_path) [(0, .ref a_M), (2, .int p2), (3, .long xl3), (5, .int x5)] 35 [] := by
  unfold bd_X11_courses_35 at h
  refine j_iload cx 3 rfl dX11_courses_35 (pn := 37) rfl ?_
  refine j_aload_n cx 0 rfl rfl dX11_courses_37 (pn := 38) rfl ?_
  refine j_get cx inGX11 0 rfl rfl 24 (by decide) q_fl_X11_284 rfl rfl dX11_courses_38 (pn := 41) rfl ?_
  refine j_icmp_ge cx 88 dX11_courses_41 (pn := 44) rfl rfl (fun c6 => ?_) (fun c6 => ?_)
  · have h := h.1 c6
    refine j_lload_n cx 2 rfl rfl dX11_courses_88 (pn := 89) rfl ?_
    refine j_ldc2 cx q_cl_X11_297 dX11_courses_89 (pn := 92) rfl ?_
    refine j_lrem cx (by decide) dX11_courses_92 (pn := 93) rfl ?_
    refine j_l2i cx dX11_courses_93 (pn := 94) rfl ?_
    exact hR ((xl3 - xl3 / 1000000007 * 1000000007).toInt32) (M_folds, M_foldSet, M_foldEdges, M_foldNeeds, M_foldYards, M_least, M_ways) 94 _ dX11_courses_94 h
  · have h := h.2 c6
    refine j_lload_n cx 2 rfl rfl dX11_courses_44 (pn := 45) rfl ?_
    refine j_aload_n cx 0 rfl rfl dX11_courses_45 (pn := 46) rfl ?_
    refine j_get cx inGX11 0 rfl rfl 27 (by decide) q_fl_X11_42 rfl rfl dX11_courses_46 (pn := 49) rfl ?_
    refine j_iload cx 3 rfl dX11_courses_49 (pn := 51) rfl ?_
    refine j_iald cx 8 0 rfl rfl h.1 dX11_courses_51 (pn := 52) rfl ?_
    have h := h.2
    refine j_iload_n cx 1 rfl rfl dX11_courses_52 (pn := 53) rfl ?_
    refine j_icmp_gt cx 79 dX11_courses_53 (pn := 56) rfl rfl (fun c7 => ?_) (fun c7 => ?_)
    · have h := h.1 c7
      refine j_lconst cx (v := 0) (by decide) dX11_courses_79 (pn := 80) rfl ?_
      refine j_sub [0, 1, 3] [(0, .ref a_M), (2, .int p2), (5, .int x5)] rfl ?_
      exact J_X11_courses_80 cx hR hB35 h
    · have h := h.2 c7
      refine j_aload_n cx 0 rfl rfl dX11_courses_56 (pn := 57) rfl ?_
      refine j_get cx inGX11 0 rfl rfl 30 (by decide) q_fl_X11_52 rfl rfl dX11_courses_57 (pn := 60) rfl ?_
      refine j_sipush cx (v := 280) (by decide) dX11_courses_60 (pn := 63) rfl ?_
      refine j_aload_n cx 0 rfl rfl dX11_courses_63 (pn := 64) rfl ?_
      refine j_get cx inGX11 0 rfl rfl 25 (by decide) q_fl_X11_35 rfl rfl dX11_courses_64 (pn := 67) rfl ?_
      refine j_iload cx 3 rfl dX11_courses_67 (pn := 69) rfl ?_
      refine j_iald cx 6 0 rfl rfl h.1 dX11_courses_69 (pn := 70) rfl ?_
      have h := h.2
      refine j_imul cx dX11_courses_70 (pn := 71) rfl ?_
      refine j_iload cx 3 rfl dX11_courses_71 (pn := 73) rfl ?_
      refine j_iadd cx dX11_courses_73 (pn := 74) rfl ?_
      refine j_iald cx 11 0 rfl rfl h.1 dX11_courses_74 (pn := 75) rfl ?_
      have h := h.2
      refine j_i2l cx dX11_courses_75 (pn := 76) rfl ?_
      refine j_goto cx 80 dX11_courses_76 rfl ?_
      refine j_sub [0, 1, 3] [(0, .ref a_M), (2, .int p2), (5, .int x5)] rfl ?_
      exact J_X11_courses_80 cx hR hB35 h
set_option maxHeartbeats 4000000 in
set_option maxRecDepth 100000 in
theorem J_X11_courses_35 {x : CX} {D : DG} {cyI cyJ cyZ : ClassId} {a_M a_M_square a_M_want a_M_text a_M_read a_M_row a_M_foldSet a_M_foldEdges a_M_foldNeeds a_M_foldYards a_M_least a_M_ways a_M_price a_M_rowBy a_M_columnBy a_M_rowOf a_M_wayBack a_M_slack a_M_isUsed a_M_lifted a_M_freed a_M_path : Nat} {M_wide : Int32} {M_high : Int32} {M_hedges : Int64} {M_hurdles : Int32} {M_wants : Int32} {M_rest : Int32} {M_frozen : Int32} {M_bytes : Int32} {M_position : Int32} {M_tokenAt : Int32} {M_token : Int64} {M_digits : Int32} {M_number : Int32} {M_faultAt : Int32} {M_readMany : Int32} {M_readWide : Int32} {M_readHigh : Int32} {M_nights : Int32} {M_why : Int32} {M_folds : Int32} {M_square : Nat → Int32} {M_want : Nat → Int32} {M_text : Nat → Int32} {M_read : Nat → Int32} {M_row : Nat → Int32} {M_foldSet : Nat → Int32} {M_foldEdges : Nat → Int64} {M_foldNeeds : Nat → Int32} {M_foldYards : Nat → Int32} {M_least : Nat → Int32} {M_ways : Nat → Int32} {M_price : Nat → Int32} {M_rowBy : Nat → Int32} {M_columnBy : Nat → Int32} {M_rowOf : Nat → Int32} {M_wayBack : Nat → Int32} {M_slack : Nat → Int32} {M_isUsed : Nat → Int32} {M_lifted : Nat → Int32} {M_freed : Nat → Int32} {M_path : Nat → Int32} {p2 : Int32} {xl3 : Int64} {x5 : Int32} {Q : Int32 → (Int32 × (Nat → Int32) × (Nat → Int64) × (Nat → Int32) × (Nat → Int32) × (Nat → Int32) × (Nat → Int32)) → Prop} (cx : Cx x cX11_courses 6 RX11 rm_X11_courses D [(cyI, .int), (cyJ, .long), (cyZ, .boolean)]) (hR : ∀ (v : Int32) (u : Int32 × (Nat → Int32) × (Nat → Int64) × (Nat → Int32) × (Nat → Int32) × (Nat → Int32) × (Nat → Int32)) (pc : Nat) (lv : List (Nat × Value)), decode cX11_courses pc = .ok (.ireturn, 1) → Q v u → J x 0 0 6 (W_Model cyI cyJ cyZ a_M a_M_square a_M_want a_M_text a_M_read a_M_row a_M_foldSet a_M_foldEdges a_M_foldNeeds a_M_foldYards a_M_least a_M_ways a_M_price a_M_rowBy a_M_columnBy a_M_rowOf a_M_wayBack a_M_slack a_M_isUsed a_M_lifted a_M_freed a_M_path M_wide M_high M_hedges M_hurdles M_wants M_rest M_frozen M_bytes M_position M_tokenAt M_token M_digits M_number M_faultAt M_readMany M_readWide M_readHigh M_nights M_why u.1 M_square M_want M_text M_read M_row u.2.1 u.2.2.1 u.2.2.2.1 u.2.2.2.2.1 u.2.2.2.2.2.1 u.2.2.2.2.2.2 M_price M_rowBy M_columnBy M_rowOf M_wayBack M_slack M_isUsed M_lifted M_freed M_path) lv pc [.int v]) (h : lp_X11_courses_35 Q  p2 M_folds M_foldSet M_foldEdges M_foldNeeds M_foldYards M_least M_ways xl3 x5) :
    J x 0 0 6 (W_Model cyI cyJ cyZ a_M a_M_square a_M_want a_M_text a_M_read a_M_row a_M_foldSet a_M_foldEdges a_M_foldNeeds a_M_foldYards a_M_least a_M_ways a_M_price a_M_rowBy a_M_columnBy a_M_rowOf a_M_wayBack a_M_slack a_M_isUsed a_M_lifted a_M_freed a_M_path M_wide M_high M_hedges M_hurdles M_wants M_rest M_frozen M_bytes M_position M_tokenAt M_token M_digits M_number M_faultAt M_readMany M_readWide M_readHigh M_nights M_why M_folds M_square M_want M_text M_read M_row M_foldSet M_foldEdges M_foldNeeds M_foldYards M_least M_ways M_price M_rowBy M_columnBy M_rowOf M_wayBack M_slack M_isUsed M_lifted M_freed M_path) [(0, .ref a_M), (2, .int p2), (3, .long xl3), (5, .int x5)] 35 [] := by
  obtain ⟨I, ⟨n, h0⟩, hb⟩ := h
  revert xl3 x5
  induction n using Nat.strongRecOn with
  | _ n ih =>
    intro xl3 x5 h0
    exact B_X11_courses_35 cx hR (fun _ _ hz => by obtain ⟨n2, hlt, hI⟩ := hz; exact ih n2 hlt hI) (hb n xl3 x5 h0)
set_option maxHeartbeats 4000000 in
set_option maxRecDepth 100000 in
theorem c_X11_courses {D : DG} {cyI cyJ cyZ : ClassId} {a_M a_M_square a_M_want a_M_text a_M_read a_M_row a_M_foldSet a_M_foldEdges a_M_foldNeeds a_M_foldYards a_M_least a_M_ways a_M_price a_M_rowBy a_M_columnBy a_M_rowOf a_M_wayBack a_M_slack a_M_isUsed a_M_lifted a_M_freed a_M_path : Nat} {M_wide : Int32} {M_high : Int32} {M_hedges : Int64} {M_hurdles : Int32} {M_wants : Int32} {M_rest : Int32} {M_frozen : Int32} {M_bytes : Int32} {M_position : Int32} {M_tokenAt : Int32} {M_token : Int64} {M_digits : Int32} {M_number : Int32} {M_faultAt : Int32} {M_readMany : Int32} {M_readWide : Int32} {M_readHigh : Int32} {M_nights : Int32} {M_why : Int32} {M_folds : Int32} {M_square : Nat → Int32} {M_want : Nat → Int32} {M_text : Nat → Int32} {M_read : Nat → Int32} {M_row : Nat → Int32} {M_foldSet : Nat → Int32} {M_foldEdges : Nat → Int64} {M_foldNeeds : Nat → Int32} {M_foldYards : Nat → Int32} {M_least : Nat → Int32} {M_ways : Nat → Int32} {M_price : Nat → Int32} {M_rowBy : Nat → Int32} {M_columnBy : Nat → Int32} {M_rowOf : Nat → Int32} {M_wayBack : Nat → Int32} {M_slack : Nat → Int32} {M_isUsed : Nat → Int32} {M_lifted : Nat → Int32} {M_freed : Nat → Int32} {M_path : Nat → Int32} {p1 : Int32} {p2 : Int32} {Q : Int32 → (Int32 × (Nat → Int32) × (Nat → Int64) × (Nat → Int32) × (Nat → Int32) × (Nat → Int32) × (Nat → Int32)) → Prop} (h : wp_X11_courses p1 p2 M_wide M_high M_hedges M_folds M_square M_foldSet M_foldEdges M_foldNeeds M_foldYards M_least M_ways Q) :
    MetI yX11_courses cX11_courses 6 (some .int) rm_X11_courses D [(cyI, .int), (cyJ, .long), (cyZ, .boolean)] [.ref a_M, .int p1, .int p2] (W_Model cyI cyJ cyZ a_M a_M_square a_M_want a_M_text a_M_read a_M_row a_M_foldSet a_M_foldEdges a_M_foldNeeds a_M_foldYards a_M_least a_M_ways a_M_price a_M_rowBy a_M_columnBy a_M_rowOf a_M_wayBack a_M_slack a_M_isUsed a_M_lifted a_M_freed a_M_path M_wide M_high M_hedges M_hurdles M_wants M_rest M_frozen M_bytes M_position M_tokenAt M_token M_digits M_number M_faultAt M_readMany M_readWide M_readHigh M_nights M_why M_folds M_square M_want M_text M_read M_row M_foldSet M_foldEdges M_foldNeeds M_foldYards M_least M_ways M_price M_rowBy M_columnBy M_rowOf M_wayBack M_slack M_isUsed M_lifted M_freed M_path) (fun u : Int32 × (Nat → Int32) × (Nat → Int64) × (Nat → Int32) × (Nat → Int32) × (Nat → Int32) × (Nat → Int32) => (W_Model cyI cyJ cyZ a_M a_M_square a_M_want a_M_text a_M_read a_M_row a_M_foldSet a_M_foldEdges a_M_foldNeeds a_M_foldYards a_M_least a_M_ways a_M_price a_M_rowBy a_M_columnBy a_M_rowOf a_M_wayBack a_M_slack a_M_isUsed a_M_lifted a_M_freed a_M_path M_wide M_high M_hedges M_hurdles M_wants M_rest M_frozen M_bytes M_position M_tokenAt M_token M_digits M_number M_faultAt M_readMany M_readWide M_readHigh M_nights M_why u.1 M_square M_want M_text M_read M_row u.2.1 u.2.2.1 u.2.2.2.1 u.2.2.2.2.1 u.2.2.2.2.2.1 u.2.2.2.2.2.2 M_price M_rowBy M_columnBy M_rowOf M_wayBack M_slack M_isUsed M_lifted M_freed M_path)) (fun v u => Q v u) := by
  unfold wp_X11_courses at h
  refine metI_of (by decide) (Nat.le_of_ble_eq_true rfl) (fun x cx0 hR0 => ?_)
  have cx : Cx x cX11_courses 6 RX11 rm_X11_courses D [(cyI, .int), (cyJ, .long), (cyZ, .boolean)] := cx0
  have hR : ∀ (v : Int32) (u : Int32 × (Nat → Int32) × (Nat → Int64) × (Nat → Int32) × (Nat → Int32) × (Nat → Int32) × (Nat → Int32)) (pc : Nat) (lv : List (Nat × Value)), decode cX11_courses pc = .ok (.ireturn, 1) → Q v u → J x 0 0 6 (W_Model cyI cyJ cyZ a_M a_M_square a_M_want a_M_text a_M_read a_M_row a_M_foldSet a_M_foldEdges a_M_foldNeeds a_M_foldYards a_M_least a_M_ways a_M_price a_M_rowBy a_M_columnBy a_M_rowOf a_M_wayBack a_M_slack a_M_isUsed a_M_lifted a_M_freed a_M_path M_wide M_high M_hedges M_hurdles M_wants M_rest M_frozen M_bytes M_position M_tokenAt M_token M_digits M_number M_faultAt M_readMany M_readWide M_readHigh M_nights M_why u.1 M_square M_want M_text M_read M_row u.2.1 u.2.2.1 u.2.2.2.1 u.2.2.2.2.1 u.2.2.2.2.2.1 u.2.2.2.2.2.2 M_price M_rowBy M_columnBy M_rowOf M_wayBack M_slack M_isUsed M_lifted M_freed M_path) lv pc [.int v] := (fun v u pc lv d hq => hR0 v u pc lv d hq)
  show J x 0 0 6 (W_Model cyI cyJ cyZ a_M a_M_square a_M_want a_M_text a_M_read a_M_row a_M_foldSet a_M_foldEdges a_M_foldNeeds a_M_foldYards a_M_least a_M_ways a_M_price a_M_rowBy a_M_columnBy a_M_rowOf a_M_wayBack a_M_slack a_M_isUsed a_M_lifted a_M_freed a_M_path M_wide M_high M_hedges M_hurdles M_wants M_rest M_frozen M_bytes M_position M_tokenAt M_token M_digits M_number M_faultAt M_readMany M_readWide M_readHigh M_nights M_why M_folds M_square M_want M_text M_read M_row M_foldSet M_foldEdges M_foldNeeds M_foldYards M_least M_ways M_price M_rowBy M_columnBy M_rowOf M_wayBack M_slack M_isUsed M_lifted M_freed M_path) [(0, .ref a_M), (1, .int p1), (2, .int p2)] 0 []
  refine j_iload_n cx 1 rfl rfl dX11_courses_0 (pn := 1) rfl ?_
  refine j_iconst cx (v := 1) (by decide) dX11_courses_1 (pn := 2) rfl ?_
  refine j_bipush cx (v := 90) (by decide) dX11_courses_2 (pn := 4) rfl ?_
  refine j_calleI cx q_stat_X11_in (As := [.int p1, .int 1, .int 90]) (rest := []) (c_X11_in h) ⟨q_code_X11_in, q_ml_X11_90, q_init_X11, hd_X11_in, ⟨Nat.le_of_ble_eq_true rfl, Nat.le_of_ble_eq_true rfl⟩, Nat.le_of_ble_eq_true rfl, Nat.le_of_ble_eq_true rfl⟩ rfl rfl (Nat.le_of_ble_eq_true rfl) dX11_courses_4 (pn := 7) rfl (fun r1 h => ?_)
  show J x 0 0 6 (W_Model cyI cyJ cyZ a_M a_M_square a_M_want a_M_text a_M_read a_M_row a_M_foldSet a_M_foldEdges a_M_foldNeeds a_M_foldYards a_M_least a_M_ways a_M_price a_M_rowBy a_M_columnBy a_M_rowOf a_M_wayBack a_M_slack a_M_isUsed a_M_lifted a_M_freed a_M_path M_wide M_high M_hedges M_hurdles M_wants M_rest M_frozen M_bytes M_position M_tokenAt M_token M_digits M_number M_faultAt M_readMany M_readWide M_readHigh M_nights M_why M_folds M_square M_want M_text M_read M_row M_foldSet M_foldEdges M_foldNeeds M_foldYards M_least M_ways M_price M_rowBy M_columnBy M_rowOf M_wayBack M_slack M_isUsed M_lifted M_freed M_path) [(0, .ref a_M), (1, .int p1), (2, .int p2)] 7 [.int r1]
  refine j_if_eq cx 20 dX11_courses_7 (pn := 10) rfl rfl (fun c2 => ?_) (fun c2 => ?_)
  · have h := h.1 c2
    refine j_bipush cx (v := (-3)) (by decide) dX11_courses_20 (pn := 22) rfl ?_
    exact hR (-3) (M_folds, M_foldSet, M_foldEdges, M_foldNeeds, M_foldYards, M_least, M_ways) 22 _ dX11_courses_22 h
  · have h := h.2 c2
    refine j_iload_n cx 2 rfl rfl dX11_courses_10 (pn := 11) rfl ?_
    refine j_iconst cx (v := 0) (by decide) dX11_courses_11 (pn := 12) rfl ?_
    refine j_bipush cx (v := 60) (by decide) dX11_courses_12 (pn := 14) rfl ?_
    refine j_calleI cx q_stat_X11_in (As := [.int p2, .int 0, .int 60]) (rest := []) (c_X11_in h) ⟨q_code_X11_in, q_ml_X11_90, q_init_X11, hd_X11_in, ⟨Nat.le_of_ble_eq_true rfl, Nat.le_of_ble_eq_true rfl⟩, Nat.le_of_ble_eq_true rfl, Nat.le_of_ble_eq_true rfl⟩ rfl rfl (Nat.le_of_ble_eq_true rfl) dX11_courses_14 (pn := 17) rfl (fun r3 h => ?_)
    show J x 0 0 6 (W_Model cyI cyJ cyZ a_M a_M_square a_M_want a_M_text a_M_read a_M_row a_M_foldSet a_M_foldEdges a_M_foldNeeds a_M_foldYards a_M_least a_M_ways a_M_price a_M_rowBy a_M_columnBy a_M_rowOf a_M_wayBack a_M_slack a_M_isUsed a_M_lifted a_M_freed a_M_path M_wide M_high M_hedges M_hurdles M_wants M_rest M_frozen M_bytes M_position M_tokenAt M_token M_digits M_number M_faultAt M_readMany M_readWide M_readHigh M_nights M_why M_folds M_square M_want M_text M_read M_row M_foldSet M_foldEdges M_foldNeeds M_foldYards M_least M_ways M_price M_rowBy M_columnBy M_rowOf M_wayBack M_slack M_isUsed M_lifted M_freed M_path) [(0, .ref a_M), (1, .int p1), (2, .int p2)] 17 [.int r3]
    refine j_if_ne cx 23 dX11_courses_17 (pn := 20) rfl rfl (fun c4 => ?_) (fun c4 => ?_)
    · have h := h.1 c4
      refine j_aload_n cx 0 rfl rfl dX11_courses_23 (pn := 24) rfl ?_
      refine j_iload_n cx 1 rfl rfl dX11_courses_24 (pn := 25) rfl ?_
      refine j_iload_n cx 2 rfl rfl dX11_courses_25 (pn := 26) rfl ?_
      refine j_iconst cx (v := 1) (by decide) dX11_courses_26 (pn := 27) rfl ?_
      refine j_callvV0 cx q_inst_X11_layCourses q_sel_X11_layCourses (b := a_M) (As := [.int p1, .int p2, .int 1]) (rest := []) (c_X11_layCourses h) ⟨q_code_X11_layCourses, q_ml_X11_299, q_init_X11, hd_X11_layCourses, ⟨Nat.le_of_ble_eq_true rfl, Nat.le_of_ble_eq_true rfl⟩, Nat.le_of_ble_eq_true rfl, Nat.le_of_ble_eq_true rfl⟩ (q0 := 0) rfl rfl rfl rfl (Nat.le_of_ble_eq_true rfl) dX11_courses_27 (pn := 30) rfl (fun u5 h => ?_)
      show J x 0 0 6 (W_Model cyI cyJ cyZ a_M a_M_square a_M_want a_M_text a_M_read a_M_row a_M_foldSet a_M_foldEdges a_M_foldNeeds a_M_foldYards a_M_least a_M_ways a_M_price a_M_rowBy a_M_columnBy a_M_rowOf a_M_wayBack a_M_slack a_M_isUsed a_M_lifted a_M_freed a_M_path M_wide M_high M_hedges M_hurdles M_wants M_rest M_frozen M_bytes M_position M_tokenAt M_token M_digits M_number M_faultAt M_readMany M_readWide M_readHigh M_nights M_why u5.1 M_square M_want M_text M_read M_row u5.2.1 u5.2.2.1 u5.2.2.2.1 u5.2.2.2.2.1 u5.2.2.2.2.2.1 u5.2.2.2.2.2.2 M_price M_rowBy M_columnBy M_rowOf M_wayBack M_slack M_isUsed M_lifted M_freed M_path) [(0, .ref a_M), (1, .int p1), (2, .int p2)] 30 []
      refine j_lconst cx (v := 0) (by decide) dX11_courses_30 (pn := 31) rfl ?_
      refine j_lstore_n cx rfl [(3, .long 0), (0, .ref a_M), (1, .int p1), (2, .int p2)] (by decide) rfl dX11_courses_31 (pn := 32) rfl ?_
      refine j_iconst cx (v := 0) (by decide) dX11_courses_32 (pn := 33) rfl ?_
      refine j_istore cx [(5, .int 0), (3, .long 0), (0, .ref a_M), (1, .int p1), (2, .int p2)] (by decide) rfl dX11_courses_33 (pn := 35) rfl ?_
      refine j_sub [2, 4, 1, 0] [(0, .ref a_M), (2, .int p2), (3, .long 0), (5, .int 0)] rfl ?_
      exact J_X11_courses_35 cx hR h
    · have h := h.2 c4
      refine j_bipush cx (v := (-3)) (by decide) dX11_courses_20 (pn := 22) rfl ?_
      exact hR (-3) (M_folds, M_foldSet, M_foldEdges, M_foldNeeds, M_foldYards, M_least, M_ways) 22 _ dX11_courses_22 h
theorem dX11_round_0 : decode cX11_round 0 = .ok (.iload_n 1, 1) := by decide +kernel
theorem dX11_round_1 : decode cX11_round 1 = .ok (.iconst 1, 1) := by decide +kernel
theorem dX11_round_2 : decode cX11_round 2 = .ok (.bipush 90, 2) := by decide +kernel
theorem dX11_round_4 : decode cX11_round 4 = .ok (.invokestatic 90, 3) := by decide +kernel
theorem dX11_round_7 : decode cX11_round 7 = .ok (.ifCond .ne 6, 3) := by decide +kernel
theorem dX11_round_10 : decode cX11_round 10 = .ok (.bipush (-3), 2) := by decide +kernel
theorem dX11_round_12 : decode cX11_round 12 = .ok (.ireturn, 1) := by decide +kernel
theorem dX11_round_13 : decode cX11_round 13 = .ok (.aload_n 0, 1) := by decide +kernel
theorem dX11_round_14 : decode cX11_round 14 = .ok (.iload_n 1, 1) := by decide +kernel
theorem dX11_round_15 : decode cX11_round 15 = .ok (.invokevirtual 303, 3) := by decide +kernel
theorem dX11_round_18 : decode cX11_round 18 = .ok (.istore_n 2, 1) := by decide +kernel
theorem dX11_round_19 : decode cX11_round 19 = .ok (.iconst 0, 1) := by decide +kernel
theorem dX11_round_20 : decode cX11_round 20 = .ok (.istore_n 3, 1) := by decide +kernel
theorem dX11_round_21 : decode cX11_round 21 = .ok (.iload_n 3, 1) := by decide +kernel
theorem dX11_round_22 : decode cX11_round 22 = .ok (.bipush 10, 2) := by decide +kernel
theorem dX11_round_24 : decode cX11_round 24 = .ok (.if_icmp .ge 48, 3) := by decide +kernel
theorem dX11_round_27 : decode cX11_round 27 = .ok (.aload_n 0, 1) := by decide +kernel
theorem dX11_round_28 : decode cX11_round 28 = .ok (.getfield 83, 3) := by decide +kernel
theorem dX11_round_31 : decode cX11_round 31 = .ok (.iload_n 3, 1) := by decide +kernel
theorem dX11_round_32 : decode cX11_round 32 = .ok (.aload_n 0, 1) := by decide +kernel
theorem dX11_round_33 : decode cX11_round 33 = .ok (.getfield 16, 3) := by decide +kernel
theorem dX11_round_36 : decode cX11_round 36 = .ok (.iload_n 3, 1) := by decide +kernel
theorem dX11_round_37 : decode cX11_round 37 = .ok (.iaload, 1) := by decide +kernel
theorem dX11_round_38 : decode cX11_round 38 = .ok (.iastore, 1) := by decide +kernel
theorem dX11_round_39 : decode cX11_round 39 = .ok (.aload_n 0, 1) := by decide +kernel
theorem dX11_round_40 : decode cX11_round 40 = .ok (.getfield 16, 3) := by decide +kernel
theorem dX11_round_43 : decode cX11_round 43 = .ok (.iload_n 3, 1) := by decide +kernel
theorem dX11_round_44 : decode cX11_round 44 = .ok (.aload_n 0, 1) := by decide +kernel
theorem dX11_round_45 : decode cX11_round 45 = .ok (.getfield 16, 3) := by decide +kernel
theorem dX11_round_48 : decode cX11_round 48 = .ok (.iload_n 3, 1) := by decide +kernel
theorem dX11_round_49 : decode cX11_round 49 = .ok (.iaload, 1) := by decide +kernel
theorem dX11_round_50 : decode cX11_round 50 = .ok (.bipush 9, 2) := by decide +kernel
theorem dX11_round_52 : decode cX11_round 52 = .ok (.if_icmp .le 7, 3) := by decide +kernel
theorem dX11_round_55 : decode cX11_round 55 = .ok (.iconst 0, 1) := by decide +kernel
theorem dX11_round_56 : decode cX11_round 56 = .ok (.goto 9, 3) := by decide +kernel
theorem dX11_round_59 : decode cX11_round 59 = .ok (.aload_n 0, 1) := by decide +kernel
theorem dX11_round_60 : decode cX11_round 60 = .ok (.getfield 16, 3) := by decide +kernel
theorem dX11_round_63 : decode cX11_round 63 = .ok (.iload_n 3, 1) := by decide +kernel
theorem dX11_round_64 : decode cX11_round 64 = .ok (.iaload, 1) := by decide +kernel
theorem dX11_round_65 : decode cX11_round 65 = .ok (.iastore, 1) := by decide +kernel
theorem dX11_round_66 : decode cX11_round 66 = .ok (.iinc 3 1, 3) := by decide +kernel
theorem dX11_round_69 : decode cX11_round 69 = .ok (.goto (-48), 3) := by decide +kernel
theorem dX11_round_72 : decode cX11_round 72 = .ok (.aload_n 0, 1) := by decide +kernel
theorem dX11_round_73 : decode cX11_round 73 = .ok (.iload_n 1, 1) := by decide +kernel
theorem dX11_round_74 : decode cX11_round 74 = .ok (.invokevirtual 303, 3) := by decide +kernel
theorem dX11_round_77 : decode cX11_round 77 = .ok (.istore_n 3, 1) := by decide +kernel
theorem dX11_round_78 : decode cX11_round 78 = .ok (.iconst 0, 1) := by decide +kernel
theorem dX11_round_79 : decode cX11_round 79 = .ok (.istore 4, 2) := by decide +kernel
theorem dX11_round_81 : decode cX11_round 81 = .ok (.iload 4, 2) := by decide +kernel
theorem dX11_round_83 : decode cX11_round 83 = .ok (.bipush 10, 2) := by decide +kernel
theorem dX11_round_85 : decode cX11_round 85 = .ok (.if_icmp .ge 23, 3) := by decide +kernel
theorem dX11_round_88 : decode cX11_round 88 = .ok (.aload_n 0, 1) := by decide +kernel
theorem dX11_round_89 : decode cX11_round 89 = .ok (.getfield 16, 3) := by decide +kernel
theorem dX11_round_92 : decode cX11_round 92 = .ok (.iload 4, 2) := by decide +kernel
theorem dX11_round_94 : decode cX11_round 94 = .ok (.aload_n 0, 1) := by decide +kernel
theorem dX11_round_95 : decode cX11_round 95 = .ok (.getfield 83, 3) := by decide +kernel
theorem dX11_round_98 : decode cX11_round 98 = .ok (.iload 4, 2) := by decide +kernel
theorem dX11_round_100 : decode cX11_round 100 = .ok (.iaload, 1) := by decide +kernel
theorem dX11_round_101 : decode cX11_round 101 = .ok (.iastore, 1) := by decide +kernel
theorem dX11_round_102 : decode cX11_round 102 = .ok (.iinc 4 1, 3) := by decide +kernel
theorem dX11_round_105 : decode cX11_round 105 = .ok (.goto (-24), 3) := by decide +kernel
theorem dX11_round_108 : decode cX11_round 108 = .ok (.iload_n 2, 1) := by decide +kernel
theorem dX11_round_109 : decode cX11_round 109 = .ok (.iconst (-1), 1) := by decide +kernel
theorem dX11_round_110 : decode cX11_round 110 = .ok (.if_icmp .eq 8, 3) := by decide +kernel
theorem dX11_round_113 : decode cX11_round 113 = .ok (.iload_n 3, 1) := by decide +kernel
theorem dX11_round_114 : decode cX11_round 114 = .ok (.iconst (-1), 1) := by decide +kernel
theorem dX11_round_115 : decode cX11_round 115 = .ok (.if_icmp .ne 7, 3) := by decide +kernel
theorem dX11_round_118 : decode cX11_round 118 = .ok (.iconst (-1), 1) := by decide +kernel
theorem dX11_round_119 : decode cX11_round 119 = .ok (.goto 9, 3) := by decide +kernel
theorem dX11_round_122 : decode cX11_round 122 = .ok (.iload_n 2, 1) := by decide +kernel
theorem dX11_round_123 : decode cX11_round 123 = .ok (.iload_n 3, 1) := by decide +kernel
theorem dX11_round_124 : decode cX11_round 124 = .ok (.isub, 1) := by decide +kernel
theorem dX11_round_125 : decode cX11_round 125 = .ok (.bipush 100, 2) := by decide +kernel
theorem dX11_round_127 : decode cX11_round 127 = .ok (.iadd, 1) := by decide +kernel
theorem dX11_round_128 : decode cX11_round 128 = .ok (.ireturn, 1) := by decide +kernel
abbrev rm_X11_round : Room := { frames := 7, cells := 0, slots := 0, locals := 167 }
theorem hd_X11_round : yX11_round.cls ≠ "java/lang/invoke/MethodHandle" ∧ yX11_round.cls ≠ "java/lang/invoke/VarHandle" ∧ (parseMethodDescriptor yX11_round.desc).map (fun d => d.parameters.length) = some 1 := by decide +kernel
def bk_X11_round_118 (Q : Int32 → (Int32 × (Nat → Int32) × (Nat → Int32) × (Nat → Int64) × (Nat → Int32) × (Nat → Int32) × (Nat → Int32) × (Nat → Int32) × (Nat → Int32)) → Prop) (M_folds : Int32) (M_square : Nat → Int32) (M_foldSet : Nat → Int32) (M_foldEdges : Nat → Int64) (M_foldNeeds : Nat → Int32) (M_foldYards : Nat → Int32) (M_least : Nat → Int32) (M_ways : Nat → Int32) (M_path : Nat → Int32) : Prop :=
Q (-1) (M_folds, M_square, M_foldSet, M_foldEdges, M_foldNeeds, M_foldYards, M_least, M_ways, M_path)
def bd_X11_round_81 (Q : Int32 → (Int32 × (Nat → Int32) × (Nat → Int32) × (Nat → Int64) × (Nat → Int32) × (Nat → Int32) × (Nat → Int32) × (Nat → Int32) × (Nat → Int32)) → Prop) (B81 : (Nat → Int32) → Int32 → Prop) (x2 : Int32) (x3 : Int32) (M_folds : Int32) (M_foldSet : Nat → Int32) (M_foldEdges : Nat → Int64) (M_foldNeeds : Nat → Int32) (M_foldYards : Nat → Int32) (M_least : Nat → Int32) (M_ways : Nat → Int32) (M_path : Nat → Int32) (M_square : Nat → Int32) (x4 : Int32) : Prop :=
((10 ≤ x4 → ((x2 = (-1) → bk_X11_round_118 Q M_folds M_square M_foldSet M_foldEdges M_foldNeeds M_foldYards M_least M_ways M_path) ∧
(¬ x2 = (-1) → ((¬ x3 = (-1) → Q ((x2 - x3) + 100) (M_folds, M_square, M_foldSet, M_foldEdges, M_foldNeeds, M_foldYards, M_least, M_ways, M_path)) ∧
(x3 = (-1) → bk_X11_round_118 Q M_folds M_square M_foldSet M_foldEdges M_foldNeeds M_foldYards M_least M_ways M_path))))) ∧
(¬ 10 ≤ x4 → vp_in x4 10 ∧ (∀ y11 : Int32, y11 = (M_path x4.toNatClampNeg) →
vp_in x4 10 ∧ (∀ f12 : Nat → Int32, f12 = (upd M_square x4.toNatClampNeg y11) →
∀ y13 : Int32, y13 = (x4 + 1) →
B81 f12 y13))))
def lp_X11_round_81 (Q : Int32 → (Int32 × (Nat → Int32) × (Nat → Int32) × (Nat → Int64) × (Nat → Int32) × (Nat → Int32) × (Nat → Int32) × (Nat → Int32) × (Nat → Int32)) → Prop) (x2 : Int32) (x3 : Int32) (M_folds : Int32) (M_foldSet : Nat → Int32) (M_foldEdges : Nat → Int64) (M_foldNeeds : Nat → Int32) (M_foldYards : Nat → Int32) (M_least : Nat → Int32) (M_ways : Nat → Int32) (M_path : Nat → Int32) (M_square : Nat → Int32) (x4 : Int32) : Prop :=
∃ I : Nat → (Nat → Int32) → Int32 → Prop, (∃ n, I n M_square x4) ∧ ∀ n M_square x4, I n M_square x4 → bd_X11_round_81 Q  (fun M_square' x4' => ∃ n', n' < n ∧ I n' M_square' x4') x2 x3 M_folds M_foldSet M_foldEdges M_foldNeeds M_foldYards M_least M_ways M_path M_square x4
def bk_X11_round_65 (Q : Int32 → (Int32 × (Nat → Int32) × (Nat → Int32) × (Nat → Int64) × (Nat → Int32) × (Nat → Int32) × (Nat → Int32) × (Nat → Int32) × (Nat → Int32)) → Prop) (B21 : (Nat → Int32) → (Nat → Int32) → Int32 → Prop) (x3 : Int32) (M_square : Nat → Int32) (M_path : Nat → Int32) (s0 : Int32) (s1 : Int32) : Prop :=
vp_in s1 10 ∧ (∀ f17 : Nat → Int32, f17 = (upd M_square s1.toNatClampNeg s0) →
∀ y18 : Int32, y18 = (x3 + 1) →
B21 f17 M_path y18)
def bd_X11_round_21 (Q : Int32 → (Int32 × (Nat → Int32) × (Nat → Int32) × (Nat → Int64) × (Nat → Int32) × (Nat → Int32) × (Nat → Int32) × (Nat → Int32) × (Nat → Int32)) → Prop) (B21 : (Nat → Int32) → (Nat → Int32) → Int32 → Prop) (p1 : Int32) (x2 : Int32) (M_wide : Int32) (M_high : Int32) (M_hedges : Int64) (M_foldSet : Nat → Int32) (M_foldEdges : Nat → Int64) (M_foldNeeds : Nat → Int32) (M_foldYards : Nat → Int32) (M_least : Nat → Int32) (M_ways : Nat → Int32) (M_square : Nat → Int32) (M_path : Nat → Int32) (x3 : Int32) : Prop :=
((10 ≤ x3 → wp_X11_fewestOf p1 M_wide M_high M_hedges M_square M_foldSet M_foldEdges M_foldNeeds M_foldYards M_least M_ways (fun (r6 : Int32) (u7 : Int32 × (Nat → Int32) × (Nat → Int64) × (Nat → Int32) × (Nat → Int32) × (Nat → Int32) × (Nat → Int32)) => lp_X11_round_81 Q x2 r6 u7.1 u7.2.1 u7.2.2.1 u7.2.2.2.1 u7.2.2.2.2.1 u7.2.2.2.2.2.1 u7.2.2.2.2.2.2 M_path M_square 0)) ∧
(¬ 10 ≤ x3 → vp_in x3 10 ∧ (∀ y14 : Int32, y14 = (M_square x3.toNatClampNeg) →
vp_in x3 10 ∧ (∀ f15 : Nat → Int32, f15 = (upd M_path x3.toNatClampNeg y14) →
vp_in x3 10 ∧ (((M_square x3.toNatClampNeg) ≤ 9 → vp_in x3 10 ∧ bk_X11_round_65 Q B21 x3 M_square f15 (M_square x3.toNatClampNeg) x3) ∧
(¬ (M_square x3.toNatClampNeg) ≤ 9 → bk_X11_round_65 Q B21 x3 M_square f15 0 x3))))))
def lp_X11_round_21 (Q : Int32 → (Int32 × (Nat → Int32) × (Nat → Int32) × (Nat → Int64) × (Nat → Int32) × (Nat → Int32) × (Nat → Int32) × (Nat → Int32) × (Nat → Int32)) → Prop) (p1 : Int32) (x2 : Int32) (M_wide : Int32) (M_high : Int32) (M_hedges : Int64) (M_foldSet : Nat → Int32) (M_foldEdges : Nat → Int64) (M_foldNeeds : Nat → Int32) (M_foldYards : Nat → Int32) (M_least : Nat → Int32) (M_ways : Nat → Int32) (M_square : Nat → Int32) (M_path : Nat → Int32) (x3 : Int32) : Prop :=
∃ I : Nat → (Nat → Int32) → (Nat → Int32) → Int32 → Prop, (∃ n, I n M_square M_path x3) ∧ ∀ n M_square M_path x3, I n M_square M_path x3 → bd_X11_round_21 Q  (fun M_square' M_path' x3' => ∃ n', n' < n ∧ I n' M_square' M_path' x3') p1 x2 M_wide M_high M_hedges M_foldSet M_foldEdges M_foldNeeds M_foldYards M_least M_ways M_square M_path x3
def wp_X11_round (p1 : Int32) (M_wide : Int32) (M_high : Int32) (M_hedges : Int64) (M_folds : Int32) (M_square : Nat → Int32) (M_foldSet : Nat → Int32) (M_foldEdges : Nat → Int64) (M_foldNeeds : Nat → Int32) (M_foldYards : Nat → Int32) (M_least : Nat → Int32) (M_ways : Nat → Int32) (M_path : Nat → Int32) (Q : Int32 → (Int32 × (Nat → Int32) × (Nat → Int32) × (Nat → Int64) × (Nat → Int32) × (Nat → Int32) × (Nat → Int32) × (Nat → Int32) × (Nat → Int32)) → Prop) : Prop :=
wp_X11_in p1 1 90 (fun (r1 : Int32) => ((¬ r1 = 0 → wp_X11_fewestOf p1 M_wide M_high M_hedges M_square M_foldSet M_foldEdges M_foldNeeds M_foldYards M_least M_ways (fun (r3 : Int32) (u4 : Int32 × (Nat → Int32) × (Nat → Int64) × (Nat → Int32) × (Nat → Int32) × (Nat → Int32) × (Nat → Int32)) => lp_X11_round_21 Q p1 r3 M_wide M_high M_hedges u4.2.1 u4.2.2.1 u4.2.2.2.1 u4.2.2.2.2.1 u4.2.2.2.2.2.1 u4.2.2.2.2.2.2 M_square M_path 0)) ∧
(r1 = 0 → Q (-3) (M_folds, M_square, M_foldSet, M_foldEdges, M_foldNeeds, M_foldYards, M_least, M_ways, M_path))))
set_option maxHeartbeats 4000000 in
set_option maxRecDepth 100000 in
theorem J_X11_round_118 {x : CX} {D : DG} {cyI cyJ cyZ : ClassId} {a_M a_M_square a_M_want a_M_text a_M_read a_M_row a_M_foldSet a_M_foldEdges a_M_foldNeeds a_M_foldYards a_M_least a_M_ways a_M_price a_M_rowBy a_M_columnBy a_M_rowOf a_M_wayBack a_M_slack a_M_isUsed a_M_lifted a_M_freed a_M_path : Nat} {M_wide : Int32} {M_high : Int32} {M_hedges : Int64} {M_hurdles : Int32} {M_wants : Int32} {M_rest : Int32} {M_frozen : Int32} {M_bytes : Int32} {M_position : Int32} {M_tokenAt : Int32} {M_token : Int64} {M_digits : Int32} {M_number : Int32} {M_faultAt : Int32} {M_readMany : Int32} {M_readWide : Int32} {M_readHigh : Int32} {M_nights : Int32} {M_why : Int32} {M_folds : Int32} {M_square : Nat → Int32} {M_want : Nat → Int32} {M_text : Nat → Int32} {M_read : Nat → Int32} {M_row : Nat → Int32} {M_foldSet : Nat → Int32} {M_foldEdges : Nat → Int64} {M_foldNeeds : Nat → Int32} {M_foldYards : Nat → Int32} {M_least : Nat → Int32} {M_ways : Nat → Int32} {M_price : Nat → Int32} {M_rowBy : Nat → Int32} {M_columnBy : Nat → Int32} {M_rowOf : Nat → Int32} {M_wayBack : Nat → Int32} {M_slack : Nat → Int32} {M_isUsed : Nat → Int32} {M_lifted : Nat → Int32} {M_freed : Nat → Int32} {M_path : Nat → Int32} {Q : Int32 → (Int32 × (Nat → Int32) × (Nat → Int32) × (Nat → Int64) × (Nat → Int32) × (Nat → Int32) × (Nat → Int32) × (Nat → Int32) × (Nat → Int32)) → Prop} (cx : Cx x cX11_round 5 RX11 rm_X11_round D [(cyI, .int), (cyJ, .long), (cyZ, .boolean)]) (hR : ∀ (v : Int32) (u : Int32 × (Nat → Int32) × (Nat → Int32) × (Nat → Int64) × (Nat → Int32) × (Nat → Int32) × (Nat → Int32) × (Nat → Int32) × (Nat → Int32)) (pc : Nat) (lv : List (Nat × Value)), decode cX11_round pc = .ok (.ireturn, 1) → Q v u → J x 0 0 5 (W_Model cyI cyJ cyZ a_M a_M_square a_M_want a_M_text a_M_read a_M_row a_M_foldSet a_M_foldEdges a_M_foldNeeds a_M_foldYards a_M_least a_M_ways a_M_price a_M_rowBy a_M_columnBy a_M_rowOf a_M_wayBack a_M_slack a_M_isUsed a_M_lifted a_M_freed a_M_path M_wide M_high M_hedges M_hurdles M_wants M_rest M_frozen M_bytes M_position M_tokenAt M_token M_digits M_number M_faultAt M_readMany M_readWide M_readHigh M_nights M_why u.1 u.2.1 M_want M_text M_read M_row u.2.2.1 u.2.2.2.1 u.2.2.2.2.1 u.2.2.2.2.2.1 u.2.2.2.2.2.2.1 u.2.2.2.2.2.2.2.1 M_price M_rowBy M_columnBy M_rowOf M_wayBack M_slack M_isUsed M_lifted M_freed u.2.2.2.2.2.2.2.2) lv pc [.int v]) (h : bk_X11_round_118 Q  M_folds M_square M_foldSet M_foldEdges M_foldNeeds M_foldYards M_least M_ways M_path) :
    J x 0 0 5 (W_Model cyI cyJ cyZ a_M a_M_square a_M_want a_M_text a_M_read a_M_row a_M_foldSet a_M_foldEdges a_M_foldNeeds a_M_foldYards a_M_least a_M_ways a_M_price a_M_rowBy a_M_columnBy a_M_rowOf a_M_wayBack a_M_slack a_M_isUsed a_M_lifted a_M_freed a_M_path M_wide M_high M_hedges M_hurdles M_wants M_rest M_frozen M_bytes M_position M_tokenAt M_token M_digits M_number M_faultAt M_readMany M_readWide M_readHigh M_nights M_why M_folds M_square M_want M_text M_read M_row M_foldSet M_foldEdges M_foldNeeds M_foldYards M_least M_ways M_price M_rowBy M_columnBy M_rowOf M_wayBack M_slack M_isUsed M_lifted M_freed M_path) [] 118 [] := by
  unfold bk_X11_round_118 at h
  refine j_iconst cx (v := (-1)) (by decide) dX11_round_118 (pn := 119) rfl ?_
  refine j_goto cx 128 dX11_round_119 rfl ?_
  exact hR (-1) (M_folds, M_square, M_foldSet, M_foldEdges, M_foldNeeds, M_foldYards, M_least, M_ways, M_path) 128 _ dX11_round_128 h
set_option maxHeartbeats 4000000 in
set_option maxRecDepth 100000 in
theorem B_X11_round_81 {x : CX} {D : DG} {cyI cyJ cyZ : ClassId} {a_M a_M_square a_M_want a_M_text a_M_read a_M_row a_M_foldSet a_M_foldEdges a_M_foldNeeds a_M_foldYards a_M_least a_M_ways a_M_price a_M_rowBy a_M_columnBy a_M_rowOf a_M_wayBack a_M_slack a_M_isUsed a_M_lifted a_M_freed a_M_path : Nat} {M_wide : Int32} {M_high : Int32} {M_hedges : Int64} {M_hurdles : Int32} {M_wants : Int32} {M_rest : Int32} {M_frozen : Int32} {M_bytes : Int32} {M_position : Int32} {M_tokenAt : Int32} {M_token : Int64} {M_digits : Int32} {M_number : Int32} {M_faultAt : Int32} {M_readMany : Int32} {M_readWide : Int32} {M_readHigh : Int32} {M_nights : Int32} {M_why : Int32} {M_folds : Int32} {M_square : Nat → Int32} {M_want : Nat → Int32} {M_text : Nat → Int32} {M_read : Nat → Int32} {M_row : Nat → Int32} {M_foldSet : Nat → Int32} {M_foldEdges : Nat → Int64} {M_foldNeeds : Nat → Int32} {M_foldYards : Nat → Int32} {M_least : Nat → Int32} {M_ways : Nat → Int32} {M_price : Nat → Int32} {M_rowBy : Nat → Int32} {M_columnBy : Nat → Int32} {M_rowOf : Nat → Int32} {M_wayBack : Nat → Int32} {M_slack : Nat → Int32} {M_isUsed : Nat → Int32} {M_lifted : Nat → Int32} {M_freed : Nat → Int32} {M_path : Nat → Int32} {x2 : Int32} {x3 : Int32} {x4 : Int32} {Q : Int32 → (Int32 × (Nat → Int32) × (Nat → Int32) × (Nat → Int64) × (Nat → Int32) × (Nat → Int32) × (Nat → Int32) × (Nat → Int32) × (Nat → Int32)) → Prop} {B81 : (Nat → Int32) → Int32 → Prop} (cx : Cx x cX11_round 5 RX11 rm_X11_round D [(cyI, .int), (cyJ, .long), (cyZ, .boolean)]) (hR : ∀ (v : Int32) (u : Int32 × (Nat → Int32) × (Nat → Int32) × (Nat → Int64) × (Nat → Int32) × (Nat → Int32) × (Nat → Int32) × (Nat → Int32) × (Nat → Int32)) (pc : Nat) (lv : List (Nat × Value)), decode cX11_round pc = .ok (.ireturn, 1) → Q v u → J x 0 0 5 (W_Model cyI cyJ cyZ a_M a_M_square a_M_want a_M_text a_M_read a_M_row a_M_foldSet a_M_foldEdges a_M_foldNeeds a_M_foldYards a_M_least a_M_ways a_M_price a_M_rowBy a_M_columnBy a_M_rowOf a_M_wayBack a_M_slack a_M_isUsed a_M_lifted a_M_freed a_M_path M_wide M_high M_hedges M_hurdles M_wants M_rest M_frozen M_bytes M_position M_tokenAt M_token M_digits M_number M_faultAt M_readMany M_readWide M_readHigh M_nights M_why u.1 u.2.1 M_want M_text M_read M_row u.2.2.1 u.2.2.2.1 u.2.2.2.2.1 u.2.2.2.2.2.1 u.2.2.2.2.2.2.1 u.2.2.2.2.2.2.2.1 M_price M_rowBy M_columnBy M_rowOf M_wayBack M_slack M_isUsed M_lifted M_freed u.2.2.2.2.2.2.2.2) lv pc [.int v]) (hB81 : ∀ (M_square : Nat → Int32) (x4 : Int32), B81 M_square x4 → J x 0 0 5 (W_Model cyI cyJ cyZ a_M a_M_square a_M_want a_M_text a_M_read a_M_row a_M_foldSet a_M_foldEdges a_M_foldNeeds a_M_foldYards a_M_least a_M_ways a_M_price a_M_rowBy a_M_columnBy a_M_rowOf a_M_wayBack a_M_slack a_M_isUsed a_M_lifted a_M_freed a_M_path M_wide M_high M_hedges M_hurdles M_wants M_rest M_frozen M_bytes M_position M_tokenAt M_token M_digits M_number M_faultAt M_readMany M_readWide M_readHigh M_nights M_why M_folds M_square M_want M_text M_read M_row M_foldSet M_foldEdges M_foldNeeds M_foldYards M_least M_ways M_price M_rowBy M_columnBy M_rowOf M_wayBack M_slack M_isUsed M_lifted M_freed M_path) [(0, .ref a_M), (2, .int x2), (3, .int x3), (4, .int x4)] 81 []) (h : bd_X11_round_81 Q B81 x2 x3 M_folds M_foldSet M_foldEdges M_foldNeeds M_foldYards M_least M_ways M_path M_square x4) :
    J x 0 0 5 (W_Model cyI cyJ cyZ a_M a_M_square a_M_want a_M_text a_M_read a_M_row a_M_foldSet a_M_foldEdges a_M_foldNeeds a_M_foldYards a_M_least a_M_ways a_M_price a_M_rowBy a_M_columnBy a_M_rowOf a_M_wayBack a_M_slack a_M_isUsed a_M_lifted a_M_freed a_M_path M_wide M_high M_hedges M_hurdles M_wants M_rest M_frozen M_bytes M_position M_tokenAt M_token M_digits M_number M_faultAt M_readMany M_readWide M_readHigh M_nights M_why M_folds M_square M_want M_text M_read M_row M_foldSet M_foldEdges M_foldNeeds M_foldYards M_least M_ways M_price M_rowBy M_columnBy M_rowOf M_wayBack M_slack M_isUsed M_lifted M_freed M_path) [(0, .ref a_M), (2, .int x2), (3, .int x3), (4, .int x4)] 81 [] := by
  unfold bd_X11_round_81 at h
  refine j_iload cx 3 rfl dX11_round_81 (pn := 83) rfl ?_
  refine j_bipush cx (v := 10) (by decide) dX11_round_83 (pn := 85) rfl ?_
  refine j_icmp_ge cx 108 dX11_round_85 (pn := 88) rfl rfl (fun c8 => ?_) (fun c8 => ?_)
  · have h := h.1 c8
    refine j_iload_n cx 1 rfl rfl dX11_round_108 (pn := 109) rfl ?_
    refine j_iconst cx (v := (-1)) (by decide) dX11_round_109 (pn := 110) rfl ?_
    refine j_icmp_eq cx 118 dX11_round_110 (pn := 113) rfl rfl (fun c9 => ?_) (fun c9 => ?_)
    · have h := h.1 c9
      refine j_sub [] [] rfl ?_
      exact J_X11_round_118 cx hR h
    · have h := h.2 c9
      refine j_iload_n cx 2 rfl rfl dX11_round_113 (pn := 114) rfl ?_
      refine j_iconst cx (v := (-1)) (by decide) dX11_round_114 (pn := 115) rfl ?_
      refine j_icmp_ne cx 122 dX11_round_115 (pn := 118) rfl rfl (fun c10 => ?_) (fun c10 => ?_)
      · have h := h.1 c10
        refine j_iload_n cx 1 rfl rfl dX11_round_122 (pn := 123) rfl ?_
        refine j_iload_n cx 2 rfl rfl dX11_round_123 (pn := 124) rfl ?_
        refine j_isub cx dX11_round_124 (pn := 125) rfl ?_
        refine j_bipush cx (v := 100) (by decide) dX11_round_125 (pn := 127) rfl ?_
        refine j_iadd cx dX11_round_127 (pn := 128) rfl ?_
        exact hR ((x2 - x3) + 100) (M_folds, M_square, M_foldSet, M_foldEdges, M_foldNeeds, M_foldYards, M_least, M_ways, M_path) 128 _ dX11_round_128 h
      · have h := h.2 c10
        refine j_sub [] [] rfl ?_
        exact J_X11_round_118 cx hR h
  · have h := h.2 c8
    refine j_aload_n cx 0 rfl rfl dX11_round_88 (pn := 89) rfl ?_
    refine j_get cx inGX11 0 rfl rfl 2 (by decide) q_fl_X11_16 rfl rfl dX11_round_89 (pn := 92) rfl ?_
    refine j_iload cx 3 rfl dX11_round_92 (pn := 94) rfl ?_
    refine j_aload_n cx 0 rfl rfl dX11_round_94 (pn := 95) rfl ?_
    refine j_get cx inGX11 0 rfl rfl 40 (by decide) q_fl_X11_83 rfl rfl dX11_round_95 (pn := 98) rfl ?_
    refine j_iload cx 3 rfl dX11_round_98 (pn := 100) rfl ?_
    refine j_iald cx 21 0 rfl rfl h.1 dX11_round_100 (pn := 101) rfl ?_
    have h := h.2
    refine j_topi (fun y11 ey11 => ?_)
    have h := h y11 ey11
    have hin := h.1
    obtain ⟨f12, ef12⟩ : ∃ z, z = upd M_square x4.toNatClampNeg y11 := ⟨_, rfl⟩
    have h := h.2 f12 ef12
    refine j_iast cx 1 0 rfl rfl hin (W_Model cyI cyJ cyZ a_M a_M_square a_M_want a_M_text a_M_read a_M_row a_M_foldSet a_M_foldEdges a_M_foldNeeds a_M_foldYards a_M_least a_M_ways a_M_price a_M_rowBy a_M_columnBy a_M_rowOf a_M_wayBack a_M_slack a_M_isUsed a_M_lifted a_M_freed a_M_path M_wide M_high M_hedges M_hurdles M_wants M_rest M_frozen M_bytes M_position M_tokenAt M_token M_digits M_number M_faultAt M_readMany M_readWide M_readHigh M_nights M_why M_folds f12 M_want M_text M_read M_row M_foldSet M_foldEdges M_foldNeeds M_foldYards M_least M_ways M_price M_rowBy M_columnBy M_rowOf M_wayBack M_slack M_isUsed M_lifted M_freed M_path) (by subst ef12; rfl) dX11_round_101 (pn := 102) rfl ?_
    obtain ⟨y13, ey13⟩ : ∃ z : Int32, z = x4 + 1 := ⟨_, rfl⟩
    have h := h y13 ey13
    refine j_iinc cx 3 rfl (cst := 1) (by decide) ey13 [(4, .int y13), (0, .ref a_M), (2, .int x2), (3, .int x3)] (by decide) rfl dX11_round_102 (pn := 105) rfl ?_
    refine j_goto cx 81 dX11_round_105 rfl ?_
    refine j_sub [1, 2, 3, 0] [(0, .ref a_M), (2, .int x2), (3, .int x3), (4, .int y13)] rfl ?_
    exact hB81 _ _ h
set_option maxHeartbeats 4000000 in
set_option maxRecDepth 100000 in
theorem J_X11_round_81 {x : CX} {D : DG} {cyI cyJ cyZ : ClassId} {a_M a_M_square a_M_want a_M_text a_M_read a_M_row a_M_foldSet a_M_foldEdges a_M_foldNeeds a_M_foldYards a_M_least a_M_ways a_M_price a_M_rowBy a_M_columnBy a_M_rowOf a_M_wayBack a_M_slack a_M_isUsed a_M_lifted a_M_freed a_M_path : Nat} {M_wide : Int32} {M_high : Int32} {M_hedges : Int64} {M_hurdles : Int32} {M_wants : Int32} {M_rest : Int32} {M_frozen : Int32} {M_bytes : Int32} {M_position : Int32} {M_tokenAt : Int32} {M_token : Int64} {M_digits : Int32} {M_number : Int32} {M_faultAt : Int32} {M_readMany : Int32} {M_readWide : Int32} {M_readHigh : Int32} {M_nights : Int32} {M_why : Int32} {M_folds : Int32} {M_square : Nat → Int32} {M_want : Nat → Int32} {M_text : Nat → Int32} {M_read : Nat → Int32} {M_row : Nat → Int32} {M_foldSet : Nat → Int32} {M_foldEdges : Nat → Int64} {M_foldNeeds : Nat → Int32} {M_foldYards : Nat → Int32} {M_least : Nat → Int32} {M_ways : Nat → Int32} {M_price : Nat → Int32} {M_rowBy : Nat → Int32} {M_columnBy : Nat → Int32} {M_rowOf : Nat → Int32} {M_wayBack : Nat → Int32} {M_slack : Nat → Int32} {M_isUsed : Nat → Int32} {M_lifted : Nat → Int32} {M_freed : Nat → Int32} {M_path : Nat → Int32} {x2 : Int32} {x3 : Int32} {x4 : Int32} {Q : Int32 → (Int32 × (Nat → Int32) × (Nat → Int32) × (Nat → Int64) × (Nat → Int32) × (Nat → Int32) × (Nat → Int32) × (Nat → Int32) × (Nat → Int32)) → Prop} (cx : Cx x cX11_round 5 RX11 rm_X11_round D [(cyI, .int), (cyJ, .long), (cyZ, .boolean)]) (hR : ∀ (v : Int32) (u : Int32 × (Nat → Int32) × (Nat → Int32) × (Nat → Int64) × (Nat → Int32) × (Nat → Int32) × (Nat → Int32) × (Nat → Int32) × (Nat → Int32)) (pc : Nat) (lv : List (Nat × Value)), decode cX11_round pc = .ok (.ireturn, 1) → Q v u → J x 0 0 5 (W_Model cyI cyJ cyZ a_M a_M_square a_M_want a_M_text a_M_read a_M_row a_M_foldSet a_M_foldEdges a_M_foldNeeds a_M_foldYards a_M_least a_M_ways a_M_price a_M_rowBy a_M_columnBy a_M_rowOf a_M_wayBack a_M_slack a_M_isUsed a_M_lifted a_M_freed a_M_path M_wide M_high M_hedges M_hurdles M_wants M_rest M_frozen M_bytes M_position M_tokenAt M_token M_digits M_number M_faultAt M_readMany M_readWide M_readHigh M_nights M_why u.1 u.2.1 M_want M_text M_read M_row u.2.2.1 u.2.2.2.1 u.2.2.2.2.1 u.2.2.2.2.2.1 u.2.2.2.2.2.2.1 u.2.2.2.2.2.2.2.1 M_price M_rowBy M_columnBy M_rowOf M_wayBack M_slack M_isUsed M_lifted M_freed u.2.2.2.2.2.2.2.2) lv pc [.int v]) (h : lp_X11_round_81 Q  x2 x3 M_folds M_foldSet M_foldEdges M_foldNeeds M_foldYards M_least M_ways M_path M_square x4) :
    J x 0 0 5 (W_Model cyI cyJ cyZ a_M a_M_square a_M_want a_M_text a_M_read a_M_row a_M_foldSet a_M_foldEdges a_M_foldNeeds a_M_foldYards a_M_least a_M_ways a_M_price a_M_rowBy a_M_columnBy a_M_rowOf a_M_wayBack a_M_slack a_M_isUsed a_M_lifted a_M_freed a_M_path M_wide M_high M_hedges M_hurdles M_wants M_rest M_frozen M_bytes M_position M_tokenAt M_token M_digits M_number M_faultAt M_readMany M_readWide M_readHigh M_nights M_why M_folds M_square M_want M_text M_read M_row M_foldSet M_foldEdges M_foldNeeds M_foldYards M_least M_ways M_price M_rowBy M_columnBy M_rowOf M_wayBack M_slack M_isUsed M_lifted M_freed M_path) [(0, .ref a_M), (2, .int x2), (3, .int x3), (4, .int x4)] 81 [] := by
  obtain ⟨I, ⟨n, h0⟩, hb⟩ := h
  revert M_square x4
  induction n using Nat.strongRecOn with
  | _ n ih =>
    intro M_square x4 h0
    exact B_X11_round_81 cx hR (fun _ _ hz => by obtain ⟨n2, hlt, hI⟩ := hz; exact ih n2 hlt hI) (hb n M_square x4 h0)
set_option maxHeartbeats 4000000 in
set_option maxRecDepth 100000 in
theorem J_X11_round_65 {x : CX} {D : DG} {cyI cyJ cyZ : ClassId} {a_M a_M_square a_M_want a_M_text a_M_read a_M_row a_M_foldSet a_M_foldEdges a_M_foldNeeds a_M_foldYards a_M_least a_M_ways a_M_price a_M_rowBy a_M_columnBy a_M_rowOf a_M_wayBack a_M_slack a_M_isUsed a_M_lifted a_M_freed a_M_path : Nat} {M_wide : Int32} {M_high : Int32} {M_hedges : Int64} {M_hurdles : Int32} {M_wants : Int32} {M_rest : Int32} {M_frozen : Int32} {M_bytes : Int32} {M_position : Int32} {M_tokenAt : Int32} {M_token : Int64} {M_digits : Int32} {M_number : Int32} {M_faultAt : Int32} {M_readMany : Int32} {M_readWide : Int32} {M_readHigh : Int32} {M_nights : Int32} {M_why : Int32} {M_folds : Int32} {M_square : Nat → Int32} {M_want : Nat → Int32} {M_text : Nat → Int32} {M_read : Nat → Int32} {M_row : Nat → Int32} {M_foldSet : Nat → Int32} {M_foldEdges : Nat → Int64} {M_foldNeeds : Nat → Int32} {M_foldYards : Nat → Int32} {M_least : Nat → Int32} {M_ways : Nat → Int32} {M_price : Nat → Int32} {M_rowBy : Nat → Int32} {M_columnBy : Nat → Int32} {M_rowOf : Nat → Int32} {M_wayBack : Nat → Int32} {M_slack : Nat → Int32} {M_isUsed : Nat → Int32} {M_lifted : Nat → Int32} {M_freed : Nat → Int32} {M_path : Nat → Int32} {p1 : Int32} {x2 : Int32} {x3 : Int32} {s0 : Int32} {s1 : Int32} {Q : Int32 → (Int32 × (Nat → Int32) × (Nat → Int32) × (Nat → Int64) × (Nat → Int32) × (Nat → Int32) × (Nat → Int32) × (Nat → Int32) × (Nat → Int32)) → Prop} {B21 : (Nat → Int32) → (Nat → Int32) → Int32 → Prop} (cx : Cx x cX11_round 5 RX11 rm_X11_round D [(cyI, .int), (cyJ, .long), (cyZ, .boolean)]) (hR : ∀ (v : Int32) (u : Int32 × (Nat → Int32) × (Nat → Int32) × (Nat → Int64) × (Nat → Int32) × (Nat → Int32) × (Nat → Int32) × (Nat → Int32) × (Nat → Int32)) (pc : Nat) (lv : List (Nat × Value)), decode cX11_round pc = .ok (.ireturn, 1) → Q v u → J x 0 0 5 (W_Model cyI cyJ cyZ a_M a_M_square a_M_want a_M_text a_M_read a_M_row a_M_foldSet a_M_foldEdges a_M_foldNeeds a_M_foldYards a_M_least a_M_ways a_M_price a_M_rowBy a_M_columnBy a_M_rowOf a_M_wayBack a_M_slack a_M_isUsed a_M_lifted a_M_freed a_M_path M_wide M_high M_hedges M_hurdles M_wants M_rest M_frozen M_bytes M_position M_tokenAt M_token M_digits M_number M_faultAt M_readMany M_readWide M_readHigh M_nights M_why u.1 u.2.1 M_want M_text M_read M_row u.2.2.1 u.2.2.2.1 u.2.2.2.2.1 u.2.2.2.2.2.1 u.2.2.2.2.2.2.1 u.2.2.2.2.2.2.2.1 M_price M_rowBy M_columnBy M_rowOf M_wayBack M_slack M_isUsed M_lifted M_freed u.2.2.2.2.2.2.2.2) lv pc [.int v]) (hB21 : ∀ (M_square : Nat → Int32) (M_path : Nat → Int32) (x3 : Int32), B21 M_square M_path x3 → J x 0 0 5 (W_Model cyI cyJ cyZ a_M a_M_square a_M_want a_M_text a_M_read a_M_row a_M_foldSet a_M_foldEdges a_M_foldNeeds a_M_foldYards a_M_least a_M_ways a_M_price a_M_rowBy a_M_columnBy a_M_rowOf a_M_wayBack a_M_slack a_M_isUsed a_M_lifted a_M_freed a_M_path M_wide M_high M_hedges M_hurdles M_wants M_rest M_frozen M_bytes M_position M_tokenAt M_token M_digits M_number M_faultAt M_readMany M_readWide M_readHigh M_nights M_why M_folds M_square M_want M_text M_read M_row M_foldSet M_foldEdges M_foldNeeds M_foldYards M_least M_ways M_price M_rowBy M_columnBy M_rowOf M_wayBack M_slack M_isUsed M_lifted M_freed M_path) [(0, .ref a_M), (1, .int p1), (2, .int x2), (3, .int x3)] 21 []) (h : bk_X11_round_65 Q B21 x3 M_square M_path s0 s1) :
    J x 0 0 5 (W_Model cyI cyJ cyZ a_M a_M_square a_M_want a_M_text a_M_read a_M_row a_M_foldSet a_M_foldEdges a_M_foldNeeds a_M_foldYards a_M_least a_M_ways a_M_price a_M_rowBy a_M_columnBy a_M_rowOf a_M_wayBack a_M_slack a_M_isUsed a_M_lifted a_M_freed a_M_path M_wide M_high M_hedges M_hurdles M_wants M_rest M_frozen M_bytes M_position M_tokenAt M_token M_digits M_number M_faultAt M_readMany M_readWide M_readHigh M_nights M_why M_folds M_square M_want M_text M_read M_row M_foldSet M_foldEdges M_foldNeeds M_foldYards M_least M_ways M_price M_rowBy M_columnBy M_rowOf M_wayBack M_slack M_isUsed M_lifted M_freed M_path) [(0, .ref a_M), (1, .int p1), (2, .int x2), (3, .int x3)] 65 [.int s0, .int s1, .ref a_M_square] := by
  unfold bk_X11_round_65 at h
  have hin := h.1
  obtain ⟨f17, ef17⟩ : ∃ z, z = upd M_square s1.toNatClampNeg s0 := ⟨_, rfl⟩
  have h := h.2 f17 ef17
  refine j_iast cx 1 0 rfl rfl hin (W_Model cyI cyJ cyZ a_M a_M_square a_M_want a_M_text a_M_read a_M_row a_M_foldSet a_M_foldEdges a_M_foldNeeds a_M_foldYards a_M_least a_M_ways a_M_price a_M_rowBy a_M_columnBy a_M_rowOf a_M_wayBack a_M_slack a_M_isUsed a_M_lifted a_M_freed a_M_path M_wide M_high M_hedges M_hurdles M_wants M_rest M_frozen M_bytes M_position M_tokenAt M_token M_digits M_number M_faultAt M_readMany M_readWide M_readHigh M_nights M_why M_folds f17 M_want M_text M_read M_row M_foldSet M_foldEdges M_foldNeeds M_foldYards M_least M_ways M_price M_rowBy M_columnBy M_rowOf M_wayBack M_slack M_isUsed M_lifted M_freed M_path) (by subst ef17; rfl) dX11_round_65 (pn := 66) rfl ?_
  obtain ⟨y18, ey18⟩ : ∃ z : Int32, z = x3 + 1 := ⟨_, rfl⟩
  have h := h y18 ey18
  refine j_iinc cx 3 rfl (cst := 1) (by decide) ey18 [(3, .int y18), (0, .ref a_M), (1, .int p1), (2, .int x2)] (by decide) rfl dX11_round_66 (pn := 69) rfl ?_
  refine j_goto cx 21 dX11_round_69 rfl ?_
  refine j_sub [1, 2, 3, 0] [(0, .ref a_M), (1, .int p1), (2, .int x2), (3, .int y18)] rfl ?_
  exact hB21 _ _ _ h
set_option maxHeartbeats 4000000 in
set_option maxRecDepth 100000 in
theorem B_X11_round_21 {x : CX} {D : DG} {cyI cyJ cyZ : ClassId} {a_M a_M_square a_M_want a_M_text a_M_read a_M_row a_M_foldSet a_M_foldEdges a_M_foldNeeds a_M_foldYards a_M_least a_M_ways a_M_price a_M_rowBy a_M_columnBy a_M_rowOf a_M_wayBack a_M_slack a_M_isUsed a_M_lifted a_M_freed a_M_path : Nat} {M_wide : Int32} {M_high : Int32} {M_hedges : Int64} {M_hurdles : Int32} {M_wants : Int32} {M_rest : Int32} {M_frozen : Int32} {M_bytes : Int32} {M_position : Int32} {M_tokenAt : Int32} {M_token : Int64} {M_digits : Int32} {M_number : Int32} {M_faultAt : Int32} {M_readMany : Int32} {M_readWide : Int32} {M_readHigh : Int32} {M_nights : Int32} {M_why : Int32} {M_folds : Int32} {M_square : Nat → Int32} {M_want : Nat → Int32} {M_text : Nat → Int32} {M_read : Nat → Int32} {M_row : Nat → Int32} {M_foldSet : Nat → Int32} {M_foldEdges : Nat → Int64} {M_foldNeeds : Nat → Int32} {M_foldYards : Nat → Int32} {M_least : Nat → Int32} {M_ways : Nat → Int32} {M_price : Nat → Int32} {M_rowBy : Nat → Int32} {M_columnBy : Nat → Int32} {M_rowOf : Nat → Int32} {M_wayBack : Nat → Int32} {M_slack : Nat → Int32} {M_isUsed : Nat → Int32} {M_lifted : Nat → Int32} {M_freed : Nat → Int32} {M_path : Nat → Int32} {p1 : Int32} {x2 : Int32} {x3 : Int32} {Q : Int32 → (Int32 × (Nat → Int32) × (Nat → Int32) × (Nat → Int64) × (Nat → Int32) × (Nat → Int32) × (Nat → Int32) × (Nat → Int32) × (Nat → Int32)) → Prop} {B21 : (Nat → Int32) → (Nat → Int32) → Int32 → Prop} (cx : Cx x cX11_round 5 RX11 rm_X11_round D [(cyI, .int), (cyJ, .long), (cyZ, .boolean)]) (hR : ∀ (v : Int32) (u : Int32 × (Nat → Int32) × (Nat → Int32) × (Nat → Int64) × (Nat → Int32) × (Nat → Int32) × (Nat → Int32) × (Nat → Int32) × (Nat → Int32)) (pc : Nat) (lv : List (Nat × Value)), decode cX11_round pc = .ok (.ireturn, 1) → Q v u → J x 0 0 5 (W_Model cyI cyJ cyZ a_M a_M_square a_M_want a_M_text a_M_read a_M_row a_M_foldSet a_M_foldEdges a_M_foldNeeds a_M_foldYards a_M_least a_M_ways a_M_price a_M_rowBy a_M_columnBy a_M_rowOf a_M_wayBack a_M_slack a_M_isUsed a_M_lifted a_M_freed a_M_path M_wide M_high M_hedges M_hurdles M_wants M_rest M_frozen M_bytes M_position M_tokenAt M_token M_digits M_number M_faultAt M_readMany M_readWide M_readHigh M_nights M_why u.1 u.2.1 M_want M_text M_read M_row u.2.2.1 u.2.2.2.1 u.2.2.2.2.1 u.2.2.2.2.2.1 u.2.2.2.2.2.2.1 u.2.2.2.2.2.2.2.1 M_price M_rowBy M_columnBy M_rowOf M_wayBack M_slack M_isUsed M_lifted M_freed u.2.2.2.2.2.2.2.2) lv pc [.int v]) (hB21 : ∀ (M_square : Nat → Int32) (M_path : Nat → Int32) (x3 : Int32), B21 M_square M_path x3 → J x 0 0 5 (W_Model cyI cyJ cyZ a_M a_M_square a_M_want a_M_text a_M_read a_M_row a_M_foldSet a_M_foldEdges a_M_foldNeeds a_M_foldYards a_M_least a_M_ways a_M_price a_M_rowBy a_M_columnBy a_M_rowOf a_M_wayBack a_M_slack a_M_isUsed a_M_lifted a_M_freed a_M_path M_wide M_high M_hedges M_hurdles M_wants M_rest M_frozen M_bytes M_position M_tokenAt M_token M_digits M_number M_faultAt M_readMany M_readWide M_readHigh M_nights M_why M_folds M_square M_want M_text M_read M_row M_foldSet M_foldEdges M_foldNeeds M_foldYards M_least M_ways M_price M_rowBy M_columnBy M_rowOf M_wayBack M_slack M_isUsed M_lifted M_freed M_path) [(0, .ref a_M), (1, .int p1), (2, .int x2), (3, .int x3)] 21 []) (h : bd_X11_round_21 Q B21 p1 x2 M_wide M_high M_hedges M_foldSet M_foldEdges M_foldNeeds M_foldYards M_least M_ways M_square M_path x3) :
    J x 0 0 5 (W_Model cyI cyJ cyZ a_M a_M_square a_M_want a_M_text a_M_read a_M_row a_M_foldSet a_M_foldEdges a_M_foldNeeds a_M_foldYards a_M_least a_M_ways a_M_price a_M_rowBy a_M_columnBy a_M_rowOf a_M_wayBack a_M_slack a_M_isUsed a_M_lifted a_M_freed a_M_path M_wide M_high M_hedges M_hurdles M_wants M_rest M_frozen M_bytes M_position M_tokenAt M_token M_digits M_number M_faultAt M_readMany M_readWide M_readHigh M_nights M_why M_folds M_square M_want M_text M_read M_row M_foldSet M_foldEdges M_foldNeeds M_foldYards M_least M_ways M_price M_rowBy M_columnBy M_rowOf M_wayBack M_slack M_isUsed M_lifted M_freed M_path) [(0, .ref a_M), (1, .int p1), (2, .int x2), (3, .int x3)] 21 [] := by
  unfold bd_X11_round_21 at h
  refine j_iload_n cx 3 rfl rfl dX11_round_21 (pn := 22) rfl ?_
  refine j_bipush cx (v := 10) (by decide) dX11_round_22 (pn := 24) rfl ?_
  refine j_icmp_ge cx 72 dX11_round_24 (pn := 27) rfl rfl (fun c5 => ?_) (fun c5 => ?_)
  · have h := h.1 c5
    refine j_aload_n cx 0 rfl rfl dX11_round_72 (pn := 73) rfl ?_
    refine j_iload_n cx 1 rfl rfl dX11_round_73 (pn := 74) rfl ?_
    refine j_callvI0 cx q_inst_X11_fewestOf q_sel_X11_fewestOf (b := a_M) (As := [.int p1]) (rest := []) (c_X11_fewestOf h) ⟨q_code_X11_fewestOf, q_ml_X11_303, q_init_X11, hd_X11_fewestOf, ⟨Nat.le_of_ble_eq_true rfl, Nat.le_of_ble_eq_true rfl⟩, Nat.le_of_ble_eq_true rfl, Nat.le_of_ble_eq_true rfl⟩ (q0 := 0) rfl rfl rfl rfl (Nat.le_of_ble_eq_true rfl) dX11_round_74 (pn := 77) rfl (fun r6 u7 h => ?_)
    show J x 0 0 5 (W_Model cyI cyJ cyZ a_M a_M_square a_M_want a_M_text a_M_read a_M_row a_M_foldSet a_M_foldEdges a_M_foldNeeds a_M_foldYards a_M_least a_M_ways a_M_price a_M_rowBy a_M_columnBy a_M_rowOf a_M_wayBack a_M_slack a_M_isUsed a_M_lifted a_M_freed a_M_path M_wide M_high M_hedges M_hurdles M_wants M_rest M_frozen M_bytes M_position M_tokenAt M_token M_digits M_number M_faultAt M_readMany M_readWide M_readHigh M_nights M_why u7.1 M_square M_want M_text M_read M_row u7.2.1 u7.2.2.1 u7.2.2.2.1 u7.2.2.2.2.1 u7.2.2.2.2.2.1 u7.2.2.2.2.2.2 M_price M_rowBy M_columnBy M_rowOf M_wayBack M_slack M_isUsed M_lifted M_freed M_path) [(0, .ref a_M), (1, .int p1), (2, .int x2), (3, .int x3)] 77 [.int r6]
    refine j_istore_n cx rfl [(3, .int r6), (0, .ref a_M), (1, .int p1), (2, .int x2)] (by decide) rfl dX11_round_77 (pn := 78) rfl ?_
    refine j_iconst cx (v := 0) (by decide) dX11_round_78 (pn := 79) rfl ?_
    refine j_istore cx [(4, .int 0), (3, .int r6), (0, .ref a_M), (1, .int p1), (2, .int x2)] (by decide) rfl dX11_round_79 (pn := 81) rfl ?_
    refine j_sub [2, 4, 1, 0] [(0, .ref a_M), (2, .int x2), (3, .int r6), (4, .int 0)] rfl ?_
    exact J_X11_round_81 cx hR h
  · have h := h.2 c5
    refine j_aload_n cx 0 rfl rfl dX11_round_27 (pn := 28) rfl ?_
    refine j_get cx inGX11 0 rfl rfl 40 (by decide) q_fl_X11_83 rfl rfl dX11_round_28 (pn := 31) rfl ?_
    refine j_iload_n cx 3 rfl rfl dX11_round_31 (pn := 32) rfl ?_
    refine j_aload_n cx 0 rfl rfl dX11_round_32 (pn := 33) rfl ?_
    refine j_get cx inGX11 0 rfl rfl 2 (by decide) q_fl_X11_16 rfl rfl dX11_round_33 (pn := 36) rfl ?_
    refine j_iload_n cx 3 rfl rfl dX11_round_36 (pn := 37) rfl ?_
    refine j_iald cx 1 0 rfl rfl h.1 dX11_round_37 (pn := 38) rfl ?_
    have h := h.2
    refine j_topi (fun y14 ey14 => ?_)
    have h := h y14 ey14
    have hin := h.1
    obtain ⟨f15, ef15⟩ : ∃ z, z = upd M_path x3.toNatClampNeg y14 := ⟨_, rfl⟩
    have h := h.2 f15 ef15
    refine j_iast cx 21 0 rfl rfl hin (W_Model cyI cyJ cyZ a_M a_M_square a_M_want a_M_text a_M_read a_M_row a_M_foldSet a_M_foldEdges a_M_foldNeeds a_M_foldYards a_M_least a_M_ways a_M_price a_M_rowBy a_M_columnBy a_M_rowOf a_M_wayBack a_M_slack a_M_isUsed a_M_lifted a_M_freed a_M_path M_wide M_high M_hedges M_hurdles M_wants M_rest M_frozen M_bytes M_position M_tokenAt M_token M_digits M_number M_faultAt M_readMany M_readWide M_readHigh M_nights M_why M_folds M_square M_want M_text M_read M_row M_foldSet M_foldEdges M_foldNeeds M_foldYards M_least M_ways M_price M_rowBy M_columnBy M_rowOf M_wayBack M_slack M_isUsed M_lifted M_freed f15) (by subst ef15; rfl) dX11_round_38 (pn := 39) rfl ?_
    refine j_aload_n cx 0 rfl rfl dX11_round_39 (pn := 40) rfl ?_
    refine j_get cx inGX11 0 rfl rfl 2 (by decide) q_fl_X11_16 rfl rfl dX11_round_40 (pn := 43) rfl ?_
    refine j_iload_n cx 3 rfl rfl dX11_round_43 (pn := 44) rfl ?_
    refine j_aload_n cx 0 rfl rfl dX11_round_44 (pn := 45) rfl ?_
    refine j_get cx inGX11 0 rfl rfl 2 (by decide) q_fl_X11_16 rfl rfl dX11_round_45 (pn := 48) rfl ?_
    refine j_iload_n cx 3 rfl rfl dX11_round_48 (pn := 49) rfl ?_
    refine j_iald cx 1 0 rfl rfl h.1 dX11_round_49 (pn := 50) rfl ?_
    have h := h.2
    refine j_bipush cx (v := 9) (by decide) dX11_round_50 (pn := 52) rfl ?_
    refine j_icmp_le cx 59 dX11_round_52 (pn := 55) rfl rfl (fun c16 => ?_) (fun c16 => ?_)
    · have h := h.1 c16
      refine j_aload_n cx 0 rfl rfl dX11_round_59 (pn := 60) rfl ?_
      refine j_get cx inGX11 0 rfl rfl 2 (by decide) q_fl_X11_16 rfl rfl dX11_round_60 (pn := 63) rfl ?_
      refine j_iload_n cx 3 rfl rfl dX11_round_63 (pn := 64) rfl ?_
      refine j_iald cx 1 0 rfl rfl h.1 dX11_round_64 (pn := 65) rfl ?_
      have h := h.2
      exact J_X11_round_65 cx hR hB21 h
    · have h := h.2 c16
      refine j_iconst cx (v := 0) (by decide) dX11_round_55 (pn := 56) rfl ?_
      refine j_goto cx 65 dX11_round_56 rfl ?_
      exact J_X11_round_65 cx hR hB21 h
set_option maxHeartbeats 4000000 in
set_option maxRecDepth 100000 in
theorem J_X11_round_21 {x : CX} {D : DG} {cyI cyJ cyZ : ClassId} {a_M a_M_square a_M_want a_M_text a_M_read a_M_row a_M_foldSet a_M_foldEdges a_M_foldNeeds a_M_foldYards a_M_least a_M_ways a_M_price a_M_rowBy a_M_columnBy a_M_rowOf a_M_wayBack a_M_slack a_M_isUsed a_M_lifted a_M_freed a_M_path : Nat} {M_wide : Int32} {M_high : Int32} {M_hedges : Int64} {M_hurdles : Int32} {M_wants : Int32} {M_rest : Int32} {M_frozen : Int32} {M_bytes : Int32} {M_position : Int32} {M_tokenAt : Int32} {M_token : Int64} {M_digits : Int32} {M_number : Int32} {M_faultAt : Int32} {M_readMany : Int32} {M_readWide : Int32} {M_readHigh : Int32} {M_nights : Int32} {M_why : Int32} {M_folds : Int32} {M_square : Nat → Int32} {M_want : Nat → Int32} {M_text : Nat → Int32} {M_read : Nat → Int32} {M_row : Nat → Int32} {M_foldSet : Nat → Int32} {M_foldEdges : Nat → Int64} {M_foldNeeds : Nat → Int32} {M_foldYards : Nat → Int32} {M_least : Nat → Int32} {M_ways : Nat → Int32} {M_price : Nat → Int32} {M_rowBy : Nat → Int32} {M_columnBy : Nat → Int32} {M_rowOf : Nat → Int32} {M_wayBack : Nat → Int32} {M_slack : Nat → Int32} {M_isUsed : Nat → Int32} {M_lifted : Nat → Int32} {M_freed : Nat → Int32} {M_path : Nat → Int32} {p1 : Int32} {x2 : Int32} {x3 : Int32} {Q : Int32 → (Int32 × (Nat → Int32) × (Nat → Int32) × (Nat → Int64) × (Nat → Int32) × (Nat → Int32) × (Nat → Int32) × (Nat → Int32) × (Nat → Int32)) → Prop} (cx : Cx x cX11_round 5 RX11 rm_X11_round D [(cyI, .int), (cyJ, .long), (cyZ, .boolean)]) (hR : ∀ (v : Int32) (u : Int32 × (Nat → Int32) × (Nat → Int32) × (Nat → Int64) × (Nat → Int32) × (Nat → Int32) × (Nat → Int32) × (Nat → Int32) × (Nat → Int32)) (pc : Nat) (lv : List (Nat × Value)), decode cX11_round pc = .ok (.ireturn, 1) → Q v u → J x 0 0 5 (W_Model cyI cyJ cyZ a_M a_M_square a_M_want a_M_text a_M_read a_M_row a_M_foldSet a_M_foldEdges a_M_foldNeeds a_M_foldYards a_M_least a_M_ways a_M_price a_M_rowBy a_M_columnBy a_M_rowOf a_M_wayBack a_M_slack a_M_isUsed a_M_lifted a_M_freed a_M_path M_wide M_high M_hedges M_hurdles M_wants M_rest M_frozen M_bytes M_position M_tokenAt M_token M_digits M_number M_faultAt M_readMany M_readWide M_readHigh M_nights M_why u.1 u.2.1 M_want M_text M_read M_row u.2.2.1 u.2.2.2.1 u.2.2.2.2.1 u.2.2.2.2.2.1 u.2.2.2.2.2.2.1 u.2.2.2.2.2.2.2.1 M_price M_rowBy M_columnBy M_rowOf M_wayBack M_slack M_isUsed M_lifted M_freed u.2.2.2.2.2.2.2.2) lv pc [.int v]) (h : lp_X11_round_21 Q  p1 x2 M_wide M_high M_hedges M_foldSet M_foldEdges M_foldNeeds M_foldYards M_least M_ways M_square M_path x3) :
    J x 0 0 5 (W_Model cyI cyJ cyZ a_M a_M_square a_M_want a_M_text a_M_read a_M_row a_M_foldSet a_M_foldEdges a_M_foldNeeds a_M_foldYards a_M_least a_M_ways a_M_price a_M_rowBy a_M_columnBy a_M_rowOf a_M_wayBack a_M_slack a_M_isUsed a_M_lifted a_M_freed a_M_path M_wide M_high M_hedges M_hurdles M_wants M_rest M_frozen M_bytes M_position M_tokenAt M_token M_digits M_number M_faultAt M_readMany M_readWide M_readHigh M_nights M_why M_folds M_square M_want M_text M_read M_row M_foldSet M_foldEdges M_foldNeeds M_foldYards M_least M_ways M_price M_rowBy M_columnBy M_rowOf M_wayBack M_slack M_isUsed M_lifted M_freed M_path) [(0, .ref a_M), (1, .int p1), (2, .int x2), (3, .int x3)] 21 [] := by
  obtain ⟨I, ⟨n, h0⟩, hb⟩ := h
  revert M_square M_path x3
  induction n using Nat.strongRecOn with
  | _ n ih =>
    intro M_square M_path x3 h0
    exact B_X11_round_21 cx hR (fun _ _ _ hz => by obtain ⟨n2, hlt, hI⟩ := hz; exact ih n2 hlt hI) (hb n M_square M_path x3 h0)
set_option maxHeartbeats 4000000 in
set_option maxRecDepth 100000 in
theorem c_X11_round {D : DG} {cyI cyJ cyZ : ClassId} {a_M a_M_square a_M_want a_M_text a_M_read a_M_row a_M_foldSet a_M_foldEdges a_M_foldNeeds a_M_foldYards a_M_least a_M_ways a_M_price a_M_rowBy a_M_columnBy a_M_rowOf a_M_wayBack a_M_slack a_M_isUsed a_M_lifted a_M_freed a_M_path : Nat} {M_wide : Int32} {M_high : Int32} {M_hedges : Int64} {M_hurdles : Int32} {M_wants : Int32} {M_rest : Int32} {M_frozen : Int32} {M_bytes : Int32} {M_position : Int32} {M_tokenAt : Int32} {M_token : Int64} {M_digits : Int32} {M_number : Int32} {M_faultAt : Int32} {M_readMany : Int32} {M_readWide : Int32} {M_readHigh : Int32} {M_nights : Int32} {M_why : Int32} {M_folds : Int32} {M_square : Nat → Int32} {M_want : Nat → Int32} {M_text : Nat → Int32} {M_read : Nat → Int32} {M_row : Nat → Int32} {M_foldSet : Nat → Int32} {M_foldEdges : Nat → Int64} {M_foldNeeds : Nat → Int32} {M_foldYards : Nat → Int32} {M_least : Nat → Int32} {M_ways : Nat → Int32} {M_price : Nat → Int32} {M_rowBy : Nat → Int32} {M_columnBy : Nat → Int32} {M_rowOf : Nat → Int32} {M_wayBack : Nat → Int32} {M_slack : Nat → Int32} {M_isUsed : Nat → Int32} {M_lifted : Nat → Int32} {M_freed : Nat → Int32} {M_path : Nat → Int32} {p1 : Int32} {Q : Int32 → (Int32 × (Nat → Int32) × (Nat → Int32) × (Nat → Int64) × (Nat → Int32) × (Nat → Int32) × (Nat → Int32) × (Nat → Int32) × (Nat → Int32)) → Prop} (h : wp_X11_round p1 M_wide M_high M_hedges M_folds M_square M_foldSet M_foldEdges M_foldNeeds M_foldYards M_least M_ways M_path Q) :
    MetI yX11_round cX11_round 5 (some .int) rm_X11_round D [(cyI, .int), (cyJ, .long), (cyZ, .boolean)] [.ref a_M, .int p1] (W_Model cyI cyJ cyZ a_M a_M_square a_M_want a_M_text a_M_read a_M_row a_M_foldSet a_M_foldEdges a_M_foldNeeds a_M_foldYards a_M_least a_M_ways a_M_price a_M_rowBy a_M_columnBy a_M_rowOf a_M_wayBack a_M_slack a_M_isUsed a_M_lifted a_M_freed a_M_path M_wide M_high M_hedges M_hurdles M_wants M_rest M_frozen M_bytes M_position M_tokenAt M_token M_digits M_number M_faultAt M_readMany M_readWide M_readHigh M_nights M_why M_folds M_square M_want M_text M_read M_row M_foldSet M_foldEdges M_foldNeeds M_foldYards M_least M_ways M_price M_rowBy M_columnBy M_rowOf M_wayBack M_slack M_isUsed M_lifted M_freed M_path) (fun u : Int32 × (Nat → Int32) × (Nat → Int32) × (Nat → Int64) × (Nat → Int32) × (Nat → Int32) × (Nat → Int32) × (Nat → Int32) × (Nat → Int32) => (W_Model cyI cyJ cyZ a_M a_M_square a_M_want a_M_text a_M_read a_M_row a_M_foldSet a_M_foldEdges a_M_foldNeeds a_M_foldYards a_M_least a_M_ways a_M_price a_M_rowBy a_M_columnBy a_M_rowOf a_M_wayBack a_M_slack a_M_isUsed a_M_lifted a_M_freed a_M_path M_wide M_high M_hedges M_hurdles M_wants M_rest M_frozen M_bytes M_position M_tokenAt M_token M_digits M_number M_faultAt M_readMany M_readWide M_readHigh M_nights M_why u.1 u.2.1 M_want M_text M_read M_row u.2.2.1 u.2.2.2.1 u.2.2.2.2.1 u.2.2.2.2.2.1 u.2.2.2.2.2.2.1 u.2.2.2.2.2.2.2.1 M_price M_rowBy M_columnBy M_rowOf M_wayBack M_slack M_isUsed M_lifted M_freed u.2.2.2.2.2.2.2.2)) (fun v u => Q v u) := by
  unfold wp_X11_round at h
  refine metI_of (by decide) (Nat.le_of_ble_eq_true rfl) (fun x cx0 hR0 => ?_)
  have cx : Cx x cX11_round 5 RX11 rm_X11_round D [(cyI, .int), (cyJ, .long), (cyZ, .boolean)] := cx0
  have hR : ∀ (v : Int32) (u : Int32 × (Nat → Int32) × (Nat → Int32) × (Nat → Int64) × (Nat → Int32) × (Nat → Int32) × (Nat → Int32) × (Nat → Int32) × (Nat → Int32)) (pc : Nat) (lv : List (Nat × Value)), decode cX11_round pc = .ok (.ireturn, 1) → Q v u → J x 0 0 5 (W_Model cyI cyJ cyZ a_M a_M_square a_M_want a_M_text a_M_read a_M_row a_M_foldSet a_M_foldEdges a_M_foldNeeds a_M_foldYards a_M_least a_M_ways a_M_price a_M_rowBy a_M_columnBy a_M_rowOf a_M_wayBack a_M_slack a_M_isUsed a_M_lifted a_M_freed a_M_path M_wide M_high M_hedges M_hurdles M_wants M_rest M_frozen M_bytes M_position M_tokenAt M_token M_digits M_number M_faultAt M_readMany M_readWide M_readHigh M_nights M_why u.1 u.2.1 M_want M_text M_read M_row u.2.2.1 u.2.2.2.1 u.2.2.2.2.1 u.2.2.2.2.2.1 u.2.2.2.2.2.2.1 u.2.2.2.2.2.2.2.1 M_price M_rowBy M_columnBy M_rowOf M_wayBack M_slack M_isUsed M_lifted M_freed u.2.2.2.2.2.2.2.2) lv pc [.int v] := (fun v u pc lv d hq => hR0 v u pc lv d hq)
  show J x 0 0 5 (W_Model cyI cyJ cyZ a_M a_M_square a_M_want a_M_text a_M_read a_M_row a_M_foldSet a_M_foldEdges a_M_foldNeeds a_M_foldYards a_M_least a_M_ways a_M_price a_M_rowBy a_M_columnBy a_M_rowOf a_M_wayBack a_M_slack a_M_isUsed a_M_lifted a_M_freed a_M_path M_wide M_high M_hedges M_hurdles M_wants M_rest M_frozen M_bytes M_position M_tokenAt M_token M_digits M_number M_faultAt M_readMany M_readWide M_readHigh M_nights M_why M_folds M_square M_want M_text M_read M_row M_foldSet M_foldEdges M_foldNeeds M_foldYards M_least M_ways M_price M_rowBy M_columnBy M_rowOf M_wayBack M_slack M_isUsed M_lifted M_freed M_path) [(0, .ref a_M), (1, .int p1)] 0 []
  refine j_iload_n cx 1 rfl rfl dX11_round_0 (pn := 1) rfl ?_
  refine j_iconst cx (v := 1) (by decide) dX11_round_1 (pn := 2) rfl ?_
  refine j_bipush cx (v := 90) (by decide) dX11_round_2 (pn := 4) rfl ?_
  refine j_calleI cx q_stat_X11_in (As := [.int p1, .int 1, .int 90]) (rest := []) (c_X11_in h) ⟨q_code_X11_in, q_ml_X11_90, q_init_X11, hd_X11_in, ⟨Nat.le_of_ble_eq_true rfl, Nat.le_of_ble_eq_true rfl⟩, Nat.le_of_ble_eq_true rfl, Nat.le_of_ble_eq_true rfl⟩ rfl rfl (Nat.le_of_ble_eq_true rfl) dX11_round_4 (pn := 7) rfl (fun r1 h => ?_)
  show J x 0 0 5 (W_Model cyI cyJ cyZ a_M a_M_square a_M_want a_M_text a_M_read a_M_row a_M_foldSet a_M_foldEdges a_M_foldNeeds a_M_foldYards a_M_least a_M_ways a_M_price a_M_rowBy a_M_columnBy a_M_rowOf a_M_wayBack a_M_slack a_M_isUsed a_M_lifted a_M_freed a_M_path M_wide M_high M_hedges M_hurdles M_wants M_rest M_frozen M_bytes M_position M_tokenAt M_token M_digits M_number M_faultAt M_readMany M_readWide M_readHigh M_nights M_why M_folds M_square M_want M_text M_read M_row M_foldSet M_foldEdges M_foldNeeds M_foldYards M_least M_ways M_price M_rowBy M_columnBy M_rowOf M_wayBack M_slack M_isUsed M_lifted M_freed M_path) [(0, .ref a_M), (1, .int p1)] 7 [.int r1]
  refine j_if_ne cx 13 dX11_round_7 (pn := 10) rfl rfl (fun c2 => ?_) (fun c2 => ?_)
  · have h := h.1 c2
    refine j_aload_n cx 0 rfl rfl dX11_round_13 (pn := 14) rfl ?_
    refine j_iload_n cx 1 rfl rfl dX11_round_14 (pn := 15) rfl ?_
    refine j_callvI0 cx q_inst_X11_fewestOf q_sel_X11_fewestOf (b := a_M) (As := [.int p1]) (rest := []) (c_X11_fewestOf h) ⟨q_code_X11_fewestOf, q_ml_X11_303, q_init_X11, hd_X11_fewestOf, ⟨Nat.le_of_ble_eq_true rfl, Nat.le_of_ble_eq_true rfl⟩, Nat.le_of_ble_eq_true rfl, Nat.le_of_ble_eq_true rfl⟩ (q0 := 0) rfl rfl rfl rfl (Nat.le_of_ble_eq_true rfl) dX11_round_15 (pn := 18) rfl (fun r3 u4 h => ?_)
    show J x 0 0 5 (W_Model cyI cyJ cyZ a_M a_M_square a_M_want a_M_text a_M_read a_M_row a_M_foldSet a_M_foldEdges a_M_foldNeeds a_M_foldYards a_M_least a_M_ways a_M_price a_M_rowBy a_M_columnBy a_M_rowOf a_M_wayBack a_M_slack a_M_isUsed a_M_lifted a_M_freed a_M_path M_wide M_high M_hedges M_hurdles M_wants M_rest M_frozen M_bytes M_position M_tokenAt M_token M_digits M_number M_faultAt M_readMany M_readWide M_readHigh M_nights M_why u4.1 M_square M_want M_text M_read M_row u4.2.1 u4.2.2.1 u4.2.2.2.1 u4.2.2.2.2.1 u4.2.2.2.2.2.1 u4.2.2.2.2.2.2 M_price M_rowBy M_columnBy M_rowOf M_wayBack M_slack M_isUsed M_lifted M_freed M_path) [(0, .ref a_M), (1, .int p1)] 18 [.int r3]
    refine j_istore_n cx rfl [(2, .int r3), (0, .ref a_M), (1, .int p1)] (by decide) rfl dX11_round_18 (pn := 19) rfl ?_
    refine j_iconst cx (v := 0) (by decide) dX11_round_19 (pn := 20) rfl ?_
    refine j_istore_n cx rfl [(3, .int 0), (2, .int r3), (0, .ref a_M), (1, .int p1)] (by decide) rfl dX11_round_20 (pn := 21) rfl ?_
    refine j_sub [2, 3, 1, 0] [(0, .ref a_M), (1, .int p1), (2, .int r3), (3, .int 0)] rfl ?_
    exact J_X11_round_21 cx hR h
  · have h := h.2 c2
    refine j_bipush cx (v := (-3)) (by decide) dX11_round_10 (pn := 12) rfl ?_
    exact hR (-3) (M_folds, M_square, M_foldSet, M_foldEdges, M_foldNeeds, M_foldYards, M_least, M_ways, M_path) 12 _ dX11_round_12 h
theorem dX11_broken_0 : decode cX11_broken 0 = .ok (.iload_n 1, 1) := by decide +kernel
theorem dX11_broken_1 : decode cX11_broken 1 = .ok (.iconst 1, 1) := by decide +kernel
theorem dX11_broken_2 : decode cX11_broken 2 = .ok (.bipush 90, 2) := by decide +kernel
theorem dX11_broken_4 : decode cX11_broken 4 = .ok (.invokestatic 90, 3) := by decide +kernel
theorem dX11_broken_7 : decode cX11_broken 7 = .ok (.ifCond .eq 13, 3) := by decide +kernel
theorem dX11_broken_10 : decode cX11_broken 10 = .ok (.iload_n 2, 1) := by decide +kernel
theorem dX11_broken_11 : decode cX11_broken 11 = .ok (.iconst 1, 1) := by decide +kernel
theorem dX11_broken_12 : decode cX11_broken 12 = .ok (.bipush 60, 2) := by decide +kernel
theorem dX11_broken_14 : decode cX11_broken 14 = .ok (.invokestatic 90, 3) := by decide +kernel
theorem dX11_broken_17 : decode cX11_broken 17 = .ok (.ifCond .ne 6, 3) := by decide +kernel
theorem dX11_broken_20 : decode cX11_broken 20 = .ok (.bipush (-3), 2) := by decide +kernel
theorem dX11_broken_22 : decode cX11_broken 22 = .ok (.ireturn, 1) := by decide +kernel
theorem dX11_broken_23 : decode cX11_broken 23 = .ok (.aload_n 0, 1) := by decide +kernel
theorem dX11_broken_24 : decode cX11_broken 24 = .ok (.iload_n 1, 1) := by decide +kernel
theorem dX11_broken_25 : decode cX11_broken 25 = .ok (.iload_n 2, 1) := by decide +kernel
theorem dX11_broken_26 : decode cX11_broken 26 = .ok (.invokevirtual 309, 3) := by decide +kernel
theorem dX11_broken_29 : decode cX11_broken 29 = .ok (.istore_n 3, 1) := by decide +kernel
theorem dX11_broken_30 : decode cX11_broken 30 = .ok (.aload_n 0, 1) := by decide +kernel
theorem dX11_broken_31 : decode cX11_broken 31 = .ok (.iload_n 1, 1) := by decide +kernel
theorem dX11_broken_32 : decode cX11_broken 32 = .ok (.iload_n 2, 1) := by decide +kernel
theorem dX11_broken_33 : decode cX11_broken 33 = .ok (.iconst 1, 1) := by decide +kernel
theorem dX11_broken_34 : decode cX11_broken 34 = .ok (.isub, 1) := by decide +kernel
theorem dX11_broken_35 : decode cX11_broken 35 = .ok (.invokevirtual 309, 3) := by decide +kernel
theorem dX11_broken_38 : decode cX11_broken 38 = .ok (.istore 4, 2) := by decide +kernel
theorem dX11_broken_40 : decode cX11_broken 40 = .ok (.iload_n 3, 1) := by decide +kernel
theorem dX11_broken_41 : decode cX11_broken 41 = .ok (.iconst (-1), 1) := by decide +kernel
theorem dX11_broken_42 : decode cX11_broken 42 = .ok (.if_icmp .eq 9, 3) := by decide +kernel
theorem dX11_broken_45 : decode cX11_broken 45 = .ok (.iload 4, 2) := by decide +kernel
theorem dX11_broken_47 : decode cX11_broken 47 = .ok (.iconst (-1), 1) := by decide +kernel
theorem dX11_broken_48 : decode cX11_broken 48 = .ok (.if_icmp .ne 7, 3) := by decide +kernel
theorem dX11_broken_51 : decode cX11_broken 51 = .ok (.iconst (-1), 1) := by decide +kernel
theorem dX11_broken_52 : decode cX11_broken 52 = .ok (.goto 7, 3) := by decide +kernel
theorem dX11_broken_55 : decode cX11_broken 55 = .ok (.iload 4, 2) := by decide +kernel
theorem dX11_broken_57 : decode cX11_broken 57 = .ok (.iload_n 3, 1) := by decide +kernel
theorem dX11_broken_58 : decode cX11_broken 58 = .ok (.isub, 1) := by decide +kernel
theorem dX11_broken_59 : decode cX11_broken 59 = .ok (.ireturn, 1) := by decide +kernel
abbrev rm_X11_broken : Room := { frames := 7, cells := 0, slots := 0, locals := 168 }
theorem hd_X11_broken : yX11_broken.cls ≠ "java/lang/invoke/MethodHandle" ∧ yX11_broken.cls ≠ "java/lang/invoke/VarHandle" ∧ (parseMethodDescriptor yX11_broken.desc).map (fun d => d.parameters.length) = some 2 := by decide +kernel
def bk_X11_broken_51 (Q : Int32 → (Int32 × (Nat → Int32) × (Nat → Int64) × (Nat → Int32) × (Nat → Int32) × (Nat → Int32) × (Nat → Int32)) → Prop) (M_folds : Int32) (M_foldSet : Nat → Int32) (M_foldEdges : Nat → Int64) (M_foldNeeds : Nat → Int32) (M_foldYards : Nat → Int32) (M_least : Nat → Int32) (M_ways : Nat → Int32) : Prop :=
Q (-1) (M_folds, M_foldSet, M_foldEdges, M_foldNeeds, M_foldYards, M_least, M_ways)
def wp_X11_broken (p1 : Int32) (p2 : Int32) (M_wide : Int32) (M_high : Int32) (M_hedges : Int64) (M_folds : Int32) (M_square : Nat → Int32) (M_foldSet : Nat → Int32) (M_foldEdges : Nat → Int64) (M_foldNeeds : Nat → Int32) (M_foldYards : Nat → Int32) (M_least : Nat → Int32) (M_ways : Nat → Int32) (Q : Int32 → (Int32 × (Nat → Int32) × (Nat → Int64) × (Nat → Int32) × (Nat → Int32) × (Nat → Int32) × (Nat → Int32)) → Prop) : Prop :=
wp_X11_in p1 1 90 (fun (r1 : Int32) => ((r1 = 0 → Q (-3) (M_folds, M_foldSet, M_foldEdges, M_foldNeeds, M_foldYards, M_least, M_ways)) ∧
(¬ r1 = 0 → wp_X11_in p2 1 60 (fun (r3 : Int32) => ((¬ r3 = 0 → wp_X11_leastLifted p1 p2 M_wide M_high M_hedges M_square M_foldSet M_foldEdges M_foldNeeds M_foldYards M_least M_ways (fun (r5 : Int32) (u6 : Int32 × (Nat → Int32) × (Nat → Int64) × (Nat → Int32) × (Nat → Int32) × (Nat → Int32) × (Nat → Int32)) => wp_X11_leastLifted p1 (p2 - 1) M_wide M_high M_hedges M_square u6.2.1 u6.2.2.1 u6.2.2.2.1 u6.2.2.2.2.1 u6.2.2.2.2.2.1 u6.2.2.2.2.2.2 (fun (r7 : Int32) (u8 : Int32 × (Nat → Int32) × (Nat → Int64) × (Nat → Int32) × (Nat → Int32) × (Nat → Int32) × (Nat → Int32)) => ((r5 = (-1) → bk_X11_broken_51 Q u8.1 u8.2.1 u8.2.2.1 u8.2.2.2.1 u8.2.2.2.2.1 u8.2.2.2.2.2.1 u8.2.2.2.2.2.2) ∧
(¬ r5 = (-1) → ((¬ r7 = (-1) → Q (r7 - r5) (u8.1, u8.2.1, u8.2.2.1, u8.2.2.2.1, u8.2.2.2.2.1, u8.2.2.2.2.2.1, u8.2.2.2.2.2.2)) ∧
(r7 = (-1) → bk_X11_broken_51 Q u8.1 u8.2.1 u8.2.2.1 u8.2.2.2.1 u8.2.2.2.2.1 u8.2.2.2.2.2.1 u8.2.2.2.2.2.2))))))) ∧
(r3 = 0 → Q (-3) (M_folds, M_foldSet, M_foldEdges, M_foldNeeds, M_foldYards, M_least, M_ways)))))))
set_option maxHeartbeats 4000000 in
set_option maxRecDepth 100000 in
theorem J_X11_broken_51 {x : CX} {D : DG} {cyI cyJ cyZ : ClassId} {a_M a_M_square a_M_want a_M_text a_M_read a_M_row a_M_foldSet a_M_foldEdges a_M_foldNeeds a_M_foldYards a_M_least a_M_ways a_M_price a_M_rowBy a_M_columnBy a_M_rowOf a_M_wayBack a_M_slack a_M_isUsed a_M_lifted a_M_freed a_M_path : Nat} {M_wide : Int32} {M_high : Int32} {M_hedges : Int64} {M_hurdles : Int32} {M_wants : Int32} {M_rest : Int32} {M_frozen : Int32} {M_bytes : Int32} {M_position : Int32} {M_tokenAt : Int32} {M_token : Int64} {M_digits : Int32} {M_number : Int32} {M_faultAt : Int32} {M_readMany : Int32} {M_readWide : Int32} {M_readHigh : Int32} {M_nights : Int32} {M_why : Int32} {M_folds : Int32} {M_square : Nat → Int32} {M_want : Nat → Int32} {M_text : Nat → Int32} {M_read : Nat → Int32} {M_row : Nat → Int32} {M_foldSet : Nat → Int32} {M_foldEdges : Nat → Int64} {M_foldNeeds : Nat → Int32} {M_foldYards : Nat → Int32} {M_least : Nat → Int32} {M_ways : Nat → Int32} {M_price : Nat → Int32} {M_rowBy : Nat → Int32} {M_columnBy : Nat → Int32} {M_rowOf : Nat → Int32} {M_wayBack : Nat → Int32} {M_slack : Nat → Int32} {M_isUsed : Nat → Int32} {M_lifted : Nat → Int32} {M_freed : Nat → Int32} {M_path : Nat → Int32} {Q : Int32 → (Int32 × (Nat → Int32) × (Nat → Int64) × (Nat → Int32) × (Nat → Int32) × (Nat → Int32) × (Nat → Int32)) → Prop} (cx : Cx x cX11_broken 5 RX11 rm_X11_broken D [(cyI, .int), (cyJ, .long), (cyZ, .boolean)]) (hR : ∀ (v : Int32) (u : Int32 × (Nat → Int32) × (Nat → Int64) × (Nat → Int32) × (Nat → Int32) × (Nat → Int32) × (Nat → Int32)) (pc : Nat) (lv : List (Nat × Value)), decode cX11_broken pc = .ok (.ireturn, 1) → Q v u → J x 0 0 5 (W_Model cyI cyJ cyZ a_M a_M_square a_M_want a_M_text a_M_read a_M_row a_M_foldSet a_M_foldEdges a_M_foldNeeds a_M_foldYards a_M_least a_M_ways a_M_price a_M_rowBy a_M_columnBy a_M_rowOf a_M_wayBack a_M_slack a_M_isUsed a_M_lifted a_M_freed a_M_path M_wide M_high M_hedges M_hurdles M_wants M_rest M_frozen M_bytes M_position M_tokenAt M_token M_digits M_number M_faultAt M_readMany M_readWide M_readHigh M_nights M_why u.1 M_square M_want M_text M_read M_row u.2.1 u.2.2.1 u.2.2.2.1 u.2.2.2.2.1 u.2.2.2.2.2.1 u.2.2.2.2.2.2 M_price M_rowBy M_columnBy M_rowOf M_wayBack M_slack M_isUsed M_lifted M_freed M_path) lv pc [.int v]) (h : bk_X11_broken_51 Q  M_folds M_foldSet M_foldEdges M_foldNeeds M_foldYards M_least M_ways) :
    J x 0 0 5 (W_Model cyI cyJ cyZ a_M a_M_square a_M_want a_M_text a_M_read a_M_row a_M_foldSet a_M_foldEdges a_M_foldNeeds a_M_foldYards a_M_least a_M_ways a_M_price a_M_rowBy a_M_columnBy a_M_rowOf a_M_wayBack a_M_slack a_M_isUsed a_M_lifted a_M_freed a_M_path M_wide M_high M_hedges M_hurdles M_wants M_rest M_frozen M_bytes M_position M_tokenAt M_token M_digits M_number M_faultAt M_readMany M_readWide M_readHigh M_nights M_why M_folds M_square M_want M_text M_read M_row M_foldSet M_foldEdges M_foldNeeds M_foldYards M_least M_ways M_price M_rowBy M_columnBy M_rowOf M_wayBack M_slack M_isUsed M_lifted M_freed M_path) [] 51 [] := by
  unfold bk_X11_broken_51 at h
  refine j_iconst cx (v := (-1)) (by decide) dX11_broken_51 (pn := 52) rfl ?_
  refine j_goto cx 59 dX11_broken_52 rfl ?_
  exact hR (-1) (M_folds, M_foldSet, M_foldEdges, M_foldNeeds, M_foldYards, M_least, M_ways) 59 _ dX11_broken_59 h
set_option maxHeartbeats 4000000 in
set_option maxRecDepth 100000 in
theorem c_X11_broken {D : DG} {cyI cyJ cyZ : ClassId} {a_M a_M_square a_M_want a_M_text a_M_read a_M_row a_M_foldSet a_M_foldEdges a_M_foldNeeds a_M_foldYards a_M_least a_M_ways a_M_price a_M_rowBy a_M_columnBy a_M_rowOf a_M_wayBack a_M_slack a_M_isUsed a_M_lifted a_M_freed a_M_path : Nat} {M_wide : Int32} {M_high : Int32} {M_hedges : Int64} {M_hurdles : Int32} {M_wants : Int32} {M_rest : Int32} {M_frozen : Int32} {M_bytes : Int32} {M_position : Int32} {M_tokenAt : Int32} {M_token : Int64} {M_digits : Int32} {M_number : Int32} {M_faultAt : Int32} {M_readMany : Int32} {M_readWide : Int32} {M_readHigh : Int32} {M_nights : Int32} {M_why : Int32} {M_folds : Int32} {M_square : Nat → Int32} {M_want : Nat → Int32} {M_text : Nat → Int32} {M_read : Nat → Int32} {M_row : Nat → Int32} {M_foldSet : Nat → Int32} {M_foldEdges : Nat → Int64} {M_foldNeeds : Nat → Int32} {M_foldYards : Nat → Int32} {M_least : Nat → Int32} {M_ways : Nat → Int32} {M_price : Nat → Int32} {M_rowBy : Nat → Int32} {M_columnBy : Nat → Int32} {M_rowOf : Nat → Int32} {M_wayBack : Nat → Int32} {M_slack : Nat → Int32} {M_isUsed : Nat → Int32} {M_lifted : Nat → Int32} {M_freed : Nat → Int32} {M_path : Nat → Int32} {p1 : Int32} {p2 : Int32} {Q : Int32 → (Int32 × (Nat → Int32) × (Nat → Int64) × (Nat → Int32) × (Nat → Int32) × (Nat → Int32) × (Nat → Int32)) → Prop} (h : wp_X11_broken p1 p2 M_wide M_high M_hedges M_folds M_square M_foldSet M_foldEdges M_foldNeeds M_foldYards M_least M_ways Q) :
    MetI yX11_broken cX11_broken 5 (some .int) rm_X11_broken D [(cyI, .int), (cyJ, .long), (cyZ, .boolean)] [.ref a_M, .int p1, .int p2] (W_Model cyI cyJ cyZ a_M a_M_square a_M_want a_M_text a_M_read a_M_row a_M_foldSet a_M_foldEdges a_M_foldNeeds a_M_foldYards a_M_least a_M_ways a_M_price a_M_rowBy a_M_columnBy a_M_rowOf a_M_wayBack a_M_slack a_M_isUsed a_M_lifted a_M_freed a_M_path M_wide M_high M_hedges M_hurdles M_wants M_rest M_frozen M_bytes M_position M_tokenAt M_token M_digits M_number M_faultAt M_readMany M_readWide M_readHigh M_nights M_why M_folds M_square M_want M_text M_read M_row M_foldSet M_foldEdges M_foldNeeds M_foldYards M_least M_ways M_price M_rowBy M_columnBy M_rowOf M_wayBack M_slack M_isUsed M_lifted M_freed M_path) (fun u : Int32 × (Nat → Int32) × (Nat → Int64) × (Nat → Int32) × (Nat → Int32) × (Nat → Int32) × (Nat → Int32) => (W_Model cyI cyJ cyZ a_M a_M_square a_M_want a_M_text a_M_read a_M_row a_M_foldSet a_M_foldEdges a_M_foldNeeds a_M_foldYards a_M_least a_M_ways a_M_price a_M_rowBy a_M_columnBy a_M_rowOf a_M_wayBack a_M_slack a_M_isUsed a_M_lifted a_M_freed a_M_path M_wide M_high M_hedges M_hurdles M_wants M_rest M_frozen M_bytes M_position M_tokenAt M_token M_digits M_number M_faultAt M_readMany M_readWide M_readHigh M_nights M_why u.1 M_square M_want M_text M_read M_row u.2.1 u.2.2.1 u.2.2.2.1 u.2.2.2.2.1 u.2.2.2.2.2.1 u.2.2.2.2.2.2 M_price M_rowBy M_columnBy M_rowOf M_wayBack M_slack M_isUsed M_lifted M_freed M_path)) (fun v u => Q v u) := by
  unfold wp_X11_broken at h
  refine metI_of (by decide) (Nat.le_of_ble_eq_true rfl) (fun x cx0 hR0 => ?_)
  have cx : Cx x cX11_broken 5 RX11 rm_X11_broken D [(cyI, .int), (cyJ, .long), (cyZ, .boolean)] := cx0
  have hR : ∀ (v : Int32) (u : Int32 × (Nat → Int32) × (Nat → Int64) × (Nat → Int32) × (Nat → Int32) × (Nat → Int32) × (Nat → Int32)) (pc : Nat) (lv : List (Nat × Value)), decode cX11_broken pc = .ok (.ireturn, 1) → Q v u → J x 0 0 5 (W_Model cyI cyJ cyZ a_M a_M_square a_M_want a_M_text a_M_read a_M_row a_M_foldSet a_M_foldEdges a_M_foldNeeds a_M_foldYards a_M_least a_M_ways a_M_price a_M_rowBy a_M_columnBy a_M_rowOf a_M_wayBack a_M_slack a_M_isUsed a_M_lifted a_M_freed a_M_path M_wide M_high M_hedges M_hurdles M_wants M_rest M_frozen M_bytes M_position M_tokenAt M_token M_digits M_number M_faultAt M_readMany M_readWide M_readHigh M_nights M_why u.1 M_square M_want M_text M_read M_row u.2.1 u.2.2.1 u.2.2.2.1 u.2.2.2.2.1 u.2.2.2.2.2.1 u.2.2.2.2.2.2 M_price M_rowBy M_columnBy M_rowOf M_wayBack M_slack M_isUsed M_lifted M_freed M_path) lv pc [.int v] := (fun v u pc lv d hq => hR0 v u pc lv d hq)
  show J x 0 0 5 (W_Model cyI cyJ cyZ a_M a_M_square a_M_want a_M_text a_M_read a_M_row a_M_foldSet a_M_foldEdges a_M_foldNeeds a_M_foldYards a_M_least a_M_ways a_M_price a_M_rowBy a_M_columnBy a_M_rowOf a_M_wayBack a_M_slack a_M_isUsed a_M_lifted a_M_freed a_M_path M_wide M_high M_hedges M_hurdles M_wants M_rest M_frozen M_bytes M_position M_tokenAt M_token M_digits M_number M_faultAt M_readMany M_readWide M_readHigh M_nights M_why M_folds M_square M_want M_text M_read M_row M_foldSet M_foldEdges M_foldNeeds M_foldYards M_least M_ways M_price M_rowBy M_columnBy M_rowOf M_wayBack M_slack M_isUsed M_lifted M_freed M_path) [(0, .ref a_M), (1, .int p1), (2, .int p2)] 0 []
  refine j_iload_n cx 1 rfl rfl dX11_broken_0 (pn := 1) rfl ?_
  refine j_iconst cx (v := 1) (by decide) dX11_broken_1 (pn := 2) rfl ?_
  refine j_bipush cx (v := 90) (by decide) dX11_broken_2 (pn := 4) rfl ?_
  refine j_calleI cx q_stat_X11_in (As := [.int p1, .int 1, .int 90]) (rest := []) (c_X11_in h) ⟨q_code_X11_in, q_ml_X11_90, q_init_X11, hd_X11_in, ⟨Nat.le_of_ble_eq_true rfl, Nat.le_of_ble_eq_true rfl⟩, Nat.le_of_ble_eq_true rfl, Nat.le_of_ble_eq_true rfl⟩ rfl rfl (Nat.le_of_ble_eq_true rfl) dX11_broken_4 (pn := 7) rfl (fun r1 h => ?_)
  show J x 0 0 5 (W_Model cyI cyJ cyZ a_M a_M_square a_M_want a_M_text a_M_read a_M_row a_M_foldSet a_M_foldEdges a_M_foldNeeds a_M_foldYards a_M_least a_M_ways a_M_price a_M_rowBy a_M_columnBy a_M_rowOf a_M_wayBack a_M_slack a_M_isUsed a_M_lifted a_M_freed a_M_path M_wide M_high M_hedges M_hurdles M_wants M_rest M_frozen M_bytes M_position M_tokenAt M_token M_digits M_number M_faultAt M_readMany M_readWide M_readHigh M_nights M_why M_folds M_square M_want M_text M_read M_row M_foldSet M_foldEdges M_foldNeeds M_foldYards M_least M_ways M_price M_rowBy M_columnBy M_rowOf M_wayBack M_slack M_isUsed M_lifted M_freed M_path) [(0, .ref a_M), (1, .int p1), (2, .int p2)] 7 [.int r1]
  refine j_if_eq cx 20 dX11_broken_7 (pn := 10) rfl rfl (fun c2 => ?_) (fun c2 => ?_)
  · have h := h.1 c2
    refine j_bipush cx (v := (-3)) (by decide) dX11_broken_20 (pn := 22) rfl ?_
    exact hR (-3) (M_folds, M_foldSet, M_foldEdges, M_foldNeeds, M_foldYards, M_least, M_ways) 22 _ dX11_broken_22 h
  · have h := h.2 c2
    refine j_iload_n cx 2 rfl rfl dX11_broken_10 (pn := 11) rfl ?_
    refine j_iconst cx (v := 1) (by decide) dX11_broken_11 (pn := 12) rfl ?_
    refine j_bipush cx (v := 60) (by decide) dX11_broken_12 (pn := 14) rfl ?_
    refine j_calleI cx q_stat_X11_in (As := [.int p2, .int 1, .int 60]) (rest := []) (c_X11_in h) ⟨q_code_X11_in, q_ml_X11_90, q_init_X11, hd_X11_in, ⟨Nat.le_of_ble_eq_true rfl, Nat.le_of_ble_eq_true rfl⟩, Nat.le_of_ble_eq_true rfl, Nat.le_of_ble_eq_true rfl⟩ rfl rfl (Nat.le_of_ble_eq_true rfl) dX11_broken_14 (pn := 17) rfl (fun r3 h => ?_)
    show J x 0 0 5 (W_Model cyI cyJ cyZ a_M a_M_square a_M_want a_M_text a_M_read a_M_row a_M_foldSet a_M_foldEdges a_M_foldNeeds a_M_foldYards a_M_least a_M_ways a_M_price a_M_rowBy a_M_columnBy a_M_rowOf a_M_wayBack a_M_slack a_M_isUsed a_M_lifted a_M_freed a_M_path M_wide M_high M_hedges M_hurdles M_wants M_rest M_frozen M_bytes M_position M_tokenAt M_token M_digits M_number M_faultAt M_readMany M_readWide M_readHigh M_nights M_why M_folds M_square M_want M_text M_read M_row M_foldSet M_foldEdges M_foldNeeds M_foldYards M_least M_ways M_price M_rowBy M_columnBy M_rowOf M_wayBack M_slack M_isUsed M_lifted M_freed M_path) [(0, .ref a_M), (1, .int p1), (2, .int p2)] 17 [.int r3]
    refine j_if_ne cx 23 dX11_broken_17 (pn := 20) rfl rfl (fun c4 => ?_) (fun c4 => ?_)
    · have h := h.1 c4
      refine j_aload_n cx 0 rfl rfl dX11_broken_23 (pn := 24) rfl ?_
      refine j_iload_n cx 1 rfl rfl dX11_broken_24 (pn := 25) rfl ?_
      refine j_iload_n cx 2 rfl rfl dX11_broken_25 (pn := 26) rfl ?_
      refine j_callvI0 cx q_inst_X11_leastLifted q_sel_X11_leastLifted (b := a_M) (As := [.int p1, .int p2]) (rest := []) (c_X11_leastLifted h) ⟨q_code_X11_leastLifted, q_ml_X11_309, q_init_X11, hd_X11_leastLifted, ⟨Nat.le_of_ble_eq_true rfl, Nat.le_of_ble_eq_true rfl⟩, Nat.le_of_ble_eq_true rfl, Nat.le_of_ble_eq_true rfl⟩ (q0 := 0) rfl rfl rfl rfl (Nat.le_of_ble_eq_true rfl) dX11_broken_26 (pn := 29) rfl (fun r5 u6 h => ?_)
      show J x 0 0 5 (W_Model cyI cyJ cyZ a_M a_M_square a_M_want a_M_text a_M_read a_M_row a_M_foldSet a_M_foldEdges a_M_foldNeeds a_M_foldYards a_M_least a_M_ways a_M_price a_M_rowBy a_M_columnBy a_M_rowOf a_M_wayBack a_M_slack a_M_isUsed a_M_lifted a_M_freed a_M_path M_wide M_high M_hedges M_hurdles M_wants M_rest M_frozen M_bytes M_position M_tokenAt M_token M_digits M_number M_faultAt M_readMany M_readWide M_readHigh M_nights M_why u6.1 M_square M_want M_text M_read M_row u6.2.1 u6.2.2.1 u6.2.2.2.1 u6.2.2.2.2.1 u6.2.2.2.2.2.1 u6.2.2.2.2.2.2 M_price M_rowBy M_columnBy M_rowOf M_wayBack M_slack M_isUsed M_lifted M_freed M_path) [(0, .ref a_M), (1, .int p1), (2, .int p2)] 29 [.int r5]
      refine j_istore_n cx rfl [(3, .int r5), (0, .ref a_M), (1, .int p1), (2, .int p2)] (by decide) rfl dX11_broken_29 (pn := 30) rfl ?_
      refine j_aload_n cx 1 rfl rfl dX11_broken_30 (pn := 31) rfl ?_
      refine j_iload_n cx 2 rfl rfl dX11_broken_31 (pn := 32) rfl ?_
      refine j_iload_n cx 3 rfl rfl dX11_broken_32 (pn := 33) rfl ?_
      refine j_iconst cx (v := 1) (by decide) dX11_broken_33 (pn := 34) rfl ?_
      refine j_isub cx dX11_broken_34 (pn := 35) rfl ?_
      refine j_callvI0 cx q_inst_X11_leastLifted q_sel_X11_leastLifted (b := a_M) (As := [.int p1, .int (p2 - 1)]) (rest := []) (c_X11_leastLifted h) ⟨q_code_X11_leastLifted, q_ml_X11_309, q_init_X11, hd_X11_leastLifted, ⟨Nat.le_of_ble_eq_true rfl, Nat.le_of_ble_eq_true rfl⟩, Nat.le_of_ble_eq_true rfl, Nat.le_of_ble_eq_true rfl⟩ (q0 := 0) rfl rfl rfl rfl (Nat.le_of_ble_eq_true rfl) dX11_broken_35 (pn := 38) rfl (fun r7 u8 h => ?_)
      show J x 0 0 5 (W_Model cyI cyJ cyZ a_M a_M_square a_M_want a_M_text a_M_read a_M_row a_M_foldSet a_M_foldEdges a_M_foldNeeds a_M_foldYards a_M_least a_M_ways a_M_price a_M_rowBy a_M_columnBy a_M_rowOf a_M_wayBack a_M_slack a_M_isUsed a_M_lifted a_M_freed a_M_path M_wide M_high M_hedges M_hurdles M_wants M_rest M_frozen M_bytes M_position M_tokenAt M_token M_digits M_number M_faultAt M_readMany M_readWide M_readHigh M_nights M_why u8.1 M_square M_want M_text M_read M_row u8.2.1 u8.2.2.1 u8.2.2.2.1 u8.2.2.2.2.1 u8.2.2.2.2.2.1 u8.2.2.2.2.2.2 M_price M_rowBy M_columnBy M_rowOf M_wayBack M_slack M_isUsed M_lifted M_freed M_path) [(3, .int r5), (0, .ref a_M), (1, .int p1), (2, .int p2)] 38 [.int r7]
      refine j_istore cx [(4, .int r7), (3, .int r5), (0, .ref a_M), (1, .int p1), (2, .int p2)] (by decide) rfl dX11_broken_38 (pn := 40) rfl ?_
      refine j_iload_n cx 1 rfl rfl dX11_broken_40 (pn := 41) rfl ?_
      refine j_iconst cx (v := (-1)) (by decide) dX11_broken_41 (pn := 42) rfl ?_
      refine j_icmp_eq cx 51 dX11_broken_42 (pn := 45) rfl rfl (fun c9 => ?_) (fun c9 => ?_)
      · have h := h.1 c9
        refine j_sub [] [] rfl ?_
        exact J_X11_broken_51 cx hR h
      · have h := h.2 c9
        refine j_iload cx 0 rfl dX11_broken_45 (pn := 47) rfl ?_
        refine j_iconst cx (v := (-1)) (by decide) dX11_broken_47 (pn := 48) rfl ?_
        refine j_icmp_ne cx 55 dX11_broken_48 (pn := 51) rfl rfl (fun c10 => ?_) (fun c10 => ?_)
        · have h := h.1 c10
          refine j_iload cx 0 rfl dX11_broken_55 (pn := 57) rfl ?_
          refine j_iload_n cx 1 rfl rfl dX11_broken_57 (pn := 58) rfl ?_
          refine j_isub cx dX11_broken_58 (pn := 59) rfl ?_
          exact hR (r7 - r5) (u8.1, u8.2.1, u8.2.2.1, u8.2.2.2.1, u8.2.2.2.2.1, u8.2.2.2.2.2.1, u8.2.2.2.2.2.2) 59 _ dX11_broken_59 h
        · have h := h.2 c10
          refine j_sub [] [] rfl ?_
          exact J_X11_broken_51 cx hR h
    · have h := h.2 c4
      refine j_bipush cx (v := (-3)) (by decide) dX11_broken_20 (pn := 22) rfl ?_
      exact hR (-3) (M_folds, M_foldSet, M_foldEdges, M_foldNeeds, M_foldYards, M_least, M_ways) 22 _ dX11_broken_22 h
theorem dX11_layStrip_0 : decode cX11_layStrip 0 = .ok (.iconst 0, 1) := by decide +kernel
theorem dX11_layStrip_1 : decode cX11_layStrip 1 = .ok (.istore_n 1, 1) := by decide +kernel
theorem dX11_layStrip_2 : decode cX11_layStrip 2 = .ok (.iload_n 1, 1) := by decide +kernel
theorem dX11_layStrip_3 : decode cX11_layStrip 3 = .ok (.aload_n 0, 1) := by decide +kernel
theorem dX11_layStrip_4 : decode cX11_layStrip 4 = .ok (.invokevirtual 86, 3) := by decide +kernel
theorem dX11_layStrip_7 : decode cX11_layStrip 7 = .ok (.if_icmp .ge 59, 3) := by decide +kernel
theorem dX11_layStrip_10 : decode cX11_layStrip 10 = .ok (.iload_n 1, 1) := by decide +kernel
theorem dX11_layStrip_11 : decode cX11_layStrip 11 = .ok (.aload_n 0, 1) := by decide +kernel
theorem dX11_layStrip_12 : decode cX11_layStrip 12 = .ok (.getfield 13, 3) := by decide +kernel
theorem dX11_layStrip_15 : decode cX11_layStrip 15 = .ok (.idiv, 1) := by decide +kernel
theorem dX11_layStrip_16 : decode cX11_layStrip 16 = .ok (.istore_n 2, 1) := by decide +kernel
theorem dX11_layStrip_17 : decode cX11_layStrip 17 = .ok (.iload_n 2, 1) := by decide +kernel
theorem dX11_layStrip_18 : decode cX11_layStrip 18 = .ok (.iconst 2, 1) := by decide +kernel
theorem dX11_layStrip_19 : decode cX11_layStrip 19 = .ok (.irem, 1) := by decide +kernel
theorem dX11_layStrip_20 : decode cX11_layStrip 20 = .ok (.ifCond .ne 12, 3) := by decide +kernel
theorem dX11_layStrip_23 : decode cX11_layStrip 23 = .ok (.iload_n 1, 1) := by decide +kernel
theorem dX11_layStrip_24 : decode cX11_layStrip 24 = .ok (.aload_n 0, 1) := by decide +kernel
theorem dX11_layStrip_25 : decode cX11_layStrip 25 = .ok (.getfield 13, 3) := by decide +kernel
theorem dX11_layStrip_28 : decode cX11_layStrip 28 = .ok (.irem, 1) := by decide +kernel
theorem dX11_layStrip_29 : decode cX11_layStrip 29 = .ok (.goto 16, 3) := by decide +kernel
theorem dX11_layStrip_32 : decode cX11_layStrip 32 = .ok (.aload_n 0, 1) := by decide +kernel
theorem dX11_layStrip_33 : decode cX11_layStrip 33 = .ok (.getfield 13, 3) := by decide +kernel
theorem dX11_layStrip_36 : decode cX11_layStrip 36 = .ok (.iconst 1, 1) := by decide +kernel
theorem dX11_layStrip_37 : decode cX11_layStrip 37 = .ok (.isub, 1) := by decide +kernel
theorem dX11_layStrip_38 : decode cX11_layStrip 38 = .ok (.iload_n 1, 1) := by decide +kernel
theorem dX11_layStrip_39 : decode cX11_layStrip 39 = .ok (.aload_n 0, 1) := by decide +kernel
theorem dX11_layStrip_40 : decode cX11_layStrip 40 = .ok (.getfield 13, 3) := by decide +kernel
theorem dX11_layStrip_43 : decode cX11_layStrip 43 = .ok (.irem, 1) := by decide +kernel
theorem dX11_layStrip_44 : decode cX11_layStrip 44 = .ok (.isub, 1) := by decide +kernel
theorem dX11_layStrip_45 : decode cX11_layStrip 45 = .ok (.istore_n 3, 1) := by decide +kernel
theorem dX11_layStrip_46 : decode cX11_layStrip 46 = .ok (.aload_n 0, 1) := by decide +kernel
theorem dX11_layStrip_47 : decode cX11_layStrip 47 = .ok (.getfield 83, 3) := by decide +kernel
theorem dX11_layStrip_50 : decode cX11_layStrip 50 = .ok (.iload_n 1, 1) := by decide +kernel
theorem dX11_layStrip_51 : decode cX11_layStrip 51 = .ok (.aload_n 0, 1) := by decide +kernel
theorem dX11_layStrip_52 : decode cX11_layStrip 52 = .ok (.getfield 7, 3) := by decide +kernel
theorem dX11_layStrip_55 : decode cX11_layStrip 55 = .ok (.iload_n 3, 1) := by decide +kernel
theorem dX11_layStrip_56 : decode cX11_layStrip 56 = .ok (.imul, 1) := by decide +kernel
theorem dX11_layStrip_57 : decode cX11_layStrip 57 = .ok (.iload_n 2, 1) := by decide +kernel
theorem dX11_layStrip_58 : decode cX11_layStrip 58 = .ok (.iadd, 1) := by decide +kernel
theorem dX11_layStrip_59 : decode cX11_layStrip 59 = .ok (.iastore, 1) := by decide +kernel
theorem dX11_layStrip_60 : decode cX11_layStrip 60 = .ok (.iinc 1 1, 3) := by decide +kernel
theorem dX11_layStrip_63 : decode cX11_layStrip 63 = .ok (.goto (-61), 3) := by decide +kernel
theorem dX11_layStrip_66 : decode cX11_layStrip 66 = .ok (.return_, 1) := by decide +kernel
abbrev rm_X11_layStrip : Room := { frames := 1, cells := 0, slots := 0, locals := 20 }
theorem hd_X11_layStrip : yX11_layStrip.cls ≠ "java/lang/invoke/MethodHandle" ∧ yX11_layStrip.cls ≠ "java/lang/invoke/VarHandle" ∧ (parseMethodDescriptor yX11_layStrip.desc).map (fun d => d.parameters.length) = some 0 := by decide +kernel
def bk_X11_layStrip_45 (Q : ((Nat → Int32)) → Prop) (B2 : (Nat → Int32) → Int32 → Prop) (x1 : Int32) (x2 : Int32) (M_wide : Int32) (M_path : Nat → Int32) (s0 : Int32) : Prop :=
∀ y5 : Int32, y5 = ((M_wide * s0) + x2) →
vp_in x1 10 ∧ (∀ f6 : Nat → Int32, f6 = (upd M_path x1.toNatClampNeg y5) →
∀ y7 : Int32, y7 = (x1 + 1) →
B2 f6 y7)
def bd_X11_layStrip_2 (Q : ((Nat → Int32)) → Prop) (B2 : (Nat → Int32) → Int32 → Prop) (M_wide : Int32) (M_high : Int32) (M_path : Nat → Int32) (x1 : Int32) : Prop :=
wp_X11_squares M_wide M_high (fun (r1 : Int32) => ((r1 ≤ x1 → Q M_path) ∧
(¬ r1 ≤ x1 → ¬ M_high = 0 ∧ (∀ y3 : Int32, y3 = (x1 / M_high) →
((¬ (y3 - y3 / 2 * 2) = 0 → ¬ M_high = 0 ∧ bk_X11_layStrip_45 Q B2 x1 y3 M_wide M_path ((M_high - 1) - (x1 - x1 / M_high * M_high))) ∧
((y3 - y3 / 2 * 2) = 0 → ¬ M_high = 0 ∧ bk_X11_layStrip_45 Q B2 x1 y3 M_wide M_path (x1 - x1 / M_high * M_high)))))))
def lp_X11_layStrip_2 (Q : ((Nat → Int32)) → Prop) (M_wide : Int32) (M_high : Int32) (M_path : Nat → Int32) (x1 : Int32) : Prop :=
∃ I : Nat → (Nat → Int32) → Int32 → Prop, (∃ n, I n M_path x1) ∧ ∀ n M_path x1, I n M_path x1 → bd_X11_layStrip_2 Q  (fun M_path' x1' => ∃ n', n' < n ∧ I n' M_path' x1') M_wide M_high M_path x1
def wp_X11_layStrip (M_wide : Int32) (M_high : Int32) (M_path : Nat → Int32) (Q : ((Nat → Int32)) → Prop) : Prop :=
lp_X11_layStrip_2 Q M_wide M_high M_path 0
set_option maxHeartbeats 4000000 in
set_option maxRecDepth 100000 in
theorem J_X11_layStrip_45 {x : CX} {D : DG} {cyI cyJ cyZ : ClassId} {a_M a_M_square a_M_want a_M_text a_M_read a_M_row a_M_foldSet a_M_foldEdges a_M_foldNeeds a_M_foldYards a_M_least a_M_ways a_M_price a_M_rowBy a_M_columnBy a_M_rowOf a_M_wayBack a_M_slack a_M_isUsed a_M_lifted a_M_freed a_M_path : Nat} {M_wide : Int32} {M_high : Int32} {M_hedges : Int64} {M_hurdles : Int32} {M_wants : Int32} {M_rest : Int32} {M_frozen : Int32} {M_bytes : Int32} {M_position : Int32} {M_tokenAt : Int32} {M_token : Int64} {M_digits : Int32} {M_number : Int32} {M_faultAt : Int32} {M_readMany : Int32} {M_readWide : Int32} {M_readHigh : Int32} {M_nights : Int32} {M_why : Int32} {M_folds : Int32} {M_square : Nat → Int32} {M_want : Nat → Int32} {M_text : Nat → Int32} {M_read : Nat → Int32} {M_row : Nat → Int32} {M_foldSet : Nat → Int32} {M_foldEdges : Nat → Int64} {M_foldNeeds : Nat → Int32} {M_foldYards : Nat → Int32} {M_least : Nat → Int32} {M_ways : Nat → Int32} {M_price : Nat → Int32} {M_rowBy : Nat → Int32} {M_columnBy : Nat → Int32} {M_rowOf : Nat → Int32} {M_wayBack : Nat → Int32} {M_slack : Nat → Int32} {M_isUsed : Nat → Int32} {M_lifted : Nat → Int32} {M_freed : Nat → Int32} {M_path : Nat → Int32} {x1 : Int32} {x2 : Int32} {s0 : Int32} {Q : ((Nat → Int32)) → Prop} {B2 : (Nat → Int32) → Int32 → Prop} (cx : Cx x cX11_layStrip 4 RX11 rm_X11_layStrip D [(cyI, .int), (cyJ, .long), (cyZ, .boolean)]) (hR : ∀ (u : (Nat → Int32)) (pc : Nat) (lv : List (Nat × Value)), decode cX11_layStrip pc = .ok (.return_, 1) → Q u → J x 0 0 4 (W_Model cyI cyJ cyZ a_M a_M_square a_M_want a_M_text a_M_read a_M_row a_M_foldSet a_M_foldEdges a_M_foldNeeds a_M_foldYards a_M_least a_M_ways a_M_price a_M_rowBy a_M_columnBy a_M_rowOf a_M_wayBack a_M_slack a_M_isUsed a_M_lifted a_M_freed a_M_path M_wide M_high M_hedges M_hurdles M_wants M_rest M_frozen M_bytes M_position M_tokenAt M_token M_digits M_number M_faultAt M_readMany M_readWide M_readHigh M_nights M_why M_folds M_square M_want M_text M_read M_row M_foldSet M_foldEdges M_foldNeeds M_foldYards M_least M_ways M_price M_rowBy M_columnBy M_rowOf M_wayBack M_slack M_isUsed M_lifted M_freed u) lv pc []) (hB2 : ∀ (M_path : Nat → Int32) (x1 : Int32), B2 M_path x1 → J x 0 0 4 (W_Model cyI cyJ cyZ a_M a_M_square a_M_want a_M_text a_M_read a_M_row a_M_foldSet a_M_foldEdges a_M_foldNeeds a_M_foldYards a_M_least a_M_ways a_M_price a_M_rowBy a_M_columnBy a_M_rowOf a_M_wayBack a_M_slack a_M_isUsed a_M_lifted a_M_freed a_M_path M_wide M_high M_hedges M_hurdles M_wants M_rest M_frozen M_bytes M_position M_tokenAt M_token M_digits M_number M_faultAt M_readMany M_readWide M_readHigh M_nights M_why M_folds M_square M_want M_text M_read M_row M_foldSet M_foldEdges M_foldNeeds M_foldYards M_least M_ways M_price M_rowBy M_columnBy M_rowOf M_wayBack M_slack M_isUsed M_lifted M_freed M_path) [(0, .ref a_M), (1, .int x1)] 2 []) (h : bk_X11_layStrip_45 Q B2 x1 x2 M_wide M_path s0) :
    J x 0 0 4 (W_Model cyI cyJ cyZ a_M a_M_square a_M_want a_M_text a_M_read a_M_row a_M_foldSet a_M_foldEdges a_M_foldNeeds a_M_foldYards a_M_least a_M_ways a_M_price a_M_rowBy a_M_columnBy a_M_rowOf a_M_wayBack a_M_slack a_M_isUsed a_M_lifted a_M_freed a_M_path M_wide M_high M_hedges M_hurdles M_wants M_rest M_frozen M_bytes M_position M_tokenAt M_token M_digits M_number M_faultAt M_readMany M_readWide M_readHigh M_nights M_why M_folds M_square M_want M_text M_read M_row M_foldSet M_foldEdges M_foldNeeds M_foldYards M_least M_ways M_price M_rowBy M_columnBy M_rowOf M_wayBack M_slack M_isUsed M_lifted M_freed M_path) [(0, .ref a_M), (1, .int x1), (2, .int x2)] 45 [.int s0] := by
  unfold bk_X11_layStrip_45 at h
  refine j_istore_n cx rfl [(3, .int s0), (0, .ref a_M), (1, .int x1), (2, .int x2)] (by decide) rfl dX11_layStrip_45 (pn := 46) rfl ?_
  refine j_aload_n cx 1 rfl rfl dX11_layStrip_46 (pn := 47) rfl ?_
  refine j_get cx inGX11 0 rfl rfl 40 (by decide) q_fl_X11_83 rfl rfl dX11_layStrip_47 (pn := 50) rfl ?_
  refine j_iload_n cx 2 rfl rfl dX11_layStrip_50 (pn := 51) rfl ?_
  refine j_aload_n cx 1 rfl rfl dX11_layStrip_51 (pn := 52) rfl ?_
  refine j_get cx inGX11 0 rfl rfl 0 (by decide) q_fl_X11_7 rfl rfl dX11_layStrip_52 (pn := 55) rfl ?_
  refine j_iload_n cx 0 rfl rfl dX11_layStrip_55 (pn := 56) rfl ?_
  refine j_imul cx dX11_layStrip_56 (pn := 57) rfl ?_
  refine j_iload_n cx 3 rfl rfl dX11_layStrip_57 (pn := 58) rfl ?_
  refine j_iadd cx dX11_layStrip_58 (pn := 59) rfl ?_
  refine j_topi (fun y5 ey5 => ?_)
  have h := h y5 ey5
  have hin := h.1
  obtain ⟨f6, ef6⟩ : ∃ z, z = upd M_path x1.toNatClampNeg y5 := ⟨_, rfl⟩
  have h := h.2 f6 ef6
  refine j_iast cx 21 0 rfl rfl hin (W_Model cyI cyJ cyZ a_M a_M_square a_M_want a_M_text a_M_read a_M_row a_M_foldSet a_M_foldEdges a_M_foldNeeds a_M_foldYards a_M_least a_M_ways a_M_price a_M_rowBy a_M_columnBy a_M_rowOf a_M_wayBack a_M_slack a_M_isUsed a_M_lifted a_M_freed a_M_path M_wide M_high M_hedges M_hurdles M_wants M_rest M_frozen M_bytes M_position M_tokenAt M_token M_digits M_number M_faultAt M_readMany M_readWide M_readHigh M_nights M_why M_folds M_square M_want M_text M_read M_row M_foldSet M_foldEdges M_foldNeeds M_foldYards M_least M_ways M_price M_rowBy M_columnBy M_rowOf M_wayBack M_slack M_isUsed M_lifted M_freed f6) (by subst ef6; rfl) dX11_layStrip_59 (pn := 60) rfl ?_
  obtain ⟨y7, ey7⟩ : ∃ z : Int32, z = x1 + 1 := ⟨_, rfl⟩
  have h := h y7 ey7
  refine j_iinc cx 2 rfl (cst := 1) (by decide) ey7 [(1, .int y7), (3, .int s0), (0, .ref a_M), (2, .int x2)] (by decide) rfl dX11_layStrip_60 (pn := 63) rfl ?_
  refine j_goto cx 2 dX11_layStrip_63 rfl ?_
  refine j_sub [2, 0] [(0, .ref a_M), (1, .int y7)] rfl ?_
  exact hB2 _ _ h
set_option maxHeartbeats 4000000 in
set_option maxRecDepth 100000 in
theorem B_X11_layStrip_2 {x : CX} {D : DG} {cyI cyJ cyZ : ClassId} {a_M a_M_square a_M_want a_M_text a_M_read a_M_row a_M_foldSet a_M_foldEdges a_M_foldNeeds a_M_foldYards a_M_least a_M_ways a_M_price a_M_rowBy a_M_columnBy a_M_rowOf a_M_wayBack a_M_slack a_M_isUsed a_M_lifted a_M_freed a_M_path : Nat} {M_wide : Int32} {M_high : Int32} {M_hedges : Int64} {M_hurdles : Int32} {M_wants : Int32} {M_rest : Int32} {M_frozen : Int32} {M_bytes : Int32} {M_position : Int32} {M_tokenAt : Int32} {M_token : Int64} {M_digits : Int32} {M_number : Int32} {M_faultAt : Int32} {M_readMany : Int32} {M_readWide : Int32} {M_readHigh : Int32} {M_nights : Int32} {M_why : Int32} {M_folds : Int32} {M_square : Nat → Int32} {M_want : Nat → Int32} {M_text : Nat → Int32} {M_read : Nat → Int32} {M_row : Nat → Int32} {M_foldSet : Nat → Int32} {M_foldEdges : Nat → Int64} {M_foldNeeds : Nat → Int32} {M_foldYards : Nat → Int32} {M_least : Nat → Int32} {M_ways : Nat → Int32} {M_price : Nat → Int32} {M_rowBy : Nat → Int32} {M_columnBy : Nat → Int32} {M_rowOf : Nat → Int32} {M_wayBack : Nat → Int32} {M_slack : Nat → Int32} {M_isUsed : Nat → Int32} {M_lifted : Nat → Int32} {M_freed : Nat → Int32} {M_path : Nat → Int32} {x1 : Int32} {Q : ((Nat → Int32)) → Prop} {B2 : (Nat → Int32) → Int32 → Prop} (cx : Cx x cX11_layStrip 4 RX11 rm_X11_layStrip D [(cyI, .int), (cyJ, .long), (cyZ, .boolean)]) (hR : ∀ (u : (Nat → Int32)) (pc : Nat) (lv : List (Nat × Value)), decode cX11_layStrip pc = .ok (.return_, 1) → Q u → J x 0 0 4 (W_Model cyI cyJ cyZ a_M a_M_square a_M_want a_M_text a_M_read a_M_row a_M_foldSet a_M_foldEdges a_M_foldNeeds a_M_foldYards a_M_least a_M_ways a_M_price a_M_rowBy a_M_columnBy a_M_rowOf a_M_wayBack a_M_slack a_M_isUsed a_M_lifted a_M_freed a_M_path M_wide M_high M_hedges M_hurdles M_wants M_rest M_frozen M_bytes M_position M_tokenAt M_token M_digits M_number M_faultAt M_readMany M_readWide M_readHigh M_nights M_why M_folds M_square M_want M_text M_read M_row M_foldSet M_foldEdges M_foldNeeds M_foldYards M_least M_ways M_price M_rowBy M_columnBy M_rowOf M_wayBack M_slack M_isUsed M_lifted M_freed u) lv pc []) (hB2 : ∀ (M_path : Nat → Int32) (x1 : Int32), B2 M_path x1 → J x 0 0 4 (W_Model cyI cyJ cyZ a_M a_M_square a_M_want a_M_text a_M_read a_M_row a_M_foldSet a_M_foldEdges a_M_foldNeeds a_M_foldYards a_M_least a_M_ways a_M_price a_M_rowBy a_M_columnBy a_M_rowOf a_M_wayBack a_M_slack a_M_isUsed a_M_lifted a_M_freed a_M_path M_wide M_high M_hedges M_hurdles M_wants M_rest M_frozen M_bytes M_position M_tokenAt M_token M_digits M_number M_faultAt M_readMany M_readWide M_readHigh M_nights M_why M_folds M_square M_want M_text M_read M_row M_foldSet M_foldEdges M_foldNeeds M_foldYards M_least M_ways M_price M_rowBy M_columnBy M_rowOf M_wayBack M_slack M_isUsed M_lifted M_freed M_path) [(0, .ref a_M), (1, .int x1)] 2 []) (h : bd_X11_layStrip_2 Q B2 M_wide M_high M_path x1) :
    J x 0 0 4 (W_Model cyI cyJ cyZ a_M a_M_square a_M_want a_M_text a_M_read a_M_row a_M_foldSet a_M_foldEdges a_M_foldNeeds a_M_foldYards a_M_least a_M_ways a_M_price a_M_rowBy a_M_columnBy a_M_rowOf a_M_wayBack a_M_slack a_M_isUsed a_M_lifted a_M_freed a_M_path M_wide M_high M_hedges M_hurdles M_wants M_rest M_frozen M_bytes M_position M_tokenAt M_token M_digits M_number M_faultAt M_readMany M_readWide M_readHigh M_nights M_why M_folds M_square M_want M_text M_read M_row M_foldSet M_foldEdges M_foldNeeds M_foldYards M_least M_ways M_price M_rowBy M_columnBy M_rowOf M_wayBack M_slack M_isUsed M_lifted M_freed M_path) [(0, .ref a_M), (1, .int x1)] 2 [] := by
  unfold bd_X11_layStrip_2 at h
  refine j_iload_n cx 1 rfl rfl dX11_layStrip_2 (pn := 3) rfl ?_
  refine j_aload_n cx 0 rfl rfl dX11_layStrip_3 (pn := 4) rfl ?_
  refine j_callvI0 cx q_inst_X11_squares q_sel_X11_squares (b := a_M) (As := []) (rest := [.int x1]) (c_X11_squares h) ⟨q_code_X11_squares, q_ml_X11_86, q_init_X11, hd_X11_squares, ⟨Nat.le_of_ble_eq_true rfl, Nat.le_of_ble_eq_true rfl⟩, Nat.le_of_ble_eq_true rfl, Nat.le_of_ble_eq_true rfl⟩ (q0 := 0) rfl rfl rfl rfl (Nat.le_of_ble_eq_true rfl) dX11_layStrip_4 (pn := 7) rfl (fun r1 _ h => ?_)
  show J x 0 0 4 (W_Model cyI cyJ cyZ a_M a_M_square a_M_want a_M_text a_M_read a_M_row a_M_foldSet a_M_foldEdges a_M_foldNeeds a_M_foldYards a_M_least a_M_ways a_M_price a_M_rowBy a_M_columnBy a_M_rowOf a_M_wayBack a_M_slack a_M_isUsed a_M_lifted a_M_freed a_M_path M_wide M_high M_hedges M_hurdles M_wants M_rest M_frozen M_bytes M_position M_tokenAt M_token M_digits M_number M_faultAt M_readMany M_readWide M_readHigh M_nights M_why M_folds M_square M_want M_text M_read M_row M_foldSet M_foldEdges M_foldNeeds M_foldYards M_least M_ways M_price M_rowBy M_columnBy M_rowOf M_wayBack M_slack M_isUsed M_lifted M_freed M_path) [(0, .ref a_M), (1, .int x1)] 7 [.int r1, .int x1]
  refine j_icmp_ge cx 66 dX11_layStrip_7 (pn := 10) rfl rfl (fun c2 => ?_) (fun c2 => ?_)
  · have h := h.1 c2
    exact hR M_path 66 _ dX11_layStrip_66 h
  · have h := h.2 c2
    refine j_iload_n cx 1 rfl rfl dX11_layStrip_10 (pn := 11) rfl ?_
    refine j_aload_n cx 0 rfl rfl dX11_layStrip_11 (pn := 12) rfl ?_
    refine j_get cx inGX11 0 rfl rfl 1 (by decide) q_fl_X11_13 rfl rfl dX11_layStrip_12 (pn := 15) rfl ?_
    refine j_idiv cx h.1 dX11_layStrip_15 (pn := 16) rfl ?_
    have h := h.2
    refine j_topi (fun y3 ey3 => ?_)
    have h := h y3 ey3
    refine j_istore_n cx rfl [(2, .int y3), (0, .ref a_M), (1, .int x1)] (by decide) rfl dX11_layStrip_16 (pn := 17) rfl ?_
    refine j_iload_n cx 0 rfl rfl dX11_layStrip_17 (pn := 18) rfl ?_
    refine j_iconst cx (v := 2) (by decide) dX11_layStrip_18 (pn := 19) rfl ?_
    refine j_irem cx (by decide) dX11_layStrip_19 (pn := 20) rfl ?_
    refine j_if_ne cx 32 dX11_layStrip_20 (pn := 23) rfl rfl (fun c4 => ?_) (fun c4 => ?_)
    · have h := h.1 c4
      refine j_aload_n cx 1 rfl rfl dX11_layStrip_32 (pn := 33) rfl ?_
      refine j_get cx inGX11 0 rfl rfl 1 (by decide) q_fl_X11_13 rfl rfl dX11_layStrip_33 (pn := 36) rfl ?_
      refine j_iconst cx (v := 1) (by decide) dX11_layStrip_36 (pn := 37) rfl ?_
      refine j_isub cx dX11_layStrip_37 (pn := 38) rfl ?_
      refine j_iload_n cx 2 rfl rfl dX11_layStrip_38 (pn := 39) rfl ?_
      refine j_aload_n cx 1 rfl rfl dX11_layStrip_39 (pn := 40) rfl ?_
      refine j_get cx inGX11 0 rfl rfl 1 (by decide) q_fl_X11_13 rfl rfl dX11_layStrip_40 (pn := 43) rfl ?_
      refine j_irem cx h.1 dX11_layStrip_43 (pn := 44) rfl ?_
      have h := h.2
      refine j_isub cx dX11_layStrip_44 (pn := 45) rfl ?_
      refine j_sub [1, 2, 0] [(0, .ref a_M), (1, .int x1), (2, .int y3)] rfl ?_
      exact J_X11_layStrip_45 cx hR hB2 h
    · have h := h.2 c4
      refine j_iload_n cx 2 rfl rfl dX11_layStrip_23 (pn := 24) rfl ?_
      refine j_aload_n cx 1 rfl rfl dX11_layStrip_24 (pn := 25) rfl ?_
      refine j_get cx inGX11 0 rfl rfl 1 (by decide) q_fl_X11_13 rfl rfl dX11_layStrip_25 (pn := 28) rfl ?_
      refine j_irem cx h.1 dX11_layStrip_28 (pn := 29) rfl ?_
      have h := h.2
      refine j_goto cx 45 dX11_layStrip_29 rfl ?_
      refine j_sub [1, 2, 0] [(0, .ref a_M), (1, .int x1), (2, .int y3)] rfl ?_
      exact J_X11_layStrip_45 cx hR hB2 h
set_option maxHeartbeats 4000000 in
set_option maxRecDepth 100000 in
theorem J_X11_layStrip_2 {x : CX} {D : DG} {cyI cyJ cyZ : ClassId} {a_M a_M_square a_M_want a_M_text a_M_read a_M_row a_M_foldSet a_M_foldEdges a_M_foldNeeds a_M_foldYards a_M_least a_M_ways a_M_price a_M_rowBy a_M_columnBy a_M_rowOf a_M_wayBack a_M_slack a_M_isUsed a_M_lifted a_M_freed a_M_path : Nat} {M_wide : Int32} {M_high : Int32} {M_hedges : Int64} {M_hurdles : Int32} {M_wants : Int32} {M_rest : Int32} {M_frozen : Int32} {M_bytes : Int32} {M_position : Int32} {M_tokenAt : Int32} {M_token : Int64} {M_digits : Int32} {M_number : Int32} {M_faultAt : Int32} {M_readMany : Int32} {M_readWide : Int32} {M_readHigh : Int32} {M_nights : Int32} {M_why : Int32} {M_folds : Int32} {M_square : Nat → Int32} {M_want : Nat → Int32} {M_text : Nat → Int32} {M_read : Nat → Int32} {M_row : Nat → Int32} {M_foldSet : Nat → Int32} {M_foldEdges : Nat → Int64} {M_foldNeeds : Nat → Int32} {M_foldYards : Nat → Int32} {M_least : Nat → Int32} {M_ways : Nat → Int32} {M_price : Nat → Int32} {M_rowBy : Nat → Int32} {M_columnBy : Nat → Int32} {M_rowOf : Nat → Int32} {M_wayBack : Nat → Int32} {M_slack : Nat → Int32} {M_isUsed : Nat → Int32} {M_lifted : Nat → Int32} {M_freed : Nat → Int32} {M_path : Nat → Int32} {x1 : Int32} {Q : ((Nat → Int32)) → Prop} (cx : Cx x cX11_layStrip 4 RX11 rm_X11_layStrip D [(cyI, .int), (cyJ, .long), (cyZ, .boolean)]) (hR : ∀ (u : (Nat → Int32)) (pc : Nat) (lv : List (Nat × Value)), decode cX11_layStrip pc = .ok (.return_, 1) → Q u → J x 0 0 4 (W_Model cyI cyJ cyZ a_M a_M_square a_M_want a_M_text a_M_read a_M_row a_M_foldSet a_M_foldEdges a_M_foldNeeds a_M_foldYards a_M_least a_M_ways a_M_price a_M_rowBy a_M_columnBy a_M_rowOf a_M_wayBack a_M_slack a_M_isUsed a_M_lifted a_M_freed a_M_path M_wide M_high M_hedges M_hurdles M_wants M_rest M_frozen M_bytes M_position M_tokenAt M_token M_digits M_number M_faultAt M_readMany M_readWide M_readHigh M_nights M_why M_folds M_square M_want M_text M_read M_row M_foldSet M_foldEdges M_foldNeeds M_foldYards M_least M_ways M_price M_rowBy M_columnBy M_rowOf M_wayBack M_slack M_isUsed M_lifted M_freed u) lv pc []) (h : lp_X11_layStrip_2 Q  M_wide M_high M_path x1) :
    J x 0 0 4 (W_Model cyI cyJ cyZ a_M a_M_square a_M_want a_M_text a_M_read a_M_row a_M_foldSet a_M_foldEdges a_M_foldNeeds a_M_foldYards a_M_least a_M_ways a_M_price a_M_rowBy a_M_columnBy a_M_rowOf a_M_wayBack a_M_slack a_M_isUsed a_M_lifted a_M_freed a_M_path M_wide M_high M_hedges M_hurdles M_wants M_rest M_frozen M_bytes M_position M_tokenAt M_token M_digits M_number M_faultAt M_readMany M_readWide M_readHigh M_nights M_why M_folds M_square M_want M_text M_read M_row M_foldSet M_foldEdges M_foldNeeds M_foldYards M_least M_ways M_price M_rowBy M_columnBy M_rowOf M_wayBack M_slack M_isUsed M_lifted M_freed M_path) [(0, .ref a_M), (1, .int x1)] 2 [] := by
  obtain ⟨I, ⟨n, h0⟩, hb⟩ := h
  revert M_path x1
  induction n using Nat.strongRecOn with
  | _ n ih =>
    intro M_path x1 h0
    exact B_X11_layStrip_2 cx hR (fun _ _ hz => by obtain ⟨n2, hlt, hI⟩ := hz; exact ih n2 hlt hI) (hb n M_path x1 h0)
set_option maxHeartbeats 4000000 in
set_option maxRecDepth 100000 in
theorem c_X11_layStrip {D : DG} {cyI cyJ cyZ : ClassId} {a_M a_M_square a_M_want a_M_text a_M_read a_M_row a_M_foldSet a_M_foldEdges a_M_foldNeeds a_M_foldYards a_M_least a_M_ways a_M_price a_M_rowBy a_M_columnBy a_M_rowOf a_M_wayBack a_M_slack a_M_isUsed a_M_lifted a_M_freed a_M_path : Nat} {M_wide : Int32} {M_high : Int32} {M_hedges : Int64} {M_hurdles : Int32} {M_wants : Int32} {M_rest : Int32} {M_frozen : Int32} {M_bytes : Int32} {M_position : Int32} {M_tokenAt : Int32} {M_token : Int64} {M_digits : Int32} {M_number : Int32} {M_faultAt : Int32} {M_readMany : Int32} {M_readWide : Int32} {M_readHigh : Int32} {M_nights : Int32} {M_why : Int32} {M_folds : Int32} {M_square : Nat → Int32} {M_want : Nat → Int32} {M_text : Nat → Int32} {M_read : Nat → Int32} {M_row : Nat → Int32} {M_foldSet : Nat → Int32} {M_foldEdges : Nat → Int64} {M_foldNeeds : Nat → Int32} {M_foldYards : Nat → Int32} {M_least : Nat → Int32} {M_ways : Nat → Int32} {M_price : Nat → Int32} {M_rowBy : Nat → Int32} {M_columnBy : Nat → Int32} {M_rowOf : Nat → Int32} {M_wayBack : Nat → Int32} {M_slack : Nat → Int32} {M_isUsed : Nat → Int32} {M_lifted : Nat → Int32} {M_freed : Nat → Int32} {M_path : Nat → Int32} {Q : ((Nat → Int32)) → Prop} (h : wp_X11_layStrip M_wide M_high M_path Q) :
    MetV yX11_layStrip cX11_layStrip 4 (none) rm_X11_layStrip D [(cyI, .int), (cyJ, .long), (cyZ, .boolean)] [.ref a_M] (W_Model cyI cyJ cyZ a_M a_M_square a_M_want a_M_text a_M_read a_M_row a_M_foldSet a_M_foldEdges a_M_foldNeeds a_M_foldYards a_M_least a_M_ways a_M_price a_M_rowBy a_M_columnBy a_M_rowOf a_M_wayBack a_M_slack a_M_isUsed a_M_lifted a_M_freed a_M_path M_wide M_high M_hedges M_hurdles M_wants M_rest M_frozen M_bytes M_position M_tokenAt M_token M_digits M_number M_faultAt M_readMany M_readWide M_readHigh M_nights M_why M_folds M_square M_want M_text M_read M_row M_foldSet M_foldEdges M_foldNeeds M_foldYards M_least M_ways M_price M_rowBy M_columnBy M_rowOf M_wayBack M_slack M_isUsed M_lifted M_freed M_path) (fun u : (Nat → Int32) => (W_Model cyI cyJ cyZ a_M a_M_square a_M_want a_M_text a_M_read a_M_row a_M_foldSet a_M_foldEdges a_M_foldNeeds a_M_foldYards a_M_least a_M_ways a_M_price a_M_rowBy a_M_columnBy a_M_rowOf a_M_wayBack a_M_slack a_M_isUsed a_M_lifted a_M_freed a_M_path M_wide M_high M_hedges M_hurdles M_wants M_rest M_frozen M_bytes M_position M_tokenAt M_token M_digits M_number M_faultAt M_readMany M_readWide M_readHigh M_nights M_why M_folds M_square M_want M_text M_read M_row M_foldSet M_foldEdges M_foldNeeds M_foldYards M_least M_ways M_price M_rowBy M_columnBy M_rowOf M_wayBack M_slack M_isUsed M_lifted M_freed u)) (fun u => Q u) := by
  unfold wp_X11_layStrip at h
  refine metV_of (by decide) (Nat.le_of_ble_eq_true rfl) (fun x cx0 hR0 => ?_)
  have cx : Cx x cX11_layStrip 4 RX11 rm_X11_layStrip D [(cyI, .int), (cyJ, .long), (cyZ, .boolean)] := cx0
  have hR : ∀ (u : (Nat → Int32)) (pc : Nat) (lv : List (Nat × Value)), decode cX11_layStrip pc = .ok (.return_, 1) → Q u → J x 0 0 4 (W_Model cyI cyJ cyZ a_M a_M_square a_M_want a_M_text a_M_read a_M_row a_M_foldSet a_M_foldEdges a_M_foldNeeds a_M_foldYards a_M_least a_M_ways a_M_price a_M_rowBy a_M_columnBy a_M_rowOf a_M_wayBack a_M_slack a_M_isUsed a_M_lifted a_M_freed a_M_path M_wide M_high M_hedges M_hurdles M_wants M_rest M_frozen M_bytes M_position M_tokenAt M_token M_digits M_number M_faultAt M_readMany M_readWide M_readHigh M_nights M_why M_folds M_square M_want M_text M_read M_row M_foldSet M_foldEdges M_foldNeeds M_foldYards M_least M_ways M_price M_rowBy M_columnBy M_rowOf M_wayBack M_slack M_isUsed M_lifted M_freed u) lv pc [] := (fun u pc lv d hq => hR0 u pc lv d hq)
  show J x 0 0 4 (W_Model cyI cyJ cyZ a_M a_M_square a_M_want a_M_text a_M_read a_M_row a_M_foldSet a_M_foldEdges a_M_foldNeeds a_M_foldYards a_M_least a_M_ways a_M_price a_M_rowBy a_M_columnBy a_M_rowOf a_M_wayBack a_M_slack a_M_isUsed a_M_lifted a_M_freed a_M_path M_wide M_high M_hedges M_hurdles M_wants M_rest M_frozen M_bytes M_position M_tokenAt M_token M_digits M_number M_faultAt M_readMany M_readWide M_readHigh M_nights M_why M_folds M_square M_want M_text M_read M_row M_foldSet M_foldEdges M_foldNeeds M_foldYards M_least M_ways M_price M_rowBy M_columnBy M_rowOf M_wayBack M_slack M_isUsed M_lifted M_freed M_path) [(0, .ref a_M)] 0 []
  refine j_iconst cx (v := 0) (by decide) dX11_layStrip_0 (pn := 1) rfl ?_
  refine j_istore_n cx rfl [(1, .int 0), (0, .ref a_M)] (by decide) rfl dX11_layStrip_1 (pn := 2) rfl ?_
  refine j_sub [1, 0] [(0, .ref a_M), (1, .int 0)] rfl ?_
  exact J_X11_layStrip_2 cx hR h
theorem dX11_laySnail_0 : decode cX11_laySnail 0 = .ok (.iconst 0, 1) := by decide +kernel
theorem dX11_laySnail_1 : decode cX11_laySnail 1 = .ok (.istore_n 1, 1) := by decide +kernel
theorem dX11_laySnail_2 : decode cX11_laySnail 2 = .ok (.iconst 0, 1) := by decide +kernel
theorem dX11_laySnail_3 : decode cX11_laySnail 3 = .ok (.istore_n 2, 1) := by decide +kernel
theorem dX11_laySnail_4 : decode cX11_laySnail 4 = .ok (.iconst 0, 1) := by decide +kernel
theorem dX11_laySnail_5 : decode cX11_laySnail 5 = .ok (.istore_n 3, 1) := by decide +kernel
theorem dX11_laySnail_6 : decode cX11_laySnail 6 = .ok (.iconst 0, 1) := by decide +kernel
theorem dX11_laySnail_7 : decode cX11_laySnail 7 = .ok (.istore 4, 2) := by decide +kernel
theorem dX11_laySnail_9 : decode cX11_laySnail 9 = .ok (.iload 4, 2) := by decide +kernel
theorem dX11_laySnail_11 : decode cX11_laySnail 11 = .ok (.aload_n 0, 1) := by decide +kernel
theorem dX11_laySnail_12 : decode cX11_laySnail 12 = .ok (.invokevirtual 86, 3) := by decide +kernel
theorem dX11_laySnail_15 : decode cX11_laySnail 15 = .ok (.if_icmp .ge 106, 3) := by decide +kernel
theorem dX11_laySnail_18 : decode cX11_laySnail 18 = .ok (.aload_n 0, 1) := by decide +kernel
theorem dX11_laySnail_19 : decode cX11_laySnail 19 = .ok (.getfield 83, 3) := by decide +kernel
theorem dX11_laySnail_22 : decode cX11_laySnail 22 = .ok (.iload 4, 2) := by decide +kernel
theorem dX11_laySnail_24 : decode cX11_laySnail 24 = .ok (.iload_n 2, 1) := by decide +kernel
theorem dX11_laySnail_25 : decode cX11_laySnail 25 = .ok (.iastore, 1) := by decide +kernel
theorem dX11_laySnail_26 : decode cX11_laySnail 26 = .ok (.iload_n 1, 1) := by decide +kernel
theorem dX11_laySnail_27 : decode cX11_laySnail 27 = .ok (.iconst 1, 1) := by decide +kernel
theorem dX11_laySnail_28 : decode cX11_laySnail 28 = .ok (.iload_n 2, 1) := by decide +kernel
theorem dX11_laySnail_29 : decode cX11_laySnail 29 = .ok (.ishl, 1) := by decide +kernel
theorem dX11_laySnail_30 : decode cX11_laySnail 30 = .ok (.ior, 1) := by decide +kernel
theorem dX11_laySnail_31 : decode cX11_laySnail 31 = .ok (.istore_n 1, 1) := by decide +kernel
theorem dX11_laySnail_32 : decode cX11_laySnail 32 = .ok (.iconst 0, 1) := by decide +kernel
theorem dX11_laySnail_33 : decode cX11_laySnail 33 = .ok (.istore 5, 2) := by decide +kernel
theorem dX11_laySnail_35 : decode cX11_laySnail 35 = .ok (.iload 5, 2) := by decide +kernel
theorem dX11_laySnail_37 : decode cX11_laySnail 37 = .ok (.iconst 2, 1) := by decide +kernel
theorem dX11_laySnail_38 : decode cX11_laySnail 38 = .ok (.if_icmp .ge 77, 3) := by decide +kernel
theorem dX11_laySnail_41 : decode cX11_laySnail 41 = .ok (.iload_n 3, 1) := by decide +kernel
theorem dX11_laySnail_42 : decode cX11_laySnail 42 = .ok (.ifCond .ne 7, 3) := by decide +kernel
theorem dX11_laySnail_45 : decode cX11_laySnail 45 = .ok (.iconst 1, 1) := by decide +kernel
theorem dX11_laySnail_46 : decode cX11_laySnail 46 = .ok (.goto 22, 3) := by decide +kernel
theorem dX11_laySnail_49 : decode cX11_laySnail 49 = .ok (.iload_n 3, 1) := by decide +kernel
theorem dX11_laySnail_50 : decode cX11_laySnail 50 = .ok (.iconst 1, 1) := by decide +kernel
theorem dX11_laySnail_51 : decode cX11_laySnail 51 = .ok (.if_icmp .ne 7, 3) := by decide +kernel
theorem dX11_laySnail_54 : decode cX11_laySnail 54 = .ok (.iconst 3, 1) := by decide +kernel
theorem dX11_laySnail_55 : decode cX11_laySnail 55 = .ok (.goto 13, 3) := by decide +kernel
theorem dX11_laySnail_58 : decode cX11_laySnail 58 = .ok (.iload_n 3, 1) := by decide +kernel
theorem dX11_laySnail_59 : decode cX11_laySnail 59 = .ok (.iconst 2, 1) := by decide +kernel
theorem dX11_laySnail_60 : decode cX11_laySnail 60 = .ok (.if_icmp .ne 7, 3) := by decide +kernel
theorem dX11_laySnail_63 : decode cX11_laySnail 63 = .ok (.iconst 0, 1) := by decide +kernel
theorem dX11_laySnail_64 : decode cX11_laySnail 64 = .ok (.goto 4, 3) := by decide +kernel
theorem dX11_laySnail_67 : decode cX11_laySnail 67 = .ok (.iconst 2, 1) := by decide +kernel
theorem dX11_laySnail_68 : decode cX11_laySnail 68 = .ok (.istore 6, 2) := by decide +kernel
theorem dX11_laySnail_70 : decode cX11_laySnail 70 = .ok (.aload_n 0, 1) := by decide +kernel
theorem dX11_laySnail_71 : decode cX11_laySnail 71 = .ok (.iload_n 2, 1) := by decide +kernel
theorem dX11_laySnail_72 : decode cX11_laySnail 72 = .ok (.iload 6, 2) := by decide +kernel
theorem dX11_laySnail_74 : decode cX11_laySnail 74 = .ok (.invokevirtual 228, 3) := by decide +kernel
theorem dX11_laySnail_77 : decode cX11_laySnail 77 = .ok (.istore 7, 2) := by decide +kernel
theorem dX11_laySnail_79 : decode cX11_laySnail 79 = .ok (.iload 7, 2) := by decide +kernel
theorem dX11_laySnail_81 : decode cX11_laySnail 81 = .ok (.iconst (-1), 1) := by decide +kernel
theorem dX11_laySnail_82 : decode cX11_laySnail 82 = .ok (.if_icmp .eq 21, 3) := by decide +kernel
theorem dX11_laySnail_85 : decode cX11_laySnail 85 = .ok (.iload_n 1, 1) := by decide +kernel
theorem dX11_laySnail_86 : decode cX11_laySnail 86 = .ok (.iload 7, 2) := by decide +kernel
theorem dX11_laySnail_88 : decode cX11_laySnail 88 = .ok (.ishr, 1) := by decide +kernel
theorem dX11_laySnail_89 : decode cX11_laySnail 89 = .ok (.iconst 1, 1) := by decide +kernel
theorem dX11_laySnail_90 : decode cX11_laySnail 90 = .ok (.iand, 1) := by decide +kernel
theorem dX11_laySnail_91 : decode cX11_laySnail 91 = .ok (.ifCond .ne 12, 3) := by decide +kernel
theorem dX11_laySnail_94 : decode cX11_laySnail 94 = .ok (.iload 7, 2) := by decide +kernel
theorem dX11_laySnail_96 : decode cX11_laySnail 96 = .ok (.istore_n 2, 1) := by decide +kernel
theorem dX11_laySnail_97 : decode cX11_laySnail 97 = .ok (.iconst 2, 1) := by decide +kernel
theorem dX11_laySnail_98 : decode cX11_laySnail 98 = .ok (.istore 5, 2) := by decide +kernel
theorem dX11_laySnail_100 : decode cX11_laySnail 100 = .ok (.goto 9, 3) := by decide +kernel
theorem dX11_laySnail_103 : decode cX11_laySnail 103 = .ok (.iload_n 3, 1) := by decide +kernel
theorem dX11_laySnail_104 : decode cX11_laySnail 104 = .ok (.iconst 1, 1) := by decide +kernel
theorem dX11_laySnail_105 : decode cX11_laySnail 105 = .ok (.iadd, 1) := by decide +kernel
theorem dX11_laySnail_106 : decode cX11_laySnail 106 = .ok (.iconst 4, 1) := by decide +kernel
theorem dX11_laySnail_107 : decode cX11_laySnail 107 = .ok (.irem, 1) := by decide +kernel
theorem dX11_laySnail_108 : decode cX11_laySnail 108 = .ok (.istore_n 3, 1) := by decide +kernel
theorem dX11_laySnail_109 : decode cX11_laySnail 109 = .ok (.iinc 5 1, 3) := by decide +kernel
theorem dX11_laySnail_112 : decode cX11_laySnail 112 = .ok (.goto (-77), 3) := by decide +kernel
theorem dX11_laySnail_115 : decode cX11_laySnail 115 = .ok (.iinc 4 1, 3) := by decide +kernel
theorem dX11_laySnail_118 : decode cX11_laySnail 118 = .ok (.goto (-109), 3) := by decide +kernel
theorem dX11_laySnail_121 : decode cX11_laySnail 121 = .ok (.return_, 1) := by decide +kernel
abbrev rm_X11_laySnail : Room := { frames := 2, cells := 0, slots := 0, locals := 46 }
theorem hd_X11_laySnail : yX11_laySnail.cls ≠ "java/lang/invoke/MethodHandle" ∧ yX11_laySnail.cls ≠ "java/lang/invoke/VarHandle" ∧ (parseMethodDescriptor yX11_laySnail.desc).map (fun d => d.parameters.length) = some 0 := by decide +kernel
def bk_X11_laySnail_109 (Q : ((Nat → Int32)) → Prop) (B9 : (Nat → Int32) → Int32 → Int32 → Int32 → Int32 → Prop) (B35 : Int32 → Int32 → Int32 → Prop) (x2 : Int32) (x3 : Int32) (x5 : Int32) : Prop :=
∀ y13 : Int32, y13 = (x5 + 1) →
B35 x2 x3 y13
def bk_X11_laySnail_103 (Q : ((Nat → Int32)) → Prop) (B9 : (Nat → Int32) → Int32 → Int32 → Int32 → Int32 → Prop) (B35 : Int32 → Int32 → Int32 → Prop) (x2 : Int32) (x3 : Int32) (x5 : Int32) : Prop :=
∀ y12 : Int32, y12 = ((x3 + 1) - (x3 + 1) / 4 * 4) →
bk_X11_laySnail_109 Q B9 B35 x2 y12 x5
def bk_X11_laySnail_68 (Q : ((Nat → Int32)) → Prop) (B9 : (Nat → Int32) → Int32 → Int32 → Int32 → Int32 → Prop) (B35 : Int32 → Int32 → Int32 → Prop) (x1 : Int32) (x2 : Int32) (x3 : Int32) (x5 : Int32) (M_wide : Int32) (M_high : Int32) (s0 : Int32) : Prop :=
wp_X11_besideOf x2 s0 M_wide M_high (fun (r10 : Int32) => ((r10 = (-1) → bk_X11_laySnail_103 Q B9 B35 x2 x3 x5) ∧
(¬ r10 = (-1) → ((¬ ((x1 >>> (r10 &&& 31)) &&& 1) = 0 → bk_X11_laySnail_103 Q B9 B35 x2 x3 x5) ∧
(((x1 >>> (r10 &&& 31)) &&& 1) = 0 → bk_X11_laySnail_109 Q B9 B35 r10 x3 2)))))
def bd_X11_laySnail_35 (Q : ((Nat → Int32)) → Prop) (B9 : (Nat → Int32) → Int32 → Int32 → Int32 → Int32 → Prop) (B35 : Int32 → Int32 → Int32 → Prop) (x1 : Int32) (x4 : Int32) (M_wide : Int32) (M_high : Int32) (M_path : Nat → Int32) (x2 : Int32) (x3 : Int32) (x5 : Int32) : Prop :=
((2 ≤ x5 → ∀ y6 : Int32, y6 = (x4 + 1) →
B9 M_path x1 x2 x3 y6) ∧
(¬ 2 ≤ x5 → ((¬ x3 = 0 → ((¬ x3 = 1 → ((¬ x3 = 2 → bk_X11_laySnail_68 Q B9 B35 x1 x2 x3 x5 M_wide M_high 2) ∧
(x3 = 2 → bk_X11_laySnail_68 Q B9 B35 x1 x2 x3 x5 M_wide M_high 0))) ∧
(x3 = 1 → bk_X11_laySnail_68 Q B9 B35 x1 x2 x3 x5 M_wide M_high 3))) ∧
(x3 = 0 → bk_X11_laySnail_68 Q B9 B35 x1 x2 x3 x5 M_wide M_high 1))))
def lp_X11_laySnail_35 (Q : ((Nat → Int32)) → Prop) (B9 : (Nat → Int32) → Int32 → Int32 → Int32 → Int32 → Prop) (x1 : Int32) (x4 : Int32) (M_wide : Int32) (M_high : Int32) (M_path : Nat → Int32) (x2 : Int32) (x3 : Int32) (x5 : Int32) : Prop :=
∃ I : Nat → Int32 → Int32 → Int32 → Prop, (∃ n, I n x2 x3 x5) ∧ ∀ n x2 x3 x5, I n x2 x3 x5 → bd_X11_laySnail_35 Q B9 (fun x2' x3' x5' => ∃ n', n' < n ∧ I n' x2' x3' x5') x1 x4 M_wide M_high M_path x2 x3 x5
def bd_X11_laySnail_9 (Q : ((Nat → Int32)) → Prop) (B9 : (Nat → Int32) → Int32 → Int32 → Int32 → Int32 → Prop) (M_wide : Int32) (M_high : Int32) (M_path : Nat → Int32) (x1 : Int32) (x2 : Int32) (x3 : Int32) (x4 : Int32) : Prop :=
wp_X11_squares M_wide M_high (fun (r1 : Int32) => ((r1 ≤ x4 → Q M_path) ∧
(¬ r1 ≤ x4 → vp_in x4 10 ∧ (∀ f3 : Nat → Int32, f3 = (upd M_path x4.toNatClampNeg x2) →
∀ y4 : Int32, y4 = (x1 ||| (1 <<< (x2 &&& 31))) →
lp_X11_laySnail_35 Q B9 y4 x4 M_wide M_high f3 x2 x3 0))))
def lp_X11_laySnail_9 (Q : ((Nat → Int32)) → Prop) (M_wide : Int32) (M_high : Int32) (M_path : Nat → Int32) (x1 : Int32) (x2 : Int32) (x3 : Int32) (x4 : Int32) : Prop :=
∃ I : Nat → (Nat → Int32) → Int32 → Int32 → Int32 → Int32 → Prop, (∃ n, I n M_path x1 x2 x3 x4) ∧ ∀ n M_path x1 x2 x3 x4, I n M_path x1 x2 x3 x4 → bd_X11_laySnail_9 Q  (fun M_path' x1' x2' x3' x4' => ∃ n', n' < n ∧ I n' M_path' x1' x2' x3' x4') M_wide M_high M_path x1 x2 x3 x4
def wp_X11_laySnail (M_wide : Int32) (M_high : Int32) (M_path : Nat → Int32) (Q : ((Nat → Int32)) → Prop) : Prop :=
lp_X11_laySnail_9 Q M_wide M_high M_path 0 0 0 0
set_option maxHeartbeats 4000000 in
set_option maxRecDepth 100000 in
theorem J_X11_laySnail_109 {x : CX} {D : DG} {cyI cyJ cyZ : ClassId} {a_M a_M_square a_M_want a_M_text a_M_read a_M_row a_M_foldSet a_M_foldEdges a_M_foldNeeds a_M_foldYards a_M_least a_M_ways a_M_price a_M_rowBy a_M_columnBy a_M_rowOf a_M_wayBack a_M_slack a_M_isUsed a_M_lifted a_M_freed a_M_path : Nat} {M_wide : Int32} {M_high : Int32} {M_hedges : Int64} {M_hurdles : Int32} {M_wants : Int32} {M_rest : Int32} {M_frozen : Int32} {M_bytes : Int32} {M_position : Int32} {M_tokenAt : Int32} {M_token : Int64} {M_digits : Int32} {M_number : Int32} {M_faultAt : Int32} {M_readMany : Int32} {M_readWide : Int32} {M_readHigh : Int32} {M_nights : Int32} {M_why : Int32} {M_folds : Int32} {M_square : Nat → Int32} {M_want : Nat → Int32} {M_text : Nat → Int32} {M_read : Nat → Int32} {M_row : Nat → Int32} {M_foldSet : Nat → Int32} {M_foldEdges : Nat → Int64} {M_foldNeeds : Nat → Int32} {M_foldYards : Nat → Int32} {M_least : Nat → Int32} {M_ways : Nat → Int32} {M_price : Nat → Int32} {M_rowBy : Nat → Int32} {M_columnBy : Nat → Int32} {M_rowOf : Nat → Int32} {M_wayBack : Nat → Int32} {M_slack : Nat → Int32} {M_isUsed : Nat → Int32} {M_lifted : Nat → Int32} {M_freed : Nat → Int32} {M_path : Nat → Int32} {x1 : Int32} {x2 : Int32} {x3 : Int32} {x4 : Int32} {x5 : Int32} {Q : ((Nat → Int32)) → Prop} {B9 : (Nat → Int32) → Int32 → Int32 → Int32 → Int32 → Prop} {B35 : Int32 → Int32 → Int32 → Prop} (cx : Cx x cX11_laySnail 8 RX11 rm_X11_laySnail D [(cyI, .int), (cyJ, .long), (cyZ, .boolean)]) (hR : ∀ (u : (Nat → Int32)) (pc : Nat) (lv : List (Nat × Value)), decode cX11_laySnail pc = .ok (.return_, 1) → Q u → J x 0 0 8 (W_Model cyI cyJ cyZ a_M a_M_square a_M_want a_M_text a_M_read a_M_row a_M_foldSet a_M_foldEdges a_M_foldNeeds a_M_foldYards a_M_least a_M_ways a_M_price a_M_rowBy a_M_columnBy a_M_rowOf a_M_wayBack a_M_slack a_M_isUsed a_M_lifted a_M_freed a_M_path M_wide M_high M_hedges M_hurdles M_wants M_rest M_frozen M_bytes M_position M_tokenAt M_token M_digits M_number M_faultAt M_readMany M_readWide M_readHigh M_nights M_why M_folds M_square M_want M_text M_read M_row M_foldSet M_foldEdges M_foldNeeds M_foldYards M_least M_ways M_price M_rowBy M_columnBy M_rowOf M_wayBack M_slack M_isUsed M_lifted M_freed u) lv pc []) (hB9 : ∀ (M_path : Nat → Int32) (x1 : Int32) (x2 : Int32) (x3 : Int32) (x4 : Int32), B9 M_path x1 x2 x3 x4 → J x 0 0 8 (W_Model cyI cyJ cyZ a_M a_M_square a_M_want a_M_text a_M_read a_M_row a_M_foldSet a_M_foldEdges a_M_foldNeeds a_M_foldYards a_M_least a_M_ways a_M_price a_M_rowBy a_M_columnBy a_M_rowOf a_M_wayBack a_M_slack a_M_isUsed a_M_lifted a_M_freed a_M_path M_wide M_high M_hedges M_hurdles M_wants M_rest M_frozen M_bytes M_position M_tokenAt M_token M_digits M_number M_faultAt M_readMany M_readWide M_readHigh M_nights M_why M_folds M_square M_want M_text M_read M_row M_foldSet M_foldEdges M_foldNeeds M_foldYards M_least M_ways M_price M_rowBy M_columnBy M_rowOf M_wayBack M_slack M_isUsed M_lifted M_freed M_path) [(0, .ref a_M), (1, .int x1), (2, .int x2), (3, .int x3), (4, .int x4)] 9 []) (hB35 : ∀ (x2 : Int32) (x3 : Int32) (x5 : Int32), B35 x2 x3 x5 → J x 0 0 8 (W_Model cyI cyJ cyZ a_M a_M_square a_M_want a_M_text a_M_read a_M_row a_M_foldSet a_M_foldEdges a_M_foldNeeds a_M_foldYards a_M_least a_M_ways a_M_price a_M_rowBy a_M_columnBy a_M_rowOf a_M_wayBack a_M_slack a_M_isUsed a_M_lifted a_M_freed a_M_path M_wide M_high M_hedges M_hurdles M_wants M_rest M_frozen M_bytes M_position M_tokenAt M_token M_digits M_number M_faultAt M_readMany M_readWide M_readHigh M_nights M_why M_folds M_square M_want M_text M_read M_row M_foldSet M_foldEdges M_foldNeeds M_foldYards M_least M_ways M_price M_rowBy M_columnBy M_rowOf M_wayBack M_slack M_isUsed M_lifted M_freed M_path) [(0, .ref a_M), (1, .int x1), (2, .int x2), (3, .int x3), (4, .int x4), (5, .int x5)] 35 []) (h : bk_X11_laySnail_109 Q B9 B35 x2 x3 x5) :
    J x 0 0 8 (W_Model cyI cyJ cyZ a_M a_M_square a_M_want a_M_text a_M_read a_M_row a_M_foldSet a_M_foldEdges a_M_foldNeeds a_M_foldYards a_M_least a_M_ways a_M_price a_M_rowBy a_M_columnBy a_M_rowOf a_M_wayBack a_M_slack a_M_isUsed a_M_lifted a_M_freed a_M_path M_wide M_high M_hedges M_hurdles M_wants M_rest M_frozen M_bytes M_position M_tokenAt M_token M_digits M_number M_faultAt M_readMany M_readWide M_readHigh M_nights M_why M_folds M_square M_want M_text M_read M_row M_foldSet M_foldEdges M_foldNeeds M_foldYards M_least M_ways M_price M_rowBy M_columnBy M_rowOf M_wayBack M_slack M_isUsed M_lifted M_freed M_path) [(0, .ref a_M), (1, .int x1), (2, .int x2), (3, .int x3), (4, .int x4), (5, .int x5)] 109 [] := by
  unfold bk_X11_laySnail_109 at h
  obtain ⟨y13, ey13⟩ : ∃ z : Int32, z = x5 + 1 := ⟨_, rfl⟩
  have h := h y13 ey13
  refine j_iinc cx 5 rfl (cst := 1) (by decide) ey13 [(5, .int y13), (0, .ref a_M), (1, .int x1), (2, .int x2), (3, .int x3), (4, .int x4)] (by decide) rfl dX11_laySnail_109 (pn := 112) rfl ?_
  refine j_goto cx 35 dX11_laySnail_112 rfl ?_
  refine j_sub [1, 2, 3, 4, 5, 0] [(0, .ref a_M), (1, .int x1), (2, .int x2), (3, .int x3), (4, .int x4), (5, .int y13)] rfl ?_
  exact hB35 _ _ _ h
set_option maxHeartbeats 4000000 in
set_option maxRecDepth 100000 in
theorem J_X11_laySnail_103 {x : CX} {D : DG} {cyI cyJ cyZ : ClassId} {a_M a_M_square a_M_want a_M_text a_M_read a_M_row a_M_foldSet a_M_foldEdges a_M_foldNeeds a_M_foldYards a_M_least a_M_ways a_M_price a_M_rowBy a_M_columnBy a_M_rowOf a_M_wayBack a_M_slack a_M_isUsed a_M_lifted a_M_freed a_M_path : Nat} {M_wide : Int32} {M_high : Int32} {M_hedges : Int64} {M_hurdles : Int32} {M_wants : Int32} {M_rest : Int32} {M_frozen : Int32} {M_bytes : Int32} {M_position : Int32} {M_tokenAt : Int32} {M_token : Int64} {M_digits : Int32} {M_number : Int32} {M_faultAt : Int32} {M_readMany : Int32} {M_readWide : Int32} {M_readHigh : Int32} {M_nights : Int32} {M_why : Int32} {M_folds : Int32} {M_square : Nat → Int32} {M_want : Nat → Int32} {M_text : Nat → Int32} {M_read : Nat → Int32} {M_row : Nat → Int32} {M_foldSet : Nat → Int32} {M_foldEdges : Nat → Int64} {M_foldNeeds : Nat → Int32} {M_foldYards : Nat → Int32} {M_least : Nat → Int32} {M_ways : Nat → Int32} {M_price : Nat → Int32} {M_rowBy : Nat → Int32} {M_columnBy : Nat → Int32} {M_rowOf : Nat → Int32} {M_wayBack : Nat → Int32} {M_slack : Nat → Int32} {M_isUsed : Nat → Int32} {M_lifted : Nat → Int32} {M_freed : Nat → Int32} {M_path : Nat → Int32} {x1 : Int32} {x2 : Int32} {x3 : Int32} {x4 : Int32} {x5 : Int32} {Q : ((Nat → Int32)) → Prop} {B9 : (Nat → Int32) → Int32 → Int32 → Int32 → Int32 → Prop} {B35 : Int32 → Int32 → Int32 → Prop} (cx : Cx x cX11_laySnail 8 RX11 rm_X11_laySnail D [(cyI, .int), (cyJ, .long), (cyZ, .boolean)]) (hR : ∀ (u : (Nat → Int32)) (pc : Nat) (lv : List (Nat × Value)), decode cX11_laySnail pc = .ok (.return_, 1) → Q u → J x 0 0 8 (W_Model cyI cyJ cyZ a_M a_M_square a_M_want a_M_text a_M_read a_M_row a_M_foldSet a_M_foldEdges a_M_foldNeeds a_M_foldYards a_M_least a_M_ways a_M_price a_M_rowBy a_M_columnBy a_M_rowOf a_M_wayBack a_M_slack a_M_isUsed a_M_lifted a_M_freed a_M_path M_wide M_high M_hedges M_hurdles M_wants M_rest M_frozen M_bytes M_position M_tokenAt M_token M_digits M_number M_faultAt M_readMany M_readWide M_readHigh M_nights M_why M_folds M_square M_want M_text M_read M_row M_foldSet M_foldEdges M_foldNeeds M_foldYards M_least M_ways M_price M_rowBy M_columnBy M_rowOf M_wayBack M_slack M_isUsed M_lifted M_freed u) lv pc []) (hB9 : ∀ (M_path : Nat → Int32) (x1 : Int32) (x2 : Int32) (x3 : Int32) (x4 : Int32), B9 M_path x1 x2 x3 x4 → J x 0 0 8 (W_Model cyI cyJ cyZ a_M a_M_square a_M_want a_M_text a_M_read a_M_row a_M_foldSet a_M_foldEdges a_M_foldNeeds a_M_foldYards a_M_least a_M_ways a_M_price a_M_rowBy a_M_columnBy a_M_rowOf a_M_wayBack a_M_slack a_M_isUsed a_M_lifted a_M_freed a_M_path M_wide M_high M_hedges M_hurdles M_wants M_rest M_frozen M_bytes M_position M_tokenAt M_token M_digits M_number M_faultAt M_readMany M_readWide M_readHigh M_nights M_why M_folds M_square M_want M_text M_read M_row M_foldSet M_foldEdges M_foldNeeds M_foldYards M_least M_ways M_price M_rowBy M_columnBy M_rowOf M_wayBack M_slack M_isUsed M_lifted M_freed M_path) [(0, .ref a_M), (1, .int x1), (2, .int x2), (3, .int x3), (4, .int x4)] 9 []) (hB35 : ∀ (x2 : Int32) (x3 : Int32) (x5 : Int32), B35 x2 x3 x5 → J x 0 0 8 (W_Model cyI cyJ cyZ a_M a_M_square a_M_want a_M_text a_M_read a_M_row a_M_foldSet a_M_foldEdges a_M_foldNeeds a_M_foldYards a_M_least a_M_ways a_M_price a_M_rowBy a_M_columnBy a_M_rowOf a_M_wayBack a_M_slack a_M_isUsed a_M_lifted a_M_freed a_M_path M_wide M_high M_hedges M_hurdles M_wants M_rest M_frozen M_bytes M_position M_tokenAt M_token M_digits M_number M_faultAt M_readMany M_readWide M_readHigh M_nights M_why M_folds M_square M_want M_text M_read M_row M_foldSet M_foldEdges M_foldNeeds M_foldYards M_least M_ways M_price M_rowBy M_columnBy M_rowOf M_wayBack M_slack M_isUsed M_lifted M_freed M_path) [(0, .ref a_M), (1, .int x1), (2, .int x2), (3, .int x3), (4, .int x4), (5, .int x5)] 35 []) (h : bk_X11_laySnail_103 Q B9 B35 x2 x3 x5) :
    J x 0 0 8 (W_Model cyI cyJ cyZ a_M a_M_square a_M_want a_M_text a_M_read a_M_row a_M_foldSet a_M_foldEdges a_M_foldNeeds a_M_foldYards a_M_least a_M_ways a_M_price a_M_rowBy a_M_columnBy a_M_rowOf a_M_wayBack a_M_slack a_M_isUsed a_M_lifted a_M_freed a_M_path M_wide M_high M_hedges M_hurdles M_wants M_rest M_frozen M_bytes M_position M_tokenAt M_token M_digits M_number M_faultAt M_readMany M_readWide M_readHigh M_nights M_why M_folds M_square M_want M_text M_read M_row M_foldSet M_foldEdges M_foldNeeds M_foldYards M_least M_ways M_price M_rowBy M_columnBy M_rowOf M_wayBack M_slack M_isUsed M_lifted M_freed M_path) [(0, .ref a_M), (1, .int x1), (2, .int x2), (3, .int x3), (4, .int x4), (5, .int x5)] 103 [] := by
  unfold bk_X11_laySnail_103 at h
  refine j_iload_n cx 3 rfl rfl dX11_laySnail_103 (pn := 104) rfl ?_
  refine j_iconst cx (v := 1) (by decide) dX11_laySnail_104 (pn := 105) rfl ?_
  refine j_iadd cx dX11_laySnail_105 (pn := 106) rfl ?_
  refine j_iconst cx (v := 4) (by decide) dX11_laySnail_106 (pn := 107) rfl ?_
  refine j_irem cx (by decide) dX11_laySnail_107 (pn := 108) rfl ?_
  refine j_topi (fun y12 ey12 => ?_)
  have h := h y12 ey12
  refine j_istore_n cx rfl [(3, .int y12), (0, .ref a_M), (1, .int x1), (2, .int x2), (4, .int x4), (5, .int x5)] (by decide) rfl dX11_laySnail_108 (pn := 109) rfl ?_
  refine j_sub [1, 2, 3, 0, 4, 5] [(0, .ref a_M), (1, .int x1), (2, .int x2), (3, .int y12), (4, .int x4), (5, .int x5)] rfl ?_
  exact J_X11_laySnail_109 cx hR hB9 hB35 h
set_option maxHeartbeats 4000000 in
set_option maxRecDepth 100000 in
theorem J_X11_laySnail_68 {x : CX} {D : DG} {cyI cyJ cyZ : ClassId} {a_M a_M_square a_M_want a_M_text a_M_read a_M_row a_M_foldSet a_M_foldEdges a_M_foldNeeds a_M_foldYards a_M_least a_M_ways a_M_price a_M_rowBy a_M_columnBy a_M_rowOf a_M_wayBack a_M_slack a_M_isUsed a_M_lifted a_M_freed a_M_path : Nat} {M_wide : Int32} {M_high : Int32} {M_hedges : Int64} {M_hurdles : Int32} {M_wants : Int32} {M_rest : Int32} {M_frozen : Int32} {M_bytes : Int32} {M_position : Int32} {M_tokenAt : Int32} {M_token : Int64} {M_digits : Int32} {M_number : Int32} {M_faultAt : Int32} {M_readMany : Int32} {M_readWide : Int32} {M_readHigh : Int32} {M_nights : Int32} {M_why : Int32} {M_folds : Int32} {M_square : Nat → Int32} {M_want : Nat → Int32} {M_text : Nat → Int32} {M_read : Nat → Int32} {M_row : Nat → Int32} {M_foldSet : Nat → Int32} {M_foldEdges : Nat → Int64} {M_foldNeeds : Nat → Int32} {M_foldYards : Nat → Int32} {M_least : Nat → Int32} {M_ways : Nat → Int32} {M_price : Nat → Int32} {M_rowBy : Nat → Int32} {M_columnBy : Nat → Int32} {M_rowOf : Nat → Int32} {M_wayBack : Nat → Int32} {M_slack : Nat → Int32} {M_isUsed : Nat → Int32} {M_lifted : Nat → Int32} {M_freed : Nat → Int32} {M_path : Nat → Int32} {x1 : Int32} {x2 : Int32} {x3 : Int32} {x4 : Int32} {x5 : Int32} {s0 : Int32} {Q : ((Nat → Int32)) → Prop} {B9 : (Nat → Int32) → Int32 → Int32 → Int32 → Int32 → Prop} {B35 : Int32 → Int32 → Int32 → Prop} (cx : Cx x cX11_laySnail 8 RX11 rm_X11_laySnail D [(cyI, .int), (cyJ, .long), (cyZ, .boolean)]) (hR : ∀ (u : (Nat → Int32)) (pc : Nat) (lv : List (Nat × Value)), decode cX11_laySnail pc = .ok (.return_, 1) → Q u → J x 0 0 8 (W_Model cyI cyJ cyZ a_M a_M_square a_M_want a_M_text a_M_read a_M_row a_M_foldSet a_M_foldEdges a_M_foldNeeds a_M_foldYards a_M_least a_M_ways a_M_price a_M_rowBy a_M_columnBy a_M_rowOf a_M_wayBack a_M_slack a_M_isUsed a_M_lifted a_M_freed a_M_path M_wide M_high M_hedges M_hurdles M_wants M_rest M_frozen M_bytes M_position M_tokenAt M_token M_digits M_number M_faultAt M_readMany M_readWide M_readHigh M_nights M_why M_folds M_square M_want M_text M_read M_row M_foldSet M_foldEdges M_foldNeeds M_foldYards M_least M_ways M_price M_rowBy M_columnBy M_rowOf M_wayBack M_slack M_isUsed M_lifted M_freed u) lv pc []) (hB9 : ∀ (M_path : Nat → Int32) (x1 : Int32) (x2 : Int32) (x3 : Int32) (x4 : Int32), B9 M_path x1 x2 x3 x4 → J x 0 0 8 (W_Model cyI cyJ cyZ a_M a_M_square a_M_want a_M_text a_M_read a_M_row a_M_foldSet a_M_foldEdges a_M_foldNeeds a_M_foldYards a_M_least a_M_ways a_M_price a_M_rowBy a_M_columnBy a_M_rowOf a_M_wayBack a_M_slack a_M_isUsed a_M_lifted a_M_freed a_M_path M_wide M_high M_hedges M_hurdles M_wants M_rest M_frozen M_bytes M_position M_tokenAt M_token M_digits M_number M_faultAt M_readMany M_readWide M_readHigh M_nights M_why M_folds M_square M_want M_text M_read M_row M_foldSet M_foldEdges M_foldNeeds M_foldYards M_least M_ways M_price M_rowBy M_columnBy M_rowOf M_wayBack M_slack M_isUsed M_lifted M_freed M_path) [(0, .ref a_M), (1, .int x1), (2, .int x2), (3, .int x3), (4, .int x4)] 9 []) (hB35 : ∀ (x2 : Int32) (x3 : Int32) (x5 : Int32), B35 x2 x3 x5 → J x 0 0 8 (W_Model cyI cyJ cyZ a_M a_M_square a_M_want a_M_text a_M_read a_M_row a_M_foldSet a_M_foldEdges a_M_foldNeeds a_M_foldYards a_M_least a_M_ways a_M_price a_M_rowBy a_M_columnBy a_M_rowOf a_M_wayBack a_M_slack a_M_isUsed a_M_lifted a_M_freed a_M_path M_wide M_high M_hedges M_hurdles M_wants M_rest M_frozen M_bytes M_position M_tokenAt M_token M_digits M_number M_faultAt M_readMany M_readWide M_readHigh M_nights M_why M_folds M_square M_want M_text M_read M_row M_foldSet M_foldEdges M_foldNeeds M_foldYards M_least M_ways M_price M_rowBy M_columnBy M_rowOf M_wayBack M_slack M_isUsed M_lifted M_freed M_path) [(0, .ref a_M), (1, .int x1), (2, .int x2), (3, .int x3), (4, .int x4), (5, .int x5)] 35 []) (h : bk_X11_laySnail_68 Q B9 B35 x1 x2 x3 x5 M_wide M_high s0) :
    J x 0 0 8 (W_Model cyI cyJ cyZ a_M a_M_square a_M_want a_M_text a_M_read a_M_row a_M_foldSet a_M_foldEdges a_M_foldNeeds a_M_foldYards a_M_least a_M_ways a_M_price a_M_rowBy a_M_columnBy a_M_rowOf a_M_wayBack a_M_slack a_M_isUsed a_M_lifted a_M_freed a_M_path M_wide M_high M_hedges M_hurdles M_wants M_rest M_frozen M_bytes M_position M_tokenAt M_token M_digits M_number M_faultAt M_readMany M_readWide M_readHigh M_nights M_why M_folds M_square M_want M_text M_read M_row M_foldSet M_foldEdges M_foldNeeds M_foldYards M_least M_ways M_price M_rowBy M_columnBy M_rowOf M_wayBack M_slack M_isUsed M_lifted M_freed M_path) [(0, .ref a_M), (1, .int x1), (2, .int x2), (3, .int x3), (4, .int x4), (5, .int x5)] 68 [.int s0] := by
  unfold bk_X11_laySnail_68 at h
  refine j_istore cx [(6, .int s0), (0, .ref a_M), (1, .int x1), (2, .int x2), (3, .int x3), (4, .int x4), (5, .int x5)] (by decide) rfl dX11_laySnail_68 (pn := 70) rfl ?_
  refine j_aload_n cx 1 rfl rfl dX11_laySnail_70 (pn := 71) rfl ?_
  refine j_iload_n cx 3 rfl rfl dX11_laySnail_71 (pn := 72) rfl ?_
  refine j_iload cx 0 rfl dX11_laySnail_72 (pn := 74) rfl ?_
  refine j_callvI0 cx q_inst_X11_besideOf q_sel_X11_besideOf (b := a_M) (As := [.int x2, .int s0]) (rest := []) (c_X11_besideOf h) ⟨q_code_X11_besideOf, q_ml_X11_228, q_init_X11, hd_X11_besideOf, ⟨Nat.le_of_ble_eq_true rfl, Nat.le_of_ble_eq_true rfl⟩, Nat.le_of_ble_eq_true rfl, Nat.le_of_ble_eq_true rfl⟩ (q0 := 0) rfl rfl rfl rfl (Nat.le_of_ble_eq_true rfl) dX11_laySnail_74 (pn := 77) rfl (fun r10 _ h => ?_)
  show J x 0 0 8 (W_Model cyI cyJ cyZ a_M a_M_square a_M_want a_M_text a_M_read a_M_row a_M_foldSet a_M_foldEdges a_M_foldNeeds a_M_foldYards a_M_least a_M_ways a_M_price a_M_rowBy a_M_columnBy a_M_rowOf a_M_wayBack a_M_slack a_M_isUsed a_M_lifted a_M_freed a_M_path M_wide M_high M_hedges M_hurdles M_wants M_rest M_frozen M_bytes M_position M_tokenAt M_token M_digits M_number M_faultAt M_readMany M_readWide M_readHigh M_nights M_why M_folds M_square M_want M_text M_read M_row M_foldSet M_foldEdges M_foldNeeds M_foldYards M_least M_ways M_price M_rowBy M_columnBy M_rowOf M_wayBack M_slack M_isUsed M_lifted M_freed M_path) [(6, .int s0), (0, .ref a_M), (1, .int x1), (2, .int x2), (3, .int x3), (4, .int x4), (5, .int x5)] 77 [.int r10]
  refine j_istore cx [(7, .int r10), (6, .int s0), (0, .ref a_M), (1, .int x1), (2, .int x2), (3, .int x3), (4, .int x4), (5, .int x5)] (by decide) rfl dX11_laySnail_77 (pn := 79) rfl ?_
  refine j_iload cx 0 rfl dX11_laySnail_79 (pn := 81) rfl ?_
  refine j_iconst cx (v := (-1)) (by decide) dX11_laySnail_81 (pn := 82) rfl ?_
  refine j_icmp_eq cx 103 dX11_laySnail_82 (pn := 85) rfl rfl (fun c11 => ?_) (fun c11 => ?_)
  · have h := h.1 c11
    refine j_sub [2, 3, 4, 5, 6, 7] [(0, .ref a_M), (1, .int x1), (2, .int x2), (3, .int x3), (4, .int x4), (5, .int x5)] rfl ?_
    exact J_X11_laySnail_103 cx hR hB9 hB35 h
  · have h := h.2 c11
    refine j_iload_n cx 3 rfl rfl dX11_laySnail_85 (pn := 86) rfl ?_
    refine j_iload cx 0 rfl dX11_laySnail_86 (pn := 88) rfl ?_
    refine j_ishr cx dX11_laySnail_88 (pn := 89) rfl ?_
    refine j_iconst cx (v := 1) (by decide) dX11_laySnail_89 (pn := 90) rfl ?_
    refine j_iand cx dX11_laySnail_90 (pn := 91) rfl ?_
    refine j_if_ne cx 103 dX11_laySnail_91 (pn := 94) rfl rfl (fun c14 => ?_) (fun c14 => ?_)
    · have h := h.1 c14
      refine j_sub [2, 3, 4, 5, 6, 7] [(0, .ref a_M), (1, .int x1), (2, .int x2), (3, .int x3), (4, .int x4), (5, .int x5)] rfl ?_
      exact J_X11_laySnail_103 cx hR hB9 hB35 h
    · have h := h.2 c14
      refine j_iload cx 0 rfl dX11_laySnail_94 (pn := 96) rfl ?_
      refine j_istore_n cx rfl [(2, .int r10), (7, .int r10), (6, .int s0), (0, .ref a_M), (1, .int x1), (3, .int x3), (4, .int x4), (5, .int x5)] (by decide) rfl dX11_laySnail_96 (pn := 97) rfl ?_
      refine j_iconst cx (v := 2) (by decide) dX11_laySnail_97 (pn := 98) rfl ?_
      refine j_istore cx [(5, .int 2), (2, .int r10), (7, .int r10), (6, .int s0), (0, .ref a_M), (1, .int x1), (3, .int x3), (4, .int x4)] (by decide) rfl dX11_laySnail_98 (pn := 100) rfl ?_
      refine j_goto cx 109 dX11_laySnail_100 rfl ?_
      refine j_sub [4, 5, 1, 6, 7, 0] [(0, .ref a_M), (1, .int x1), (2, .int r10), (3, .int x3), (4, .int x4), (5, .int 2)] rfl ?_
      exact J_X11_laySnail_109 cx hR hB9 hB35 h
set_option maxHeartbeats 4000000 in
set_option maxRecDepth 100000 in
theorem B_X11_laySnail_35 {x : CX} {D : DG} {cyI cyJ cyZ : ClassId} {a_M a_M_square a_M_want a_M_text a_M_read a_M_row a_M_foldSet a_M_foldEdges a_M_foldNeeds a_M_foldYards a_M_least a_M_ways a_M_price a_M_rowBy a_M_columnBy a_M_rowOf a_M_wayBack a_M_slack a_M_isUsed a_M_lifted a_M_freed a_M_path : Nat} {M_wide : Int32} {M_high : Int32} {M_hedges : Int64} {M_hurdles : Int32} {M_wants : Int32} {M_rest : Int32} {M_frozen : Int32} {M_bytes : Int32} {M_position : Int32} {M_tokenAt : Int32} {M_token : Int64} {M_digits : Int32} {M_number : Int32} {M_faultAt : Int32} {M_readMany : Int32} {M_readWide : Int32} {M_readHigh : Int32} {M_nights : Int32} {M_why : Int32} {M_folds : Int32} {M_square : Nat → Int32} {M_want : Nat → Int32} {M_text : Nat → Int32} {M_read : Nat → Int32} {M_row : Nat → Int32} {M_foldSet : Nat → Int32} {M_foldEdges : Nat → Int64} {M_foldNeeds : Nat → Int32} {M_foldYards : Nat → Int32} {M_least : Nat → Int32} {M_ways : Nat → Int32} {M_price : Nat → Int32} {M_rowBy : Nat → Int32} {M_columnBy : Nat → Int32} {M_rowOf : Nat → Int32} {M_wayBack : Nat → Int32} {M_slack : Nat → Int32} {M_isUsed : Nat → Int32} {M_lifted : Nat → Int32} {M_freed : Nat → Int32} {M_path : Nat → Int32} {x1 : Int32} {x2 : Int32} {x3 : Int32} {x4 : Int32} {x5 : Int32} {Q : ((Nat → Int32)) → Prop} {B9 : (Nat → Int32) → Int32 → Int32 → Int32 → Int32 → Prop} {B35 : Int32 → Int32 → Int32 → Prop} (cx : Cx x cX11_laySnail 8 RX11 rm_X11_laySnail D [(cyI, .int), (cyJ, .long), (cyZ, .boolean)]) (hR : ∀ (u : (Nat → Int32)) (pc : Nat) (lv : List (Nat × Value)), decode cX11_laySnail pc = .ok (.return_, 1) → Q u → J x 0 0 8 (W_Model cyI cyJ cyZ a_M a_M_square a_M_want a_M_text a_M_read a_M_row a_M_foldSet a_M_foldEdges a_M_foldNeeds a_M_foldYards a_M_least a_M_ways a_M_price a_M_rowBy a_M_columnBy a_M_rowOf a_M_wayBack a_M_slack a_M_isUsed a_M_lifted a_M_freed a_M_path M_wide M_high M_hedges M_hurdles M_wants M_rest M_frozen M_bytes M_position M_tokenAt M_token M_digits M_number M_faultAt M_readMany M_readWide M_readHigh M_nights M_why M_folds M_square M_want M_text M_read M_row M_foldSet M_foldEdges M_foldNeeds M_foldYards M_least M_ways M_price M_rowBy M_columnBy M_rowOf M_wayBack M_slack M_isUsed M_lifted M_freed u) lv pc []) (hB9 : ∀ (M_path : Nat → Int32) (x1 : Int32) (x2 : Int32) (x3 : Int32) (x4 : Int32), B9 M_path x1 x2 x3 x4 → J x 0 0 8 (W_Model cyI cyJ cyZ a_M a_M_square a_M_want a_M_text a_M_read a_M_row a_M_foldSet a_M_foldEdges a_M_foldNeeds a_M_foldYards a_M_least a_M_ways a_M_price a_M_rowBy a_M_columnBy a_M_rowOf a_M_wayBack a_M_slack a_M_isUsed a_M_lifted a_M_freed a_M_path M_wide M_high M_hedges M_hurdles M_wants M_rest M_frozen M_bytes M_position M_tokenAt M_token M_digits M_number M_faultAt M_readMany M_readWide M_readHigh M_nights M_why M_folds M_square M_want M_text M_read M_row M_foldSet M_foldEdges M_foldNeeds M_foldYards M_least M_ways M_price M_rowBy M_columnBy M_rowOf M_wayBack M_slack M_isUsed M_lifted M_freed M_path) [(0, .ref a_M), (1, .int x1), (2, .int x2), (3, .int x3), (4, .int x4)] 9 []) (hB35 : ∀ (x2 : Int32) (x3 : Int32) (x5 : Int32), B35 x2 x3 x5 → J x 0 0 8 (W_Model cyI cyJ cyZ a_M a_M_square a_M_want a_M_text a_M_read a_M_row a_M_foldSet a_M_foldEdges a_M_foldNeeds a_M_foldYards a_M_least a_M_ways a_M_price a_M_rowBy a_M_columnBy a_M_rowOf a_M_wayBack a_M_slack a_M_isUsed a_M_lifted a_M_freed a_M_path M_wide M_high M_hedges M_hurdles M_wants M_rest M_frozen M_bytes M_position M_tokenAt M_token M_digits M_number M_faultAt M_readMany M_readWide M_readHigh M_nights M_why M_folds M_square M_want M_text M_read M_row M_foldSet M_foldEdges M_foldNeeds M_foldYards M_least M_ways M_price M_rowBy M_columnBy M_rowOf M_wayBack M_slack M_isUsed M_lifted M_freed M_path) [(0, .ref a_M), (1, .int x1), (2, .int x2), (3, .int x3), (4, .int x4), (5, .int x5)] 35 []) (h : bd_X11_laySnail_35 Q B9 B35 x1 x4 M_wide M_high M_path x2 x3 x5) :
    J x 0 0 8 (W_Model cyI cyJ cyZ a_M a_M_square a_M_want a_M_text a_M_read a_M_row a_M_foldSet a_M_foldEdges a_M_foldNeeds a_M_foldYards a_M_least a_M_ways a_M_price a_M_rowBy a_M_columnBy a_M_rowOf a_M_wayBack a_M_slack a_M_isUsed a_M_lifted a_M_freed a_M_path M_wide M_high M_hedges M_hurdles M_wants M_rest M_frozen M_bytes M_position M_tokenAt M_token M_digits M_number M_faultAt M_readMany M_readWide M_readHigh M_nights M_why M_folds M_square M_want M_text M_read M_row M_foldSet M_foldEdges M_foldNeeds M_foldYards M_least M_ways M_price M_rowBy M_columnBy M_rowOf M_wayBack M_slack M_isUsed M_lifted M_freed M_path) [(0, .ref a_M), (1, .int x1), (2, .int x2), (3, .int x3), (4, .int x4), (5, .int x5)] 35 [] := by
  unfold bd_X11_laySnail_35 at h
  refine j_iload cx 5 rfl dX11_laySnail_35 (pn := 37) rfl ?_
  refine j_iconst cx (v := 2) (by decide) dX11_laySnail_37 (pn := 38) rfl ?_
  refine j_icmp_ge cx 115 dX11_laySnail_38 (pn := 41) rfl rfl (fun c5 => ?_) (fun c5 => ?_)
  · have h := h.1 c5
    obtain ⟨y6, ey6⟩ : ∃ z : Int32, z = x4 + 1 := ⟨_, rfl⟩
    have h := h y6 ey6
    refine j_iinc cx 4 rfl (cst := 1) (by decide) ey6 [(4, .int y6), (0, .ref a_M), (1, .int x1), (2, .int x2), (3, .int x3), (5, .int x5)] (by decide) rfl dX11_laySnail_115 (pn := 118) rfl ?_
    refine j_goto cx 9 dX11_laySnail_118 rfl ?_
    refine j_sub [1, 2, 3, 4, 0] [(0, .ref a_M), (1, .int x1), (2, .int x2), (3, .int x3), (4, .int y6)] rfl ?_
    exact hB9 _ _ _ _ _ h
  · have h := h.2 c5
    refine j_iload_n cx 3 rfl rfl dX11_laySnail_41 (pn := 42) rfl ?_
    refine j_if_ne cx 49 dX11_laySnail_42 (pn := 45) rfl rfl (fun c7 => ?_) (fun c7 => ?_)
    · have h := h.1 c7
      refine j_iload_n cx 3 rfl rfl dX11_laySnail_49 (pn := 50) rfl ?_
      refine j_iconst cx (v := 1) (by decide) dX11_laySnail_50 (pn := 51) rfl ?_
      refine j_icmp_ne cx 58 dX11_laySnail_51 (pn := 54) rfl rfl (fun c8 => ?_) (fun c8 => ?_)
      · have h := h.1 c8
        refine j_iload_n cx 3 rfl rfl dX11_laySnail_58 (pn := 59) rfl ?_
        refine j_iconst cx (v := 2) (by decide) dX11_laySnail_59 (pn := 60) rfl ?_
        refine j_icmp_ne cx 67 dX11_laySnail_60 (pn := 63) rfl rfl (fun c9 => ?_) (fun c9 => ?_)
        · have h := h.1 c9
          refine j_iconst cx (v := 2) (by decide) dX11_laySnail_67 (pn := 68) rfl ?_
          exact J_X11_laySnail_68 cx hR hB9 hB35 h
        · have h := h.2 c9
          refine j_iconst cx (v := 0) (by decide) dX11_laySnail_63 (pn := 64) rfl ?_
          refine j_goto cx 68 dX11_laySnail_64 rfl ?_
          exact J_X11_laySnail_68 cx hR hB9 hB35 h
      · have h := h.2 c8
        refine j_iconst cx (v := 3) (by decide) dX11_laySnail_54 (pn := 55) rfl ?_
        refine j_goto cx 68 dX11_laySnail_55 rfl ?_
        exact J_X11_laySnail_68 cx hR hB9 hB35 h
    · have h := h.2 c7
      refine j_iconst cx (v := 1) (by decide) dX11_laySnail_45 (pn := 46) rfl ?_
      refine j_goto cx 68 dX11_laySnail_46 rfl ?_
      exact J_X11_laySnail_68 cx hR hB9 hB35 h
set_option maxHeartbeats 4000000 in
set_option maxRecDepth 100000 in
theorem J_X11_laySnail_35 {x : CX} {D : DG} {cyI cyJ cyZ : ClassId} {a_M a_M_square a_M_want a_M_text a_M_read a_M_row a_M_foldSet a_M_foldEdges a_M_foldNeeds a_M_foldYards a_M_least a_M_ways a_M_price a_M_rowBy a_M_columnBy a_M_rowOf a_M_wayBack a_M_slack a_M_isUsed a_M_lifted a_M_freed a_M_path : Nat} {M_wide : Int32} {M_high : Int32} {M_hedges : Int64} {M_hurdles : Int32} {M_wants : Int32} {M_rest : Int32} {M_frozen : Int32} {M_bytes : Int32} {M_position : Int32} {M_tokenAt : Int32} {M_token : Int64} {M_digits : Int32} {M_number : Int32} {M_faultAt : Int32} {M_readMany : Int32} {M_readWide : Int32} {M_readHigh : Int32} {M_nights : Int32} {M_why : Int32} {M_folds : Int32} {M_square : Nat → Int32} {M_want : Nat → Int32} {M_text : Nat → Int32} {M_read : Nat → Int32} {M_row : Nat → Int32} {M_foldSet : Nat → Int32} {M_foldEdges : Nat → Int64} {M_foldNeeds : Nat → Int32} {M_foldYards : Nat → Int32} {M_least : Nat → Int32} {M_ways : Nat → Int32} {M_price : Nat → Int32} {M_rowBy : Nat → Int32} {M_columnBy : Nat → Int32} {M_rowOf : Nat → Int32} {M_wayBack : Nat → Int32} {M_slack : Nat → Int32} {M_isUsed : Nat → Int32} {M_lifted : Nat → Int32} {M_freed : Nat → Int32} {M_path : Nat → Int32} {x1 : Int32} {x2 : Int32} {x3 : Int32} {x4 : Int32} {x5 : Int32} {Q : ((Nat → Int32)) → Prop} {B9 : (Nat → Int32) → Int32 → Int32 → Int32 → Int32 → Prop} (cx : Cx x cX11_laySnail 8 RX11 rm_X11_laySnail D [(cyI, .int), (cyJ, .long), (cyZ, .boolean)]) (hR : ∀ (u : (Nat → Int32)) (pc : Nat) (lv : List (Nat × Value)), decode cX11_laySnail pc = .ok (.return_, 1) → Q u → J x 0 0 8 (W_Model cyI cyJ cyZ a_M a_M_square a_M_want a_M_text a_M_read a_M_row a_M_foldSet a_M_foldEdges a_M_foldNeeds a_M_foldYards a_M_least a_M_ways a_M_price a_M_rowBy a_M_columnBy a_M_rowOf a_M_wayBack a_M_slack a_M_isUsed a_M_lifted a_M_freed a_M_path M_wide M_high M_hedges M_hurdles M_wants M_rest M_frozen M_bytes M_position M_tokenAt M_token M_digits M_number M_faultAt M_readMany M_readWide M_readHigh M_nights M_why M_folds M_square M_want M_text M_read M_row M_foldSet M_foldEdges M_foldNeeds M_foldYards M_least M_ways M_price M_rowBy M_columnBy M_rowOf M_wayBack M_slack M_isUsed M_lifted M_freed u) lv pc []) (hB9 : ∀ (M_path : Nat → Int32) (x1 : Int32) (x2 : Int32) (x3 : Int32) (x4 : Int32), B9 M_path x1 x2 x3 x4 → J x 0 0 8 (W_Model cyI cyJ cyZ a_M a_M_square a_M_want a_M_text a_M_read a_M_row a_M_foldSet a_M_foldEdges a_M_foldNeeds a_M_foldYards a_M_least a_M_ways a_M_price a_M_rowBy a_M_columnBy a_M_rowOf a_M_wayBack a_M_slack a_M_isUsed a_M_lifted a_M_freed a_M_path M_wide M_high M_hedges M_hurdles M_wants M_rest M_frozen M_bytes M_position M_tokenAt M_token M_digits M_number M_faultAt M_readMany M_readWide M_readHigh M_nights M_why M_folds M_square M_want M_text M_read M_row M_foldSet M_foldEdges M_foldNeeds M_foldYards M_least M_ways M_price M_rowBy M_columnBy M_rowOf M_wayBack M_slack M_isUsed M_lifted M_freed M_path) [(0, .ref a_M), (1, .int x1), (2, .int x2), (3, .int x3), (4, .int x4)] 9 []) (h : lp_X11_laySnail_35 Q B9 x1 x4 M_wide M_high M_path x2 x3 x5) :
    J x 0 0 8 (W_Model cyI cyJ cyZ a_M a_M_square a_M_want a_M_text a_M_read a_M_row a_M_foldSet a_M_foldEdges a_M_foldNeeds a_M_foldYards a_M_least a_M_ways a_M_price a_M_rowBy a_M_columnBy a_M_rowOf a_M_wayBack a_M_slack a_M_isUsed a_M_lifted a_M_freed a_M_path M_wide M_high M_hedges M_hurdles M_wants M_rest M_frozen M_bytes M_position M_tokenAt M_token M_digits M_number M_faultAt M_readMany M_readWide M_readHigh M_nights M_why M_folds M_square M_want M_text M_read M_row M_foldSet M_foldEdges M_foldNeeds M_foldYards M_least M_ways M_price M_rowBy M_columnBy M_rowOf M_wayBack M_slack M_isUsed M_lifted M_freed M_path) [(0, .ref a_M), (1, .int x1), (2, .int x2), (3, .int x3), (4, .int x4), (5, .int x5)] 35 [] := by
  obtain ⟨I, ⟨n, h0⟩, hb⟩ := h
  revert x2 x3 x5
  induction n using Nat.strongRecOn with
  | _ n ih =>
    intro x2 x3 x5 h0
    exact B_X11_laySnail_35 cx hR hB9 (fun _ _ _ hz => by obtain ⟨n2, hlt, hI⟩ := hz; exact ih n2 hlt hI) (hb n x2 x3 x5 h0)
set_option maxHeartbeats 4000000 in
set_option maxRecDepth 100000 in
theorem B_X11_laySnail_9 {x : CX} {D : DG} {cyI cyJ cyZ : ClassId} {a_M a_M_square a_M_want a_M_text a_M_read a_M_row a_M_foldSet a_M_foldEdges a_M_foldNeeds a_M_foldYards a_M_least a_M_ways a_M_price a_M_rowBy a_M_columnBy a_M_rowOf a_M_wayBack a_M_slack a_M_isUsed a_M_lifted a_M_freed a_M_path : Nat} {M_wide : Int32} {M_high : Int32} {M_hedges : Int64} {M_hurdles : Int32} {M_wants : Int32} {M_rest : Int32} {M_frozen : Int32} {M_bytes : Int32} {M_position : Int32} {M_tokenAt : Int32} {M_token : Int64} {M_digits : Int32} {M_number : Int32} {M_faultAt : Int32} {M_readMany : Int32} {M_readWide : Int32} {M_readHigh : Int32} {M_nights : Int32} {M_why : Int32} {M_folds : Int32} {M_square : Nat → Int32} {M_want : Nat → Int32} {M_text : Nat → Int32} {M_read : Nat → Int32} {M_row : Nat → Int32} {M_foldSet : Nat → Int32} {M_foldEdges : Nat → Int64} {M_foldNeeds : Nat → Int32} {M_foldYards : Nat → Int32} {M_least : Nat → Int32} {M_ways : Nat → Int32} {M_price : Nat → Int32} {M_rowBy : Nat → Int32} {M_columnBy : Nat → Int32} {M_rowOf : Nat → Int32} {M_wayBack : Nat → Int32} {M_slack : Nat → Int32} {M_isUsed : Nat → Int32} {M_lifted : Nat → Int32} {M_freed : Nat → Int32} {M_path : Nat → Int32} {x1 : Int32} {x2 : Int32} {x3 : Int32} {x4 : Int32} {Q : ((Nat → Int32)) → Prop} {B9 : (Nat → Int32) → Int32 → Int32 → Int32 → Int32 → Prop} (cx : Cx x cX11_laySnail 8 RX11 rm_X11_laySnail D [(cyI, .int), (cyJ, .long), (cyZ, .boolean)]) (hR : ∀ (u : (Nat → Int32)) (pc : Nat) (lv : List (Nat × Value)), decode cX11_laySnail pc = .ok (.return_, 1) → Q u → J x 0 0 8 (W_Model cyI cyJ cyZ a_M a_M_square a_M_want a_M_text a_M_read a_M_row a_M_foldSet a_M_foldEdges a_M_foldNeeds a_M_foldYards a_M_least a_M_ways a_M_price a_M_rowBy a_M_columnBy a_M_rowOf a_M_wayBack a_M_slack a_M_isUsed a_M_lifted a_M_freed a_M_path M_wide M_high M_hedges M_hurdles M_wants M_rest M_frozen M_bytes M_position M_tokenAt M_token M_digits M_number M_faultAt M_readMany M_readWide M_readHigh M_nights M_why M_folds M_square M_want M_text M_read M_row M_foldSet M_foldEdges M_foldNeeds M_foldYards M_least M_ways M_price M_rowBy M_columnBy M_rowOf M_wayBack M_slack M_isUsed M_lifted M_freed u) lv pc []) (hB9 : ∀ (M_path : Nat → Int32) (x1 : Int32) (x2 : Int32) (x3 : Int32) (x4 : Int32), B9 M_path x1 x2 x3 x4 → J x 0 0 8 (W_Model cyI cyJ cyZ a_M a_M_square a_M_want a_M_text a_M_read a_M_row a_M_foldSet a_M_foldEdges a_M_foldNeeds a_M_foldYards a_M_least a_M_ways a_M_price a_M_rowBy a_M_columnBy a_M_rowOf a_M_wayBack a_M_slack a_M_isUsed a_M_lifted a_M_freed a_M_path M_wide M_high M_hedges M_hurdles M_wants M_rest M_frozen M_bytes M_position M_tokenAt M_token M_digits M_number M_faultAt M_readMany M_readWide M_readHigh M_nights M_why M_folds M_square M_want M_text M_read M_row M_foldSet M_foldEdges M_foldNeeds M_foldYards M_least M_ways M_price M_rowBy M_columnBy M_rowOf M_wayBack M_slack M_isUsed M_lifted M_freed M_path) [(0, .ref a_M), (1, .int x1), (2, .int x2), (3, .int x3), (4, .int x4)] 9 []) (h : bd_X11_laySnail_9 Q B9 M_wide M_high M_path x1 x2 x3 x4) :
    J x 0 0 8 (W_Model cyI cyJ cyZ a_M a_M_square a_M_want a_M_text a_M_read a_M_row a_M_foldSet a_M_foldEdges a_M_foldNeeds a_M_foldYards a_M_least a_M_ways a_M_price a_M_rowBy a_M_columnBy a_M_rowOf a_M_wayBack a_M_slack a_M_isUsed a_M_lifted a_M_freed a_M_path M_wide M_high M_hedges M_hurdles M_wants M_rest M_frozen M_bytes M_position M_tokenAt M_token M_digits M_number M_faultAt M_readMany M_readWide M_readHigh M_nights M_why M_folds M_square M_want M_text M_read M_row M_foldSet M_foldEdges M_foldNeeds M_foldYards M_least M_ways M_price M_rowBy M_columnBy M_rowOf M_wayBack M_slack M_isUsed M_lifted M_freed M_path) [(0, .ref a_M), (1, .int x1), (2, .int x2), (3, .int x3), (4, .int x4)] 9 [] := by
  unfold bd_X11_laySnail_9 at h
  refine j_iload cx 4 rfl dX11_laySnail_9 (pn := 11) rfl ?_
  refine j_aload_n cx 0 rfl rfl dX11_laySnail_11 (pn := 12) rfl ?_
  refine j_callvI0 cx q_inst_X11_squares q_sel_X11_squares (b := a_M) (As := []) (rest := [.int x4]) (c_X11_squares h) ⟨q_code_X11_squares, q_ml_X11_86, q_init_X11, hd_X11_squares, ⟨Nat.le_of_ble_eq_true rfl, Nat.le_of_ble_eq_true rfl⟩, Nat.le_of_ble_eq_true rfl, Nat.le_of_ble_eq_true rfl⟩ (q0 := 0) rfl rfl rfl rfl (Nat.le_of_ble_eq_true rfl) dX11_laySnail_12 (pn := 15) rfl (fun r1 _ h => ?_)
  show J x 0 0 8 (W_Model cyI cyJ cyZ a_M a_M_square a_M_want a_M_text a_M_read a_M_row a_M_foldSet a_M_foldEdges a_M_foldNeeds a_M_foldYards a_M_least a_M_ways a_M_price a_M_rowBy a_M_columnBy a_M_rowOf a_M_wayBack a_M_slack a_M_isUsed a_M_lifted a_M_freed a_M_path M_wide M_high M_hedges M_hurdles M_wants M_rest M_frozen M_bytes M_position M_tokenAt M_token M_digits M_number M_faultAt M_readMany M_readWide M_readHigh M_nights M_why M_folds M_square M_want M_text M_read M_row M_foldSet M_foldEdges M_foldNeeds M_foldYards M_least M_ways M_price M_rowBy M_columnBy M_rowOf M_wayBack M_slack M_isUsed M_lifted M_freed M_path) [(0, .ref a_M), (1, .int x1), (2, .int x2), (3, .int x3), (4, .int x4)] 15 [.int r1, .int x4]
  refine j_icmp_ge cx 121 dX11_laySnail_15 (pn := 18) rfl rfl (fun c2 => ?_) (fun c2 => ?_)
  · have h := h.1 c2
    exact hR M_path 121 _ dX11_laySnail_121 h
  · have h := h.2 c2
    refine j_aload_n cx 0 rfl rfl dX11_laySnail_18 (pn := 19) rfl ?_
    refine j_get cx inGX11 0 rfl rfl 40 (by decide) q_fl_X11_83 rfl rfl dX11_laySnail_19 (pn := 22) rfl ?_
    refine j_iload cx 4 rfl dX11_laySnail_22 (pn := 24) rfl ?_
    refine j_iload_n cx 2 rfl rfl dX11_laySnail_24 (pn := 25) rfl ?_
    have hin := h.1
    obtain ⟨f3, ef3⟩ : ∃ z, z = upd M_path x4.toNatClampNeg x2 := ⟨_, rfl⟩
    have h := h.2 f3 ef3
    refine j_iast cx 21 0 rfl rfl hin (W_Model cyI cyJ cyZ a_M a_M_square a_M_want a_M_text a_M_read a_M_row a_M_foldSet a_M_foldEdges a_M_foldNeeds a_M_foldYards a_M_least a_M_ways a_M_price a_M_rowBy a_M_columnBy a_M_rowOf a_M_wayBack a_M_slack a_M_isUsed a_M_lifted a_M_freed a_M_path M_wide M_high M_hedges M_hurdles M_wants M_rest M_frozen M_bytes M_position M_tokenAt M_token M_digits M_number M_faultAt M_readMany M_readWide M_readHigh M_nights M_why M_folds M_square M_want M_text M_read M_row M_foldSet M_foldEdges M_foldNeeds M_foldYards M_least M_ways M_price M_rowBy M_columnBy M_rowOf M_wayBack M_slack M_isUsed M_lifted M_freed f3) (by subst ef3; rfl) dX11_laySnail_25 (pn := 26) rfl ?_
    refine j_iload_n cx 1 rfl rfl dX11_laySnail_26 (pn := 27) rfl ?_
    refine j_iconst cx (v := 1) (by decide) dX11_laySnail_27 (pn := 28) rfl ?_
    refine j_iload_n cx 2 rfl rfl dX11_laySnail_28 (pn := 29) rfl ?_
    refine j_ishl cx dX11_laySnail_29 (pn := 30) rfl ?_
    refine j_ior cx dX11_laySnail_30 (pn := 31) rfl ?_
    refine j_topi (fun y4 ey4 => ?_)
    have h := h y4 ey4
    refine j_istore_n cx rfl [(1, .int y4), (0, .ref a_M), (2, .int x2), (3, .int x3), (4, .int x4)] (by decide) rfl dX11_laySnail_31 (pn := 32) rfl ?_
    refine j_iconst cx (v := 0) (by decide) dX11_laySnail_32 (pn := 33) rfl ?_
    refine j_istore cx [(5, .int 0), (1, .int y4), (0, .ref a_M), (2, .int x2), (3, .int x3), (4, .int x4)] (by decide) rfl dX11_laySnail_33 (pn := 35) rfl ?_
    refine j_sub [2, 1, 3, 4, 5, 0] [(0, .ref a_M), (1, .int y4), (2, .int x2), (3, .int x3), (4, .int x4), (5, .int 0)] rfl ?_
    exact J_X11_laySnail_35 cx hR hB9 h
set_option maxHeartbeats 4000000 in
set_option maxRecDepth 100000 in
theorem J_X11_laySnail_9 {x : CX} {D : DG} {cyI cyJ cyZ : ClassId} {a_M a_M_square a_M_want a_M_text a_M_read a_M_row a_M_foldSet a_M_foldEdges a_M_foldNeeds a_M_foldYards a_M_least a_M_ways a_M_price a_M_rowBy a_M_columnBy a_M_rowOf a_M_wayBack a_M_slack a_M_isUsed a_M_lifted a_M_freed a_M_path : Nat} {M_wide : Int32} {M_high : Int32} {M_hedges : Int64} {M_hurdles : Int32} {M_wants : Int32} {M_rest : Int32} {M_frozen : Int32} {M_bytes : Int32} {M_position : Int32} {M_tokenAt : Int32} {M_token : Int64} {M_digits : Int32} {M_number : Int32} {M_faultAt : Int32} {M_readMany : Int32} {M_readWide : Int32} {M_readHigh : Int32} {M_nights : Int32} {M_why : Int32} {M_folds : Int32} {M_square : Nat → Int32} {M_want : Nat → Int32} {M_text : Nat → Int32} {M_read : Nat → Int32} {M_row : Nat → Int32} {M_foldSet : Nat → Int32} {M_foldEdges : Nat → Int64} {M_foldNeeds : Nat → Int32} {M_foldYards : Nat → Int32} {M_least : Nat → Int32} {M_ways : Nat → Int32} {M_price : Nat → Int32} {M_rowBy : Nat → Int32} {M_columnBy : Nat → Int32} {M_rowOf : Nat → Int32} {M_wayBack : Nat → Int32} {M_slack : Nat → Int32} {M_isUsed : Nat → Int32} {M_lifted : Nat → Int32} {M_freed : Nat → Int32} {M_path : Nat → Int32} {x1 : Int32} {x2 : Int32} {x3 : Int32} {x4 : Int32} {Q : ((Nat → Int32)) → Prop} (cx : Cx x cX11_laySnail 8 RX11 rm_X11_laySnail D [(cyI, .int), (cyJ, .long), (cyZ, .boolean)]) (hR : ∀ (u : (Nat → Int32)) (pc : Nat) (lv : List (Nat × Value)), decode cX11_laySnail pc = .ok (.return_, 1) → Q u → J x 0 0 8 (W_Model cyI cyJ cyZ a_M a_M_square a_M_want a_M_text a_M_read a_M_row a_M_foldSet a_M_foldEdges a_M_foldNeeds a_M_foldYards a_M_least a_M_ways a_M_price a_M_rowBy a_M_columnBy a_M_rowOf a_M_wayBack a_M_slack a_M_isUsed a_M_lifted a_M_freed a_M_path M_wide M_high M_hedges M_hurdles M_wants M_rest M_frozen M_bytes M_position M_tokenAt M_token M_digits M_number M_faultAt M_readMany M_readWide M_readHigh M_nights M_why M_folds M_square M_want M_text M_read M_row M_foldSet M_foldEdges M_foldNeeds M_foldYards M_least M_ways M_price M_rowBy M_columnBy M_rowOf M_wayBack M_slack M_isUsed M_lifted M_freed u) lv pc []) (h : lp_X11_laySnail_9 Q  M_wide M_high M_path x1 x2 x3 x4) :
    J x 0 0 8 (W_Model cyI cyJ cyZ a_M a_M_square a_M_want a_M_text a_M_read a_M_row a_M_foldSet a_M_foldEdges a_M_foldNeeds a_M_foldYards a_M_least a_M_ways a_M_price a_M_rowBy a_M_columnBy a_M_rowOf a_M_wayBack a_M_slack a_M_isUsed a_M_lifted a_M_freed a_M_path M_wide M_high M_hedges M_hurdles M_wants M_rest M_frozen M_bytes M_position M_tokenAt M_token M_digits M_number M_faultAt M_readMany M_readWide M_readHigh M_nights M_why M_folds M_square M_want M_text M_read M_row M_foldSet M_foldEdges M_foldNeeds M_foldYards M_least M_ways M_price M_rowBy M_columnBy M_rowOf M_wayBack M_slack M_isUsed M_lifted M_freed M_path) [(0, .ref a_M), (1, .int x1), (2, .int x2), (3, .int x3), (4, .int x4)] 9 [] := by
  obtain ⟨I, ⟨n, h0⟩, hb⟩ := h
  revert M_path x1 x2 x3 x4
  induction n using Nat.strongRecOn with
  | _ n ih =>
    intro M_path x1 x2 x3 x4 h0
    exact B_X11_laySnail_9 cx hR (fun _ _ _ _ _ hz => by obtain ⟨n2, hlt, hI⟩ := hz; exact ih n2 hlt hI) (hb n M_path x1 x2 x3 x4 h0)
set_option maxHeartbeats 4000000 in
set_option maxRecDepth 100000 in
theorem c_X11_laySnail {D : DG} {cyI cyJ cyZ : ClassId} {a_M a_M_square a_M_want a_M_text a_M_read a_M_row a_M_foldSet a_M_foldEdges a_M_foldNeeds a_M_foldYards a_M_least a_M_ways a_M_price a_M_rowBy a_M_columnBy a_M_rowOf a_M_wayBack a_M_slack a_M_isUsed a_M_lifted a_M_freed a_M_path : Nat} {M_wide : Int32} {M_high : Int32} {M_hedges : Int64} {M_hurdles : Int32} {M_wants : Int32} {M_rest : Int32} {M_frozen : Int32} {M_bytes : Int32} {M_position : Int32} {M_tokenAt : Int32} {M_token : Int64} {M_digits : Int32} {M_number : Int32} {M_faultAt : Int32} {M_readMany : Int32} {M_readWide : Int32} {M_readHigh : Int32} {M_nights : Int32} {M_why : Int32} {M_folds : Int32} {M_square : Nat → Int32} {M_want : Nat → Int32} {M_text : Nat → Int32} {M_read : Nat → Int32} {M_row : Nat → Int32} {M_foldSet : Nat → Int32} {M_foldEdges : Nat → Int64} {M_foldNeeds : Nat → Int32} {M_foldYards : Nat → Int32} {M_least : Nat → Int32} {M_ways : Nat → Int32} {M_price : Nat → Int32} {M_rowBy : Nat → Int32} {M_columnBy : Nat → Int32} {M_rowOf : Nat → Int32} {M_wayBack : Nat → Int32} {M_slack : Nat → Int32} {M_isUsed : Nat → Int32} {M_lifted : Nat → Int32} {M_freed : Nat → Int32} {M_path : Nat → Int32} {Q : ((Nat → Int32)) → Prop} (h : wp_X11_laySnail M_wide M_high M_path Q) :
    MetV yX11_laySnail cX11_laySnail 8 (none) rm_X11_laySnail D [(cyI, .int), (cyJ, .long), (cyZ, .boolean)] [.ref a_M] (W_Model cyI cyJ cyZ a_M a_M_square a_M_want a_M_text a_M_read a_M_row a_M_foldSet a_M_foldEdges a_M_foldNeeds a_M_foldYards a_M_least a_M_ways a_M_price a_M_rowBy a_M_columnBy a_M_rowOf a_M_wayBack a_M_slack a_M_isUsed a_M_lifted a_M_freed a_M_path M_wide M_high M_hedges M_hurdles M_wants M_rest M_frozen M_bytes M_position M_tokenAt M_token M_digits M_number M_faultAt M_readMany M_readWide M_readHigh M_nights M_why M_folds M_square M_want M_text M_read M_row M_foldSet M_foldEdges M_foldNeeds M_foldYards M_least M_ways M_price M_rowBy M_columnBy M_rowOf M_wayBack M_slack M_isUsed M_lifted M_freed M_path) (fun u : (Nat → Int32) => (W_Model cyI cyJ cyZ a_M a_M_square a_M_want a_M_text a_M_read a_M_row a_M_foldSet a_M_foldEdges a_M_foldNeeds a_M_foldYards a_M_least a_M_ways a_M_price a_M_rowBy a_M_columnBy a_M_rowOf a_M_wayBack a_M_slack a_M_isUsed a_M_lifted a_M_freed a_M_path M_wide M_high M_hedges M_hurdles M_wants M_rest M_frozen M_bytes M_position M_tokenAt M_token M_digits M_number M_faultAt M_readMany M_readWide M_readHigh M_nights M_why M_folds M_square M_want M_text M_read M_row M_foldSet M_foldEdges M_foldNeeds M_foldYards M_least M_ways M_price M_rowBy M_columnBy M_rowOf M_wayBack M_slack M_isUsed M_lifted M_freed u)) (fun u => Q u) := by
  unfold wp_X11_laySnail at h
  refine metV_of (by decide) (Nat.le_of_ble_eq_true rfl) (fun x cx0 hR0 => ?_)
  have cx : Cx x cX11_laySnail 8 RX11 rm_X11_laySnail D [(cyI, .int), (cyJ, .long), (cyZ, .boolean)] := cx0
  have hR : ∀ (u : (Nat → Int32)) (pc : Nat) (lv : List (Nat × Value)), decode cX11_laySnail pc = .ok (.return_, 1) → Q u → J x 0 0 8 (W_Model cyI cyJ cyZ a_M a_M_square a_M_want a_M_text a_M_read a_M_row a_M_foldSet a_M_foldEdges a_M_foldNeeds a_M_foldYards a_M_least a_M_ways a_M_price a_M_rowBy a_M_columnBy a_M_rowOf a_M_wayBack a_M_slack a_M_isUsed a_M_lifted a_M_freed a_M_path M_wide M_high M_hedges M_hurdles M_wants M_rest M_frozen M_bytes M_position M_tokenAt M_token M_digits M_number M_faultAt M_readMany M_readWide M_readHigh M_nights M_why M_folds M_square M_want M_text M_read M_row M_foldSet M_foldEdges M_foldNeeds M_foldYards M_least M_ways M_price M_rowBy M_columnBy M_rowOf M_wayBack M_slack M_isUsed M_lifted M_freed u) lv pc [] := (fun u pc lv d hq => hR0 u pc lv d hq)
  show J x 0 0 8 (W_Model cyI cyJ cyZ a_M a_M_square a_M_want a_M_text a_M_read a_M_row a_M_foldSet a_M_foldEdges a_M_foldNeeds a_M_foldYards a_M_least a_M_ways a_M_price a_M_rowBy a_M_columnBy a_M_rowOf a_M_wayBack a_M_slack a_M_isUsed a_M_lifted a_M_freed a_M_path M_wide M_high M_hedges M_hurdles M_wants M_rest M_frozen M_bytes M_position M_tokenAt M_token M_digits M_number M_faultAt M_readMany M_readWide M_readHigh M_nights M_why M_folds M_square M_want M_text M_read M_row M_foldSet M_foldEdges M_foldNeeds M_foldYards M_least M_ways M_price M_rowBy M_columnBy M_rowOf M_wayBack M_slack M_isUsed M_lifted M_freed M_path) [(0, .ref a_M)] 0 []
  refine j_iconst cx (v := 0) (by decide) dX11_laySnail_0 (pn := 1) rfl ?_
  refine j_istore_n cx rfl [(1, .int 0), (0, .ref a_M)] (by decide) rfl dX11_laySnail_1 (pn := 2) rfl ?_
  refine j_iconst cx (v := 0) (by decide) dX11_laySnail_2 (pn := 3) rfl ?_
  refine j_istore_n cx rfl [(2, .int 0), (1, .int 0), (0, .ref a_M)] (by decide) rfl dX11_laySnail_3 (pn := 4) rfl ?_
  refine j_iconst cx (v := 0) (by decide) dX11_laySnail_4 (pn := 5) rfl ?_
  refine j_istore_n cx rfl [(3, .int 0), (2, .int 0), (1, .int 0), (0, .ref a_M)] (by decide) rfl dX11_laySnail_5 (pn := 6) rfl ?_
  refine j_iconst cx (v := 0) (by decide) dX11_laySnail_6 (pn := 7) rfl ?_
  refine j_istore cx [(4, .int 0), (3, .int 0), (2, .int 0), (1, .int 0), (0, .ref a_M)] (by decide) rfl dX11_laySnail_7 (pn := 9) rfl ?_
  refine j_sub [4, 3, 2, 1, 0] [(0, .ref a_M), (1, .int 0), (2, .int 0), (3, .int 0), (4, .int 0)] rfl ?_
  exact J_X11_laySnail_9 cx hR h
theorem dX11_goes_0 : decode cX11_goes 0 = .ok (.iload_n 2, 1) := by decide +kernel
theorem dX11_goes_1 : decode cX11_goes 1 = .ok (.iconst 1, 1) := by decide +kernel
theorem dX11_goes_2 : decode cX11_goes 2 = .ok (.bipush 10, 2) := by decide +kernel
theorem dX11_goes_4 : decode cX11_goes 4 = .ok (.invokestatic 90, 3) := by decide +kernel
theorem dX11_goes_7 : decode cX11_goes 7 = .ok (.ifCond .eq 12, 3) := by decide +kernel
theorem dX11_goes_10 : decode cX11_goes 10 = .ok (.iload_n 3, 1) := by decide +kernel
theorem dX11_goes_11 : decode cX11_goes 11 = .ok (.iconst 0, 1) := by decide +kernel
theorem dX11_goes_12 : decode cX11_goes 12 = .ok (.iconst 1, 1) := by decide +kernel
theorem dX11_goes_13 : decode cX11_goes 13 = .ok (.invokestatic 90, 3) := by decide +kernel
theorem dX11_goes_16 : decode cX11_goes 16 = .ok (.ifCond .ne 6, 3) := by decide +kernel
theorem dX11_goes_19 : decode cX11_goes 19 = .ok (.bipush (-3), 2) := by decide +kernel
theorem dX11_goes_21 : decode cX11_goes 21 = .ok (.ireturn, 1) := by decide +kernel
theorem dX11_goes_22 : decode cX11_goes 22 = .ok (.iload_n 1, 1) := by decide +kernel
theorem dX11_goes_23 : decode cX11_goes 23 = .ok (.ifCond .eq 10, 3) := by decide +kernel
theorem dX11_goes_26 : decode cX11_goes 26 = .ok (.aload_n 0, 1) := by decide +kernel
theorem dX11_goes_27 : decode cX11_goes 27 = .ok (.invokevirtual 315, 3) := by decide +kernel
theorem dX11_goes_30 : decode cX11_goes 30 = .ok (.goto 7, 3) := by decide +kernel
theorem dX11_goes_33 : decode cX11_goes 33 = .ok (.aload_n 0, 1) := by decide +kernel
theorem dX11_goes_34 : decode cX11_goes 34 = .ok (.invokevirtual 318, 3) := by decide +kernel
theorem dX11_goes_37 : decode cX11_goes 37 = .ok (.iconst 0, 1) := by decide +kernel
theorem dX11_goes_38 : decode cX11_goes 38 = .ok (.istore 4, 2) := by decide +kernel
theorem dX11_goes_40 : decode cX11_goes 40 = .ok (.iconst 0, 1) := by decide +kernel
theorem dX11_goes_41 : decode cX11_goes 41 = .ok (.istore 5, 2) := by decide +kernel
theorem dX11_goes_43 : decode cX11_goes 43 = .ok (.lconst 0, 1) := by decide +kernel
theorem dX11_goes_44 : decode cX11_goes 44 = .ok (.lstore 6, 2) := by decide +kernel
theorem dX11_goes_46 : decode cX11_goes 46 = .ok (.iconst 0, 1) := by decide +kernel
theorem dX11_goes_47 : decode cX11_goes 47 = .ok (.istore 8, 2) := by decide +kernel
theorem dX11_goes_49 : decode cX11_goes 49 = .ok (.iload 8, 2) := by decide +kernel
theorem dX11_goes_51 : decode cX11_goes 51 = .ok (.aload_n 0, 1) := by decide +kernel
theorem dX11_goes_52 : decode cX11_goes 52 = .ok (.invokevirtual 86, 3) := by decide +kernel
theorem dX11_goes_55 : decode cX11_goes 55 = .ok (.if_icmp .ge 119, 3) := by decide +kernel
theorem dX11_goes_58 : decode cX11_goes 58 = .ok (.iconst 0, 1) := by decide +kernel
theorem dX11_goes_59 : decode cX11_goes 59 = .ok (.istore 9, 2) := by decide +kernel
theorem dX11_goes_61 : decode cX11_goes 61 = .ok (.iload 8, 2) := by decide +kernel
theorem dX11_goes_63 : decode cX11_goes 63 = .ok (.istore 10, 2) := by decide +kernel
theorem dX11_goes_65 : decode cX11_goes 65 = .ok (.iload 10, 2) := by decide +kernel
theorem dX11_goes_67 : decode cX11_goes 67 = .ok (.iload 8, 2) := by decide +kernel
theorem dX11_goes_69 : decode cX11_goes 69 = .ok (.iload_n 2, 1) := by decide +kernel
theorem dX11_goes_70 : decode cX11_goes 70 = .ok (.iadd, 1) := by decide +kernel
theorem dX11_goes_71 : decode cX11_goes 71 = .ok (.if_icmp .ge 32, 3) := by decide +kernel
theorem dX11_goes_74 : decode cX11_goes 74 = .ok (.iload 10, 2) := by decide +kernel
theorem dX11_goes_76 : decode cX11_goes 76 = .ok (.aload_n 0, 1) := by decide +kernel
theorem dX11_goes_77 : decode cX11_goes 77 = .ok (.invokevirtual 86, 3) := by decide +kernel
theorem dX11_goes_80 : decode cX11_goes 80 = .ok (.if_icmp .ge 23, 3) := by decide +kernel
theorem dX11_goes_83 : decode cX11_goes 83 = .ok (.iload 9, 2) := by decide +kernel
theorem dX11_goes_85 : decode cX11_goes 85 = .ok (.iconst 1, 1) := by decide +kernel
theorem dX11_goes_86 : decode cX11_goes 86 = .ok (.aload_n 0, 1) := by decide +kernel
theorem dX11_goes_87 : decode cX11_goes 87 = .ok (.getfield 83, 3) := by decide +kernel
theorem dX11_goes_90 : decode cX11_goes 90 = .ok (.iload 10, 2) := by decide +kernel
theorem dX11_goes_92 : decode cX11_goes 92 = .ok (.iaload, 1) := by decide +kernel
theorem dX11_goes_93 : decode cX11_goes 93 = .ok (.ishl, 1) := by decide +kernel
theorem dX11_goes_94 : decode cX11_goes 94 = .ok (.ior, 1) := by decide +kernel
theorem dX11_goes_95 : decode cX11_goes 95 = .ok (.istore 9, 2) := by decide +kernel
theorem dX11_goes_97 : decode cX11_goes 97 = .ok (.iinc 10 1, 3) := by decide +kernel
theorem dX11_goes_100 : decode cX11_goes 100 = .ok (.goto (-35), 3) := by decide +kernel
theorem dX11_goes_103 : decode cX11_goes 103 = .ok (.aload_n 0, 1) := by decide +kernel
theorem dX11_goes_104 : decode cX11_goes 104 = .ok (.iload 9, 2) := by decide +kernel
theorem dX11_goes_106 : decode cX11_goes 106 = .ok (.invokevirtual 237, 3) := by decide +kernel
theorem dX11_goes_109 : decode cX11_goes 109 = .ok (.ifCond .ne 5, 3) := by decide +kernel
theorem dX11_goes_112 : decode cX11_goes 112 = .ok (.iconst (-1), 1) := by decide +kernel
theorem dX11_goes_113 : decode cX11_goes 113 = .ok (.ireturn, 1) := by decide +kernel
theorem dX11_goes_114 : decode cX11_goes 114 = .ok (.aload_n 0, 1) := by decide +kernel
theorem dX11_goes_115 : decode cX11_goes 115 = .ok (.iload 9, 2) := by decide +kernel
theorem dX11_goes_117 : decode cX11_goes 117 = .ok (.invokevirtual 240, 3) := by decide +kernel
theorem dX11_goes_120 : decode cX11_goes 120 = .ok (.lstore 10, 2) := by decide +kernel
theorem dX11_goes_122 : decode cX11_goes 122 = .ok (.lload 10, 2) := by decide +kernel
theorem dX11_goes_124 : decode cX11_goes 124 = .ok (.invokestatic 244, 3) := by decide +kernel
theorem dX11_goes_127 : decode cX11_goes 127 = .ok (.iload 4, 2) := by decide +kernel
theorem dX11_goes_129 : decode cX11_goes 129 = .ok (.if_icmp .le 11, 3) := by decide +kernel
theorem dX11_goes_132 : decode cX11_goes 132 = .ok (.lload 10, 2) := by decide +kernel
theorem dX11_goes_134 : decode cX11_goes 134 = .ok (.invokestatic 244, 3) := by decide +kernel
theorem dX11_goes_137 : decode cX11_goes 137 = .ok (.goto 5, 3) := by decide +kernel
theorem dX11_goes_140 : decode cX11_goes 140 = .ok (.iload 4, 2) := by decide +kernel
theorem dX11_goes_142 : decode cX11_goes 142 = .ok (.istore 4, 2) := by decide +kernel
theorem dX11_goes_144 : decode cX11_goes 144 = .ok (.iload 5, 2) := by decide +kernel
theorem dX11_goes_146 : decode cX11_goes 146 = .ok (.lload 10, 2) := by decide +kernel
theorem dX11_goes_148 : decode cX11_goes 148 = .ok (.lload 6, 2) := by decide +kernel
theorem dX11_goes_150 : decode cX11_goes 150 = .ok (.ldc2_w 123, 3) := by decide +kernel
theorem dX11_goes_153 : decode cX11_goes 153 = .ok (.lxor, 1) := by decide +kernel
theorem dX11_goes_154 : decode cX11_goes 154 = .ok (.land, 1) := by decide +kernel
theorem dX11_goes_155 : decode cX11_goes 155 = .ok (.invokestatic 244, 3) := by decide +kernel
theorem dX11_goes_158 : decode cX11_goes 158 = .ok (.iadd, 1) := by decide +kernel
theorem dX11_goes_159 : decode cX11_goes 159 = .ok (.istore 5, 2) := by decide +kernel
theorem dX11_goes_161 : decode cX11_goes 161 = .ok (.lload 10, 2) := by decide +kernel
theorem dX11_goes_163 : decode cX11_goes 163 = .ok (.lstore 6, 2) := by decide +kernel
theorem dX11_goes_165 : decode cX11_goes 165 = .ok (.iload 8, 2) := by decide +kernel
theorem dX11_goes_167 : decode cX11_goes 167 = .ok (.iload_n 2, 1) := by decide +kernel
theorem dX11_goes_168 : decode cX11_goes 168 = .ok (.iadd, 1) := by decide +kernel
theorem dX11_goes_169 : decode cX11_goes 169 = .ok (.istore 8, 2) := by decide +kernel
theorem dX11_goes_171 : decode cX11_goes 171 = .ok (.goto (-122), 3) := by decide +kernel
theorem dX11_goes_174 : decode cX11_goes 174 = .ok (.iload_n 3, 1) := by decide +kernel
theorem dX11_goes_175 : decode cX11_goes 175 = .ok (.ifCond .ne 8, 3) := by decide +kernel
theorem dX11_goes_178 : decode cX11_goes 178 = .ok (.iload 4, 2) := by decide +kernel
theorem dX11_goes_180 : decode cX11_goes 180 = .ok (.goto 5, 3) := by decide +kernel
theorem dX11_goes_183 : decode cX11_goes 183 = .ok (.iload 5, 2) := by decide +kernel
theorem dX11_goes_185 : decode cX11_goes 185 = .ok (.ireturn, 1) := by decide +kernel
abbrev rm_X11_goes : Room := { frames := 4, cells := 0, slots := 0, locals := 94 }
theorem hd_X11_goes : yX11_goes.cls ≠ "java/lang/invoke/MethodHandle" ∧ yX11_goes.cls ≠ "java/lang/invoke/VarHandle" ∧ (parseMethodDescriptor yX11_goes.desc).map (fun d => d.parameters.length) = some 3 := by decide +kernel
def bk_X11_goes_142 (Q : Int32 → ((Nat → Int32)) → Prop) (B49 : Int32 → Int32 → Int64 → Int32 → Prop) (p2 : Int32) (x5 : Int32) (xl6 : Int64) (x8 : Int32) (xl10 : Int64) (s0 : Int32) : Prop :=
wp_X11_bits (xl10 &&& (xl6 ^^^ (-1))) (fun (r16 : Int32) => ∀ y17 : Int32, y17 = (x5 + r16) →
∀ y18 : Int32, y18 = (x8 + p2) →
B49 s0 y17 xl10 y18)
def bk_X11_goes_103 (Q : Int32 → ((Nat → Int32)) → Prop) (B49 : Int32 → Int32 → Int64 → Int32 → Prop) (p2 : Int32) (x4 : Int32) (x5 : Int32) (xl6 : Int64) (x8 : Int32) (x9 : Int32) (M_wide : Int32) (M_high : Int32) (M_hedges : Int64) (M_square : Nat → Int32) (M_path : Nat → Int32) : Prop :=
wp_X11_isFold x9 M_wide M_high M_square (fun (r11 : Int32) => ((¬ r11 = 0 → wp_X11_edgesOf x9 M_wide M_high M_hedges M_square (fun (r13 : Int64) => wp_X11_bits r13 (fun (r14 : Int32) => ((r14 ≤ x4 → bk_X11_goes_142 Q B49 p2 x5 xl6 x8 r13 x4) ∧
(¬ r14 ≤ x4 → wp_X11_bits r13 (fun (r19 : Int32) => bk_X11_goes_142 Q B49 p2 x5 xl6 x8 r13 r19)))))) ∧
(r11 = 0 → Q (-1) M_path)))
def bd_X11_goes_65 (Q : Int32 → ((Nat → Int32)) → Prop) (B49 : Int32 → Int32 → Int64 → Int32 → Prop) (B65 : Int32 → Int32 → Prop) (p2 : Int32) (x4 : Int32) (x5 : Int32) (xl6 : Int64) (x8 : Int32) (M_wide : Int32) (M_high : Int32) (M_hedges : Int64) (M_square : Nat → Int32) (M_path : Nat → Int32) (x9 : Int32) (x10 : Int32) : Prop :=
(((x8 + p2) ≤ x10 → bk_X11_goes_103 Q B49 p2 x4 x5 xl6 x8 x9 M_wide M_high M_hedges M_square M_path) ∧
(¬ (x8 + p2) ≤ x10 → wp_X11_squares M_wide M_high (fun (r20 : Int32) => ((r20 ≤ x10 → bk_X11_goes_103 Q B49 p2 x4 x5 xl6 x8 x9 M_wide M_high M_hedges M_square M_path) ∧
(¬ r20 ≤ x10 → vp_in x10 10 ∧ (∀ y22 : Int32, y22 = (x9 ||| (1 <<< ((M_path x10.toNatClampNeg) &&& 31))) →
∀ y23 : Int32, y23 = (x10 + 1) →
B65 y22 y23))))))
def lp_X11_goes_65 (Q : Int32 → ((Nat → Int32)) → Prop) (B49 : Int32 → Int32 → Int64 → Int32 → Prop) (p2 : Int32) (x4 : Int32) (x5 : Int32) (xl6 : Int64) (x8 : Int32) (M_wide : Int32) (M_high : Int32) (M_hedges : Int64) (M_square : Nat → Int32) (M_path : Nat → Int32) (x9 : Int32) (x10 : Int32) : Prop :=
∃ I : Nat → Int32 → Int32 → Prop, (∃ n, I n x9 x10) ∧ ∀ n x9 x10, I n x9 x10 → bd_X11_goes_65 Q B49 (fun x9' x10' => ∃ n', n' < n ∧ I n' x9' x10') p2 x4 x5 xl6 x8 M_wide M_high M_hedges M_square M_path x9 x10
def bd_X11_goes_49 (Q : Int32 → ((Nat → Int32)) → Prop) (B49 : Int32 → Int32 → Int64 → Int32 → Prop) (p2 : Int32) (p3 : Int32) (M_wide : Int32) (M_high : Int32) (M_hedges : Int64) (M_square : Nat → Int32) (M_path : Nat → Int32) (x4 : Int32) (x5 : Int32) (xl6 : Int64) (x8 : Int32) : Prop :=
wp_X11_squares M_wide M_high (fun (r7 : Int32) => ((r7 ≤ x8 → ((¬ p3 = 0 → Q x5 M_path) ∧
(p3 = 0 → Q x4 M_path))) ∧
(¬ r7 ≤ x8 → lp_X11_goes_65 Q B49 p2 x4 x5 xl6 x8 M_wide M_high M_hedges M_square M_path 0 x8)))
def lp_X11_goes_49 (Q : Int32 → ((Nat → Int32)) → Prop) (p2 : Int32) (p3 : Int32) (M_wide : Int32) (M_high : Int32) (M_hedges : Int64) (M_square : Nat → Int32) (M_path : Nat → Int32) (x4 : Int32) (x5 : Int32) (xl6 : Int64) (x8 : Int32) : Prop :=
∃ I : Nat → Int32 → Int32 → Int64 → Int32 → Prop, (∃ n, I n x4 x5 xl6 x8) ∧ ∀ n x4 x5 xl6 x8, I n x4 x5 xl6 x8 → bd_X11_goes_49 Q  (fun x4' x5' xl6' x8' => ∃ n', n' < n ∧ I n' x4' x5' xl6' x8') p2 p3 M_wide M_high M_hedges M_square M_path x4 x5 xl6 x8
def bk_X11_goes_37 (Q : Int32 → ((Nat → Int32)) → Prop) (p2 : Int32) (p3 : Int32) (M_wide : Int32) (M_high : Int32) (M_hedges : Int64) (M_square : Nat → Int32) (M_path : Nat → Int32) : Prop :=
lp_X11_goes_49 Q p2 p3 M_wide M_high M_hedges M_square M_path 0 0 0 0
def wp_X11_goes (p1 : Int32) (p2 : Int32) (p3 : Int32) (M_wide : Int32) (M_high : Int32) (M_hedges : Int64) (M_square : Nat → Int32) (M_path : Nat → Int32) (Q : Int32 → ((Nat → Int32)) → Prop) : Prop :=
wp_X11_in p2 1 10 (fun (r1 : Int32) => ((r1 = 0 → Q (-3) M_path) ∧
(¬ r1 = 0 → wp_X11_in p3 0 1 (fun (r3 : Int32) => ((¬ r3 = 0 → ((p1 = 0 → wp_X11_layStrip M_wide M_high M_path (fun (u6 : (Nat → Int32)) => bk_X11_goes_37 Q p2 p3 M_wide M_high M_hedges M_square u6)) ∧
(¬ p1 = 0 → wp_X11_laySnail M_wide M_high M_path (fun (u24 : (Nat → Int32)) => bk_X11_goes_37 Q p2 p3 M_wide M_high M_hedges M_square u24)))) ∧
(r3 = 0 → Q (-3) M_path))))))
set_option maxHeartbeats 4000000 in
set_option maxRecDepth 100000 in
theorem J_X11_goes_142 {x : CX} {D : DG} {cyI cyJ cyZ : ClassId} {a_M a_M_square a_M_want a_M_text a_M_read a_M_row a_M_foldSet a_M_foldEdges a_M_foldNeeds a_M_foldYards a_M_least a_M_ways a_M_price a_M_rowBy a_M_columnBy a_M_rowOf a_M_wayBack a_M_slack a_M_isUsed a_M_lifted a_M_freed a_M_path : Nat} {M_wide : Int32} {M_high : Int32} {M_hedges : Int64} {M_hurdles : Int32} {M_wants : Int32} {M_rest : Int32} {M_frozen : Int32} {M_bytes : Int32} {M_position : Int32} {M_tokenAt : Int32} {M_token : Int64} {M_digits : Int32} {M_number : Int32} {M_faultAt : Int32} {M_readMany : Int32} {M_readWide : Int32} {M_readHigh : Int32} {M_nights : Int32} {M_why : Int32} {M_folds : Int32} {M_square : Nat → Int32} {M_want : Nat → Int32} {M_text : Nat → Int32} {M_read : Nat → Int32} {M_row : Nat → Int32} {M_foldSet : Nat → Int32} {M_foldEdges : Nat → Int64} {M_foldNeeds : Nat → Int32} {M_foldYards : Nat → Int32} {M_least : Nat → Int32} {M_ways : Nat → Int32} {M_price : Nat → Int32} {M_rowBy : Nat → Int32} {M_columnBy : Nat → Int32} {M_rowOf : Nat → Int32} {M_wayBack : Nat → Int32} {M_slack : Nat → Int32} {M_isUsed : Nat → Int32} {M_lifted : Nat → Int32} {M_freed : Nat → Int32} {M_path : Nat → Int32} {p2 : Int32} {p3 : Int32} {x5 : Int32} {xl6 : Int64} {x8 : Int32} {xl10 : Int64} {s0 : Int32} {Q : Int32 → ((Nat → Int32)) → Prop} {B49 : Int32 → Int32 → Int64 → Int32 → Prop} (cx : Cx x cX11_goes 12 RX11 rm_X11_goes D [(cyI, .int), (cyJ, .long), (cyZ, .boolean)]) (hR : ∀ (v : Int32) (u : (Nat → Int32)) (pc : Nat) (lv : List (Nat × Value)), decode cX11_goes pc = .ok (.ireturn, 1) → Q v u → J x 0 0 12 (W_Model cyI cyJ cyZ a_M a_M_square a_M_want a_M_text a_M_read a_M_row a_M_foldSet a_M_foldEdges a_M_foldNeeds a_M_foldYards a_M_least a_M_ways a_M_price a_M_rowBy a_M_columnBy a_M_rowOf a_M_wayBack a_M_slack a_M_isUsed a_M_lifted a_M_freed a_M_path M_wide M_high M_hedges M_hurdles M_wants M_rest M_frozen M_bytes M_position M_tokenAt M_token M_digits M_number M_faultAt M_readMany M_readWide M_readHigh M_nights M_why M_folds M_square M_want M_text M_read M_row M_foldSet M_foldEdges M_foldNeeds M_foldYards M_least M_ways M_price M_rowBy M_columnBy M_rowOf M_wayBack M_slack M_isUsed M_lifted M_freed u) lv pc [.int v]) (hB49 : ∀ (x4 : Int32) (x5 : Int32) (xl6 : Int64) (x8 : Int32), B49 x4 x5 xl6 x8 → J x 0 0 12 (W_Model cyI cyJ cyZ a_M a_M_square a_M_want a_M_text a_M_read a_M_row a_M_foldSet a_M_foldEdges a_M_foldNeeds a_M_foldYards a_M_least a_M_ways a_M_price a_M_rowBy a_M_columnBy a_M_rowOf a_M_wayBack a_M_slack a_M_isUsed a_M_lifted a_M_freed a_M_path M_wide M_high M_hedges M_hurdles M_wants M_rest M_frozen M_bytes M_position M_tokenAt M_token M_digits M_number M_faultAt M_readMany M_readWide M_readHigh M_nights M_why M_folds M_square M_want M_text M_read M_row M_foldSet M_foldEdges M_foldNeeds M_foldYards M_least M_ways M_price M_rowBy M_columnBy M_rowOf M_wayBack M_slack M_isUsed M_lifted M_freed M_path) [(0, .ref a_M), (2, .int p2), (3, .int p3), (4, .int x4), (5, .int x5), (6, .long xl6), (8, .int x8)] 49 []) (h : bk_X11_goes_142 Q B49 p2 x5 xl6 x8 xl10 s0) :
    J x 0 0 12 (W_Model cyI cyJ cyZ a_M a_M_square a_M_want a_M_text a_M_read a_M_row a_M_foldSet a_M_foldEdges a_M_foldNeeds a_M_foldYards a_M_least a_M_ways a_M_price a_M_rowBy a_M_columnBy a_M_rowOf a_M_wayBack a_M_slack a_M_isUsed a_M_lifted a_M_freed a_M_path M_wide M_high M_hedges M_hurdles M_wants M_rest M_frozen M_bytes M_position M_tokenAt M_token M_digits M_number M_faultAt M_readMany M_readWide M_readHigh M_nights M_why M_folds M_square M_want M_text M_read M_row M_foldSet M_foldEdges M_foldNeeds M_foldYards M_least M_ways M_price M_rowBy M_columnBy M_rowOf M_wayBack M_slack M_isUsed M_lifted M_freed M_path) [(0, .ref a_M), (2, .int p2), (3, .int p3), (5, .int x5), (6, .long xl6), (8, .int x8), (10, .long xl10)] 142 [.int s0] := by
  unfold bk_X11_goes_142 at h
  refine j_istore cx [(4, .int s0), (0, .ref a_M), (2, .int p2), (3, .int p3), (5, .int x5), (6, .long xl6), (8, .int x8), (10, .long xl10)] (by decide) rfl dX11_goes_142 (pn := 144) rfl ?_
  refine j_iload cx 4 rfl dX11_goes_144 (pn := 146) rfl ?_
  refine j_lload cx 7 rfl dX11_goes_146 (pn := 148) rfl ?_
  refine j_lload cx 5 rfl dX11_goes_148 (pn := 150) rfl ?_
  refine j_ldc2 cx q_cl_X11_123 dX11_goes_150 (pn := 153) rfl ?_
  refine j_lxor cx dX11_goes_153 (pn := 154) rfl ?_
  refine j_land cx dX11_goes_154 (pn := 155) rfl ?_
  refine j_calleI cx q_stat_X11_bits (As := [.long (xl10 &&& (xl6 ^^^ (-1)))]) (rest := [.int x5]) (c_X11_bits h) ⟨q_code_X11_bits, q_ml_X11_244, q_init_X11, hd_X11_bits, ⟨Nat.le_of_ble_eq_true rfl, Nat.le_of_ble_eq_true rfl⟩, Nat.le_of_ble_eq_true rfl, Nat.le_of_ble_eq_true rfl⟩ rfl rfl (Nat.le_of_ble_eq_true rfl) dX11_goes_155 (pn := 158) rfl (fun r16 h => ?_)
  show J x 0 0 12 (W_Model cyI cyJ cyZ a_M a_M_square a_M_want a_M_text a_M_read a_M_row a_M_foldSet a_M_foldEdges a_M_foldNeeds a_M_foldYards a_M_least a_M_ways a_M_price a_M_rowBy a_M_columnBy a_M_rowOf a_M_wayBack a_M_slack a_M_isUsed a_M_lifted a_M_freed a_M_path M_wide M_high M_hedges M_hurdles M_wants M_rest M_frozen M_bytes M_position M_tokenAt M_token M_digits M_number M_faultAt M_readMany M_readWide M_readHigh M_nights M_why M_folds M_square M_want M_text M_read M_row M_foldSet M_foldEdges M_foldNeeds M_foldYards M_least M_ways M_price M_rowBy M_columnBy M_rowOf M_wayBack M_slack M_isUsed M_lifted M_freed M_path) [(4, .int s0), (0, .ref a_M), (2, .int p2), (3, .int p3), (5, .int x5), (6, .long xl6), (8, .int x8), (10, .long xl10)] 158 [.int r16, .int x5]
  refine j_iadd cx dX11_goes_158 (pn := 159) rfl ?_
  refine j_topi (fun y17 ey17 => ?_)
  have h := h y17 ey17
  refine j_istore cx [(5, .int y17), (4, .int s0), (0, .ref a_M), (2, .int p2), (3, .int p3), (6, .long xl6), (8, .int x8), (10, .long xl10)] (by decide) rfl dX11_goes_159 (pn := 161) rfl ?_
  refine j_lload cx 7 rfl dX11_goes_161 (pn := 163) rfl ?_
  refine j_lstore cx [(6, .long xl10), (5, .int y17), (4, .int s0), (0, .ref a_M), (2, .int p2), (3, .int p3), (8, .int x8), (10, .long xl10)] (by decide) rfl dX11_goes_163 (pn := 165) rfl ?_
  refine j_iload cx 6 rfl dX11_goes_165 (pn := 167) rfl ?_
  refine j_iload_n cx 4 rfl rfl dX11_goes_167 (pn := 168) rfl ?_
  refine j_iadd cx dX11_goes_168 (pn := 169) rfl ?_
  refine j_topi (fun y18 ey18 => ?_)
  have h := h y18 ey18
  refine j_istore cx [(8, .int y18), (6, .long xl10), (5, .int y17), (4, .int s0), (0, .ref a_M), (2, .int p2), (3, .int p3), (10, .long xl10)] (by decide) rfl dX11_goes_169 (pn := 171) rfl ?_
  refine j_goto cx 49 dX11_goes_171 rfl ?_
  refine j_sub [4, 5, 6, 3, 2, 1, 0] [(0, .ref a_M), (2, .int p2), (3, .int p3), (4, .int s0), (5, .int y17), (6, .long xl10), (8, .int y18)] rfl ?_
  exact hB49 _ _ _ _ h
set_option maxHeartbeats 4000000 in
set_option maxRecDepth 100000 in
theorem J_X11_goes_103 {x : CX} {D : DG} {cyI cyJ cyZ : ClassId} {a_M a_M_square a_M_want a_M_text a_M_read a_M_row a_M_foldSet a_M_foldEdges a_M_foldNeeds a_M_foldYards a_M_least a_M_ways a_M_price a_M_rowBy a_M_columnBy a_M_rowOf a_M_wayBack a_M_slack a_M_isUsed a_M_lifted a_M_freed a_M_path : Nat} {M_wide : Int32} {M_high : Int32} {M_hedges : Int64} {M_hurdles : Int32} {M_wants : Int32} {M_rest : Int32} {M_frozen : Int32} {M_bytes : Int32} {M_position : Int32} {M_tokenAt : Int32} {M_token : Int64} {M_digits : Int32} {M_number : Int32} {M_faultAt : Int32} {M_readMany : Int32} {M_readWide : Int32} {M_readHigh : Int32} {M_nights : Int32} {M_why : Int32} {M_folds : Int32} {M_square : Nat → Int32} {M_want : Nat → Int32} {M_text : Nat → Int32} {M_read : Nat → Int32} {M_row : Nat → Int32} {M_foldSet : Nat → Int32} {M_foldEdges : Nat → Int64} {M_foldNeeds : Nat → Int32} {M_foldYards : Nat → Int32} {M_least : Nat → Int32} {M_ways : Nat → Int32} {M_price : Nat → Int32} {M_rowBy : Nat → Int32} {M_columnBy : Nat → Int32} {M_rowOf : Nat → Int32} {M_wayBack : Nat → Int32} {M_slack : Nat → Int32} {M_isUsed : Nat → Int32} {M_lifted : Nat → Int32} {M_freed : Nat → Int32} {M_path : Nat → Int32} {p2 : Int32} {p3 : Int32} {x4 : Int32} {x5 : Int32} {xl6 : Int64} {x8 : Int32} {x9 : Int32} {Q : Int32 → ((Nat → Int32)) → Prop} {B49 : Int32 → Int32 → Int64 → Int32 → Prop} (cx : Cx x cX11_goes 12 RX11 rm_X11_goes D [(cyI, .int), (cyJ, .long), (cyZ, .boolean)]) (hR : ∀ (v : Int32) (u : (Nat → Int32)) (pc : Nat) (lv : List (Nat × Value)), decode cX11_goes pc = .ok (.ireturn, 1) → Q v u → J x 0 0 12 (W_Model cyI cyJ cyZ a_M a_M_square a_M_want a_M_text a_M_read a_M_row a_M_foldSet a_M_foldEdges a_M_foldNeeds a_M_foldYards a_M_least a_M_ways a_M_price a_M_rowBy a_M_columnBy a_M_rowOf a_M_wayBack a_M_slack a_M_isUsed a_M_lifted a_M_freed a_M_path M_wide M_high M_hedges M_hurdles M_wants M_rest M_frozen M_bytes M_position M_tokenAt M_token M_digits M_number M_faultAt M_readMany M_readWide M_readHigh M_nights M_why M_folds M_square M_want M_text M_read M_row M_foldSet M_foldEdges M_foldNeeds M_foldYards M_least M_ways M_price M_rowBy M_columnBy M_rowOf M_wayBack M_slack M_isUsed M_lifted M_freed u) lv pc [.int v]) (hB49 : ∀ (x4 : Int32) (x5 : Int32) (xl6 : Int64) (x8 : Int32), B49 x4 x5 xl6 x8 → J x 0 0 12 (W_Model cyI cyJ cyZ a_M a_M_square a_M_want a_M_text a_M_read a_M_row a_M_foldSet a_M_foldEdges a_M_foldNeeds a_M_foldYards a_M_least a_M_ways a_M_price a_M_rowBy a_M_columnBy a_M_rowOf a_M_wayBack a_M_slack a_M_isUsed a_M_lifted a_M_freed a_M_path M_wide M_high M_hedges M_hurdles M_wants M_rest M_frozen M_bytes M_position M_tokenAt M_token M_digits M_number M_faultAt M_readMany M_readWide M_readHigh M_nights M_why M_folds M_square M_want M_text M_read M_row M_foldSet M_foldEdges M_foldNeeds M_foldYards M_least M_ways M_price M_rowBy M_columnBy M_rowOf M_wayBack M_slack M_isUsed M_lifted M_freed M_path) [(0, .ref a_M), (2, .int p2), (3, .int p3), (4, .int x4), (5, .int x5), (6, .long xl6), (8, .int x8)] 49 []) (h : bk_X11_goes_103 Q B49 p2 x4 x5 xl6 x8 x9 M_wide M_high M_hedges M_square M_path) :
    J x 0 0 12 (W_Model cyI cyJ cyZ a_M a_M_square a_M_want a_M_text a_M_read a_M_row a_M_foldSet a_M_foldEdges a_M_foldNeeds a_M_foldYards a_M_least a_M_ways a_M_price a_M_rowBy a_M_columnBy a_M_rowOf a_M_wayBack a_M_slack a_M_isUsed a_M_lifted a_M_freed a_M_path M_wide M_high M_hedges M_hurdles M_wants M_rest M_frozen M_bytes M_position M_tokenAt M_token M_digits M_number M_faultAt M_readMany M_readWide M_readHigh M_nights M_why M_folds M_square M_want M_text M_read M_row M_foldSet M_foldEdges M_foldNeeds M_foldYards M_least M_ways M_price M_rowBy M_columnBy M_rowOf M_wayBack M_slack M_isUsed M_lifted M_freed M_path) [(0, .ref a_M), (2, .int p2), (3, .int p3), (4, .int x4), (5, .int x5), (6, .long xl6), (8, .int x8), (9, .int x9)] 103 [] := by
  unfold bk_X11_goes_103 at h
  refine j_aload_n cx 0 rfl rfl dX11_goes_103 (pn := 104) rfl ?_
  refine j_iload cx 7 rfl dX11_goes_104 (pn := 106) rfl ?_
  refine j_callvI0 cx q_inst_X11_isFold q_sel_X11_isFold (b := a_M) (As := [.int x9]) (rest := []) (c_X11_isFold h) ⟨q_code_X11_isFold, q_ml_X11_237, q_init_X11, hd_X11_isFold, ⟨Nat.le_of_ble_eq_true rfl, Nat.le_of_ble_eq_true rfl⟩, Nat.le_of_ble_eq_true rfl, Nat.le_of_ble_eq_true rfl⟩ (q0 := 0) rfl rfl rfl rfl (Nat.le_of_ble_eq_true rfl) dX11_goes_106 (pn := 109) rfl (fun r11 _ h => ?_)
  show J x 0 0 12 (W_Model cyI cyJ cyZ a_M a_M_square a_M_want a_M_text a_M_read a_M_row a_M_foldSet a_M_foldEdges a_M_foldNeeds a_M_foldYards a_M_least a_M_ways a_M_price a_M_rowBy a_M_columnBy a_M_rowOf a_M_wayBack a_M_slack a_M_isUsed a_M_lifted a_M_freed a_M_path M_wide M_high M_hedges M_hurdles M_wants M_rest M_frozen M_bytes M_position M_tokenAt M_token M_digits M_number M_faultAt M_readMany M_readWide M_readHigh M_nights M_why M_folds M_square M_want M_text M_read M_row M_foldSet M_foldEdges M_foldNeeds M_foldYards M_least M_ways M_price M_rowBy M_columnBy M_rowOf M_wayBack M_slack M_isUsed M_lifted M_freed M_path) [(0, .ref a_M), (2, .int p2), (3, .int p3), (4, .int x4), (5, .int x5), (6, .long xl6), (8, .int x8), (9, .int x9)] 109 [.int r11]
  refine j_if_ne cx 114 dX11_goes_109 (pn := 112) rfl rfl (fun c12 => ?_) (fun c12 => ?_)
  · have h := h.1 c12
    refine j_aload_n cx 0 rfl rfl dX11_goes_114 (pn := 115) rfl ?_
    refine j_iload cx 7 rfl dX11_goes_115 (pn := 117) rfl ?_
    refine j_callvL0 cx q_inst_X11_edgesOf q_sel_X11_edgesOf (b := a_M) (As := [.int x9]) (rest := []) (c_X11_edgesOf h) ⟨q_code_X11_edgesOf, q_ml_X11_240, q_init_X11, hd_X11_edgesOf, ⟨Nat.le_of_ble_eq_true rfl, Nat.le_of_ble_eq_true rfl⟩, Nat.le_of_ble_eq_true rfl, Nat.le_of_ble_eq_true rfl⟩ (q0 := 0) rfl rfl rfl rfl (Nat.le_of_ble_eq_true rfl) dX11_goes_117 (pn := 120) rfl (fun r13 _ h => ?_)
    show J x 0 0 12 (W_Model cyI cyJ cyZ a_M a_M_square a_M_want a_M_text a_M_read a_M_row a_M_foldSet a_M_foldEdges a_M_foldNeeds a_M_foldYards a_M_least a_M_ways a_M_price a_M_rowBy a_M_columnBy a_M_rowOf a_M_wayBack a_M_slack a_M_isUsed a_M_lifted a_M_freed a_M_path M_wide M_high M_hedges M_hurdles M_wants M_rest M_frozen M_bytes M_position M_tokenAt M_token M_digits M_number M_faultAt M_readMany M_readWide M_readHigh M_nights M_why M_folds M_square M_want M_text M_read M_row M_foldSet M_foldEdges M_foldNeeds M_foldYards M_least M_ways M_price M_rowBy M_columnBy M_rowOf M_wayBack M_slack M_isUsed M_lifted M_freed M_path) [(0, .ref a_M), (2, .int p2), (3, .int p3), (4, .int x4), (5, .int x5), (6, .long xl6), (8, .int x8), (9, .int x9)] 120 [.long r13]
    refine j_lstore cx [(10, .long r13), (0, .ref a_M), (2, .int p2), (3, .int p3), (4, .int x4), (5, .int x5), (6, .long xl6), (8, .int x8), (9, .int x9)] (by decide) rfl dX11_goes_120 (pn := 122) rfl ?_
    refine j_lload cx 0 rfl dX11_goes_122 (pn := 124) rfl ?_
    refine j_calleI cx q_stat_X11_bits (As := [.long r13]) (rest := []) (c_X11_bits h) ⟨q_code_X11_bits, q_ml_X11_244, q_init_X11, hd_X11_bits, ⟨Nat.le_of_ble_eq_true rfl, Nat.le_of_ble_eq_true rfl⟩, Nat.le_of_ble_eq_true rfl, Nat.le_of_ble_eq_true rfl⟩ rfl rfl (Nat.le_of_ble_eq_true rfl) dX11_goes_124 (pn := 127) rfl (fun r14 h => ?_)
    show J x 0 0 12 (W_Model cyI cyJ cyZ a_M a_M_square a_M_want a_M_text a_M_read a_M_row a_M_foldSet a_M_foldEdges a_M_foldNeeds a_M_foldYards a_M_least a_M_ways a_M_price a_M_rowBy a_M_columnBy a_M_rowOf a_M_wayBack a_M_slack a_M_isUsed a_M_lifted a_M_freed a_M_path M_wide M_high M_hedges M_hurdles M_wants M_rest M_frozen M_bytes M_position M_tokenAt M_token M_digits M_number M_faultAt M_readMany M_readWide M_readHigh M_nights M_why M_folds M_square M_want M_text M_read M_row M_foldSet M_foldEdges M_foldNeeds M_foldYards M_least M_ways M_price M_rowBy M_columnBy M_rowOf M_wayBack M_slack M_isUsed M_lifted M_freed M_path) [(10, .long r13), (0, .ref a_M), (2, .int p2), (3, .int p3), (4, .int x4), (5, .int x5), (6, .long xl6), (8, .int x8), (9, .int x9)] 127 [.int r14]
    refine j_iload cx 4 rfl dX11_goes_127 (pn := 129) rfl ?_
    refine j_icmp_le cx 140 dX11_goes_129 (pn := 132) rfl rfl (fun c15 => ?_) (fun c15 => ?_)
    · have h := h.1 c15
      refine j_iload cx 4 rfl dX11_goes_140 (pn := 142) rfl ?_
      refine j_sub [1, 2, 3, 5, 6, 7, 0] [(0, .ref a_M), (2, .int p2), (3, .int p3), (5, .int x5), (6, .long xl6), (8, .int x8), (10, .long r13)] rfl ?_
      exact J_X11_goes_142 cx hR hB49 h
    · have h := h.2 c15
      refine j_lload cx 0 rfl dX11_goes_132 (pn := 134) rfl ?_
      refine j_calleI cx q_stat_X11_bits (As := [.long r13]) (rest := []) (c_X11_bits h) ⟨q_code_X11_bits, q_ml_X11_244, q_init_X11, hd_X11_bits, ⟨Nat.le_of_ble_eq_true rfl, Nat.le_of_ble_eq_true rfl⟩, Nat.le_of_ble_eq_true rfl, Nat.le_of_ble_eq_true rfl⟩ rfl rfl (Nat.le_of_ble_eq_true rfl) dX11_goes_134 (pn := 137) rfl (fun r19 h => ?_)
      show J x 0 0 12 (W_Model cyI cyJ cyZ a_M a_M_square a_M_want a_M_text a_M_read a_M_row a_M_foldSet a_M_foldEdges a_M_foldNeeds a_M_foldYards a_M_least a_M_ways a_M_price a_M_rowBy a_M_columnBy a_M_rowOf a_M_wayBack a_M_slack a_M_isUsed a_M_lifted a_M_freed a_M_path M_wide M_high M_hedges M_hurdles M_wants M_rest M_frozen M_bytes M_position M_tokenAt M_token M_digits M_number M_faultAt M_readMany M_readWide M_readHigh M_nights M_why M_folds M_square M_want M_text M_read M_row M_foldSet M_foldEdges M_foldNeeds M_foldYards M_least M_ways M_price M_rowBy M_columnBy M_rowOf M_wayBack M_slack M_isUsed M_lifted M_freed M_path) [(10, .long r13), (0, .ref a_M), (2, .int p2), (3, .int p3), (4, .int x4), (5, .int x5), (6, .long xl6), (8, .int x8), (9, .int x9)] 137 [.int r19]
      refine j_goto cx 142 dX11_goes_137 rfl ?_
      refine j_sub [1, 2, 3, 5, 6, 7, 0] [(0, .ref a_M), (2, .int p2), (3, .int p3), (5, .int x5), (6, .long xl6), (8, .int x8), (10, .long r13)] rfl ?_
      exact J_X11_goes_142 cx hR hB49 h
  · have h := h.2 c12
    refine j_iconst cx (v := (-1)) (by decide) dX11_goes_112 (pn := 113) rfl ?_
    exact hR (-1) M_path 113 _ dX11_goes_113 h
set_option maxHeartbeats 4000000 in
set_option maxRecDepth 100000 in
theorem B_X11_goes_65 {x : CX} {D : DG} {cyI cyJ cyZ : ClassId} {a_M a_M_square a_M_want a_M_text a_M_read a_M_row a_M_foldSet a_M_foldEdges a_M_foldNeeds a_M_foldYards a_M_least a_M_ways a_M_price a_M_rowBy a_M_columnBy a_M_rowOf a_M_wayBack a_M_slack a_M_isUsed a_M_lifted a_M_freed a_M_path : Nat} {M_wide : Int32} {M_high : Int32} {M_hedges : Int64} {M_hurdles : Int32} {M_wants : Int32} {M_rest : Int32} {M_frozen : Int32} {M_bytes : Int32} {M_position : Int32} {M_tokenAt : Int32} {M_token : Int64} {M_digits : Int32} {M_number : Int32} {M_faultAt : Int32} {M_readMany : Int32} {M_readWide : Int32} {M_readHigh : Int32} {M_nights : Int32} {M_why : Int32} {M_folds : Int32} {M_square : Nat → Int32} {M_want : Nat → Int32} {M_text : Nat → Int32} {M_read : Nat → Int32} {M_row : Nat → Int32} {M_foldSet : Nat → Int32} {M_foldEdges : Nat → Int64} {M_foldNeeds : Nat → Int32} {M_foldYards : Nat → Int32} {M_least : Nat → Int32} {M_ways : Nat → Int32} {M_price : Nat → Int32} {M_rowBy : Nat → Int32} {M_columnBy : Nat → Int32} {M_rowOf : Nat → Int32} {M_wayBack : Nat → Int32} {M_slack : Nat → Int32} {M_isUsed : Nat → Int32} {M_lifted : Nat → Int32} {M_freed : Nat → Int32} {M_path : Nat → Int32} {p2 : Int32} {p3 : Int32} {x4 : Int32} {x5 : Int32} {xl6 : Int64} {x8 : Int32} {x9 : Int32} {x10 : Int32} {Q : Int32 → ((Nat → Int32)) → Prop} {B49 : Int32 → Int32 → Int64 → Int32 → Prop} {B65 : Int32 → Int32 → Prop} (cx : Cx x cX11_goes 12 RX11 rm_X11_goes D [(cyI, .int), (cyJ, .long), (cyZ, .boolean)]) (hR : ∀ (v : Int32) (u : (Nat → Int32)) (pc : Nat) (lv : List (Nat × Value)), decode cX11_goes pc = .ok (.ireturn, 1) → Q v u → J x 0 0 12 (W_Model cyI cyJ cyZ a_M a_M_square a_M_want a_M_text a_M_read a_M_row a_M_foldSet a_M_foldEdges a_M_foldNeeds a_M_foldYards a_M_least a_M_ways a_M_price a_M_rowBy a_M_columnBy a_M_rowOf a_M_wayBack a_M_slack a_M_isUsed a_M_lifted a_M_freed a_M_path M_wide M_high M_hedges M_hurdles M_wants M_rest M_frozen M_bytes M_position M_tokenAt M_token M_digits M_number M_faultAt M_readMany M_readWide M_readHigh M_nights M_why M_folds M_square M_want M_text M_read M_row M_foldSet M_foldEdges M_foldNeeds M_foldYards M_least M_ways M_price M_rowBy M_columnBy M_rowOf M_wayBack M_slack M_isUsed M_lifted M_freed u) lv pc [.int v]) (hB49 : ∀ (x4 : Int32) (x5 : Int32) (xl6 : Int64) (x8 : Int32), B49 x4 x5 xl6 x8 → J x 0 0 12 (W_Model cyI cyJ cyZ a_M a_M_square a_M_want a_M_text a_M_read a_M_row a_M_foldSet a_M_foldEdges a_M_foldNeeds a_M_foldYards a_M_least a_M_ways a_M_price a_M_rowBy a_M_columnBy a_M_rowOf a_M_wayBack a_M_slack a_M_isUsed a_M_lifted a_M_freed a_M_path M_wide M_high M_hedges M_hurdles M_wants M_rest M_frozen M_bytes M_position M_tokenAt M_token M_digits M_number M_faultAt M_readMany M_readWide M_readHigh M_nights M_why M_folds M_square M_want M_text M_read M_row M_foldSet M_foldEdges M_foldNeeds M_foldYards M_least M_ways M_price M_rowBy M_columnBy M_rowOf M_wayBack M_slack M_isUsed M_lifted M_freed M_path) [(0, .ref a_M), (2, .int p2), (3, .int p3), (4, .int x4), (5, .int x5), (6, .long xl6), (8, .int x8)] 49 []) (hB65 : ∀ (x9 : Int32) (x10 : Int32), B65 x9 x10 → J x 0 0 12 (W_Model cyI cyJ cyZ a_M a_M_square a_M_want a_M_text a_M_read a_M_row a_M_foldSet a_M_foldEdges a_M_foldNeeds a_M_foldYards a_M_least a_M_ways a_M_price a_M_rowBy a_M_columnBy a_M_rowOf a_M_wayBack a_M_slack a_M_isUsed a_M_lifted a_M_freed a_M_path M_wide M_high M_hedges M_hurdles M_wants M_rest M_frozen M_bytes M_position M_tokenAt M_token M_digits M_number M_faultAt M_readMany M_readWide M_readHigh M_nights M_why M_folds M_square M_want M_text M_read M_row M_foldSet M_foldEdges M_foldNeeds M_foldYards M_least M_ways M_price M_rowBy M_columnBy M_rowOf M_wayBack M_slack M_isUsed M_lifted M_freed M_path) [(0, .ref a_M), (2, .int p2), (3, .int p3), (4, .int x4), (5, .int x5), (6, .long xl6), (8, .int x8), (9, .int x9), (10, .int x10)] 65 []) (h : bd_X11_goes_65 Q B49 B65 p2 x4 x5 xl6 x8 M_wide M_high M_hedges M_square M_path x9 x10) :
    J x 0 0 12 (W_Model cyI cyJ cyZ a_M a_M_square a_M_want a_M_text a_M_read a_M_row a_M_foldSet a_M_foldEdges a_M_foldNeeds a_M_foldYards a_M_least a_M_ways a_M_price a_M_rowBy a_M_columnBy a_M_rowOf a_M_wayBack a_M_slack a_M_isUsed a_M_lifted a_M_freed a_M_path M_wide M_high M_hedges M_hurdles M_wants M_rest M_frozen M_bytes M_position M_tokenAt M_token M_digits M_number M_faultAt M_readMany M_readWide M_readHigh M_nights M_why M_folds M_square M_want M_text M_read M_row M_foldSet M_foldEdges M_foldNeeds M_foldYards M_least M_ways M_price M_rowBy M_columnBy M_rowOf M_wayBack M_slack M_isUsed M_lifted M_freed M_path) [(0, .ref a_M), (2, .int p2), (3, .int p3), (4, .int x4), (5, .int x5), (6, .long xl6), (8, .int x8), (9, .int x9), (10, .int x10)] 65 [] := by
  unfold bd_X11_goes_65 at h
  refine j_iload cx 8 rfl dX11_goes_65 (pn := 67) rfl ?_
  refine j_iload cx 6 rfl dX11_goes_67 (pn := 69) rfl ?_
  refine j_iload_n cx 1 rfl rfl dX11_goes_69 (pn := 70) rfl ?_
  refine j_iadd cx dX11_goes_70 (pn := 71) rfl ?_
  refine j_icmp_ge cx 103 dX11_goes_71 (pn := 74) rfl rfl (fun c10 => ?_) (fun c10 => ?_)
  · have h := h.1 c10
    refine j_sub [0, 1, 2, 3, 4, 5, 6, 7] [(0, .ref a_M), (2, .int p2), (3, .int p3), (4, .int x4), (5, .int x5), (6, .long xl6), (8, .int x8), (9, .int x9)] rfl ?_
    exact J_X11_goes_103 cx hR hB49 h
  · have h := h.2 c10
    refine j_iload cx 8 rfl dX11_goes_74 (pn := 76) rfl ?_
    refine j_aload_n cx 0 rfl rfl dX11_goes_76 (pn := 77) rfl ?_
    refine j_callvI0 cx q_inst_X11_squares q_sel_X11_squares (b := a_M) (As := []) (rest := [.int x10]) (c_X11_squares h) ⟨q_code_X11_squares, q_ml_X11_86, q_init_X11, hd_X11_squares, ⟨Nat.le_of_ble_eq_true rfl, Nat.le_of_ble_eq_true rfl⟩, Nat.le_of_ble_eq_true rfl, Nat.le_of_ble_eq_true rfl⟩ (q0 := 0) rfl rfl rfl rfl (Nat.le_of_ble_eq_true rfl) dX11_goes_77 (pn := 80) rfl (fun r20 _ h => ?_)
    show J x 0 0 12 (W_Model cyI cyJ cyZ a_M a_M_square a_M_want a_M_text a_M_read a_M_row a_M_foldSet a_M_foldEdges a_M_foldNeeds a_M_foldYards a_M_least a_M_ways a_M_price a_M_rowBy a_M_columnBy a_M_rowOf a_M_wayBack a_M_slack a_M_isUsed a_M_lifted a_M_freed a_M_path M_wide M_high M_hedges M_hurdles M_wants M_rest M_frozen M_bytes M_position M_tokenAt M_token M_digits M_number M_faultAt M_readMany M_readWide M_readHigh M_nights M_why M_folds M_square M_want M_text M_read M_row M_foldSet M_foldEdges M_foldNeeds M_foldYards M_least M_ways M_price M_rowBy M_columnBy M_rowOf M_wayBack M_slack M_isUsed M_lifted M_freed M_path) [(0, .ref a_M), (2, .int p2), (3, .int p3), (4, .int x4), (5, .int x5), (6, .long xl6), (8, .int x8), (9, .int x9), (10, .int x10)] 80 [.int r20, .int x10]
    refine j_icmp_ge cx 103 dX11_goes_80 (pn := 83) rfl rfl (fun c21 => ?_) (fun c21 => ?_)
    · have h := h.1 c21
      refine j_sub [0, 1, 2, 3, 4, 5, 6, 7] [(0, .ref a_M), (2, .int p2), (3, .int p3), (4, .int x4), (5, .int x5), (6, .long xl6), (8, .int x8), (9, .int x9)] rfl ?_
      exact J_X11_goes_103 cx hR hB49 h
    · have h := h.2 c21
      refine j_iload cx 7 rfl dX11_goes_83 (pn := 85) rfl ?_
      refine j_iconst cx (v := 1) (by decide) dX11_goes_85 (pn := 86) rfl ?_
      refine j_aload_n cx 0 rfl rfl dX11_goes_86 (pn := 87) rfl ?_
      refine j_get cx inGX11 0 rfl rfl 40 (by decide) q_fl_X11_83 rfl rfl dX11_goes_87 (pn := 90) rfl ?_
      refine j_iload cx 8 rfl dX11_goes_90 (pn := 92) rfl ?_
      refine j_iald cx 21 0 rfl rfl h.1 dX11_goes_92 (pn := 93) rfl ?_
      have h := h.2
      refine j_ishl cx dX11_goes_93 (pn := 94) rfl ?_
      refine j_ior cx dX11_goes_94 (pn := 95) rfl ?_
      refine j_topi (fun y22 ey22 => ?_)
      have h := h y22 ey22
      refine j_istore cx [(9, .int y22), (0, .ref a_M), (2, .int p2), (3, .int p3), (4, .int x4), (5, .int x5), (6, .long xl6), (8, .int x8), (10, .int x10)] (by decide) rfl dX11_goes_95 (pn := 97) rfl ?_
      obtain ⟨y23, ey23⟩ : ∃ z : Int32, z = x10 + 1 := ⟨_, rfl⟩
      have h := h y23 ey23
      refine j_iinc cx 8 rfl (cst := 1) (by decide) ey23 [(10, .int y23), (9, .int y22), (0, .ref a_M), (2, .int p2), (3, .int p3), (4, .int x4), (5, .int x5), (6, .long xl6), (8, .int x8)] (by decide) rfl dX11_goes_97 (pn := 100) rfl ?_
      refine j_goto cx 65 dX11_goes_100 rfl ?_
      refine j_sub [2, 3, 4, 5, 6, 7, 8, 1, 0] [(0, .ref a_M), (2, .int p2), (3, .int p3), (4, .int x4), (5, .int x5), (6, .long xl6), (8, .int x8), (9, .int y22), (10, .int y23)] rfl ?_
      exact hB65 _ _ h
set_option maxHeartbeats 4000000 in
set_option maxRecDepth 100000 in
theorem J_X11_goes_65 {x : CX} {D : DG} {cyI cyJ cyZ : ClassId} {a_M a_M_square a_M_want a_M_text a_M_read a_M_row a_M_foldSet a_M_foldEdges a_M_foldNeeds a_M_foldYards a_M_least a_M_ways a_M_price a_M_rowBy a_M_columnBy a_M_rowOf a_M_wayBack a_M_slack a_M_isUsed a_M_lifted a_M_freed a_M_path : Nat} {M_wide : Int32} {M_high : Int32} {M_hedges : Int64} {M_hurdles : Int32} {M_wants : Int32} {M_rest : Int32} {M_frozen : Int32} {M_bytes : Int32} {M_position : Int32} {M_tokenAt : Int32} {M_token : Int64} {M_digits : Int32} {M_number : Int32} {M_faultAt : Int32} {M_readMany : Int32} {M_readWide : Int32} {M_readHigh : Int32} {M_nights : Int32} {M_why : Int32} {M_folds : Int32} {M_square : Nat → Int32} {M_want : Nat → Int32} {M_text : Nat → Int32} {M_read : Nat → Int32} {M_row : Nat → Int32} {M_foldSet : Nat → Int32} {M_foldEdges : Nat → Int64} {M_foldNeeds : Nat → Int32} {M_foldYards : Nat → Int32} {M_least : Nat → Int32} {M_ways : Nat → Int32} {M_price : Nat → Int32} {M_rowBy : Nat → Int32} {M_columnBy : Nat → Int32} {M_rowOf : Nat → Int32} {M_wayBack : Nat → Int32} {M_slack : Nat → Int32} {M_isUsed : Nat → Int32} {M_lifted : Nat → Int32} {M_freed : Nat → Int32} {M_path : Nat → Int32} {p2 : Int32} {p3 : Int32} {x4 : Int32} {x5 : Int32} {xl6 : Int64} {x8 : Int32} {x9 : Int32} {x10 : Int32} {Q : Int32 → ((Nat → Int32)) → Prop} {B49 : Int32 → Int32 → Int64 → Int32 → Prop} (cx : Cx x cX11_goes 12 RX11 rm_X11_goes D [(cyI, .int), (cyJ, .long), (cyZ, .boolean)]) (hR : ∀ (v : Int32) (u : (Nat → Int32)) (pc : Nat) (lv : List (Nat × Value)), decode cX11_goes pc = .ok (.ireturn, 1) → Q v u → J x 0 0 12 (W_Model cyI cyJ cyZ a_M a_M_square a_M_want a_M_text a_M_read a_M_row a_M_foldSet a_M_foldEdges a_M_foldNeeds a_M_foldYards a_M_least a_M_ways a_M_price a_M_rowBy a_M_columnBy a_M_rowOf a_M_wayBack a_M_slack a_M_isUsed a_M_lifted a_M_freed a_M_path M_wide M_high M_hedges M_hurdles M_wants M_rest M_frozen M_bytes M_position M_tokenAt M_token M_digits M_number M_faultAt M_readMany M_readWide M_readHigh M_nights M_why M_folds M_square M_want M_text M_read M_row M_foldSet M_foldEdges M_foldNeeds M_foldYards M_least M_ways M_price M_rowBy M_columnBy M_rowOf M_wayBack M_slack M_isUsed M_lifted M_freed u) lv pc [.int v]) (hB49 : ∀ (x4 : Int32) (x5 : Int32) (xl6 : Int64) (x8 : Int32), B49 x4 x5 xl6 x8 → J x 0 0 12 (W_Model cyI cyJ cyZ a_M a_M_square a_M_want a_M_text a_M_read a_M_row a_M_foldSet a_M_foldEdges a_M_foldNeeds a_M_foldYards a_M_least a_M_ways a_M_price a_M_rowBy a_M_columnBy a_M_rowOf a_M_wayBack a_M_slack a_M_isUsed a_M_lifted a_M_freed a_M_path M_wide M_high M_hedges M_hurdles M_wants M_rest M_frozen M_bytes M_position M_tokenAt M_token M_digits M_number M_faultAt M_readMany M_readWide M_readHigh M_nights M_why M_folds M_square M_want M_text M_read M_row M_foldSet M_foldEdges M_foldNeeds M_foldYards M_least M_ways M_price M_rowBy M_columnBy M_rowOf M_wayBack M_slack M_isUsed M_lifted M_freed M_path) [(0, .ref a_M), (2, .int p2), (3, .int p3), (4, .int x4), (5, .int x5), (6, .long xl6), (8, .int x8)] 49 []) (h : lp_X11_goes_65 Q B49 p2 x4 x5 xl6 x8 M_wide M_high M_hedges M_square M_path x9 x10) :
    J x 0 0 12 (W_Model cyI cyJ cyZ a_M a_M_square a_M_want a_M_text a_M_read a_M_row a_M_foldSet a_M_foldEdges a_M_foldNeeds a_M_foldYards a_M_least a_M_ways a_M_price a_M_rowBy a_M_columnBy a_M_rowOf a_M_wayBack a_M_slack a_M_isUsed a_M_lifted a_M_freed a_M_path M_wide M_high M_hedges M_hurdles M_wants M_rest M_frozen M_bytes M_position M_tokenAt M_token M_digits M_number M_faultAt M_readMany M_readWide M_readHigh M_nights M_why M_folds M_square M_want M_text M_read M_row M_foldSet M_foldEdges M_foldNeeds M_foldYards M_least M_ways M_price M_rowBy M_columnBy M_rowOf M_wayBack M_slack M_isUsed M_lifted M_freed M_path) [(0, .ref a_M), (2, .int p2), (3, .int p3), (4, .int x4), (5, .int x5), (6, .long xl6), (8, .int x8), (9, .int x9), (10, .int x10)] 65 [] := by
  obtain ⟨I, ⟨n, h0⟩, hb⟩ := h
  revert x9 x10
  induction n using Nat.strongRecOn with
  | _ n ih =>
    intro x9 x10 h0
    exact B_X11_goes_65 cx hR hB49 (fun _ _ hz => by obtain ⟨n2, hlt, hI⟩ := hz; exact ih n2 hlt hI) (hb n x9 x10 h0)
set_option maxHeartbeats 4000000 in
set_option maxRecDepth 100000 in
theorem B_X11_goes_49 {x : CX} {D : DG} {cyI cyJ cyZ : ClassId} {a_M a_M_square a_M_want a_M_text a_M_read a_M_row a_M_foldSet a_M_foldEdges a_M_foldNeeds a_M_foldYards a_M_least a_M_ways a_M_price a_M_rowBy a_M_columnBy a_M_rowOf a_M_wayBack a_M_slack a_M_isUsed a_M_lifted a_M_freed a_M_path : Nat} {M_wide : Int32} {M_high : Int32} {M_hedges : Int64} {M_hurdles : Int32} {M_wants : Int32} {M_rest : Int32} {M_frozen : Int32} {M_bytes : Int32} {M_position : Int32} {M_tokenAt : Int32} {M_token : Int64} {M_digits : Int32} {M_number : Int32} {M_faultAt : Int32} {M_readMany : Int32} {M_readWide : Int32} {M_readHigh : Int32} {M_nights : Int32} {M_why : Int32} {M_folds : Int32} {M_square : Nat → Int32} {M_want : Nat → Int32} {M_text : Nat → Int32} {M_read : Nat → Int32} {M_row : Nat → Int32} {M_foldSet : Nat → Int32} {M_foldEdges : Nat → Int64} {M_foldNeeds : Nat → Int32} {M_foldYards : Nat → Int32} {M_least : Nat → Int32} {M_ways : Nat → Int32} {M_price : Nat → Int32} {M_rowBy : Nat → Int32} {M_columnBy : Nat → Int32} {M_rowOf : Nat → Int32} {M_wayBack : Nat → Int32} {M_slack : Nat → Int32} {M_isUsed : Nat → Int32} {M_lifted : Nat → Int32} {M_freed : Nat → Int32} {M_path : Nat → Int32} {p2 : Int32} {p3 : Int32} {x4 : Int32} {x5 : Int32} {xl6 : Int64} {x8 : Int32} {Q : Int32 → ((Nat → Int32)) → Prop} {B49 : Int32 → Int32 → Int64 → Int32 → Prop} (cx : Cx x cX11_goes 12 RX11 rm_X11_goes D [(cyI, .int), (cyJ, .long), (cyZ, .boolean)]) (hR : ∀ (v : Int32) (u : (Nat → Int32)) (pc : Nat) (lv : List (Nat × Value)), decode cX11_goes pc = .ok (.ireturn, 1) → Q v u → J x 0 0 12 (W_Model cyI cyJ cyZ a_M a_M_square a_M_want a_M_text a_M_read a_M_row a_M_foldSet a_M_foldEdges a_M_foldNeeds a_M_foldYards a_M_least a_M_ways a_M_price a_M_rowBy a_M_columnBy a_M_rowOf a_M_wayBack a_M_slack a_M_isUsed a_M_lifted a_M_freed a_M_path M_wide M_high M_hedges M_hurdles M_wants M_rest M_frozen M_bytes M_position M_tokenAt M_token M_digits M_number M_faultAt M_readMany M_readWide M_readHigh M_nights M_why M_folds M_square M_want M_text M_read M_row M_foldSet M_foldEdges M_foldNeeds M_foldYards M_least M_ways M_price M_rowBy M_columnBy M_rowOf M_wayBack M_slack M_isUsed M_lifted M_freed u) lv pc [.int v]) (hB49 : ∀ (x4 : Int32) (x5 : Int32) (xl6 : Int64) (x8 : Int32), B49 x4 x5 xl6 x8 → J x 0 0 12 (W_Model cyI cyJ cyZ a_M a_M_square a_M_want a_M_text a_M_read a_M_row a_M_foldSet a_M_foldEdges a_M_foldNeeds a_M_foldYards a_M_least a_M_ways a_M_price a_M_rowBy a_M_columnBy a_M_rowOf a_M_wayBack a_M_slack a_M_isUsed a_M_lifted a_M_freed a_M_path M_wide M_high M_hedges M_hurdles M_wants M_rest M_frozen M_bytes M_position M_tokenAt M_token M_digits M_number M_faultAt M_readMany M_readWide M_readHigh M_nights M_why M_folds M_square M_want M_text M_read M_row M_foldSet M_foldEdges M_foldNeeds M_foldYards M_least M_ways M_price M_rowBy M_columnBy M_rowOf M_wayBack M_slack M_isUsed M_lifted M_freed M_path) [(0, .ref a_M), (2, .int p2), (3, .int p3), (4, .int x4), (5, .int x5), (6, .long xl6), (8, .int x8)] 49 []) (h : bd_X11_goes_49 Q B49 p2 p3 M_wide M_high M_hedges M_square M_path x4 x5 xl6 x8) :
    J x 0 0 12 (W_Model cyI cyJ cyZ a_M a_M_square a_M_want a_M_text a_M_read a_M_row a_M_foldSet a_M_foldEdges a_M_foldNeeds a_M_foldYards a_M_least a_M_ways a_M_price a_M_rowBy a_M_columnBy a_M_rowOf a_M_wayBack a_M_slack a_M_isUsed a_M_lifted a_M_freed a_M_path M_wide M_high M_hedges M_hurdles M_wants M_rest M_frozen M_bytes M_position M_tokenAt M_token M_digits M_number M_faultAt M_readMany M_readWide M_readHigh M_nights M_why M_folds M_square M_want M_text M_read M_row M_foldSet M_foldEdges M_foldNeeds M_foldYards M_least M_ways M_price M_rowBy M_columnBy M_rowOf M_wayBack M_slack M_isUsed M_lifted M_freed M_path) [(0, .ref a_M), (2, .int p2), (3, .int p3), (4, .int x4), (5, .int x5), (6, .long xl6), (8, .int x8)] 49 [] := by
  unfold bd_X11_goes_49 at h
  refine j_iload cx 6 rfl dX11_goes_49 (pn := 51) rfl ?_
  refine j_aload_n cx 0 rfl rfl dX11_goes_51 (pn := 52) rfl ?_
  refine j_callvI0 cx q_inst_X11_squares q_sel_X11_squares (b := a_M) (As := []) (rest := [.int x8]) (c_X11_squares h) ⟨q_code_X11_squares, q_ml_X11_86, q_init_X11, hd_X11_squares, ⟨Nat.le_of_ble_eq_true rfl, Nat.le_of_ble_eq_true rfl⟩, Nat.le_of_ble_eq_true rfl, Nat.le_of_ble_eq_true rfl⟩ (q0 := 0) rfl rfl rfl rfl (Nat.le_of_ble_eq_true rfl) dX11_goes_52 (pn := 55) rfl (fun r7 _ h => ?_)
  show J x 0 0 12 (W_Model cyI cyJ cyZ a_M a_M_square a_M_want a_M_text a_M_read a_M_row a_M_foldSet a_M_foldEdges a_M_foldNeeds a_M_foldYards a_M_least a_M_ways a_M_price a_M_rowBy a_M_columnBy a_M_rowOf a_M_wayBack a_M_slack a_M_isUsed a_M_lifted a_M_freed a_M_path M_wide M_high M_hedges M_hurdles M_wants M_rest M_frozen M_bytes M_position M_tokenAt M_token M_digits M_number M_faultAt M_readMany M_readWide M_readHigh M_nights M_why M_folds M_square M_want M_text M_read M_row M_foldSet M_foldEdges M_foldNeeds M_foldYards M_least M_ways M_price M_rowBy M_columnBy M_rowOf M_wayBack M_slack M_isUsed M_lifted M_freed M_path) [(0, .ref a_M), (2, .int p2), (3, .int p3), (4, .int x4), (5, .int x5), (6, .long xl6), (8, .int x8)] 55 [.int r7, .int x8]
  refine j_icmp_ge cx 174 dX11_goes_55 (pn := 58) rfl rfl (fun c8 => ?_) (fun c8 => ?_)
  · have h := h.1 c8
    refine j_iload_n cx 2 rfl rfl dX11_goes_174 (pn := 175) rfl ?_
    refine j_if_ne cx 183 dX11_goes_175 (pn := 178) rfl rfl (fun c9 => ?_) (fun c9 => ?_)
    · have h := h.1 c9
      refine j_iload cx 4 rfl dX11_goes_183 (pn := 185) rfl ?_
      exact hR x5 M_path 185 _ dX11_goes_185 h
    · have h := h.2 c9
      refine j_iload cx 3 rfl dX11_goes_178 (pn := 180) rfl ?_
      refine j_goto cx 185 dX11_goes_180 rfl ?_
      exact hR x4 M_path 185 _ dX11_goes_185 h
  · have h := h.2 c8
    refine j_iconst cx (v := 0) (by decide) dX11_goes_58 (pn := 59) rfl ?_
    refine j_istore cx [(9, .int 0), (0, .ref a_M), (2, .int p2), (3, .int p3), (4, .int x4), (5, .int x5), (6, .long xl6), (8, .int x8)] (by decide) rfl dX11_goes_59 (pn := 61) rfl ?_
    refine j_iload cx 7 rfl dX11_goes_61 (pn := 63) rfl ?_
    refine j_istore cx [(10, .int x8), (9, .int 0), (0, .ref a_M), (2, .int p2), (3, .int p3), (4, .int x4), (5, .int x5), (6, .long xl6), (8, .int x8)] (by decide) rfl dX11_goes_63 (pn := 65) rfl ?_
    refine j_sub [2, 3, 4, 5, 6, 7, 8, 1, 0] [(0, .ref a_M), (2, .int p2), (3, .int p3), (4, .int x4), (5, .int x5), (6, .long xl6), (8, .int x8), (9, .int 0), (10, .int x8)] rfl ?_
    exact J_X11_goes_65 cx hR hB49 h
set_option maxHeartbeats 4000000 in
set_option maxRecDepth 100000 in
theorem J_X11_goes_49 {x : CX} {D : DG} {cyI cyJ cyZ : ClassId} {a_M a_M_square a_M_want a_M_text a_M_read a_M_row a_M_foldSet a_M_foldEdges a_M_foldNeeds a_M_foldYards a_M_least a_M_ways a_M_price a_M_rowBy a_M_columnBy a_M_rowOf a_M_wayBack a_M_slack a_M_isUsed a_M_lifted a_M_freed a_M_path : Nat} {M_wide : Int32} {M_high : Int32} {M_hedges : Int64} {M_hurdles : Int32} {M_wants : Int32} {M_rest : Int32} {M_frozen : Int32} {M_bytes : Int32} {M_position : Int32} {M_tokenAt : Int32} {M_token : Int64} {M_digits : Int32} {M_number : Int32} {M_faultAt : Int32} {M_readMany : Int32} {M_readWide : Int32} {M_readHigh : Int32} {M_nights : Int32} {M_why : Int32} {M_folds : Int32} {M_square : Nat → Int32} {M_want : Nat → Int32} {M_text : Nat → Int32} {M_read : Nat → Int32} {M_row : Nat → Int32} {M_foldSet : Nat → Int32} {M_foldEdges : Nat → Int64} {M_foldNeeds : Nat → Int32} {M_foldYards : Nat → Int32} {M_least : Nat → Int32} {M_ways : Nat → Int32} {M_price : Nat → Int32} {M_rowBy : Nat → Int32} {M_columnBy : Nat → Int32} {M_rowOf : Nat → Int32} {M_wayBack : Nat → Int32} {M_slack : Nat → Int32} {M_isUsed : Nat → Int32} {M_lifted : Nat → Int32} {M_freed : Nat → Int32} {M_path : Nat → Int32} {p2 : Int32} {p3 : Int32} {x4 : Int32} {x5 : Int32} {xl6 : Int64} {x8 : Int32} {Q : Int32 → ((Nat → Int32)) → Prop} (cx : Cx x cX11_goes 12 RX11 rm_X11_goes D [(cyI, .int), (cyJ, .long), (cyZ, .boolean)]) (hR : ∀ (v : Int32) (u : (Nat → Int32)) (pc : Nat) (lv : List (Nat × Value)), decode cX11_goes pc = .ok (.ireturn, 1) → Q v u → J x 0 0 12 (W_Model cyI cyJ cyZ a_M a_M_square a_M_want a_M_text a_M_read a_M_row a_M_foldSet a_M_foldEdges a_M_foldNeeds a_M_foldYards a_M_least a_M_ways a_M_price a_M_rowBy a_M_columnBy a_M_rowOf a_M_wayBack a_M_slack a_M_isUsed a_M_lifted a_M_freed a_M_path M_wide M_high M_hedges M_hurdles M_wants M_rest M_frozen M_bytes M_position M_tokenAt M_token M_digits M_number M_faultAt M_readMany M_readWide M_readHigh M_nights M_why M_folds M_square M_want M_text M_read M_row M_foldSet M_foldEdges M_foldNeeds M_foldYards M_least M_ways M_price M_rowBy M_columnBy M_rowOf M_wayBack M_slack M_isUsed M_lifted M_freed u) lv pc [.int v]) (h : lp_X11_goes_49 Q  p2 p3 M_wide M_high M_hedges M_square M_path x4 x5 xl6 x8) :
    J x 0 0 12 (W_Model cyI cyJ cyZ a_M a_M_square a_M_want a_M_text a_M_read a_M_row a_M_foldSet a_M_foldEdges a_M_foldNeeds a_M_foldYards a_M_least a_M_ways a_M_price a_M_rowBy a_M_columnBy a_M_rowOf a_M_wayBack a_M_slack a_M_isUsed a_M_lifted a_M_freed a_M_path M_wide M_high M_hedges M_hurdles M_wants M_rest M_frozen M_bytes M_position M_tokenAt M_token M_digits M_number M_faultAt M_readMany M_readWide M_readHigh M_nights M_why M_folds M_square M_want M_text M_read M_row M_foldSet M_foldEdges M_foldNeeds M_foldYards M_least M_ways M_price M_rowBy M_columnBy M_rowOf M_wayBack M_slack M_isUsed M_lifted M_freed M_path) [(0, .ref a_M), (2, .int p2), (3, .int p3), (4, .int x4), (5, .int x5), (6, .long xl6), (8, .int x8)] 49 [] := by
  obtain ⟨I, ⟨n, h0⟩, hb⟩ := h
  revert x4 x5 xl6 x8
  induction n using Nat.strongRecOn with
  | _ n ih =>
    intro x4 x5 xl6 x8 h0
    exact B_X11_goes_49 cx hR (fun _ _ _ _ hz => by obtain ⟨n2, hlt, hI⟩ := hz; exact ih n2 hlt hI) (hb n x4 x5 xl6 x8 h0)
set_option maxHeartbeats 4000000 in
set_option maxRecDepth 100000 in
theorem J_X11_goes_37 {x : CX} {D : DG} {cyI cyJ cyZ : ClassId} {a_M a_M_square a_M_want a_M_text a_M_read a_M_row a_M_foldSet a_M_foldEdges a_M_foldNeeds a_M_foldYards a_M_least a_M_ways a_M_price a_M_rowBy a_M_columnBy a_M_rowOf a_M_wayBack a_M_slack a_M_isUsed a_M_lifted a_M_freed a_M_path : Nat} {M_wide : Int32} {M_high : Int32} {M_hedges : Int64} {M_hurdles : Int32} {M_wants : Int32} {M_rest : Int32} {M_frozen : Int32} {M_bytes : Int32} {M_position : Int32} {M_tokenAt : Int32} {M_token : Int64} {M_digits : Int32} {M_number : Int32} {M_faultAt : Int32} {M_readMany : Int32} {M_readWide : Int32} {M_readHigh : Int32} {M_nights : Int32} {M_why : Int32} {M_folds : Int32} {M_square : Nat → Int32} {M_want : Nat → Int32} {M_text : Nat → Int32} {M_read : Nat → Int32} {M_row : Nat → Int32} {M_foldSet : Nat → Int32} {M_foldEdges : Nat → Int64} {M_foldNeeds : Nat → Int32} {M_foldYards : Nat → Int32} {M_least : Nat → Int32} {M_ways : Nat → Int32} {M_price : Nat → Int32} {M_rowBy : Nat → Int32} {M_columnBy : Nat → Int32} {M_rowOf : Nat → Int32} {M_wayBack : Nat → Int32} {M_slack : Nat → Int32} {M_isUsed : Nat → Int32} {M_lifted : Nat → Int32} {M_freed : Nat → Int32} {M_path : Nat → Int32} {p2 : Int32} {p3 : Int32} {Q : Int32 → ((Nat → Int32)) → Prop} (cx : Cx x cX11_goes 12 RX11 rm_X11_goes D [(cyI, .int), (cyJ, .long), (cyZ, .boolean)]) (hR : ∀ (v : Int32) (u : (Nat → Int32)) (pc : Nat) (lv : List (Nat × Value)), decode cX11_goes pc = .ok (.ireturn, 1) → Q v u → J x 0 0 12 (W_Model cyI cyJ cyZ a_M a_M_square a_M_want a_M_text a_M_read a_M_row a_M_foldSet a_M_foldEdges a_M_foldNeeds a_M_foldYards a_M_least a_M_ways a_M_price a_M_rowBy a_M_columnBy a_M_rowOf a_M_wayBack a_M_slack a_M_isUsed a_M_lifted a_M_freed a_M_path M_wide M_high M_hedges M_hurdles M_wants M_rest M_frozen M_bytes M_position M_tokenAt M_token M_digits M_number M_faultAt M_readMany M_readWide M_readHigh M_nights M_why M_folds M_square M_want M_text M_read M_row M_foldSet M_foldEdges M_foldNeeds M_foldYards M_least M_ways M_price M_rowBy M_columnBy M_rowOf M_wayBack M_slack M_isUsed M_lifted M_freed u) lv pc [.int v]) (h : bk_X11_goes_37 Q  p2 p3 M_wide M_high M_hedges M_square M_path) :
    J x 0 0 12 (W_Model cyI cyJ cyZ a_M a_M_square a_M_want a_M_text a_M_read a_M_row a_M_foldSet a_M_foldEdges a_M_foldNeeds a_M_foldYards a_M_least a_M_ways a_M_price a_M_rowBy a_M_columnBy a_M_rowOf a_M_wayBack a_M_slack a_M_isUsed a_M_lifted a_M_freed a_M_path M_wide M_high M_hedges M_hurdles M_wants M_rest M_frozen M_bytes M_position M_tokenAt M_token M_digits M_number M_faultAt M_readMany M_readWide M_readHigh M_nights M_why M_folds M_square M_want M_text M_read M_row M_foldSet M_foldEdges M_foldNeeds M_foldYards M_least M_ways M_price M_rowBy M_columnBy M_rowOf M_wayBack M_slack M_isUsed M_lifted M_freed M_path) [(0, .ref a_M), (2, .int p2), (3, .int p3)] 37 [] := by
  unfold bk_X11_goes_37 at h
  refine j_iconst cx (v := 0) (by decide) dX11_goes_37 (pn := 38) rfl ?_
  refine j_istore cx [(4, .int 0), (0, .ref a_M), (2, .int p2), (3, .int p3)] (by decide) rfl dX11_goes_38 (pn := 40) rfl ?_
  refine j_iconst cx (v := 0) (by decide) dX11_goes_40 (pn := 41) rfl ?_
  refine j_istore cx [(5, .int 0), (4, .int 0), (0, .ref a_M), (2, .int p2), (3, .int p3)] (by decide) rfl dX11_goes_41 (pn := 43) rfl ?_
  refine j_lconst cx (v := 0) (by decide) dX11_goes_43 (pn := 44) rfl ?_
  refine j_lstore cx [(6, .long 0), (5, .int 0), (4, .int 0), (0, .ref a_M), (2, .int p2), (3, .int p3)] (by decide) rfl dX11_goes_44 (pn := 46) rfl ?_
  refine j_iconst cx (v := 0) (by decide) dX11_goes_46 (pn := 47) rfl ?_
  refine j_istore cx [(8, .int 0), (6, .long 0), (5, .int 0), (4, .int 0), (0, .ref a_M), (2, .int p2), (3, .int p3)] (by decide) rfl dX11_goes_47 (pn := 49) rfl ?_
  refine j_sub [4, 5, 6, 3, 2, 1, 0] [(0, .ref a_M), (2, .int p2), (3, .int p3), (4, .int 0), (5, .int 0), (6, .long 0), (8, .int 0)] rfl ?_
  exact J_X11_goes_49 cx hR h
set_option maxHeartbeats 4000000 in
set_option maxRecDepth 100000 in
theorem c_X11_goes {D : DG} {cyI cyJ cyZ : ClassId} {a_M a_M_square a_M_want a_M_text a_M_read a_M_row a_M_foldSet a_M_foldEdges a_M_foldNeeds a_M_foldYards a_M_least a_M_ways a_M_price a_M_rowBy a_M_columnBy a_M_rowOf a_M_wayBack a_M_slack a_M_isUsed a_M_lifted a_M_freed a_M_path : Nat} {M_wide : Int32} {M_high : Int32} {M_hedges : Int64} {M_hurdles : Int32} {M_wants : Int32} {M_rest : Int32} {M_frozen : Int32} {M_bytes : Int32} {M_position : Int32} {M_tokenAt : Int32} {M_token : Int64} {M_digits : Int32} {M_number : Int32} {M_faultAt : Int32} {M_readMany : Int32} {M_readWide : Int32} {M_readHigh : Int32} {M_nights : Int32} {M_why : Int32} {M_folds : Int32} {M_square : Nat → Int32} {M_want : Nat → Int32} {M_text : Nat → Int32} {M_read : Nat → Int32} {M_row : Nat → Int32} {M_foldSet : Nat → Int32} {M_foldEdges : Nat → Int64} {M_foldNeeds : Nat → Int32} {M_foldYards : Nat → Int32} {M_least : Nat → Int32} {M_ways : Nat → Int32} {M_price : Nat → Int32} {M_rowBy : Nat → Int32} {M_columnBy : Nat → Int32} {M_rowOf : Nat → Int32} {M_wayBack : Nat → Int32} {M_slack : Nat → Int32} {M_isUsed : Nat → Int32} {M_lifted : Nat → Int32} {M_freed : Nat → Int32} {M_path : Nat → Int32} {p1 : Int32} {p2 : Int32} {p3 : Int32} {Q : Int32 → ((Nat → Int32)) → Prop} (h : wp_X11_goes p1 p2 p3 M_wide M_high M_hedges M_square M_path Q) :
    MetI yX11_goes cX11_goes 12 (some .int) rm_X11_goes D [(cyI, .int), (cyJ, .long), (cyZ, .boolean)] [.ref a_M, .int p1, .int p2, .int p3] (W_Model cyI cyJ cyZ a_M a_M_square a_M_want a_M_text a_M_read a_M_row a_M_foldSet a_M_foldEdges a_M_foldNeeds a_M_foldYards a_M_least a_M_ways a_M_price a_M_rowBy a_M_columnBy a_M_rowOf a_M_wayBack a_M_slack a_M_isUsed a_M_lifted a_M_freed a_M_path M_wide M_high M_hedges M_hurdles M_wants M_rest M_frozen M_bytes M_position M_tokenAt M_token M_digits M_number M_faultAt M_readMany M_readWide M_readHigh M_nights M_why M_folds M_square M_want M_text M_read M_row M_foldSet M_foldEdges M_foldNeeds M_foldYards M_least M_ways M_price M_rowBy M_columnBy M_rowOf M_wayBack M_slack M_isUsed M_lifted M_freed M_path) (fun u : (Nat → Int32) => (W_Model cyI cyJ cyZ a_M a_M_square a_M_want a_M_text a_M_read a_M_row a_M_foldSet a_M_foldEdges a_M_foldNeeds a_M_foldYards a_M_least a_M_ways a_M_price a_M_rowBy a_M_columnBy a_M_rowOf a_M_wayBack a_M_slack a_M_isUsed a_M_lifted a_M_freed a_M_path M_wide M_high M_hedges M_hurdles M_wants M_rest M_frozen M_bytes M_position M_tokenAt M_token M_digits M_number M_faultAt M_readMany M_readWide M_readHigh M_nights M_why M_folds M_square M_want M_text M_read M_row M_foldSet M_foldEdges M_foldNeeds M_foldYards M_least M_ways M_price M_rowBy M_columnBy M_rowOf M_wayBack M_slack M_isUsed M_lifted M_freed u)) (fun v u => Q v u) := by
  unfold wp_X11_goes at h
  refine metI_of (by decide) (Nat.le_of_ble_eq_true rfl) (fun x cx0 hR0 => ?_)
  have cx : Cx x cX11_goes 12 RX11 rm_X11_goes D [(cyI, .int), (cyJ, .long), (cyZ, .boolean)] := cx0
  have hR : ∀ (v : Int32) (u : (Nat → Int32)) (pc : Nat) (lv : List (Nat × Value)), decode cX11_goes pc = .ok (.ireturn, 1) → Q v u → J x 0 0 12 (W_Model cyI cyJ cyZ a_M a_M_square a_M_want a_M_text a_M_read a_M_row a_M_foldSet a_M_foldEdges a_M_foldNeeds a_M_foldYards a_M_least a_M_ways a_M_price a_M_rowBy a_M_columnBy a_M_rowOf a_M_wayBack a_M_slack a_M_isUsed a_M_lifted a_M_freed a_M_path M_wide M_high M_hedges M_hurdles M_wants M_rest M_frozen M_bytes M_position M_tokenAt M_token M_digits M_number M_faultAt M_readMany M_readWide M_readHigh M_nights M_why M_folds M_square M_want M_text M_read M_row M_foldSet M_foldEdges M_foldNeeds M_foldYards M_least M_ways M_price M_rowBy M_columnBy M_rowOf M_wayBack M_slack M_isUsed M_lifted M_freed u) lv pc [.int v] := (fun v u pc lv d hq => hR0 v u pc lv d hq)
  show J x 0 0 12 (W_Model cyI cyJ cyZ a_M a_M_square a_M_want a_M_text a_M_read a_M_row a_M_foldSet a_M_foldEdges a_M_foldNeeds a_M_foldYards a_M_least a_M_ways a_M_price a_M_rowBy a_M_columnBy a_M_rowOf a_M_wayBack a_M_slack a_M_isUsed a_M_lifted a_M_freed a_M_path M_wide M_high M_hedges M_hurdles M_wants M_rest M_frozen M_bytes M_position M_tokenAt M_token M_digits M_number M_faultAt M_readMany M_readWide M_readHigh M_nights M_why M_folds M_square M_want M_text M_read M_row M_foldSet M_foldEdges M_foldNeeds M_foldYards M_least M_ways M_price M_rowBy M_columnBy M_rowOf M_wayBack M_slack M_isUsed M_lifted M_freed M_path) [(0, .ref a_M), (1, .int p1), (2, .int p2), (3, .int p3)] 0 []
  refine j_iload_n cx 2 rfl rfl dX11_goes_0 (pn := 1) rfl ?_
  refine j_iconst cx (v := 1) (by decide) dX11_goes_1 (pn := 2) rfl ?_
  refine j_bipush cx (v := 10) (by decide) dX11_goes_2 (pn := 4) rfl ?_
  refine j_calleI cx q_stat_X11_in (As := [.int p2, .int 1, .int 10]) (rest := []) (c_X11_in h) ⟨q_code_X11_in, q_ml_X11_90, q_init_X11, hd_X11_in, ⟨Nat.le_of_ble_eq_true rfl, Nat.le_of_ble_eq_true rfl⟩, Nat.le_of_ble_eq_true rfl, Nat.le_of_ble_eq_true rfl⟩ rfl rfl (Nat.le_of_ble_eq_true rfl) dX11_goes_4 (pn := 7) rfl (fun r1 h => ?_)
  show J x 0 0 12 (W_Model cyI cyJ cyZ a_M a_M_square a_M_want a_M_text a_M_read a_M_row a_M_foldSet a_M_foldEdges a_M_foldNeeds a_M_foldYards a_M_least a_M_ways a_M_price a_M_rowBy a_M_columnBy a_M_rowOf a_M_wayBack a_M_slack a_M_isUsed a_M_lifted a_M_freed a_M_path M_wide M_high M_hedges M_hurdles M_wants M_rest M_frozen M_bytes M_position M_tokenAt M_token M_digits M_number M_faultAt M_readMany M_readWide M_readHigh M_nights M_why M_folds M_square M_want M_text M_read M_row M_foldSet M_foldEdges M_foldNeeds M_foldYards M_least M_ways M_price M_rowBy M_columnBy M_rowOf M_wayBack M_slack M_isUsed M_lifted M_freed M_path) [(0, .ref a_M), (1, .int p1), (2, .int p2), (3, .int p3)] 7 [.int r1]
  refine j_if_eq cx 19 dX11_goes_7 (pn := 10) rfl rfl (fun c2 => ?_) (fun c2 => ?_)
  · have h := h.1 c2
    refine j_bipush cx (v := (-3)) (by decide) dX11_goes_19 (pn := 21) rfl ?_
    exact hR (-3) M_path 21 _ dX11_goes_21 h
  · have h := h.2 c2
    refine j_iload_n cx 3 rfl rfl dX11_goes_10 (pn := 11) rfl ?_
    refine j_iconst cx (v := 0) (by decide) dX11_goes_11 (pn := 12) rfl ?_
    refine j_iconst cx (v := 1) (by decide) dX11_goes_12 (pn := 13) rfl ?_
    refine j_calleI cx q_stat_X11_in (As := [.int p3, .int 0, .int 1]) (rest := []) (c_X11_in h) ⟨q_code_X11_in, q_ml_X11_90, q_init_X11, hd_X11_in, ⟨Nat.le_of_ble_eq_true rfl, Nat.le_of_ble_eq_true rfl⟩, Nat.le_of_ble_eq_true rfl, Nat.le_of_ble_eq_true rfl⟩ rfl rfl (Nat.le_of_ble_eq_true rfl) dX11_goes_13 (pn := 16) rfl (fun r3 h => ?_)
    show J x 0 0 12 (W_Model cyI cyJ cyZ a_M a_M_square a_M_want a_M_text a_M_read a_M_row a_M_foldSet a_M_foldEdges a_M_foldNeeds a_M_foldYards a_M_least a_M_ways a_M_price a_M_rowBy a_M_columnBy a_M_rowOf a_M_wayBack a_M_slack a_M_isUsed a_M_lifted a_M_freed a_M_path M_wide M_high M_hedges M_hurdles M_wants M_rest M_frozen M_bytes M_position M_tokenAt M_token M_digits M_number M_faultAt M_readMany M_readWide M_readHigh M_nights M_why M_folds M_square M_want M_text M_read M_row M_foldSet M_foldEdges M_foldNeeds M_foldYards M_least M_ways M_price M_rowBy M_columnBy M_rowOf M_wayBack M_slack M_isUsed M_lifted M_freed M_path) [(0, .ref a_M), (1, .int p1), (2, .int p2), (3, .int p3)] 16 [.int r3]
    refine j_if_ne cx 22 dX11_goes_16 (pn := 19) rfl rfl (fun c4 => ?_) (fun c4 => ?_)
    · have h := h.1 c4
      refine j_iload_n cx 1 rfl rfl dX11_goes_22 (pn := 23) rfl ?_
      refine j_if_eq cx 33 dX11_goes_23 (pn := 26) rfl rfl (fun c5 => ?_) (fun c5 => ?_)
      · have h := h.1 c5
        refine j_aload_n cx 0 rfl rfl dX11_goes_33 (pn := 34) rfl ?_
        refine j_callvV0 cx q_inst_X11_layStrip q_sel_X11_layStrip (b := a_M) (As := []) (rest := []) (c_X11_layStrip h) ⟨q_code_X11_layStrip, q_ml_X11_318, q_init_X11, hd_X11_layStrip, ⟨Nat.le_of_ble_eq_true rfl, Nat.le_of_ble_eq_true rfl⟩, Nat.le_of_ble_eq_true rfl, Nat.le_of_ble_eq_true rfl⟩ (q0 := 0) rfl rfl rfl rfl (Nat.le_of_ble_eq_true rfl) dX11_goes_34 (pn := 37) rfl (fun u6 h => ?_)
        show J x 0 0 12 (W_Model cyI cyJ cyZ a_M a_M_square a_M_want a_M_text a_M_read a_M_row a_M_foldSet a_M_foldEdges a_M_foldNeeds a_M_foldYards a_M_least a_M_ways a_M_price a_M_rowBy a_M_columnBy a_M_rowOf a_M_wayBack a_M_slack a_M_isUsed a_M_lifted a_M_freed a_M_path M_wide M_high M_hedges M_hurdles M_wants M_rest M_frozen M_bytes M_position M_tokenAt M_token M_digits M_number M_faultAt M_readMany M_readWide M_readHigh M_nights M_why M_folds M_square M_want M_text M_read M_row M_foldSet M_foldEdges M_foldNeeds M_foldYards M_least M_ways M_price M_rowBy M_columnBy M_rowOf M_wayBack M_slack M_isUsed M_lifted M_freed u6) [(0, .ref a_M), (1, .int p1), (2, .int p2), (3, .int p3)] 37 []
        refine j_sub [0, 2, 3] [(0, .ref a_M), (2, .int p2), (3, .int p3)] rfl ?_
        exact J_X11_goes_37 cx hR h
      · have h := h.2 c5
        refine j_aload_n cx 0 rfl rfl dX11_goes_26 (pn := 27) rfl ?_
        refine j_callvV0 cx q_inst_X11_laySnail q_sel_X11_laySnail (b := a_M) (As := []) (rest := []) (c_X11_laySnail h) ⟨q_code_X11_laySnail, q_ml_X11_315, q_init_X11, hd_X11_laySnail, ⟨Nat.le_of_ble_eq_true rfl, Nat.le_of_ble_eq_true rfl⟩, Nat.le_of_ble_eq_true rfl, Nat.le_of_ble_eq_true rfl⟩ (q0 := 0) rfl rfl rfl rfl (Nat.le_of_ble_eq_true rfl) dX11_goes_27 (pn := 30) rfl (fun u24 h => ?_)
        show J x 0 0 12 (W_Model cyI cyJ cyZ a_M a_M_square a_M_want a_M_text a_M_read a_M_row a_M_foldSet a_M_foldEdges a_M_foldNeeds a_M_foldYards a_M_least a_M_ways a_M_price a_M_rowBy a_M_columnBy a_M_rowOf a_M_wayBack a_M_slack a_M_isUsed a_M_lifted a_M_freed a_M_path M_wide M_high M_hedges M_hurdles M_wants M_rest M_frozen M_bytes M_position M_tokenAt M_token M_digits M_number M_faultAt M_readMany M_readWide M_readHigh M_nights M_why M_folds M_square M_want M_text M_read M_row M_foldSet M_foldEdges M_foldNeeds M_foldYards M_least M_ways M_price M_rowBy M_columnBy M_rowOf M_wayBack M_slack M_isUsed M_lifted M_freed u24) [(0, .ref a_M), (1, .int p1), (2, .int p2), (3, .int p3)] 30 []
        refine j_goto cx 37 dX11_goes_30 rfl ?_
        refine j_sub [0, 2, 3] [(0, .ref a_M), (2, .int p2), (3, .int p3)] rfl ?_
        exact J_X11_goes_37 cx hR h
    · have h := h.2 c4
      refine j_bipush cx (v := (-3)) (by decide) dX11_goes_19 (pn := 21) rfl ?_
      exact hR (-3) M_path 21 _ dX11_goes_21 h
