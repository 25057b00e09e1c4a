theorem dX11_apart_0 : decode cX11_apart 0 = .ok (.iload_n 0, 1) := by decide +kernel
theorem dX11_apart_1 : decode cX11_apart 1 = .ok (.iload_n 1, 1) := by decide +kernel
theorem dX11_apart_2 : decode cX11_apart 2 = .ok (.if_icmp .le 9, 3) := by decide +kernel
theorem dX11_apart_5 : decode cX11_apart 5 = .ok (.iload_n 0, 1) := by decide +kernel
theorem dX11_apart_6 : decode cX11_apart 6 = .ok (.iload_n 1, 1) := by decide +kernel
theorem dX11_apart_7 : decode cX11_apart 7 = .ok (.isub, 1) := by decide +kernel
theorem dX11_apart_8 : decode cX11_apart 8 = .ok (.goto 6, 3) := by decide +kernel
theorem dX11_apart_11 : decode cX11_apart 11 = .ok (.iload_n 1, 1) := by decide +kernel
theorem dX11_apart_12 : decode cX11_apart 12 = .ok (.iload_n 0, 1) := by decide +kernel
theorem dX11_apart_13 : decode cX11_apart 13 = .ok (.isub, 1) := by decide +kernel
theorem dX11_apart_14 : decode cX11_apart 14 = .ok (.ireturn, 1) := by decide +kernel
abbrev rm_X11_apart : Room := { frames := 0, cells := 0, slots := 0, locals := 0 }
theorem hd_X11_apart : yX11_apart.cls ≠ "java/lang/invoke/MethodHandle" ∧ yX11_apart.cls ≠ "java/lang/invoke/VarHandle" ∧ (parseMethodDescriptor yX11_apart.desc).map (fun d => d.parameters.length) = some 2 := by decide +kernel
def wp_X11_apart (p0 : Int32) (p1 : Int32) (Q : Int32 → Prop) : Prop :=
((p0 ≤ p1 → Q (p1 - p0)) ∧
(¬ p0 ≤ p1 → Q (p0 - p1)))
set_option maxHeartbeats 4000000 in
set_option maxRecDepth 100000 in
theorem c_X11_apart {D : DG} {cyI cyJ cyZ : ClassId} {p0 : Int32} {p1 : Int32} {Q : Int32 → Prop} (h : wp_X11_apart p0 p1 Q) :
    MetI yX11_apart cX11_apart 2 (some .int) rm_X11_apart D [(cyI, .int), (cyJ, .long), (cyZ, .boolean)] [.int p0, .int p1] ([] : va_W) (fun _ : Unit => ([] : va_W)) (fun v _ => Q v ) := by
  unfold wp_X11_apart at h
  refine metI_of (by decide) (Nat.le_of_ble_eq_true rfl) (fun x cx0 hR0 => ?_)
  have cx : Cx x cX11_apart 2 RX11 rm_X11_apart D [(cyI, .int), (cyJ, .long), (cyZ, .boolean)] := cx0
  have hR : ∀ (v : Int32) (pc : Nat) (lv : List (Nat × Value)), decode cX11_apart pc = .ok (.ireturn, 1) → Q v → J x 0 0 2 ([] : va_W) lv pc [.int v] := (fun v pc lv d hq => hR0 v () pc lv d hq)
  show J x 0 0 2 ([] : va_W) [(0, .int p0), (1, .int p1)] 0 []
  refine j_iload_n cx 0 rfl rfl dX11_apart_0 (pn := 1) rfl ?_
  refine j_iload_n cx 1 rfl rfl dX11_apart_1 (pn := 2) rfl ?_
  refine j_icmp_le cx 11 dX11_apart_2 (pn := 5) rfl rfl (fun c1 => ?_) (fun c1 => ?_)
  · have h := h.1 c1
    refine j_iload_n cx 1 rfl rfl dX11_apart_11 (pn := 12) rfl ?_
    refine j_iload_n cx 0 rfl rfl dX11_apart_12 (pn := 13) rfl ?_
    refine j_isub cx dX11_apart_13 (pn := 14) rfl ?_
    exact hR (p1 - p0) 14 _ dX11_apart_14 h
  · have h := h.2 c1
    refine j_iload_n cx 0 rfl rfl dX11_apart_5 (pn := 6) rfl ?_
    refine j_iload_n cx 1 rfl rfl dX11_apart_6 (pn := 7) rfl ?_
    refine j_isub cx dX11_apart_7 (pn := 8) rfl ?_
    refine j_goto cx 14 dX11_apart_8 rfl ?_
    exact hR (p0 - p1) 14 _ dX11_apart_14 h
theorem dX11_place_0 : decode cX11_place 0 = .ok (.iconst 0, 1) := by decide +kernel
theorem dX11_place_1 : decode cX11_place 1 = .ok (.istore_n 3, 1) := by decide +kernel
theorem dX11_place_2 : decode cX11_place 2 = .ok (.iload_n 3, 1) := by decide +kernel
theorem dX11_place_3 : decode cX11_place 3 = .ok (.iload_n 2, 1) := by decide +kernel
theorem dX11_place_4 : decode cX11_place 4 = .ok (.if_icmp .gt 25, 3) := by decide +kernel
theorem dX11_place_7 : decode cX11_place 7 = .ok (.aload_n 0, 1) := by decide +kernel
theorem dX11_place_8 : decode cX11_place 8 = .ok (.getfield 70, 3) := by decide +kernel
theorem dX11_place_11 : decode cX11_place 11 = .ok (.iload_n 3, 1) := by decide +kernel
theorem dX11_place_12 : decode cX11_place 12 = .ok (.ldc_w 267, 3) := by decide +kernel
theorem dX11_place_15 : decode cX11_place 15 = .ok (.iastore, 1) := by decide +kernel
theorem dX11_place_16 : decode cX11_place 16 = .ok (.aload_n 0, 1) := by decide +kernel
theorem dX11_place_17 : decode cX11_place 17 = .ok (.getfield 73, 3) := by decide +kernel
theorem dX11_place_20 : decode cX11_place 20 = .ok (.iload_n 3, 1) := by decide +kernel
theorem dX11_place_21 : decode cX11_place 21 = .ok (.iconst 0, 1) := by decide +kernel
theorem dX11_place_22 : decode cX11_place 22 = .ok (.bastore, 1) := by decide +kernel
theorem dX11_place_23 : decode cX11_place 23 = .ok (.iinc 3 1, 3) := by decide +kernel
theorem dX11_place_26 : decode cX11_place 26 = .ok (.goto (-24), 3) := by decide +kernel
theorem dX11_place_29 : decode cX11_place 29 = .ok (.aload_n 0, 1) := by decide +kernel
theorem dX11_place_30 : decode cX11_place 30 = .ok (.getfield 64, 3) := by decide +kernel
theorem dX11_place_33 : decode cX11_place 33 = .ok (.iconst 0, 1) := by decide +kernel
theorem dX11_place_34 : decode cX11_place 34 = .ok (.iload_n 1, 1) := by decide +kernel
theorem dX11_place_35 : decode cX11_place 35 = .ok (.iastore, 1) := by decide +kernel
theorem dX11_place_36 : decode cX11_place 36 = .ok (.iconst 0, 1) := by decide +kernel
theorem dX11_place_37 : decode cX11_place 37 = .ok (.istore_n 3, 1) := by decide +kernel
theorem dX11_place_38 : decode cX11_place 38 = .ok (.aload_n 0, 1) := by decide +kernel
theorem dX11_place_39 : decode cX11_place 39 = .ok (.getfield 64, 3) := by decide +kernel
theorem dX11_place_42 : decode cX11_place 42 = .ok (.iload_n 3, 1) := by decide +kernel
theorem dX11_place_43 : decode cX11_place 43 = .ok (.iaload, 1) := by decide +kernel
theorem dX11_place_44 : decode cX11_place 44 = .ok (.ifCond .eq 215, 3) := by decide +kernel
theorem dX11_place_47 : decode cX11_place 47 = .ok (.aload_n 0, 1) := by decide +kernel
theorem dX11_place_48 : decode cX11_place 48 = .ok (.getfield 73, 3) := by decide +kernel
theorem dX11_place_51 : decode cX11_place 51 = .ok (.iload_n 3, 1) := by decide +kernel
theorem dX11_place_52 : decode cX11_place 52 = .ok (.iconst 1, 1) := by decide +kernel
theorem dX11_place_53 : decode cX11_place 53 = .ok (.bastore, 1) := by decide +kernel
theorem dX11_place_54 : decode cX11_place 54 = .ok (.aload_n 0, 1) := by decide +kernel
theorem dX11_place_55 : decode cX11_place 55 = .ok (.getfield 64, 3) := by decide +kernel
theorem dX11_place_58 : decode cX11_place 58 = .ok (.iload_n 3, 1) := by decide +kernel
theorem dX11_place_59 : decode cX11_place 59 = .ok (.iaload, 1) := by decide +kernel
theorem dX11_place_60 : decode cX11_place 60 = .ok (.istore 4, 2) := by decide +kernel
theorem dX11_place_62 : decode cX11_place 62 = .ok (.ldc_w 267, 3) := by decide +kernel
theorem dX11_place_65 : decode cX11_place 65 = .ok (.istore 5, 2) := by decide +kernel
theorem dX11_place_67 : decode cX11_place 67 = .ok (.iconst 0, 1) := by decide +kernel
theorem dX11_place_68 : decode cX11_place 68 = .ok (.istore 6, 2) := by decide +kernel
theorem dX11_place_70 : decode cX11_place 70 = .ok (.iconst 1, 1) := by decide +kernel
theorem dX11_place_71 : decode cX11_place 71 = .ok (.istore 7, 2) := by decide +kernel
theorem dX11_place_73 : decode cX11_place 73 = .ok (.iload 7, 2) := by decide +kernel
theorem dX11_place_75 : decode cX11_place 75 = .ok (.iload_n 2, 1) := by decide +kernel
theorem dX11_place_76 : decode cX11_place 76 = .ok (.if_icmp .gt 108, 3) := by decide +kernel
theorem dX11_place_79 : decode cX11_place 79 = .ok (.aload_n 0, 1) := by decide +kernel
theorem dX11_place_80 : decode cX11_place 80 = .ok (.getfield 73, 3) := by decide +kernel
theorem dX11_place_83 : decode cX11_place 83 = .ok (.iload 7, 2) := by decide +kernel
theorem dX11_place_85 : decode cX11_place 85 = .ok (.baload, 1) := by decide +kernel
theorem dX11_place_86 : decode cX11_place 86 = .ok (.ifCond .ne 92, 3) := by decide +kernel
theorem dX11_place_89 : decode cX11_place 89 = .ok (.aload_n 0, 1) := by decide +kernel
theorem dX11_place_90 : decode cX11_place 90 = .ok (.getfield 55, 3) := by decide +kernel
theorem dX11_place_93 : decode cX11_place 93 = .ok (.bipush 64, 2) := by decide +kernel
theorem dX11_place_95 : decode cX11_place 95 = .ok (.iload 4, 2) := by decide +kernel
theorem dX11_place_97 : decode cX11_place 97 = .ok (.iconst 1, 1) := by decide +kernel
theorem dX11_place_98 : decode cX11_place 98 = .ok (.isub, 1) := by decide +kernel
theorem dX11_place_99 : decode cX11_place 99 = .ok (.imul, 1) := by decide +kernel
theorem dX11_place_100 : decode cX11_place 100 = .ok (.iload 7, 2) := by decide +kernel
theorem dX11_place_102 : decode cX11_place 102 = .ok (.iadd, 1) := by decide +kernel
theorem dX11_place_103 : decode cX11_place 103 = .ok (.iconst 1, 1) := by decide +kernel
theorem dX11_place_104 : decode cX11_place 104 = .ok (.isub, 1) := by decide +kernel
theorem dX11_place_105 : decode cX11_place 105 = .ok (.iaload, 1) := by decide +kernel
theorem dX11_place_106 : decode cX11_place 106 = .ok (.aload_n 0, 1) := by decide +kernel
theorem dX11_place_107 : decode cX11_place 107 = .ok (.getfield 58, 3) := by decide +kernel
theorem dX11_place_110 : decode cX11_place 110 = .ok (.iload 4, 2) := by decide +kernel
theorem dX11_place_112 : decode cX11_place 112 = .ok (.iaload, 1) := by decide +kernel
theorem dX11_place_113 : decode cX11_place 113 = .ok (.isub, 1) := by decide +kernel
theorem dX11_place_114 : decode cX11_place 114 = .ok (.aload_n 0, 1) := by decide +kernel
theorem dX11_place_115 : decode cX11_place 115 = .ok (.getfield 61, 3) := by decide +kernel
theorem dX11_place_118 : decode cX11_place 118 = .ok (.iload 7, 2) := by decide +kernel
theorem dX11_place_120 : decode cX11_place 120 = .ok (.iaload, 1) := by decide +kernel
theorem dX11_place_121 : decode cX11_place 121 = .ok (.isub, 1) := by decide +kernel
theorem dX11_place_122 : decode cX11_place 122 = .ok (.istore 8, 2) := by decide +kernel
theorem dX11_place_124 : decode cX11_place 124 = .ok (.iload 8, 2) := by decide +kernel
theorem dX11_place_126 : decode cX11_place 126 = .ok (.aload_n 0, 1) := by decide +kernel
theorem dX11_place_127 : decode cX11_place 127 = .ok (.getfield 70, 3) := by decide +kernel
theorem dX11_place_130 : decode cX11_place 130 = .ok (.iload 7, 2) := by decide +kernel
theorem dX11_place_132 : decode cX11_place 132 = .ok (.iaload, 1) := by decide +kernel
theorem dX11_place_133 : decode cX11_place 133 = .ok (.if_icmp .ge 20, 3) := by decide +kernel
theorem dX11_place_136 : decode cX11_place 136 = .ok (.aload_n 0, 1) := by decide +kernel
theorem dX11_place_137 : decode cX11_place 137 = .ok (.getfield 70, 3) := by decide +kernel
theorem dX11_place_140 : decode cX11_place 140 = .ok (.iload 7, 2) := by decide +kernel
theorem dX11_place_142 : decode cX11_place 142 = .ok (.iload 8, 2) := by decide +kernel
theorem dX11_place_144 : decode cX11_place 144 = .ok (.iastore, 1) := by decide +kernel
theorem dX11_place_145 : decode cX11_place 145 = .ok (.aload_n 0, 1) := by decide +kernel
theorem dX11_place_146 : decode cX11_place 146 = .ok (.getfield 67, 3) := by decide +kernel
theorem dX11_place_149 : decode cX11_place 149 = .ok (.iload 7, 2) := by decide +kernel
theorem dX11_place_151 : decode cX11_place 151 = .ok (.iload_n 3, 1) := by decide +kernel
theorem dX11_place_152 : decode cX11_place 152 = .ok (.iastore, 1) := by decide +kernel
theorem dX11_place_153 : decode cX11_place 153 = .ok (.aload_n 0, 1) := by decide +kernel
theorem dX11_place_154 : decode cX11_place 154 = .ok (.getfield 70, 3) := by decide +kernel
theorem dX11_place_157 : decode cX11_place 157 = .ok (.iload 7, 2) := by decide +kernel
theorem dX11_place_159 : decode cX11_place 159 = .ok (.iaload, 1) := by decide +kernel
theorem dX11_place_160 : decode cX11_place 160 = .ok (.iload 5, 2) := by decide +kernel
theorem dX11_place_162 : decode cX11_place 162 = .ok (.if_icmp .ge 16, 3) := by decide +kernel
theorem dX11_place_165 : decode cX11_place 165 = .ok (.aload_n 0, 1) := by decide +kernel
theorem dX11_place_166 : decode cX11_place 166 = .ok (.getfield 70, 3) := by decide +kernel
theorem dX11_place_169 : decode cX11_place 169 = .ok (.iload 7, 2) := by decide +kernel
theorem dX11_place_171 : decode cX11_place 171 = .ok (.iaload, 1) := by decide +kernel
theorem dX11_place_172 : decode cX11_place 172 = .ok (.istore 5, 2) := by decide +kernel
theorem dX11_place_174 : decode cX11_place 174 = .ok (.iload 7, 2) := by decide +kernel
theorem dX11_place_176 : decode cX11_place 176 = .ok (.istore 6, 2) := by decide +kernel
theorem dX11_place_178 : decode cX11_place 178 = .ok (.iinc 7 1, 3) := by decide +kernel
theorem dX11_place_181 : decode cX11_place 181 = .ok (.goto (-108), 3) := by decide +kernel
theorem dX11_place_184 : decode cX11_place 184 = .ok (.iconst 0, 1) := by decide +kernel
theorem dX11_place_185 : decode cX11_place 185 = .ok (.istore 7, 2) := by decide +kernel
theorem dX11_place_187 : decode cX11_place 187 = .ok (.iload 7, 2) := by decide +kernel
theorem dX11_place_189 : decode cX11_place 189 = .ok (.iload_n 2, 1) := by decide +kernel
theorem dX11_place_190 : decode cX11_place 190 = .ok (.if_icmp .gt 63, 3) := by decide +kernel
theorem dX11_place_193 : decode cX11_place 193 = .ok (.aload_n 0, 1) := by decide +kernel
theorem dX11_place_194 : decode cX11_place 194 = .ok (.getfield 73, 3) := by decide +kernel
theorem dX11_place_197 : decode cX11_place 197 = .ok (.iload 7, 2) := by decide +kernel
theorem dX11_place_199 : decode cX11_place 199 = .ok (.baload, 1) := by decide +kernel
theorem dX11_place_200 : decode cX11_place 200 = .ok (.ifCond .eq 35, 3) := by decide +kernel
theorem dX11_place_203 : decode cX11_place 203 = .ok (.aload_n 0, 1) := by decide +kernel
theorem dX11_place_204 : decode cX11_place 204 = .ok (.getfield 58, 3) := by decide +kernel
theorem dX11_place_207 : decode cX11_place 207 = .ok (.aload_n 0, 1) := by decide +kernel
theorem dX11_place_208 : decode cX11_place 208 = .ok (.getfield 64, 3) := by decide +kernel
theorem dX11_place_211 : decode cX11_place 211 = .ok (.iload 7, 2) := by decide +kernel
theorem dX11_place_213 : decode cX11_place 213 = .ok (.iaload, 1) := by decide +kernel
theorem dX11_place_214 : decode cX11_place 214 = .ok (.dup2, 1) := by decide +kernel
theorem dX11_place_215 : decode cX11_place 215 = .ok (.iaload, 1) := by decide +kernel
theorem dX11_place_216 : decode cX11_place 216 = .ok (.iload 5, 2) := by decide +kernel
theorem dX11_place_218 : decode cX11_place 218 = .ok (.iadd, 1) := by decide +kernel
theorem dX11_place_219 : decode cX11_place 219 = .ok (.iastore, 1) := by decide +kernel
theorem dX11_place_220 : decode cX11_place 220 = .ok (.aload_n 0, 1) := by decide +kernel
theorem dX11_place_221 : decode cX11_place 221 = .ok (.getfield 61, 3) := by decide +kernel
theorem dX11_place_224 : decode cX11_place 224 = .ok (.iload 7, 2) := by decide +kernel
theorem dX11_place_226 : decode cX11_place 226 = .ok (.dup2, 1) := by decide +kernel
theorem dX11_place_227 : decode cX11_place 227 = .ok (.iaload, 1) := by decide +kernel
theorem dX11_place_228 : decode cX11_place 228 = .ok (.iload 5, 2) := by decide +kernel
theorem dX11_place_230 : decode cX11_place 230 = .ok (.isub, 1) := by decide +kernel
theorem dX11_place_231 : decode cX11_place 231 = .ok (.iastore, 1) := by decide +kernel
theorem dX11_place_232 : decode cX11_place 232 = .ok (.goto 15, 3) := by decide +kernel
theorem dX11_place_235 : decode cX11_place 235 = .ok (.aload_n 0, 1) := by decide +kernel
theorem dX11_place_236 : decode cX11_place 236 = .ok (.getfield 70, 3) := by decide +kernel
theorem dX11_place_239 : decode cX11_place 239 = .ok (.iload 7, 2) := by decide +kernel
theorem dX11_place_241 : decode cX11_place 241 = .ok (.dup2, 1) := by decide +kernel
theorem dX11_place_242 : decode cX11_place 242 = .ok (.iaload, 1) := by decide +kernel
theorem dX11_place_243 : decode cX11_place 243 = .ok (.iload 5, 2) := by decide +kernel
theorem dX11_place_245 : decode cX11_place 245 = .ok (.isub, 1) := by decide +kernel
theorem dX11_place_246 : decode cX11_place 246 = .ok (.iastore, 1) := by decide +kernel
theorem dX11_place_247 : decode cX11_place 247 = .ok (.iinc 7 1, 3) := by decide +kernel
theorem dX11_place_250 : decode cX11_place 250 = .ok (.goto (-63), 3) := by decide +kernel
theorem dX11_place_253 : decode cX11_place 253 = .ok (.iload 6, 2) := by decide +kernel
theorem dX11_place_255 : decode cX11_place 255 = .ok (.istore_n 3, 1) := by decide +kernel
theorem dX11_place_256 : decode cX11_place 256 = .ok (.goto (-218), 3) := by decide +kernel
theorem dX11_place_259 : decode cX11_place 259 = .ok (.iload_n 3, 1) := by decide +kernel
theorem dX11_place_260 : decode cX11_place 260 = .ok (.ifCond .eq 30, 3) := by decide +kernel
theorem dX11_place_263 : decode cX11_place 263 = .ok (.aload_n 0, 1) := by decide +kernel
theorem dX11_place_264 : decode cX11_place 264 = .ok (.getfield 67, 3) := by decide +kernel
theorem dX11_place_267 : decode cX11_place 267 = .ok (.iload_n 3, 1) := by decide +kernel
theorem dX11_place_268 : decode cX11_place 268 = .ok (.iaload, 1) := by decide +kernel
theorem dX11_place_269 : decode cX11_place 269 = .ok (.istore 4, 2) := by decide +kernel
theorem dX11_place_271 : decode cX11_place 271 = .ok (.aload_n 0, 1) := by decide +kernel
theorem dX11_place_272 : decode cX11_place 272 = .ok (.getfield 64, 3) := by decide +kernel
theorem dX11_place_275 : decode cX11_place 275 = .ok (.iload_n 3, 1) := by decide +kernel
theorem dX11_place_276 : decode cX11_place 276 = .ok (.aload_n 0, 1) := by decide +kernel
theorem dX11_place_277 : decode cX11_place 277 = .ok (.getfield 64, 3) := by decide +kernel
theorem dX11_place_280 : decode cX11_place 280 = .ok (.iload 4, 2) := by decide +kernel
theorem dX11_place_282 : decode cX11_place 282 = .ok (.iaload, 1) := by decide +kernel
theorem dX11_place_283 : decode cX11_place 283 = .ok (.iastore, 1) := by decide +kernel
theorem dX11_place_284 : decode cX11_place 284 = .ok (.iload 4, 2) := by decide +kernel
theorem dX11_place_286 : decode cX11_place 286 = .ok (.istore_n 3, 1) := by decide +kernel
theorem dX11_place_287 : decode cX11_place 287 = .ok (.goto (-28), 3) := by decide +kernel
theorem dX11_place_290 : decode cX11_place 290 = .ok (.return_, 1) := by decide +kernel
abbrev rm_X11_place : Room := { frames := 0, cells := 0, slots := 0, locals := 0 }
theorem hd_X11_place : yX11_place.cls ≠ "java/lang/invoke/MethodHandle" ∧ yX11_place.cls ≠ "java/lang/invoke/VarHandle" ∧ (parseMethodDescriptor yX11_place.desc).map (fun d => d.parameters.length) = some 2 := by decide +kernel
def bd_X11_place_259 (Q : ((Nat → Int32) × (Nat → Int32) × (Nat → Int32) × (Nat → Int32) × (Nat → Int32) × (Nat → Int32)) → Prop) (B259 : (Nat → Int32) → Int32 → Prop) (M_rowBy : Nat → Int32) (M_columnBy : Nat → Int32) (M_wayBack : Nat → Int32) (M_slack : Nat → Int32) (M_isUsed : Nat → Int32) (M_rowOf : Nat → Int32) (x3 : Int32) : Prop :=
((x3 = 0 → Q (M_rowBy, M_columnBy, M_rowOf, M_wayBack, M_slack, M_isUsed)) ∧
(¬ x3 = 0 → vp_in x3 64 ∧ (∀ y5 : Int32, y5 = (M_wayBack x3.toNatClampNeg) →
vp_in y5 64 ∧ (∀ y6 : Int32, y6 = (M_rowOf y5.toNatClampNeg) →
vp_in x3 64 ∧ (∀ f7 : Nat → Int32, f7 = (upd M_rowOf x3.toNatClampNeg y6) →
B259 f7 y5)))))
def lp_X11_place_259 (Q : ((Nat → Int32) × (Nat → Int32) × (Nat → Int32) × (Nat → Int32) × (Nat → Int32) × (Nat → Int32)) → Prop) (M_rowBy : Nat → Int32) (M_columnBy : Nat → Int32) (M_wayBack : Nat → Int32) (M_slack : Nat → Int32) (M_isUsed : Nat → Int32) (M_rowOf : Nat → Int32) (x3 : Int32) : Prop :=
∃ I : Nat → (Nat → Int32) → Int32 → Prop, (∃ n, I n M_rowOf x3) ∧ ∀ n M_rowOf x3, I n M_rowOf x3 → bd_X11_place_259 Q  (fun M_rowOf' x3' => ∃ n', n' < n ∧ I n' M_rowOf' x3') M_rowBy M_columnBy M_wayBack M_slack M_isUsed M_rowOf x3
def bk_X11_place_247 (Q : ((Nat → Int32) × (Nat → Int32) × (Nat → Int32) × (Nat → Int32) × (Nat → Int32) × (Nat → Int32)) → Prop) (B38 : (Nat → Int32) → (Nat → Int32) → (Nat → Int32) → (Nat → Int32) → (Nat → Int32) → Int32 → Prop) (B187 : (Nat → Int32) → (Nat → Int32) → (Nat → Int32) → Int32 → Prop) (x7 : Int32) (M_rowBy : Nat → Int32) (M_columnBy : Nat → Int32) (M_slack : Nat → Int32) : Prop :=
∀ y15 : Int32, y15 = (x7 + 1) →
B187 M_rowBy M_columnBy M_slack y15
def bd_X11_place_187 (Q : ((Nat → Int32) × (Nat → Int32) × (Nat → Int32) × (Nat → Int32) × (Nat → Int32) × (Nat → Int32)) → Prop) (B38 : (Nat → Int32) → (Nat → Int32) → (Nat → Int32) → (Nat → Int32) → (Nat → Int32) → Int32 → Prop) (B187 : (Nat → Int32) → (Nat → Int32) → (Nat → Int32) → Int32 → Prop) (p2 : Int32) (x5 : Int32) (x6 : Int32) (M_rowOf : Nat → Int32) (M_wayBack : Nat → Int32) (M_isUsed : Nat → Int32) (M_rowBy : Nat → Int32) (M_columnBy : Nat → Int32) (M_slack : Nat → Int32) (x7 : Int32) : Prop :=
((p2 < x7 → B38 M_rowBy M_columnBy M_wayBack M_slack M_isUsed x6) ∧
(¬ p2 < x7 → vp_in x7 64 ∧ (((M_isUsed x7.toNatClampNeg) = 0 → vp_in x7 64 ∧ (∀ y13 : Int32, y13 = ((M_slack x7.toNatClampNeg) - x5) →
vp_in x7 64 ∧ (∀ f14 : Nat → Int32, f14 = (upd M_slack x7.toNatClampNeg y13) →
bk_X11_place_247 Q B38 B187 x7 M_rowBy M_columnBy f14))) ∧
(¬ (M_isUsed x7.toNatClampNeg) = 0 → vp_in x7 64 ∧ vp_in (M_rowOf x7.toNatClampNeg) 33 ∧ (∀ y16 : Int32, y16 = ((M_rowBy (M_rowOf x7.toNatClampNeg).toNatClampNeg) + x5) →
vp_in (M_rowOf x7.toNatClampNeg) 33 ∧ (∀ f17 : Nat → Int32, f17 = (upd M_rowBy (M_rowOf x7.toNatClampNeg).toNatClampNeg y16) →
vp_in x7 64 ∧ (∀ y18 : Int32, y18 = ((M_columnBy x7.toNatClampNeg) - x5) →
vp_in x7 64 ∧ (∀ f19 : Nat → Int32, f19 = (upd M_columnBy x7.toNatClampNeg y18) →
bk_X11_place_247 Q B38 B187 x7 f17 f19 M_slack))))))))
def lp_X11_place_187 (Q : ((Nat → Int32) × (Nat → Int32) × (Nat → Int32) × (Nat → Int32) × (Nat → Int32) × (Nat → Int32)) → Prop) (B38 : (Nat → Int32) → (Nat → Int32) → (Nat → Int32) → (Nat → Int32) → (Nat → Int32) → Int32 → Prop) (p2 : Int32) (x5 : Int32) (x6 : Int32) (M_rowOf : Nat → Int32) (M_wayBack : Nat → Int32) (M_isUsed : Nat → Int32) (M_rowBy : Nat → Int32) (M_columnBy : Nat → Int32) (M_slack : Nat → Int32) (x7 : Int32) : Prop :=
∃ I : Nat → (Nat → Int32) → (Nat → Int32) → (Nat → Int32) → Int32 → Prop, (∃ n, I n M_rowBy M_columnBy M_slack x7) ∧ ∀ n M_rowBy M_columnBy M_slack x7, I n M_rowBy M_columnBy M_slack x7 → bd_X11_place_187 Q B38 (fun M_rowBy' M_columnBy' M_slack' x7' => ∃ n', n' < n ∧ I n' M_rowBy' M_columnBy' M_slack' x7') p2 x5 x6 M_rowOf M_wayBack M_isUsed M_rowBy M_columnBy M_slack x7
def bk_X11_place_178 (Q : ((Nat → Int32) × (Nat → Int32) × (Nat → Int32) × (Nat → Int32) × (Nat → Int32) × (Nat → Int32)) → Prop) (B38 : (Nat → Int32) → (Nat → Int32) → (Nat → Int32) → (Nat → Int32) → (Nat → Int32) → Int32 → Prop) (B73 : (Nat → Int32) → (Nat → Int32) → Int32 → Int32 → Int32 → Prop) (x5 : Int32) (x6 : Int32) (x7 : Int32) (M_wayBack : Nat → Int32) (M_slack : Nat → Int32) : Prop :=
∀ y21 : Int32, y21 = (x7 + 1) →
B73 M_wayBack M_slack x5 x6 y21
def bk_X11_place_153 (Q : ((Nat → Int32) × (Nat → Int32) × (Nat → Int32) × (Nat → Int32) × (Nat → Int32) × (Nat → Int32)) → Prop) (B38 : (Nat → Int32) → (Nat → Int32) → (Nat → Int32) → (Nat → Int32) → (Nat → Int32) → Int32 → Prop) (B73 : (Nat → Int32) → (Nat → Int32) → Int32 → Int32 → Int32 → Prop) (x5 : Int32) (x6 : Int32) (x7 : Int32) (M_wayBack : Nat → Int32) (M_slack : Nat → Int32) : Prop :=
vp_in x7 64 ∧ ((x5 ≤ (M_slack x7.toNatClampNeg) → bk_X11_place_178 Q B38 B73 x5 x6 x7 M_wayBack M_slack) ∧
(¬ x5 ≤ (M_slack x7.toNatClampNeg) → vp_in x7 64 ∧ (∀ y25 : Int32, y25 = (M_slack x7.toNatClampNeg) →
bk_X11_place_178 Q B38 B73 y25 x7 x7 M_wayBack M_slack)))
def bd_X11_place_73 (Q : ((Nat → Int32) × (Nat → Int32) × (Nat → Int32) × (Nat → Int32) × (Nat → Int32) × (Nat → Int32)) → Prop) (B38 : (Nat → Int32) → (Nat → Int32) → (Nat → Int32) → (Nat → Int32) → (Nat → Int32) → Int32 → Prop) (B73 : (Nat → Int32) → (Nat → Int32) → Int32 → Int32 → Int32 → Prop) (p2 : Int32) (x3 : Int32) (x4 : Int32) (M_price : Nat → Int32) (M_rowBy : Nat → Int32) (M_columnBy : Nat → Int32) (M_rowOf : Nat → Int32) (M_isUsed : Nat → Int32) (M_wayBack : Nat → Int32) (M_slack : Nat → Int32) (x5 : Int32) (x6 : Int32) (x7 : Int32) : Prop :=
((p2 < x7 → lp_X11_place_187 Q B38 p2 x5 x6 M_rowOf M_wayBack M_isUsed M_rowBy M_columnBy M_slack 0) ∧
(¬ p2 < x7 → vp_in x7 64 ∧ ((¬ (M_isUsed x7.toNatClampNeg) = 0 → bk_X11_place_178 Q B38 B73 x5 x6 x7 M_wayBack M_slack) ∧
((M_isUsed x7.toNatClampNeg) = 0 → vp_in (((64 * (x4 - 1)) + x7) - 1) 2048 ∧ vp_in x4 33 ∧ vp_in x7 64 ∧ (∀ y22 : Int32, y22 = (((M_price (((64 * (x4 - 1)) + x7) - 1).toNatClampNeg) - (M_rowBy x4.toNatClampNeg)) - (M_columnBy x7.toNatClampNeg)) →
vp_in x7 64 ∧ (((M_slack x7.toNatClampNeg) ≤ y22 → bk_X11_place_153 Q B38 B73 x5 x6 x7 M_wayBack M_slack) ∧
(¬ (M_slack x7.toNatClampNeg) ≤ y22 → vp_in x7 64 ∧ (∀ f26 : Nat → Int32, f26 = (upd M_slack x7.toNatClampNeg y22) →
vp_in x7 64 ∧ (∀ f27 : Nat → Int32, f27 = (upd M_wayBack x7.toNatClampNeg x3) →
bk_X11_place_153 Q B38 B73 x5 x6 x7 f27 f26)))))))))
def lp_X11_place_73 (Q : ((Nat → Int32) × (Nat → Int32) × (Nat → Int32) × (Nat → Int32) × (Nat → Int32) × (Nat → Int32)) → Prop) (B38 : (Nat → Int32) → (Nat → Int32) → (Nat → Int32) → (Nat → Int32) → (Nat → Int32) → Int32 → Prop) (p2 : Int32) (x3 : Int32) (x4 : Int32) (M_price : Nat → Int32) (M_rowBy : Nat → Int32) (M_columnBy : Nat → Int32) (M_rowOf : Nat → Int32) (M_isUsed : Nat → Int32) (M_wayBack : Nat → Int32) (M_slack : Nat → Int32) (x5 : Int32) (x6 : Int32) (x7 : Int32) : Prop :=
∃ I : Nat → (Nat → Int32) → (Nat → Int32) → Int32 → Int32 → Int32 → Prop, (∃ n, I n M_wayBack M_slack x5 x6 x7) ∧ ∀ n M_wayBack M_slack x5 x6 x7, I n M_wayBack M_slack x5 x6 x7 → bd_X11_place_73 Q B38 (fun M_wayBack' M_slack' x5' x6' x7' => ∃ n', n' < n ∧ I n' M_wayBack' M_slack' x5' x6' x7') p2 x3 x4 M_price M_rowBy M_columnBy M_rowOf M_isUsed M_wayBack M_slack x5 x6 x7
def bd_X11_place_38 (Q : ((Nat → Int32) × (Nat → Int32) × (Nat → Int32) × (Nat → Int32) × (Nat → Int32) × (Nat → Int32)) → Prop) (B38 : (Nat → Int32) → (Nat → Int32) → (Nat → Int32) → (Nat → Int32) → (Nat → Int32) → Int32 → Prop) (p2 : Int32) (M_price : Nat → Int32) (M_rowOf : Nat → Int32) (M_rowBy : Nat → Int32) (M_columnBy : Nat → Int32) (M_wayBack : Nat → Int32) (M_slack : Nat → Int32) (M_isUsed : Nat → Int32) (x3 : Int32) : Prop :=
vp_in x3 64 ∧ (((M_rowOf x3.toNatClampNeg) = 0 → lp_X11_place_259 Q M_rowBy M_columnBy M_wayBack M_slack M_isUsed M_rowOf x3) ∧
(¬ (M_rowOf x3.toNatClampNeg) = 0 → vp_in x3 64 ∧ (∀ f8 : Nat → Int32, f8 = (upd M_isUsed x3.toNatClampNeg 1) →
vp_in x3 64 ∧ (∀ y9 : Int32, y9 = (M_rowOf x3.toNatClampNeg) →
lp_X11_place_73 Q B38 p2 x3 y9 M_price M_rowBy M_columnBy M_rowOf f8 M_wayBack M_slack 100000 0 1))))
def lp_X11_place_38 (Q : ((Nat → Int32) × (Nat → Int32) × (Nat → Int32) × (Nat → Int32) × (Nat → Int32) × (Nat → Int32)) → Prop) (p2 : Int32) (M_price : Nat → Int32) (M_rowOf : Nat → Int32) (M_rowBy : Nat → Int32) (M_columnBy : Nat → Int32) (M_wayBack : Nat → Int32) (M_slack : Nat → Int32) (M_isUsed : Nat → Int32) (x3 : Int32) : Prop :=
∃ I : Nat → (Nat → Int32) → (Nat → Int32) → (Nat → Int32) → (Nat → Int32) → (Nat → Int32) → Int32 → Prop, (∃ n, I n M_rowBy M_columnBy M_wayBack M_slack M_isUsed x3) ∧ ∀ n M_rowBy M_columnBy M_wayBack M_slack M_isUsed x3, I n M_rowBy M_columnBy M_wayBack M_slack M_isUsed x3 → bd_X11_place_38 Q  (fun M_rowBy' M_columnBy' M_wayBack' M_slack' M_isUsed' x3' => ∃ n', n' < n ∧ I n' M_rowBy' M_columnBy' M_wayBack' M_slack' M_isUsed' x3') p2 M_price M_rowOf M_rowBy M_columnBy M_wayBack M_slack M_isUsed x3
def bd_X11_place_2 (Q : ((Nat → Int32) × (Nat → Int32) × (Nat → Int32) × (Nat → Int32) × (Nat → Int32) × (Nat → Int32)) → Prop) (B2 : (Nat → Int32) → (Nat → Int32) → Int32 → Prop) (p1 : Int32) (p2 : Int32) (M_price : Nat → Int32) (M_rowBy : Nat → Int32) (M_columnBy : Nat → Int32) (M_rowOf : Nat → Int32) (M_wayBack : Nat → Int32) (M_slack : Nat → Int32) (M_isUsed : Nat → Int32) (x3 : Int32) : Prop :=
((p2 < x3 → vp_in (0 : Int32) 64 ∧ (∀ f2 : Nat → Int32, f2 = (upd M_rowOf (0 : Int32).toNatClampNeg p1) →
lp_X11_place_38 Q p2 M_price f2 M_rowBy M_columnBy M_wayBack M_slack M_isUsed 0)) ∧
(¬ p2 < x3 → vp_in x3 64 ∧ (∀ f28 : Nat → Int32, f28 = (upd M_slack x3.toNatClampNeg 100000) →
vp_in x3 64 ∧ (∀ f29 : Nat → Int32, f29 = (upd M_isUsed x3.toNatClampNeg 0) →
∀ y30 : Int32, y30 = (x3 + 1) →
B2 f28 f29 y30))))
def lp_X11_place_2 (Q : ((Nat → Int32) × (Nat → Int32) × (Nat → Int32) × (Nat → Int32) × (Nat → Int32) × (Nat → Int32)) → Prop) (p1 : Int32) (p2 : Int32) (M_price : Nat → Int32) (M_rowBy : Nat → Int32) (M_columnBy : Nat → Int32) (M_rowOf : Nat → Int32) (M_wayBack : Nat → Int32) (M_slack : Nat → Int32) (M_isUsed : Nat → Int32) (x3 : Int32) : Prop :=
∃ I : Nat → (Nat → Int32) → (Nat → Int32) → Int32 → Prop, (∃ n, I n M_slack M_isUsed x3) ∧ ∀ n M_slack M_isUsed x3, I n M_slack M_isUsed x3 → bd_X11_place_2 Q  (fun M_slack' M_isUsed' x3' => ∃ n', n' < n ∧ I n' M_slack' M_isUsed' x3') p1 p2 M_price M_rowBy M_columnBy M_rowOf M_wayBack M_slack M_isUsed x3
def wp_X11_place (p1 : Int32) (p2 : Int32) (M_price : Nat → Int32) (M_rowBy : Nat → Int32) (M_columnBy : Nat → Int32) (M_rowOf : Nat → Int32) (M_wayBack : Nat → Int32) (M_slack : Nat → Int32) (M_isUsed : Nat → Int32) (Q : ((Nat → Int32) × (Nat → Int32) × (Nat → Int32) × (Nat → Int32) × (Nat → Int32) × (Nat → Int32)) → Prop) : Prop :=
lp_X11_place_2 Q p1 p2 M_price M_rowBy M_columnBy M_rowOf M_wayBack M_slack M_isUsed 0
set_option maxHeartbeats 4000000 in
set_option maxRecDepth 100000 in
theorem B_X11_place_259 {x : CX} {D : DG} {cyI cyJ cyZ : ClassId} {a_M a_M_square a_M_want a_M_text a_M_read a_M_row a_M_foldSet a_M_foldEdges a_M_foldNeeds a_M_foldYards a_M_least a_M_ways a_M_price a_M_rowBy a_M_columnBy a_M_rowOf a_M_wayBack a_M_slack a_M_isUsed a_M_lifted a_M_freed a_M_path : Nat} {M_wide : Int32} {M_high : Int32} {M_hedges : Int64} {M_hurdles : Int32} {M_wants : Int32} {M_rest : Int32} {M_frozen : Int32} {M_bytes : Int32} {M_position : Int32} {M_tokenAt : Int32} {M_token : Int64} {M_digits : Int32} {M_number : Int32} {M_faultAt : Int32} {M_readMany : Int32} {M_readWide : Int32} {M_readHigh : Int32} {M_nights : Int32} {M_why : Int32} {M_folds : Int32} {M_square : Nat → Int32} {M_want : Nat → Int32} {M_text : Nat → Int32} {M_read : Nat → Int32} {M_row : Nat → Int32} {M_foldSet : Nat → Int32} {M_foldEdges : Nat → Int64} {M_foldNeeds : Nat → Int32} {M_foldYards : Nat → Int32} {M_least : Nat → Int32} {M_ways : Nat → Int32} {M_price : Nat → Int32} {M_rowBy : Nat → Int32} {M_columnBy : Nat → Int32} {M_rowOf : Nat → Int32} {M_wayBack : Nat → Int32} {M_slack : Nat → Int32} {M_isUsed : Nat → Int32} {M_lifted : Nat → Int32} {M_freed : Nat → Int32} {M_path : Nat → Int32} {x3 : Int32} {Q : ((Nat → Int32) × (Nat → Int32) × (Nat → Int32) × (Nat → Int32) × (Nat → Int32) × (Nat → Int32)) → Prop} {B259 : (Nat → Int32) → Int32 → Prop} (cx : Cx x cX11_place 9 RX11 rm_X11_place D [(cyI, .int), (cyJ, .long), (cyZ, .boolean)]) (hR : ∀ (u : (Nat → Int32) × (Nat → Int32) × (Nat → Int32) × (Nat → Int32) × (Nat → Int32) × (Nat → Int32)) (pc : Nat) (lv : List (Nat × Value)), decode cX11_place pc = .ok (.return_, 1) → Q u → J x 0 0 9 (W_Model cyI cyJ cyZ a_M a_M_square a_M_want a_M_text a_M_read a_M_row a_M_foldSet a_M_foldEdges a_M_foldNeeds a_M_foldYards a_M_least a_M_ways a_M_price a_M_rowBy a_M_columnBy a_M_rowOf a_M_wayBack a_M_slack a_M_isUsed a_M_lifted a_M_freed a_M_path M_wide M_high M_hedges M_hurdles M_wants M_rest M_frozen M_bytes M_position M_tokenAt M_token M_digits M_number M_faultAt M_readMany M_readWide M_readHigh M_nights M_why M_folds M_square M_want M_text M_read M_row M_foldSet M_foldEdges M_foldNeeds M_foldYards M_least M_ways M_price u.1 u.2.1 u.2.2.1 u.2.2.2.1 u.2.2.2.2.1 u.2.2.2.2.2 M_lifted M_freed M_path) lv pc []) (hB259 : ∀ (M_rowOf : Nat → Int32) (x3 : Int32), B259 M_rowOf x3 → J x 0 0 9 (W_Model cyI cyJ cyZ a_M a_M_square a_M_want a_M_text a_M_read a_M_row a_M_foldSet a_M_foldEdges a_M_foldNeeds a_M_foldYards a_M_least a_M_ways a_M_price a_M_rowBy a_M_columnBy a_M_rowOf a_M_wayBack a_M_slack a_M_isUsed a_M_lifted a_M_freed a_M_path M_wide M_high M_hedges M_hurdles M_wants M_rest M_frozen M_bytes M_position M_tokenAt M_token M_digits M_number M_faultAt M_readMany M_readWide M_readHigh M_nights M_why M_folds M_square M_want M_text M_read M_row M_foldSet M_foldEdges M_foldNeeds M_foldYards M_least M_ways M_price M_rowBy M_columnBy M_rowOf M_wayBack M_slack M_isUsed M_lifted M_freed M_path) [(0, .ref a_M), (3, .int x3)] 259 []) (h : bd_X11_place_259 Q B259 M_rowBy M_columnBy M_wayBack M_slack M_isUsed M_rowOf x3) :
    J x 0 0 9 (W_Model cyI cyJ cyZ a_M a_M_square a_M_want a_M_text a_M_read a_M_row a_M_foldSet a_M_foldEdges a_M_foldNeeds a_M_foldYards a_M_least a_M_ways a_M_price a_M_rowBy a_M_columnBy a_M_rowOf a_M_wayBack a_M_slack a_M_isUsed a_M_lifted a_M_freed a_M_path M_wide M_high M_hedges M_hurdles M_wants M_rest M_frozen M_bytes M_position M_tokenAt M_token M_digits M_number M_faultAt M_readMany M_readWide M_readHigh M_nights M_why M_folds M_square M_want M_text M_read M_row M_foldSet M_foldEdges M_foldNeeds M_foldYards M_least M_ways M_price M_rowBy M_columnBy M_rowOf M_wayBack M_slack M_isUsed M_lifted M_freed M_path) [(0, .ref a_M), (3, .int x3)] 259 [] := by
  unfold bd_X11_place_259 at h
  refine j_iload_n cx 1 rfl rfl dX11_place_259 (pn := 260) rfl ?_
  refine j_if_eq cx 290 dX11_place_260 (pn := 263) rfl rfl (fun c4 => ?_) (fun c4 => ?_)
  · have h := h.1 c4
    exact hR (M_rowBy, M_columnBy, M_rowOf, M_wayBack, M_slack, M_isUsed) 290 _ dX11_place_290 h
  · have h := h.2 c4
    refine j_aload_n cx 0 rfl rfl dX11_place_263 (pn := 264) rfl ?_
    refine j_get cx inGX11 0 rfl rfl 35 (by decide) q_fl_X11_67 rfl rfl dX11_place_264 (pn := 267) rfl ?_
    refine j_iload_n cx 1 rfl rfl dX11_place_267 (pn := 268) rfl ?_
    refine j_iald cx 16 0 rfl rfl h.1 dX11_place_268 (pn := 269) rfl ?_
    have h := h.2
    refine j_topi (fun y5 ey5 => ?_)
    have h := h y5 ey5
    refine j_istore cx [(4, .int y5), (0, .ref a_M), (3, .int x3)] (by decide) rfl dX11_place_269 (pn := 271) rfl ?_
    refine j_aload_n cx 1 rfl rfl dX11_place_271 (pn := 272) rfl ?_
    refine j_get cx inGX11 0 rfl rfl 34 (by decide) q_fl_X11_64 rfl rfl dX11_place_272 (pn := 275) rfl ?_
    refine j_iload_n cx 2 rfl rfl dX11_place_275 (pn := 276) rfl ?_
    refine j_aload_n cx 1 rfl rfl dX11_place_276 (pn := 277) rfl ?_
    refine j_get cx inGX11 0 rfl rfl 34 (by decide) q_fl_X11_64 rfl rfl dX11_place_277 (pn := 280) rfl ?_
    refine j_iload cx 0 rfl dX11_place_280 (pn := 282) rfl ?_
    refine j_iald cx 15 0 rfl rfl h.1 dX11_place_282 (pn := 283) rfl ?_
    have h := h.2
    refine j_topi (fun y6 ey6 => ?_)
    have h := h y6 ey6
    have hin := h.1
    obtain ⟨f7, ef7⟩ : ∃ z, z = upd M_rowOf x3.toNatClampNeg y6 := ⟨_, rfl⟩
    have h := h.2 f7 ef7
    refine j_iast cx 15 0 rfl rfl hin (W_Model cyI cyJ cyZ a_M a_M_square a_M_want a_M_text a_M_read a_M_row a_M_foldSet a_M_foldEdges a_M_foldNeeds a_M_foldYards a_M_least a_M_ways a_M_price a_M_rowBy a_M_columnBy a_M_rowOf a_M_wayBack a_M_slack a_M_isUsed a_M_lifted a_M_freed a_M_path M_wide M_high M_hedges M_hurdles M_wants M_rest M_frozen M_bytes M_position M_tokenAt M_token M_digits M_number M_faultAt M_readMany M_readWide M_readHigh M_nights M_why M_folds M_square M_want M_text M_read M_row M_foldSet M_foldEdges M_foldNeeds M_foldYards M_least M_ways M_price M_rowBy M_columnBy f7 M_wayBack M_slack M_isUsed M_lifted M_freed M_path) (by subst ef7; rfl) dX11_place_283 (pn := 284) rfl ?_
    refine j_iload cx 0 rfl dX11_place_284 (pn := 286) rfl ?_
    refine j_istore_n cx rfl [(3, .int y5), (4, .int y5), (0, .ref a_M)] (by decide) rfl dX11_place_286 (pn := 287) rfl ?_
    refine j_goto cx 259 dX11_place_287 rfl ?_
    refine j_sub [2, 0] [(0, .ref a_M), (3, .int y5)] rfl ?_
    exact hB259 _ _ h
set_option maxHeartbeats 4000000 in
set_option maxRecDepth 100000 in
theorem J_X11_place_259 {x : CX} {D : DG} {cyI cyJ cyZ : ClassId} {a_M a_M_square a_M_want a_M_text a_M_read a_M_row a_M_foldSet a_M_foldEdges a_M_foldNeeds a_M_foldYards a_M_least a_M_ways a_M_price a_M_rowBy a_M_columnBy a_M_rowOf a_M_wayBack a_M_slack a_M_isUsed a_M_lifted a_M_freed a_M_path : Nat} {M_wide : Int32} {M_high : Int32} {M_hedges : Int64} {M_hurdles : Int32} {M_wants : Int32} {M_rest : Int32} {M_frozen : Int32} {M_bytes : Int32} {M_position : Int32} {M_tokenAt : Int32} {M_token : Int64} {M_digits : Int32} {M_number : Int32} {M_faultAt : Int32} {M_readMany : Int32} {M_readWide : Int32} {M_readHigh : Int32} {M_nights : Int32} {M_why : Int32} {M_folds : Int32} {M_square : Nat → Int32} {M_want : Nat → Int32} {M_text : Nat → Int32} {M_read : Nat → Int32} {M_row : Nat → Int32} {M_foldSet : Nat → Int32} {M_foldEdges : Nat → Int64} {M_foldNeeds : Nat → Int32} {M_foldYards : Nat → Int32} {M_least : Nat → Int32} {M_ways : Nat → Int32} {M_price : Nat → Int32} {M_rowBy : Nat → Int32} {M_columnBy : Nat → Int32} {M_rowOf : Nat → Int32} {M_wayBack : Nat → Int32} {M_slack : Nat → Int32} {M_isUsed : Nat → Int32} {M_lifted : Nat → Int32} {M_freed : Nat → Int32} {M_path : Nat → Int32} {x3 : Int32} {Q : ((Nat → Int32) × (Nat → Int32) × (Nat → Int32) × (Nat → Int32) × (Nat → Int32) × (Nat → Int32)) → Prop} (cx : Cx x cX11_place 9 RX11 rm_X11_place D [(cyI, .int), (cyJ, .long), (cyZ, .boolean)]) (hR : ∀ (u : (Nat → Int32) × (Nat → Int32) × (Nat → Int32) × (Nat → Int32) × (Nat → Int32) × (Nat → Int32)) (pc : Nat) (lv : List (Nat × Value)), decode cX11_place pc = .ok (.return_, 1) → Q u → J x 0 0 9 (W_Model cyI cyJ cyZ a_M a_M_square a_M_want a_M_text a_M_read a_M_row a_M_foldSet a_M_foldEdges a_M_foldNeeds a_M_foldYards a_M_least a_M_ways a_M_price a_M_rowBy a_M_columnBy a_M_rowOf a_M_wayBack a_M_slack a_M_isUsed a_M_lifted a_M_freed a_M_path M_wide M_high M_hedges M_hurdles M_wants M_rest M_frozen M_bytes M_position M_tokenAt M_token M_digits M_number M_faultAt M_readMany M_readWide M_readHigh M_nights M_why M_folds M_square M_want M_text M_read M_row M_foldSet M_foldEdges M_foldNeeds M_foldYards M_least M_ways M_price u.1 u.2.1 u.2.2.1 u.2.2.2.1 u.2.2.2.2.1 u.2.2.2.2.2 M_lifted M_freed M_path) lv pc []) (h : lp_X11_place_259 Q  M_rowBy M_columnBy M_wayBack M_slack M_isUsed M_rowOf x3) :
    J x 0 0 9 (W_Model cyI cyJ cyZ a_M a_M_square a_M_want a_M_text a_M_read a_M_row a_M_foldSet a_M_foldEdges a_M_foldNeeds a_M_foldYards a_M_least a_M_ways a_M_price a_M_rowBy a_M_columnBy a_M_rowOf a_M_wayBack a_M_slack a_M_isUsed a_M_lifted a_M_freed a_M_path M_wide M_high M_hedges M_hurdles M_wants M_rest M_frozen M_bytes M_position M_tokenAt M_token M_digits M_number M_faultAt M_readMany M_readWide M_readHigh M_nights M_why M_folds M_square M_want M_text M_read M_row M_foldSet M_foldEdges M_foldNeeds M_foldYards M_least M_ways M_price M_rowBy M_columnBy M_rowOf M_wayBack M_slack M_isUsed M_lifted M_freed M_path) [(0, .ref a_M), (3, .int x3)] 259 [] := by
  obtain ⟨I, ⟨n, h0⟩, hb⟩ := h
  revert M_rowOf x3
  induction n using Nat.strongRecOn with
  | _ n ih =>
    intro M_rowOf x3 h0
    exact B_X11_place_259 cx hR (fun _ _ hz => by obtain ⟨n2, hlt, hI⟩ := hz; exact ih n2 hlt hI) (hb n M_rowOf x3 h0)
set_option maxHeartbeats 4000000 in
set_option maxRecDepth 100000 in
theorem J_X11_place_247 {x : CX} {D : DG} {cyI cyJ cyZ : ClassId} {a_M a_M_square a_M_want a_M_text a_M_read a_M_row a_M_foldSet a_M_foldEdges a_M_foldNeeds a_M_foldYards a_M_least a_M_ways a_M_price a_M_rowBy a_M_columnBy a_M_rowOf a_M_wayBack a_M_slack a_M_isUsed a_M_lifted a_M_freed a_M_path : Nat} {M_wide : Int32} {M_high : Int32} {M_hedges : Int64} {M_hurdles : Int32} {M_wants : Int32} {M_rest : Int32} {M_frozen : Int32} {M_bytes : Int32} {M_position : Int32} {M_tokenAt : Int32} {M_token : Int64} {M_digits : Int32} {M_number : Int32} {M_faultAt : Int32} {M_readMany : Int32} {M_readWide : Int32} {M_readHigh : Int32} {M_nights : Int32} {M_why : Int32} {M_folds : Int32} {M_square : Nat → Int32} {M_want : Nat → Int32} {M_text : Nat → Int32} {M_read : Nat → Int32} {M_row : Nat → Int32} {M_foldSet : Nat → Int32} {M_foldEdges : Nat → Int64} {M_foldNeeds : Nat → Int32} {M_foldYards : Nat → Int32} {M_least : Nat → Int32} {M_ways : Nat → Int32} {M_price : Nat → Int32} {M_rowBy : Nat → Int32} {M_columnBy : Nat → Int32} {M_rowOf : Nat → Int32} {M_wayBack : Nat → Int32} {M_slack : Nat → Int32} {M_isUsed : Nat → Int32} {M_lifted : Nat → Int32} {M_freed : Nat → Int32} {M_path : Nat → Int32} {p2 : Int32} {x5 : Int32} {x6 : Int32} {x7 : Int32} {Q : ((Nat → Int32) × (Nat → Int32) × (Nat → Int32) × (Nat → Int32) × (Nat → Int32) × (Nat → Int32)) → Prop} {B38 : (Nat → Int32) → (Nat → Int32) → (Nat → Int32) → (Nat → Int32) → (Nat → Int32) → Int32 → Prop} {B187 : (Nat → Int32) → (Nat → Int32) → (Nat → Int32) → Int32 → Prop} (cx : Cx x cX11_place 9 RX11 rm_X11_place D [(cyI, .int), (cyJ, .long), (cyZ, .boolean)]) (hR : ∀ (u : (Nat → Int32) × (Nat → Int32) × (Nat → Int32) × (Nat → Int32) × (Nat → Int32) × (Nat → Int32)) (pc : Nat) (lv : List (Nat × Value)), decode cX11_place pc = .ok (.return_, 1) → Q u → J x 0 0 9 (W_Model cyI cyJ cyZ a_M a_M_square a_M_want a_M_text a_M_read a_M_row a_M_foldSet a_M_foldEdges a_M_foldNeeds a_M_foldYards a_M_least a_M_ways a_M_price a_M_rowBy a_M_columnBy a_M_rowOf a_M_wayBack a_M_slack a_M_isUsed a_M_lifted a_M_freed a_M_path M_wide M_high M_hedges M_hurdles M_wants M_rest M_frozen M_bytes M_position M_tokenAt M_token M_digits M_number M_faultAt M_readMany M_readWide M_readHigh M_nights M_why M_folds M_square M_want M_text M_read M_row M_foldSet M_foldEdges M_foldNeeds M_foldYards M_least M_ways M_price u.1 u.2.1 u.2.2.1 u.2.2.2.1 u.2.2.2.2.1 u.2.2.2.2.2 M_lifted M_freed M_path) lv pc []) (hB38 : ∀ (M_rowBy : Nat → Int32) (M_columnBy : Nat → Int32) (M_wayBack : Nat → Int32) (M_slack : Nat → Int32) (M_isUsed : Nat → Int32) (x3 : Int32), B38 M_rowBy M_columnBy M_wayBack M_slack M_isUsed x3 → J x 0 0 9 (W_Model cyI cyJ cyZ a_M a_M_square a_M_want a_M_text a_M_read a_M_row a_M_foldSet a_M_foldEdges a_M_foldNeeds a_M_foldYards a_M_least a_M_ways a_M_price a_M_rowBy a_M_columnBy a_M_rowOf a_M_wayBack a_M_slack a_M_isUsed a_M_lifted a_M_freed a_M_path M_wide M_high M_hedges M_hurdles M_wants M_rest M_frozen M_bytes M_position M_tokenAt M_token M_digits M_number M_faultAt M_readMany M_readWide M_readHigh M_nights M_why M_folds M_square M_want M_text M_read M_row M_foldSet M_foldEdges M_foldNeeds M_foldYards M_least M_ways M_price M_rowBy M_columnBy M_rowOf M_wayBack M_slack M_isUsed M_lifted M_freed M_path) [(0, .ref a_M), (2, .int p2), (3, .int x3)] 38 []) (hB187 : ∀ (M_rowBy : Nat → Int32) (M_columnBy : Nat → Int32) (M_slack : Nat → Int32) (x7 : Int32), B187 M_rowBy M_columnBy M_slack x7 → J x 0 0 9 (W_Model cyI cyJ cyZ a_M a_M_square a_M_want a_M_text a_M_read a_M_row a_M_foldSet a_M_foldEdges a_M_foldNeeds a_M_foldYards a_M_least a_M_ways a_M_price a_M_rowBy a_M_columnBy a_M_rowOf a_M_wayBack a_M_slack a_M_isUsed a_M_lifted a_M_freed a_M_path M_wide M_high M_hedges M_hurdles M_wants M_rest M_frozen M_bytes M_position M_tokenAt M_token M_digits M_number M_faultAt M_readMany M_readWide M_readHigh M_nights M_why M_folds M_square M_want M_text M_read M_row M_foldSet M_foldEdges M_foldNeeds M_foldYards M_least M_ways M_price M_rowBy M_columnBy M_rowOf M_wayBack M_slack M_isUsed M_lifted M_freed M_path) [(0, .ref a_M), (2, .int p2), (5, .int x5), (6, .int x6), (7, .int x7)] 187 []) (h : bk_X11_place_247 Q B38 B187 x7 M_rowBy M_columnBy M_slack) :
    J x 0 0 9 (W_Model cyI cyJ cyZ a_M a_M_square a_M_want a_M_text a_M_read a_M_row a_M_foldSet a_M_foldEdges a_M_foldNeeds a_M_foldYards a_M_least a_M_ways a_M_price a_M_rowBy a_M_columnBy a_M_rowOf a_M_wayBack a_M_slack a_M_isUsed a_M_lifted a_M_freed a_M_path M_wide M_high M_hedges M_hurdles M_wants M_rest M_frozen M_bytes M_position M_tokenAt M_token M_digits M_number M_faultAt M_readMany M_readWide M_readHigh M_nights M_why M_folds M_square M_want M_text M_read M_row M_foldSet M_foldEdges M_foldNeeds M_foldYards M_least M_ways M_price M_rowBy M_columnBy M_rowOf M_wayBack M_slack M_isUsed M_lifted M_freed M_path) [(0, .ref a_M), (2, .int p2), (5, .int x5), (6, .int x6), (7, .int x7)] 247 [] := by
  unfold bk_X11_place_247 at h
  obtain ⟨y15, ey15⟩ : ∃ z : Int32, z = x7 + 1 := ⟨_, rfl⟩
  have h := h y15 ey15
  refine j_iinc cx 4 rfl (cst := 1) (by decide) ey15 [(7, .int y15), (0, .ref a_M), (2, .int p2), (5, .int x5), (6, .int x6)] (by decide) rfl dX11_place_247 (pn := 250) rfl ?_
  refine j_goto cx 187 dX11_place_250 rfl ?_
  refine j_sub [1, 2, 3, 4, 0] [(0, .ref a_M), (2, .int p2), (5, .int x5), (6, .int x6), (7, .int y15)] rfl ?_
  exact hB187 _ _ _ _ h
set_option maxHeartbeats 4000000 in
set_option maxRecDepth 100000 in
theorem B_X11_place_187 {x : CX} {D : DG} {cyI cyJ cyZ : ClassId} {a_M a_M_square a_M_want a_M_text a_M_read a_M_row a_M_foldSet a_M_foldEdges a_M_foldNeeds a_M_foldYards a_M_least a_M_ways a_M_price a_M_rowBy a_M_columnBy a_M_rowOf a_M_wayBack a_M_slack a_M_isUsed a_M_lifted a_M_freed a_M_path : Nat} {M_wide : Int32} {M_high : Int32} {M_hedges : Int64} {M_hurdles : Int32} {M_wants : Int32} {M_rest : Int32} {M_frozen : Int32} {M_bytes : Int32} {M_position : Int32} {M_tokenAt : Int32} {M_token : Int64} {M_digits : Int32} {M_number : Int32} {M_faultAt : Int32} {M_readMany : Int32} {M_readWide : Int32} {M_readHigh : Int32} {M_nights : Int32} {M_why : Int32} {M_folds : Int32} {M_square : Nat → Int32} {M_want : Nat → Int32} {M_text : Nat → Int32} {M_read : Nat → Int32} {M_row : Nat → Int32} {M_foldSet : Nat → Int32} {M_foldEdges : Nat → Int64} {M_foldNeeds : Nat → Int32} {M_foldYards : Nat → Int32} {M_least : Nat → Int32} {M_ways : Nat → Int32} {M_price : Nat → Int32} {M_rowBy : Nat → Int32} {M_columnBy : Nat → Int32} {M_rowOf : Nat → Int32} {M_wayBack : Nat → Int32} {M_slack : Nat → Int32} {M_isUsed : Nat → Int32} {M_lifted : Nat → Int32} {M_freed : Nat → Int32} {M_path : Nat → Int32} {p2 : Int32} {x5 : Int32} {x6 : Int32} {x7 : Int32} {Q : ((Nat → Int32) × (Nat → Int32) × (Nat → Int32) × (Nat → Int32) × (Nat → Int32) × (Nat → Int32)) → Prop} {B38 : (Nat → Int32) → (Nat → Int32) → (Nat → Int32) → (Nat → Int32) → (Nat → Int32) → Int32 → Prop} {B187 : (Nat → Int32) → (Nat → Int32) → (Nat → Int32) → Int32 → Prop} (cx : Cx x cX11_place 9 RX11 rm_X11_place D [(cyI, .int), (cyJ, .long), (cyZ, .boolean)]) (hR : ∀ (u : (Nat → Int32) × (Nat → Int32) × (Nat → Int32) × (Nat → Int32) × (Nat → Int32) × (Nat → Int32)) (pc : Nat) (lv : List (Nat × Value)), decode cX11_place pc = .ok (.return_, 1) → Q u → J x 0 0 9 (W_Model cyI cyJ cyZ a_M a_M_square a_M_want a_M_text a_M_read a_M_row a_M_foldSet a_M_foldEdges a_M_foldNeeds a_M_foldYards a_M_least a_M_ways a_M_price a_M_rowBy a_M_columnBy a_M_rowOf a_M_wayBack a_M_slack a_M_isUsed a_M_lifted a_M_freed a_M_path M_wide M_high M_hedges M_hurdles M_wants M_rest M_frozen M_bytes M_position M_tokenAt M_token M_digits M_number M_faultAt M_readMany M_readWide M_readHigh M_nights M_why M_folds M_square M_want M_text M_read M_row M_foldSet M_foldEdges M_foldNeeds M_foldYards M_least M_ways M_price u.1 u.2.1 u.2.2.1 u.2.2.2.1 u.2.2.2.2.1 u.2.2.2.2.2 M_lifted M_freed M_path) lv pc []) (hB38 : ∀ (M_rowBy : Nat → Int32) (M_columnBy : Nat → Int32) (M_wayBack : Nat → Int32) (M_slack : Nat → Int32) (M_isUsed : Nat → Int32) (x3 : Int32), B38 M_rowBy M_columnBy M_wayBack M_slack M_isUsed x3 → J x 0 0 9 (W_Model cyI cyJ cyZ a_M a_M_square a_M_want a_M_text a_M_read a_M_row a_M_foldSet a_M_foldEdges a_M_foldNeeds a_M_foldYards a_M_least a_M_ways a_M_price a_M_rowBy a_M_columnBy a_M_rowOf a_M_wayBack a_M_slack a_M_isUsed a_M_lifted a_M_freed a_M_path M_wide M_high M_hedges M_hurdles M_wants M_rest M_frozen M_bytes M_position M_tokenAt M_token M_digits M_number M_faultAt M_readMany M_readWide M_readHigh M_nights M_why M_folds M_square M_want M_text M_read M_row M_foldSet M_foldEdges M_foldNeeds M_foldYards M_least M_ways M_price M_rowBy M_columnBy M_rowOf M_wayBack M_slack M_isUsed M_lifted M_freed M_path) [(0, .ref a_M), (2, .int p2), (3, .int x3)] 38 []) (hB187 : ∀ (M_rowBy : Nat → Int32) (M_columnBy : Nat → Int32) (M_slack : Nat → Int32) (x7 : Int32), B187 M_rowBy M_columnBy M_slack x7 → J x 0 0 9 (W_Model cyI cyJ cyZ a_M a_M_square a_M_want a_M_text a_M_read a_M_row a_M_foldSet a_M_foldEdges a_M_foldNeeds a_M_foldYards a_M_least a_M_ways a_M_price a_M_rowBy a_M_columnBy a_M_rowOf a_M_wayBack a_M_slack a_M_isUsed a_M_lifted a_M_freed a_M_path M_wide M_high M_hedges M_hurdles M_wants M_rest M_frozen M_bytes M_position M_tokenAt M_token M_digits M_number M_faultAt M_readMany M_readWide M_readHigh M_nights M_why M_folds M_square M_want M_text M_read M_row M_foldSet M_foldEdges M_foldNeeds M_foldYards M_least M_ways M_price M_rowBy M_columnBy M_rowOf M_wayBack M_slack M_isUsed M_lifted M_freed M_path) [(0, .ref a_M), (2, .int p2), (5, .int x5), (6, .int x6), (7, .int x7)] 187 []) (h : bd_X11_place_187 Q B38 B187 p2 x5 x6 M_rowOf M_wayBack M_isUsed M_rowBy M_columnBy M_slack x7) :
    J x 0 0 9 (W_Model cyI cyJ cyZ a_M a_M_square a_M_want a_M_text a_M_read a_M_row a_M_foldSet a_M_foldEdges a_M_foldNeeds a_M_foldYards a_M_least a_M_ways a_M_price a_M_rowBy a_M_columnBy a_M_rowOf a_M_wayBack a_M_slack a_M_isUsed a_M_lifted a_M_freed a_M_path M_wide M_high M_hedges M_hurdles M_wants M_rest M_frozen M_bytes M_position M_tokenAt M_token M_digits M_number M_faultAt M_readMany M_readWide M_readHigh M_nights M_why M_folds M_square M_want M_text M_read M_row M_foldSet M_foldEdges M_foldNeeds M_foldYards M_least M_ways M_price M_rowBy M_columnBy M_rowOf M_wayBack M_slack M_isUsed M_lifted M_freed M_path) [(0, .ref a_M), (2, .int p2), (5, .int x5), (6, .int x6), (7, .int x7)] 187 [] := by
  unfold bd_X11_place_187 at h
  refine j_iload cx 4 rfl dX11_place_187 (pn := 189) rfl ?_
  refine j_iload_n cx 1 rfl rfl dX11_place_189 (pn := 190) rfl ?_
  refine j_icmp_gt cx 253 dX11_place_190 (pn := 193) rfl rfl (fun c11 => ?_) (fun c11 => ?_)
  · have h := h.1 c11
    refine j_iload cx 3 rfl dX11_place_253 (pn := 255) rfl ?_
    refine j_istore_n cx rfl [(3, .int x6), (0, .ref a_M), (2, .int p2), (5, .int x5), (6, .int x6), (7, .int x7)] (by decide) rfl dX11_place_255 (pn := 256) rfl ?_
    refine j_goto cx 38 dX11_place_256 rfl ?_
    refine j_sub [1, 2, 0] [(0, .ref a_M), (2, .int p2), (3, .int x6)] rfl ?_
    exact hB38 _ _ _ _ _ _ h
  · have h := h.2 c11
    refine j_aload_n cx 0 rfl rfl dX11_place_193 (pn := 194) rfl ?_
    refine j_get cx inGX11 0 rfl rfl 37 (by decide) q_fl_X11_73 rfl rfl dX11_place_194 (pn := 197) rfl ?_
    refine j_iload cx 4 rfl dX11_place_197 (pn := 199) rfl ?_
    refine j_zald cx 18 2 rfl rfl h.1 dX11_place_199 (pn := 200) rfl ?_
    have h := h.2
    refine j_if_eq cx 235 dX11_place_200 (pn := 203) rfl rfl (fun c12 => ?_) (fun c12 => ?_)
    · have h := h.1 c12
      refine j_aload_n cx 0 rfl rfl dX11_place_235 (pn := 236) rfl ?_
      refine j_get cx inGX11 0 rfl rfl 36 (by decide) q_fl_X11_70 rfl rfl dX11_place_236 (pn := 239) rfl ?_
      refine j_iload cx 4 rfl dX11_place_239 (pn := 241) rfl ?_
      refine j_dup2 cx rfl rfl dX11_place_241 (pn := 242) rfl ?_
      refine j_iald cx 17 0 rfl rfl h.1 dX11_place_242 (pn := 243) rfl ?_
      have h := h.2
      refine j_iload cx 2 rfl dX11_place_243 (pn := 245) rfl ?_
      refine j_isub cx dX11_place_245 (pn := 246) rfl ?_
      refine j_topi (fun y13 ey13 => ?_)
      have h := h y13 ey13
      have hin := h.1
      obtain ⟨f14, ef14⟩ : ∃ z, z = upd M_slack x7.toNatClampNeg y13 := ⟨_, rfl⟩
      have h := h.2 f14 ef14
      refine j_iast cx 17 0 rfl rfl hin (W_Model cyI cyJ cyZ a_M a_M_square a_M_want a_M_text a_M_read a_M_row a_M_foldSet a_M_foldEdges a_M_foldNeeds a_M_foldYards a_M_least a_M_ways a_M_price a_M_rowBy a_M_columnBy a_M_rowOf a_M_wayBack a_M_slack a_M_isUsed a_M_lifted a_M_freed a_M_path M_wide M_high M_hedges M_hurdles M_wants M_rest M_frozen M_bytes M_position M_tokenAt M_token M_digits M_number M_faultAt M_readMany M_readWide M_readHigh M_nights M_why M_folds M_square M_want M_text M_read M_row M_foldSet M_foldEdges M_foldNeeds M_foldYards M_least M_ways M_price M_rowBy M_columnBy M_rowOf M_wayBack f14 M_isUsed M_lifted M_freed M_path) (by subst ef14; rfl) dX11_place_246 (pn := 247) rfl ?_
      exact J_X11_place_247 cx hR hB38 hB187 h
    · have h := h.2 c12
      refine j_aload_n cx 0 rfl rfl dX11_place_203 (pn := 204) rfl ?_
      refine j_get cx inGX11 0 rfl rfl 32 (by decide) q_fl_X11_58 rfl rfl dX11_place_204 (pn := 207) rfl ?_
      refine j_aload_n cx 0 rfl rfl dX11_place_207 (pn := 208) rfl ?_
      refine j_get cx inGX11 0 rfl rfl 34 (by decide) q_fl_X11_64 rfl rfl dX11_place_208 (pn := 211) rfl ?_
      refine j_iload cx 4 rfl dX11_place_211 (pn := 213) rfl ?_
      refine j_iald cx 15 0 rfl rfl h.1 dX11_place_213 (pn := 214) rfl ?_
      have h := h.2
      refine j_dup2 cx rfl rfl dX11_place_214 (pn := 215) rfl ?_
      refine j_iald cx 13 0 rfl rfl h.1 dX11_place_215 (pn := 216) rfl ?_
      have h := h.2
      refine j_iload cx 2 rfl dX11_place_216 (pn := 218) rfl ?_
      refine j_iadd cx dX11_place_218 (pn := 219) rfl ?_
      refine j_topi (fun y16 ey16 => ?_)
      have h := h y16 ey16
      have hin := h.1
      obtain ⟨f17, ef17⟩ : ∃ z, z = upd M_rowBy (M_rowOf x7.toNatClampNeg).toNatClampNeg y16 := ⟨_, rfl⟩
      have h := h.2 f17 ef17
      refine j_iast cx 13 0 rfl rfl hin (W_Model cyI cyJ cyZ a_M a_M_square a_M_want a_M_text a_M_read a_M_row a_M_foldSet a_M_foldEdges a_M_foldNeeds a_M_foldYards a_M_least a_M_ways a_M_price a_M_rowBy a_M_columnBy a_M_rowOf a_M_wayBack a_M_slack a_M_isUsed a_M_lifted a_M_freed a_M_path M_wide M_high M_hedges M_hurdles M_wants M_rest M_frozen M_bytes M_position M_tokenAt M_token M_digits M_number M_faultAt M_readMany M_readWide M_readHigh M_nights M_why M_folds M_square M_want M_text M_read M_row M_foldSet M_foldEdges M_foldNeeds M_foldYards M_least M_ways M_price f17 M_columnBy M_rowOf M_wayBack M_slack M_isUsed M_lifted M_freed M_path) (by subst ef17; rfl) dX11_place_219 (pn := 220) rfl ?_
      refine j_aload_n cx 0 rfl rfl dX11_place_220 (pn := 221) rfl ?_
      refine j_get cx inGX11 0 rfl rfl 33 (by decide) q_fl_X11_61 rfl rfl dX11_place_221 (pn := 224) rfl ?_
      refine j_iload cx 4 rfl dX11_place_224 (pn := 226) rfl ?_
      refine j_dup2 cx rfl rfl dX11_place_226 (pn := 227) rfl ?_
      refine j_iald cx 14 0 rfl rfl h.1 dX11_place_227 (pn := 228) rfl ?_
      have h := h.2
      refine j_iload cx 2 rfl dX11_place_228 (pn := 230) rfl ?_
      refine j_isub cx dX11_place_230 (pn := 231) rfl ?_
      refine j_topi (fun y18 ey18 => ?_)
      have h := h y18 ey18
      have hin := h.1
      obtain ⟨f19, ef19⟩ : ∃ z, z = upd M_columnBy x7.toNatClampNeg y18 := ⟨_, rfl⟩
      have h := h.2 f19 ef19
      refine j_iast cx 14 0 rfl rfl hin (W_Model cyI cyJ cyZ a_M a_M_square a_M_want a_M_text a_M_read a_M_row a_M_foldSet a_M_foldEdges a_M_foldNeeds a_M_foldYards a_M_least a_M_ways a_M_price a_M_rowBy a_M_columnBy a_M_rowOf a_M_wayBack a_M_slack a_M_isUsed a_M_lifted a_M_freed a_M_path M_wide M_high M_hedges M_hurdles M_wants M_rest M_frozen M_bytes M_position M_tokenAt M_token M_digits M_number M_faultAt M_readMany M_readWide M_readHigh M_nights M_why M_folds M_square M_want M_text M_read M_row M_foldSet M_foldEdges M_foldNeeds M_foldYards M_least M_ways M_price f17 f19 M_rowOf M_wayBack M_slack M_isUsed M_lifted M_freed M_path) (by subst ef19; rfl) dX11_place_231 (pn := 232) rfl ?_
      refine j_goto cx 247 dX11_place_232 rfl ?_
      exact J_X11_place_247 cx hR hB38 hB187 h
set_option maxHeartbeats 4000000 in
set_option maxRecDepth 100000 in
theorem J_X11_place_187 {x : CX} {D : DG} {cyI cyJ cyZ : ClassId} {a_M a_M_square a_M_want a_M_text a_M_read a_M_row a_M_foldSet a_M_foldEdges a_M_foldNeeds a_M_foldYards a_M_least a_M_ways a_M_price a_M_rowBy a_M_columnBy a_M_rowOf a_M_wayBack a_M_slack a_M_isUsed a_M_lifted a_M_freed a_M_path : Nat} {M_wide : Int32} {M_high : Int32} {M_hedges : Int64} {M_hurdles : Int32} {M_wants : Int32} {M_rest : Int32} {M_frozen : Int32} {M_bytes : Int32} {M_position : Int32} {M_tokenAt : Int32} {M_token : Int64} {M_digits : Int32} {M_number : Int32} {M_faultAt : Int32} {M_readMany : Int32} {M_readWide : Int32} {M_readHigh : Int32} {M_nights : Int32} {M_why : Int32} {M_folds : Int32} {M_square : Nat → Int32} {M_want : Nat → Int32} {M_text : Nat → Int32} {M_read : Nat → Int32} {M_row : Nat → Int32} {M_foldSet : Nat → Int32} {M_foldEdges : Nat → Int64} {M_foldNeeds : Nat → Int32} {M_foldYards : Nat → Int32} {M_least : Nat → Int32} {M_ways : Nat → Int32} {M_price : Nat → Int32} {M_rowBy : Nat → Int32} {M_columnBy : Nat → Int32} {M_rowOf : Nat → Int32} {M_wayBack : Nat → Int32} {M_slack : Nat → Int32} {M_isUsed : Nat → Int32} {M_lifted : Nat → Int32} {M_freed : Nat → Int32} {M_path : Nat → Int32} {p2 : Int32} {x5 : Int32} {x6 : Int32} {x7 : Int32} {Q : ((Nat → Int32) × (Nat → Int32) × (Nat → Int32) × (Nat → Int32) × (Nat → Int32) × (Nat → Int32)) → Prop} {B38 : (Nat → Int32) → (Nat → Int32) → (Nat → Int32) → (Nat → Int32) → (Nat → Int32) → Int32 → Prop} (cx : Cx x cX11_place 9 RX11 rm_X11_place D [(cyI, .int), (cyJ, .long), (cyZ, .boolean)]) (hR : ∀ (u : (Nat → Int32) × (Nat → Int32) × (Nat → Int32) × (Nat → Int32) × (Nat → Int32) × (Nat → Int32)) (pc : Nat) (lv : List (Nat × Value)), decode cX11_place pc = .ok (.return_, 1) → Q u → J x 0 0 9 (W_Model cyI cyJ cyZ a_M a_M_square a_M_want a_M_text a_M_read a_M_row a_M_foldSet a_M_foldEdges a_M_foldNeeds a_M_foldYards a_M_least a_M_ways a_M_price a_M_rowBy a_M_columnBy a_M_rowOf a_M_wayBack a_M_slack a_M_isUsed a_M_lifted a_M_freed a_M_path M_wide M_high M_hedges M_hurdles M_wants M_rest M_frozen M_bytes M_position M_tokenAt M_token M_digits M_number M_faultAt M_readMany M_readWide M_readHigh M_nights M_why M_folds M_square M_want M_text M_read M_row M_foldSet M_foldEdges M_foldNeeds M_foldYards M_least M_ways M_price u.1 u.2.1 u.2.2.1 u.2.2.2.1 u.2.2.2.2.1 u.2.2.2.2.2 M_lifted M_freed M_path) lv pc []) (hB38 : ∀ (M_rowBy : Nat → Int32) (M_columnBy : Nat → Int32) (M_wayBack : Nat → Int32) (M_slack : Nat → Int32) (M_isUsed : Nat → Int32) (x3 : Int32), B38 M_rowBy M_columnBy M_wayBack M_slack M_isUsed x3 → J x 0 0 9 (W_Model cyI cyJ cyZ a_M a_M_square a_M_want a_M_text a_M_read a_M_row a_M_foldSet a_M_foldEdges a_M_foldNeeds a_M_foldYards a_M_least a_M_ways a_M_price a_M_rowBy a_M_columnBy a_M_rowOf a_M_wayBack a_M_slack a_M_isUsed a_M_lifted a_M_freed a_M_path M_wide M_high M_hedges M_hurdles M_wants M_rest M_frozen M_bytes M_position M_tokenAt M_token M_digits M_number M_faultAt M_readMany M_readWide M_readHigh M_nights M_why M_folds M_square M_want M_text M_read M_row M_foldSet M_foldEdges M_foldNeeds M_foldYards M_least M_ways M_price M_rowBy M_columnBy M_rowOf M_wayBack M_slack M_isUsed M_lifted M_freed M_path) [(0, .ref a_M), (2, .int p2), (3, .int x3)] 38 []) (h : lp_X11_place_187 Q B38 p2 x5 x6 M_rowOf M_wayBack M_isUsed M_rowBy M_columnBy M_slack x7) :
    J x 0 0 9 (W_Model cyI cyJ cyZ a_M a_M_square a_M_want a_M_text a_M_read a_M_row a_M_foldSet a_M_foldEdges a_M_foldNeeds a_M_foldYards a_M_least a_M_ways a_M_price a_M_rowBy a_M_columnBy a_M_rowOf a_M_wayBack a_M_slack a_M_isUsed a_M_lifted a_M_freed a_M_path M_wide M_high M_hedges M_hurdles M_wants M_rest M_frozen M_bytes M_position M_tokenAt M_token M_digits M_number M_faultAt M_readMany M_readWide M_readHigh M_nights M_why M_folds M_square M_want M_text M_read M_row M_foldSet M_foldEdges M_foldNeeds M_foldYards M_least M_ways M_price M_rowBy M_columnBy M_rowOf M_wayBack M_slack M_isUsed M_lifted M_freed M_path) [(0, .ref a_M), (2, .int p2), (5, .int x5), (6, .int x6), (7, .int x7)] 187 [] := by
  obtain ⟨I, ⟨n, h0⟩, hb⟩ := h
  revert M_rowBy M_columnBy M_slack x7
  induction n using Nat.strongRecOn with
  | _ n ih =>
    intro M_rowBy M_columnBy M_slack x7 h0
    exact B_X11_place_187 cx hR hB38 (fun _ _ _ _ hz => by obtain ⟨n2, hlt, hI⟩ := hz; exact ih n2 hlt hI) (hb n M_rowBy M_columnBy M_slack x7 h0)
set_option maxHeartbeats 4000000 in
set_option maxRecDepth 100000 in
theorem J_X11_place_178 {x : CX} {D : DG} {cyI cyJ cyZ : ClassId} {a_M a_M_square a_M_want a_M_text a_M_read a_M_row a_M_foldSet a_M_foldEdges a_M_foldNeeds a_M_foldYards a_M_least a_M_ways a_M_price a_M_rowBy a_M_columnBy a_M_rowOf a_M_wayBack a_M_slack a_M_isUsed a_M_lifted a_M_freed a_M_path : Nat} {M_wide : Int32} {M_high : Int32} {M_hedges : Int64} {M_hurdles : Int32} {M_wants : Int32} {M_rest : Int32} {M_frozen : Int32} {M_bytes : Int32} {M_position : Int32} {M_tokenAt : Int32} {M_token : Int64} {M_digits : Int32} {M_number : Int32} {M_faultAt : Int32} {M_readMany : Int32} {M_readWide : Int32} {M_readHigh : Int32} {M_nights : Int32} {M_why : Int32} {M_folds : Int32} {M_square : Nat → Int32} {M_want : Nat → Int32} {M_text : Nat → Int32} {M_read : Nat → Int32} {M_row : Nat → Int32} {M_foldSet : Nat → Int32} {M_foldEdges : Nat → Int64} {M_foldNeeds : Nat → Int32} {M_foldYards : Nat → Int32} {M_least : Nat → Int32} {M_ways : Nat → Int32} {M_price : Nat → Int32} {M_rowBy : Nat → Int32} {M_columnBy : Nat → Int32} {M_rowOf : Nat → Int32} {M_wayBack : Nat → Int32} {M_slack : Nat → Int32} {M_isUsed : Nat → Int32} {M_lifted : Nat → Int32} {M_freed : Nat → Int32} {M_path : Nat → Int32} {p2 : Int32} {x3 : Int32} {x4 : Int32} {x5 : Int32} {x6 : Int32} {x7 : Int32} {Q : ((Nat → Int32) × (Nat → Int32) × (Nat → Int32) × (Nat → Int32) × (Nat → Int32) × (Nat → Int32)) → Prop} {B38 : (Nat → Int32) → (Nat → Int32) → (Nat → Int32) → (Nat → Int32) → (Nat → Int32) → Int32 → Prop} {B73 : (Nat → Int32) → (Nat → Int32) → Int32 → Int32 → Int32 → Prop} (cx : Cx x cX11_place 9 RX11 rm_X11_place D [(cyI, .int), (cyJ, .long), (cyZ, .boolean)]) (hR : ∀ (u : (Nat → Int32) × (Nat → Int32) × (Nat → Int32) × (Nat → Int32) × (Nat → Int32) × (Nat → Int32)) (pc : Nat) (lv : List (Nat × Value)), decode cX11_place pc = .ok (.return_, 1) → Q u → J x 0 0 9 (W_Model cyI cyJ cyZ a_M a_M_square a_M_want a_M_text a_M_read a_M_row a_M_foldSet a_M_foldEdges a_M_foldNeeds a_M_foldYards a_M_least a_M_ways a_M_price a_M_rowBy a_M_columnBy a_M_rowOf a_M_wayBack a_M_slack a_M_isUsed a_M_lifted a_M_freed a_M_path M_wide M_high M_hedges M_hurdles M_wants M_rest M_frozen M_bytes M_position M_tokenAt M_token M_digits M_number M_faultAt M_readMany M_readWide M_readHigh M_nights M_why M_folds M_square M_want M_text M_read M_row M_foldSet M_foldEdges M_foldNeeds M_foldYards M_least M_ways M_price u.1 u.2.1 u.2.2.1 u.2.2.2.1 u.2.2.2.2.1 u.2.2.2.2.2 M_lifted M_freed M_path) lv pc []) (hB38 : ∀ (M_rowBy : Nat → Int32) (M_columnBy : Nat → Int32) (M_wayBack : Nat → Int32) (M_slack : Nat → Int32) (M_isUsed : Nat → Int32) (x3 : Int32), B38 M_rowBy M_columnBy M_wayBack M_slack M_isUsed x3 → J x 0 0 9 (W_Model cyI cyJ cyZ a_M a_M_square a_M_want a_M_text a_M_read a_M_row a_M_foldSet a_M_foldEdges a_M_foldNeeds a_M_foldYards a_M_least a_M_ways a_M_price a_M_rowBy a_M_columnBy a_M_rowOf a_M_wayBack a_M_slack a_M_isUsed a_M_lifted a_M_freed a_M_path M_wide M_high M_hedges M_hurdles M_wants M_rest M_frozen M_bytes M_position M_tokenAt M_token M_digits M_number M_faultAt M_readMany M_readWide M_readHigh M_nights M_why M_folds M_square M_want M_text M_read M_row M_foldSet M_foldEdges M_foldNeeds M_foldYards M_least M_ways M_price M_rowBy M_columnBy M_rowOf M_wayBack M_slack M_isUsed M_lifted M_freed M_path) [(0, .ref a_M), (2, .int p2), (3, .int x3)] 38 []) (hB73 : ∀ (M_wayBack : Nat → Int32) (M_slack : Nat → Int32) (x5 : Int32) (x6 : Int32) (x7 : Int32), B73 M_wayBack M_slack x5 x6 x7 → J x 0 0 9 (W_Model cyI cyJ cyZ a_M a_M_square a_M_want a_M_text a_M_read a_M_row a_M_foldSet a_M_foldEdges a_M_foldNeeds a_M_foldYards a_M_least a_M_ways a_M_price a_M_rowBy a_M_columnBy a_M_rowOf a_M_wayBack a_M_slack a_M_isUsed a_M_lifted a_M_freed a_M_path M_wide M_high M_hedges M_hurdles M_wants M_rest M_frozen M_bytes M_position M_tokenAt M_token M_digits M_number M_faultAt M_readMany M_readWide M_readHigh M_nights M_why M_folds M_square M_want M_text M_read M_row M_foldSet M_foldEdges M_foldNeeds M_foldYards M_least M_ways M_price M_rowBy M_columnBy M_rowOf M_wayBack M_slack M_isUsed M_lifted M_freed M_path) [(0, .ref a_M), (2, .int p2), (3, .int x3), (4, .int x4), (5, .int x5), (6, .int x6), (7, .int x7)] 73 []) (h : bk_X11_place_178 Q B38 B73 x5 x6 x7 M_wayBack M_slack) :
    J x 0 0 9 (W_Model cyI cyJ cyZ a_M a_M_square a_M_want a_M_text a_M_read a_M_row a_M_foldSet a_M_foldEdges a_M_foldNeeds a_M_foldYards a_M_least a_M_ways a_M_price a_M_rowBy a_M_columnBy a_M_rowOf a_M_wayBack a_M_slack a_M_isUsed a_M_lifted a_M_freed a_M_path M_wide M_high M_hedges M_hurdles M_wants M_rest M_frozen M_bytes M_position M_tokenAt M_token M_digits M_number M_faultAt M_readMany M_readWide M_readHigh M_nights M_why M_folds M_square M_want M_text M_read M_row M_foldSet M_foldEdges M_foldNeeds M_foldYards M_least M_ways M_price M_rowBy M_columnBy M_rowOf M_wayBack M_slack M_isUsed M_lifted M_freed M_path) [(0, .ref a_M), (2, .int p2), (3, .int x3), (4, .int x4), (5, .int x5), (6, .int x6), (7, .int x7)] 178 [] := by
  unfold bk_X11_place_178 at h
  obtain ⟨y21, ey21⟩ : ∃ z : Int32, z = x7 + 1 := ⟨_, rfl⟩
  have h := h y21 ey21
  refine j_iinc cx 6 rfl (cst := 1) (by decide) ey21 [(7, .int y21), (0, .ref a_M), (2, .int p2), (3, .int x3), (4, .int x4), (5, .int x5), (6, .int x6)] (by decide) rfl dX11_place_178 (pn := 181) rfl ?_
  refine j_goto cx 73 dX11_place_181 rfl ?_
  refine j_sub [1, 2, 3, 4, 5, 6, 0] [(0, .ref a_M), (2, .int p2), (3, .int x3), (4, .int x4), (5, .int x5), (6, .int x6), (7, .int y21)] rfl ?_
  exact hB73 _ _ _ _ _ h
set_option maxHeartbeats 4000000 in
set_option maxRecDepth 100000 in
theorem J_X11_place_153 {x : CX} {D : DG} {cyI cyJ cyZ : ClassId} {a_M a_M_square a_M_want a_M_text a_M_read a_M_row a_M_foldSet a_M_foldEdges a_M_foldNeeds a_M_foldYards a_M_least a_M_ways a_M_price a_M_rowBy a_M_columnBy a_M_rowOf a_M_wayBack a_M_slack a_M_isUsed a_M_lifted a_M_freed a_M_path : Nat} {M_wide : Int32} {M_high : Int32} {M_hedges : Int64} {M_hurdles : Int32} {M_wants : Int32} {M_rest : Int32} {M_frozen : Int32} {M_bytes : Int32} {M_position : Int32} {M_tokenAt : Int32} {M_token : Int64} {M_digits : Int32} {M_number : Int32} {M_faultAt : Int32} {M_readMany : Int32} {M_readWide : Int32} {M_readHigh : Int32} {M_nights : Int32} {M_why : Int32} {M_folds : Int32} {M_square : Nat → Int32} {M_want : Nat → Int32} {M_text : Nat → Int32} {M_read : Nat → Int32} {M_row : Nat → Int32} {M_foldSet : Nat → Int32} {M_foldEdges : Nat → Int64} {M_foldNeeds : Nat → Int32} {M_foldYards : Nat → Int32} {M_least : Nat → Int32} {M_ways : Nat → Int32} {M_price : Nat → Int32} {M_rowBy : Nat → Int32} {M_columnBy : Nat → Int32} {M_rowOf : Nat → Int32} {M_wayBack : Nat → Int32} {M_slack : Nat → Int32} {M_isUsed : Nat → Int32} {M_lifted : Nat → Int32} {M_freed : Nat → Int32} {M_path : Nat → Int32} {p2 : Int32} {x3 : Int32} {x4 : Int32} {x5 : Int32} {x6 : Int32} {x7 : Int32} {Q : ((Nat → Int32) × (Nat → Int32) × (Nat → Int32) × (Nat → Int32) × (Nat → Int32) × (Nat → Int32)) → Prop} {B38 : (Nat → Int32) → (Nat → Int32) → (Nat → Int32) → (Nat → Int32) → (Nat → Int32) → Int32 → Prop} {B73 : (Nat → Int32) → (Nat → Int32) → Int32 → Int32 → Int32 → Prop} (cx : Cx x cX11_place 9 RX11 rm_X11_place D [(cyI, .int), (cyJ, .long), (cyZ, .boolean)]) (hR : ∀ (u : (Nat → Int32) × (Nat → Int32) × (Nat → Int32) × (Nat → Int32) × (Nat → Int32) × (Nat → Int32)) (pc : Nat) (lv : List (Nat × Value)), decode cX11_place pc = .ok (.return_, 1) → Q u → J x 0 0 9 (W_Model cyI cyJ cyZ a_M a_M_square a_M_want a_M_text a_M_read a_M_row a_M_foldSet a_M_foldEdges a_M_foldNeeds a_M_foldYards a_M_least a_M_ways a_M_price a_M_rowBy a_M_columnBy a_M_rowOf a_M_wayBack a_M_slack a_M_isUsed a_M_lifted a_M_freed a_M_path M_wide M_high M_hedges M_hurdles M_wants M_rest M_frozen M_bytes M_position M_tokenAt M_token M_digits M_number M_faultAt M_readMany M_readWide M_readHigh M_nights M_why M_folds M_square M_want M_text M_read M_row M_foldSet M_foldEdges M_foldNeeds M_foldYards M_least M_ways M_price u.1 u.2.1 u.2.2.1 u.2.2.2.1 u.2.2.2.2.1 u.2.2.2.2.2 M_lifted M_freed M_path) lv pc []) (hB38 : ∀ (M_rowBy : Nat → Int32) (M_columnBy : Nat → Int32) (M_wayBack : Nat → Int32) (M_slack : Nat → Int32) (M_isUsed : Nat → Int32) (x3 : Int32), B38 M_rowBy M_columnBy M_wayBack M_slack M_isUsed x3 → J x 0 0 9 (W_Model cyI cyJ cyZ a_M a_M_square a_M_want a_M_text a_M_read a_M_row a_M_foldSet a_M_foldEdges a_M_foldNeeds a_M_foldYards a_M_least a_M_ways a_M_price a_M_rowBy a_M_columnBy a_M_rowOf a_M_wayBack a_M_slack a_M_isUsed a_M_lifted a_M_freed a_M_path M_wide M_high M_hedges M_hurdles M_wants M_rest M_frozen M_bytes M_position M_tokenAt M_token M_digits M_number M_faultAt M_readMany M_readWide M_readHigh M_nights M_why M_folds M_square M_want M_text M_read M_row M_foldSet M_foldEdges M_foldNeeds M_foldYards M_least M_ways M_price M_rowBy M_columnBy M_rowOf M_wayBack M_slack M_isUsed M_lifted M_freed M_path) [(0, .ref a_M), (2, .int p2), (3, .int x3)] 38 []) (hB73 : ∀ (M_wayBack : Nat → Int32) (M_slack : Nat → Int32) (x5 : Int32) (x6 : Int32) (x7 : Int32), B73 M_wayBack M_slack x5 x6 x7 → J x 0 0 9 (W_Model cyI cyJ cyZ a_M a_M_square a_M_want a_M_text a_M_read a_M_row a_M_foldSet a_M_foldEdges a_M_foldNeeds a_M_foldYards a_M_least a_M_ways a_M_price a_M_rowBy a_M_columnBy a_M_rowOf a_M_wayBack a_M_slack a_M_isUsed a_M_lifted a_M_freed a_M_path M_wide M_high M_hedges M_hurdles M_wants M_rest M_frozen M_bytes M_position M_tokenAt M_token M_digits M_number M_faultAt M_readMany M_readWide M_readHigh M_nights M_why M_folds M_square M_want M_text M_read M_row M_foldSet M_foldEdges M_foldNeeds M_foldYards M_least M_ways M_price M_rowBy M_columnBy M_rowOf M_wayBack M_slack M_isUsed M_lifted M_freed M_path) [(0, .ref a_M), (2, .int p2), (3, .int x3), (4, .int x4), (5, .int x5), (6, .int x6), (7, .int x7)] 73 []) (h : bk_X11_place_153 Q B38 B73 x5 x6 x7 M_wayBack M_slack) :
    J x 0 0 9 (W_Model cyI cyJ cyZ a_M a_M_square a_M_want a_M_text a_M_read a_M_row a_M_foldSet a_M_foldEdges a_M_foldNeeds a_M_foldYards a_M_least a_M_ways a_M_price a_M_rowBy a_M_columnBy a_M_rowOf a_M_wayBack a_M_slack a_M_isUsed a_M_lifted a_M_freed a_M_path M_wide M_high M_hedges M_hurdles M_wants M_rest M_frozen M_bytes M_position M_tokenAt M_token M_digits M_number M_faultAt M_readMany M_readWide M_readHigh M_nights M_why M_folds M_square M_want M_text M_read M_row M_foldSet M_foldEdges M_foldNeeds M_foldYards M_least M_ways M_price M_rowBy M_columnBy M_rowOf M_wayBack M_slack M_isUsed M_lifted M_freed M_path) [(0, .ref a_M), (2, .int p2), (3, .int x3), (4, .int x4), (5, .int x5), (6, .int x6), (7, .int x7)] 153 [] := by
  unfold bk_X11_place_153 at h
  refine j_aload_n cx 0 rfl rfl dX11_place_153 (pn := 154) rfl ?_
  refine j_get cx inGX11 0 rfl rfl 36 (by decide) q_fl_X11_70 rfl rfl dX11_place_154 (pn := 157) rfl ?_
  refine j_iload cx 6 rfl dX11_place_157 (pn := 159) rfl ?_
  refine j_iald cx 17 0 rfl rfl h.1 dX11_place_159 (pn := 160) rfl ?_
  have h := h.2
  refine j_iload cx 4 rfl dX11_place_160 (pn := 162) rfl ?_
  refine j_icmp_ge cx 178 dX11_place_162 (pn := 165) rfl rfl (fun c24 => ?_) (fun c24 => ?_)
  · have h := h.1 c24
    exact J_X11_place_178 cx hR hB38 hB73 h
  · have h := h.2 c24
    refine j_aload_n cx 0 rfl rfl dX11_place_165 (pn := 166) rfl ?_
    refine j_get cx inGX11 0 rfl rfl 36 (by decide) q_fl_X11_70 rfl rfl dX11_place_166 (pn := 169) rfl ?_
    refine j_iload cx 6 rfl dX11_place_169 (pn := 171) rfl ?_
    refine j_iald cx 17 0 rfl rfl h.1 dX11_place_171 (pn := 172) rfl ?_
    have h := h.2
    refine j_topi (fun y25 ey25 => ?_)
    have h := h y25 ey25
    refine j_istore cx [(5, .int y25), (0, .ref a_M), (2, .int p2), (3, .int x3), (4, .int x4), (6, .int x6), (7, .int x7)] (by decide) rfl dX11_place_172 (pn := 174) rfl ?_
    refine j_iload cx 6 rfl dX11_place_174 (pn := 176) rfl ?_
    refine j_istore cx [(6, .int x7), (5, .int y25), (0, .ref a_M), (2, .int p2), (3, .int x3), (4, .int x4), (7, .int x7)] (by decide) rfl dX11_place_176 (pn := 178) rfl ?_
    refine j_sub [2, 3, 4, 5, 1, 0, 6] [(0, .ref a_M), (2, .int p2), (3, .int x3), (4, .int x4), (5, .int y25), (6, .int x7), (7, .int x7)] rfl ?_
    exact J_X11_place_178 cx hR hB38 hB73 h
set_option maxHeartbeats 4000000 in
set_option maxRecDepth 100000 in
theorem B_X11_place_73 {x : CX} {D : DG} {cyI cyJ cyZ : ClassId} {a_M a_M_square a_M_want a_M_text a_M_read a_M_row a_M_foldSet a_M_foldEdges a_M_foldNeeds a_M_foldYards a_M_least a_M_ways a_M_price a_M_rowBy a_M_columnBy a_M_rowOf a_M_wayBack a_M_slack a_M_isUsed a_M_lifted a_M_freed a_M_path : Nat} {M_wide : Int32} {M_high : Int32} {M_hedges : Int64} {M_hurdles : Int32} {M_wants : Int32} {M_rest : Int32} {M_frozen : Int32} {M_bytes : Int32} {M_position : Int32} {M_tokenAt : Int32} {M_token : Int64} {M_digits : Int32} {M_number : Int32} {M_faultAt : Int32} {M_readMany : Int32} {M_readWide : Int32} {M_readHigh : Int32} {M_nights : Int32} {M_why : Int32} {M_folds : Int32} {M_square : Nat → Int32} {M_want : Nat → Int32} {M_text : Nat → Int32} {M_read : Nat → Int32} {M_row : Nat → Int32} {M_foldSet : Nat → Int32} {M_foldEdges : Nat → Int64} {M_foldNeeds : Nat → Int32} {M_foldYards : Nat → Int32} {M_least : Nat → Int32} {M_ways : Nat → Int32} {M_price : Nat → Int32} {M_rowBy : Nat → Int32} {M_columnBy : Nat → Int32} {M_rowOf : Nat → Int32} {M_wayBack : Nat → Int32} {M_slack : Nat → Int32} {M_isUsed : Nat → Int32} {M_lifted : Nat → Int32} {M_freed : Nat → Int32} {M_path : Nat → Int32} {p2 : Int32} {x3 : Int32} {x4 : Int32} {x5 : Int32} {x6 : Int32} {x7 : Int32} {Q : ((Nat → Int32) × (Nat → Int32) × (Nat → Int32) × (Nat → Int32) × (Nat → Int32) × (Nat → Int32)) → Prop} {B38 : (Nat → Int32) → (Nat → Int32) → (Nat → Int32) → (Nat → Int32) → (Nat → Int32) → Int32 → Prop} {B73 : (Nat → Int32) → (Nat → Int32) → Int32 → Int32 → Int32 → Prop} (cx : Cx x cX11_place 9 RX11 rm_X11_place D [(cyI, .int), (cyJ, .long), (cyZ, .boolean)]) (hR : ∀ (u : (Nat → Int32) × (Nat → Int32) × (Nat → Int32) × (Nat → Int32) × (Nat → Int32) × (Nat → Int32)) (pc : Nat) (lv : List (Nat × Value)), decode cX11_place pc = .ok (.return_, 1) → Q u → J x 0 0 9 (W_Model cyI cyJ cyZ a_M a_M_square a_M_want a_M_text a_M_read a_M_row a_M_foldSet a_M_foldEdges a_M_foldNeeds a_M_foldYards a_M_least a_M_ways a_M_price a_M_rowBy a_M_columnBy a_M_rowOf a_M_wayBack a_M_slack a_M_isUsed a_M_lifted a_M_freed a_M_path M_wide M_high M_hedges M_hurdles M_wants M_rest M_frozen M_bytes M_position M_tokenAt M_token M_digits M_number M_faultAt M_readMany M_readWide M_readHigh M_nights M_why M_folds M_square M_want M_text M_read M_row M_foldSet M_foldEdges M_foldNeeds M_foldYards M_least M_ways M_price u.1 u.2.1 u.2.2.1 u.2.2.2.1 u.2.2.2.2.1 u.2.2.2.2.2 M_lifted M_freed M_path) lv pc []) (hB38 : ∀ (M_rowBy : Nat → Int32) (M_columnBy : Nat → Int32) (M_wayBack : Nat → Int32) (M_slack : Nat → Int32) (M_isUsed : Nat → Int32) (x3 : Int32), B38 M_rowBy M_columnBy M_wayBack M_slack M_isUsed x3 → J x 0 0 9 (W_Model cyI cyJ cyZ a_M a_M_square a_M_want a_M_text a_M_read a_M_row a_M_foldSet a_M_foldEdges a_M_foldNeeds a_M_foldYards a_M_least a_M_ways a_M_price a_M_rowBy a_M_columnBy a_M_rowOf a_M_wayBack a_M_slack a_M_isUsed a_M_lifted a_M_freed a_M_path M_wide M_high M_hedges M_hurdles M_wants M_rest M_frozen M_bytes M_position M_tokenAt M_token M_digits M_number M_faultAt M_readMany M_readWide M_readHigh M_nights M_why M_folds M_square M_want M_text M_read M_row M_foldSet M_foldEdges M_foldNeeds M_foldYards M_least M_ways M_price M_rowBy M_columnBy M_rowOf M_wayBack M_slack M_isUsed M_lifted M_freed M_path) [(0, .ref a_M), (2, .int p2), (3, .int x3)] 38 []) (hB73 : ∀ (M_wayBack : Nat → Int32) (M_slack : Nat → Int32) (x5 : Int32) (x6 : Int32) (x7 : Int32), B73 M_wayBack M_slack x5 x6 x7 → J x 0 0 9 (W_Model cyI cyJ cyZ a_M a_M_square a_M_want a_M_text a_M_read a_M_row a_M_foldSet a_M_foldEdges a_M_foldNeeds a_M_foldYards a_M_least a_M_ways a_M_price a_M_rowBy a_M_columnBy a_M_rowOf a_M_wayBack a_M_slack a_M_isUsed a_M_lifted a_M_freed a_M_path M_wide M_high M_hedges M_hurdles M_wants M_rest M_frozen M_bytes M_position M_tokenAt M_token M_digits M_number M_faultAt M_readMany M_readWide M_readHigh M_nights M_why M_folds M_square M_want M_text M_read M_row M_foldSet M_foldEdges M_foldNeeds M_foldYards M_least M_ways M_price M_rowBy M_columnBy M_rowOf M_wayBack M_slack M_isUsed M_lifted M_freed M_path) [(0, .ref a_M), (2, .int p2), (3, .int x3), (4, .int x4), (5, .int x5), (6, .int x6), (7, .int x7)] 73 []) (h : bd_X11_place_73 Q B38 B73 p2 x3 x4 M_price M_rowBy M_columnBy M_rowOf M_isUsed M_wayBack M_slack x5 x6 x7) :
    J x 0 0 9 (W_Model cyI cyJ cyZ a_M a_M_square a_M_want a_M_text a_M_read a_M_row a_M_foldSet a_M_foldEdges a_M_foldNeeds a_M_foldYards a_M_least a_M_ways a_M_price a_M_rowBy a_M_columnBy a_M_rowOf a_M_wayBack a_M_slack a_M_isUsed a_M_lifted a_M_freed a_M_path M_wide M_high M_hedges M_hurdles M_wants M_rest M_frozen M_bytes M_position M_tokenAt M_token M_digits M_number M_faultAt M_readMany M_readWide M_readHigh M_nights M_why M_folds M_square M_want M_text M_read M_row M_foldSet M_foldEdges M_foldNeeds M_foldYards M_least M_ways M_price M_rowBy M_columnBy M_rowOf M_wayBack M_slack M_isUsed M_lifted M_freed M_path) [(0, .ref a_M), (2, .int p2), (3, .int x3), (4, .int x4), (5, .int x5), (6, .int x6), (7, .int x7)] 73 [] := by
  unfold bd_X11_place_73 at h
  refine j_iload cx 6 rfl dX11_place_73 (pn := 75) rfl ?_
  refine j_iload_n cx 1 rfl rfl dX11_place_75 (pn := 76) rfl ?_
  refine j_icmp_gt cx 184 dX11_place_76 (pn := 79) rfl rfl (fun c10 => ?_) (fun c10 => ?_)
  · have h := h.1 c10
    refine j_iconst cx (v := 0) (by decide) dX11_place_184 (pn := 185) rfl ?_
    refine j_istore cx [(7, .int 0), (0, .ref a_M), (2, .int p2), (3, .int x3), (4, .int x4), (5, .int x5), (6, .int x6)] (by decide) rfl dX11_place_185 (pn := 187) rfl ?_
    refine j_sub [1, 2, 5, 6, 0] [(0, .ref a_M), (2, .int p2), (5, .int x5), (6, .int x6), (7, .int 0)] rfl ?_
    exact J_X11_place_187 cx hR hB38 h
  · have h := h.2 c10
    refine j_aload_n cx 0 rfl rfl dX11_place_79 (pn := 80) rfl ?_
    refine j_get cx inGX11 0 rfl rfl 37 (by decide) q_fl_X11_73 rfl rfl dX11_place_80 (pn := 83) rfl ?_
    refine j_iload cx 6 rfl dX11_place_83 (pn := 85) rfl ?_
    refine j_zald cx 18 2 rfl rfl h.1 dX11_place_85 (pn := 86) rfl ?_
    have h := h.2
    refine j_if_ne cx 178 dX11_place_86 (pn := 89) rfl rfl (fun c20 => ?_) (fun c20 => ?_)
    · have h := h.1 c20
      exact J_X11_place_178 cx hR hB38 hB73 h
    · have h := h.2 c20
      refine j_aload_n cx 0 rfl rfl dX11_place_89 (pn := 90) rfl ?_
      refine j_get cx inGX11 0 rfl rfl 31 (by decide) q_fl_X11_55 rfl rfl dX11_place_90 (pn := 93) rfl ?_
      refine j_bipush cx (v := 64) (by decide) dX11_place_93 (pn := 95) rfl ?_
      refine j_iload cx 3 rfl dX11_place_95 (pn := 97) rfl ?_
      refine j_iconst cx (v := 1) (by decide) dX11_place_97 (pn := 98) rfl ?_
      refine j_isub cx dX11_place_98 (pn := 99) rfl ?_
      refine j_imul cx dX11_place_99 (pn := 100) rfl ?_
      refine j_iload cx 6 rfl dX11_place_100 (pn := 102) rfl ?_
      refine j_iadd cx dX11_place_102 (pn := 103) rfl ?_
      refine j_iconst cx (v := 1) (by decide) dX11_place_103 (pn := 104) rfl ?_
      refine j_isub cx dX11_place_104 (pn := 105) rfl ?_
      refine j_iald cx 12 0 rfl rfl h.1 dX11_place_105 (pn := 106) rfl ?_
      have h := h.2
      refine j_aload_n cx 0 rfl rfl dX11_place_106 (pn := 107) rfl ?_
      refine j_get cx inGX11 0 rfl rfl 32 (by decide) q_fl_X11_58 rfl rfl dX11_place_107 (pn := 110) rfl ?_
      refine j_iload cx 3 rfl dX11_place_110 (pn := 112) rfl ?_
      refine j_iald cx 13 0 rfl rfl h.1 dX11_place_112 (pn := 113) rfl ?_
      have h := h.2
      refine j_isub cx dX11_place_113 (pn := 114) rfl ?_
      refine j_aload_n cx 0 rfl rfl dX11_place_114 (pn := 115) rfl ?_
      refine j_get cx inGX11 0 rfl rfl 33 (by decide) q_fl_X11_61 rfl rfl dX11_place_115 (pn := 118) rfl ?_
      refine j_iload cx 6 rfl dX11_place_118 (pn := 120) rfl ?_
      refine j_iald cx 14 0 rfl rfl h.1 dX11_place_120 (pn := 121) rfl ?_
      have h := h.2
      refine j_isub cx dX11_place_121 (pn := 122) rfl ?_
      refine j_topi (fun y22 ey22 => ?_)
      have h := h y22 ey22
      refine j_istore cx [(8, .int y22), (0, .ref a_M), (2, .int p2), (3, .int x3), (4, .int x4), (5, .int x5), (6, .int x6), (7, .int x7)] (by decide) rfl dX11_place_122 (pn := 124) rfl ?_
      refine j_iload cx 0 rfl dX11_place_124 (pn := 126) rfl ?_
      refine j_aload_n cx 1 rfl rfl dX11_place_126 (pn := 127) rfl ?_
      refine j_get cx inGX11 0 rfl rfl 36 (by decide) q_fl_X11_70 rfl rfl dX11_place_127 (pn := 130) rfl ?_
      refine j_iload cx 7 rfl dX11_place_130 (pn := 132) rfl ?_
      refine j_iald cx 17 0 rfl rfl h.1 dX11_place_132 (pn := 133) rfl ?_
      have h := h.2
      refine j_icmp_ge cx 153 dX11_place_133 (pn := 136) rfl rfl (fun c23 => ?_) (fun c23 => ?_)
      · have h := h.1 c23
        refine j_sub [1, 2, 3, 4, 5, 6, 7] [(0, .ref a_M), (2, .int p2), (3, .int x3), (4, .int x4), (5, .int x5), (6, .int x6), (7, .int x7)] rfl ?_
        exact J_X11_place_153 cx hR hB38 hB73 h
      · have h := h.2 c23
        refine j_aload_n cx 1 rfl rfl dX11_place_136 (pn := 137) rfl ?_
        refine j_get cx inGX11 0 rfl rfl 36 (by decide) q_fl_X11_70 rfl rfl dX11_place_137 (pn := 140) rfl ?_
        refine j_iload cx 7 rfl dX11_place_140 (pn := 142) rfl ?_
        refine j_iload cx 0 rfl dX11_place_142 (pn := 144) rfl ?_
        have hin := h.1
        obtain ⟨f26, ef26⟩ : ∃ z, z = upd M_slack x7.toNatClampNeg y22 := ⟨_, rfl⟩
        have h := h.2 f26 ef26
        refine j_iast cx 17 0 rfl rfl hin (W_Model cyI cyJ cyZ a_M a_M_square a_M_want a_M_text a_M_read a_M_row a_M_foldSet a_M_foldEdges a_M_foldNeeds a_M_foldYards a_M_least a_M_ways a_M_price a_M_rowBy a_M_columnBy a_M_rowOf a_M_wayBack a_M_slack a_M_isUsed a_M_lifted a_M_freed a_M_path M_wide M_high M_hedges M_hurdles M_wants M_rest M_frozen M_bytes M_position M_tokenAt M_token M_digits M_number M_faultAt M_readMany M_readWide M_readHigh M_nights M_why M_folds M_square M_want M_text M_read M_row M_foldSet M_foldEdges M_foldNeeds M_foldYards M_least M_ways M_price M_rowBy M_columnBy M_rowOf M_wayBack f26 M_isUsed M_lifted M_freed M_path) (by subst ef26; rfl) dX11_place_144 (pn := 145) rfl ?_
        refine j_aload_n cx 1 rfl rfl dX11_place_145 (pn := 146) rfl ?_
        refine j_get cx inGX11 0 rfl rfl 35 (by decide) q_fl_X11_67 rfl rfl dX11_place_146 (pn := 149) rfl ?_
        refine j_iload cx 7 rfl dX11_place_149 (pn := 151) rfl ?_
        refine j_iload_n cx 3 rfl rfl dX11_place_151 (pn := 152) rfl ?_
        have hin := h.1
        obtain ⟨f27, ef27⟩ : ∃ z, z = upd M_wayBack x7.toNatClampNeg x3 := ⟨_, rfl⟩
        have h := h.2 f27 ef27
        refine j_iast cx 16 0 rfl rfl hin (W_Model cyI cyJ cyZ a_M a_M_square a_M_want a_M_text a_M_read a_M_row a_M_foldSet a_M_foldEdges a_M_foldNeeds a_M_foldYards a_M_least a_M_ways a_M_price a_M_rowBy a_M_columnBy a_M_rowOf a_M_wayBack a_M_slack a_M_isUsed a_M_lifted a_M_freed a_M_path M_wide M_high M_hedges M_hurdles M_wants M_rest M_frozen M_bytes M_position M_tokenAt M_token M_digits M_number M_faultAt M_readMany M_readWide M_readHigh M_nights M_why M_folds M_square M_want M_text M_read M_row M_foldSet M_foldEdges M_foldNeeds M_foldYards M_least M_ways M_price M_rowBy M_columnBy M_rowOf f27 f26 M_isUsed M_lifted M_freed M_path) (by subst ef27; rfl) dX11_place_152 (pn := 153) rfl ?_
        refine j_sub [1, 2, 3, 4, 5, 6, 7] [(0, .ref a_M), (2, .int p2), (3, .int x3), (4, .int x4), (5, .int x5), (6, .int x6), (7, .int x7)] rfl ?_
        exact J_X11_place_153 cx hR hB38 hB73 h
set_option maxHeartbeats 4000000 in
set_option maxRecDepth 100000 in
theorem J_X11_place_73 {x : CX} {D : DG} {cyI cyJ cyZ : ClassId} {a_M a_M_square a_M_want a_M_text a_M_read a_M_row a_M_foldSet a_M_foldEdges a_M_foldNeeds a_M_foldYards a_M_least a_M_ways a_M_price a_M_rowBy a_M_columnBy a_M_rowOf a_M_wayBack a_M_slack a_M_isUsed a_M_lifted a_M_freed a_M_path : Nat} {M_wide : Int32} {M_high : Int32} {M_hedges : Int64} {M_hurdles : Int32} {M_wants : Int32} {M_rest : Int32} {M_frozen : Int32} {M_bytes : Int32} {M_position : Int32} {M_tokenAt : Int32} {M_token : Int64} {M_digits : Int32} {M_number : Int32} {M_faultAt : Int32} {M_readMany : Int32} {M_readWide : Int32} {M_readHigh : Int32} {M_nights : Int32} {M_why : Int32} {M_folds : Int32} {M_square : Nat → Int32} {M_want : Nat → Int32} {M_text : Nat → Int32} {M_read : Nat → Int32} {M_row : Nat → Int32} {M_foldSet : Nat → Int32} {M_foldEdges : Nat → Int64} {M_foldNeeds : Nat → Int32} {M_foldYards : Nat → Int32} {M_least : Nat → Int32} {M_ways : Nat → Int32} {M_price : Nat → Int32} {M_rowBy : Nat → Int32} {M_columnBy : Nat → Int32} {M_rowOf : Nat → Int32} {M_wayBack : Nat → Int32} {M_slack : Nat → Int32} {M_isUsed : Nat → Int32} {M_lifted : Nat → Int32} {M_freed : Nat → Int32} {M_path : Nat → Int32} {p2 : Int32} {x3 : Int32} {x4 : Int32} {x5 : Int32} {x6 : Int32} {x7 : Int32} {Q : ((Nat → Int32) × (Nat → Int32) × (Nat → Int32) × (Nat → Int32) × (Nat → Int32) × (Nat → Int32)) → Prop} {B38 : (Nat → Int32) → (Nat → Int32) → (Nat → Int32) → (Nat → Int32) → (Nat → Int32) → Int32 → Prop} (cx : Cx x cX11_place 9 RX11 rm_X11_place D [(cyI, .int), (cyJ, .long), (cyZ, .boolean)]) (hR : ∀ (u : (Nat → Int32) × (Nat → Int32) × (Nat → Int32) × (Nat → Int32) × (Nat → Int32) × (Nat → Int32)) (pc : Nat) (lv : List (Nat × Value)), decode cX11_place pc = .ok (.return_, 1) → Q u → J x 0 0 9 (W_Model cyI cyJ cyZ a_M a_M_square a_M_want a_M_text a_M_read a_M_row a_M_foldSet a_M_foldEdges a_M_foldNeeds a_M_foldYards a_M_least a_M_ways a_M_price a_M_rowBy a_M_columnBy a_M_rowOf a_M_wayBack a_M_slack a_M_isUsed a_M_lifted a_M_freed a_M_path M_wide M_high M_hedges M_hurdles M_wants M_rest M_frozen M_bytes M_position M_tokenAt M_token M_digits M_number M_faultAt M_readMany M_readWide M_readHigh M_nights M_why M_folds M_square M_want M_text M_read M_row M_foldSet M_foldEdges M_foldNeeds M_foldYards M_least M_ways M_price u.1 u.2.1 u.2.2.1 u.2.2.2.1 u.2.2.2.2.1 u.2.2.2.2.2 M_lifted M_freed M_path) lv pc []) (hB38 : ∀ (M_rowBy : Nat → Int32) (M_columnBy : Nat → Int32) (M_wayBack : Nat → Int32) (M_slack : Nat → Int32) (M_isUsed : Nat → Int32) (x3 : Int32), B38 M_rowBy M_columnBy M_wayBack M_slack M_isUsed x3 → J x 0 0 9 (W_Model cyI cyJ cyZ a_M a_M_square a_M_want a_M_text a_M_read a_M_row a_M_foldSet a_M_foldEdges a_M_foldNeeds a_M_foldYards a_M_least a_M_ways a_M_price a_M_rowBy a_M_columnBy a_M_rowOf a_M_wayBack a_M_slack a_M_isUsed a_M_lifted a_M_freed a_M_path M_wide M_high M_hedges M_hurdles M_wants M_rest M_frozen M_bytes M_position M_tokenAt M_token M_digits M_number M_faultAt M_readMany M_readWide M_readHigh M_nights M_why M_folds M_square M_want M_text M_read M_row M_foldSet M_foldEdges M_foldNeeds M_foldYards M_least M_ways M_price M_rowBy M_columnBy M_rowOf M_wayBack M_slack M_isUsed M_lifted M_freed M_path) [(0, .ref a_M), (2, .int p2), (3, .int x3)] 38 []) (h : lp_X11_place_73 Q B38 p2 x3 x4 M_price M_rowBy M_columnBy M_rowOf M_isUsed M_wayBack M_slack x5 x6 x7) :
    J x 0 0 9 (W_Model cyI cyJ cyZ a_M a_M_square a_M_want a_M_text a_M_read a_M_row a_M_foldSet a_M_foldEdges a_M_foldNeeds a_M_foldYards a_M_least a_M_ways a_M_price a_M_rowBy a_M_columnBy a_M_rowOf a_M_wayBack a_M_slack a_M_isUsed a_M_lifted a_M_freed a_M_path M_wide M_high M_hedges M_hurdles M_wants M_rest M_frozen M_bytes M_position M_tokenAt M_token M_digits M_number M_faultAt M_readMany M_readWide M_readHigh M_nights M_why M_folds M_square M_want M_text M_read M_row M_foldSet M_foldEdges M_foldNeeds M_foldYards M_least M_ways M_price M_rowBy M_columnBy M_rowOf M_wayBack M_slack M_isUsed M_lifted M_freed M_path) [(0, .ref a_M), (2, .int p2), (3, .int x3), (4, .int x4), (5, .int x5), (6, .int x6), (7, .int x7)] 73 [] := by
  obtain ⟨I, ⟨n, h0⟩, hb⟩ := h
  revert M_wayBack M_slack x5 x6 x7
  induction n using Nat.strongRecOn with
  | _ n ih =>
    intro M_wayBack M_slack x5 x6 x7 h0
    exact B_X11_place_73 cx hR hB38 (fun _ _ _ _ _ hz => by obtain ⟨n2, hlt, hI⟩ := hz; exact ih n2 hlt hI) (hb n M_wayBack M_slack x5 x6 x7 h0)
set_option maxHeartbeats 4000000 in
set_option maxRecDepth 100000 in
theorem B_X11_place_38 {x : CX} {D : DG} {cyI cyJ cyZ : ClassId} {a_M a_M_square a_M_want a_M_text a_M_read a_M_row a_M_foldSet a_M_foldEdges a_M_foldNeeds a_M_foldYards a_M_least a_M_ways a_M_price a_M_rowBy a_M_columnBy a_M_rowOf a_M_wayBack a_M_slack a_M_isUsed a_M_lifted a_M_freed a_M_path : Nat} {M_wide : Int32} {M_high : Int32} {M_hedges : Int64} {M_hurdles : Int32} {M_wants : Int32} {M_rest : Int32} {M_frozen : Int32} {M_bytes : Int32} {M_position : Int32} {M_tokenAt : Int32} {M_token : Int64} {M_digits : Int32} {M_number : Int32} {M_faultAt : Int32} {M_readMany : Int32} {M_readWide : Int32} {M_readHigh : Int32} {M_nights : Int32} {M_why : Int32} {M_folds : Int32} {M_square : Nat → Int32} {M_want : Nat → Int32} {M_text : Nat → Int32} {M_read : Nat → Int32} {M_row : Nat → Int32} {M_foldSet : Nat → Int32} {M_foldEdges : Nat → Int64} {M_foldNeeds : Nat → Int32} {M_foldYards : Nat → Int32} {M_least : Nat → Int32} {M_ways : Nat → Int32} {M_price : Nat → Int32} {M_rowBy : Nat → Int32} {M_columnBy : Nat → Int32} {M_rowOf : Nat → Int32} {M_wayBack : Nat → Int32} {M_slack : Nat → Int32} {M_isUsed : Nat → Int32} {M_lifted : Nat → Int32} {M_freed : Nat → Int32} {M_path : Nat → Int32} {p2 : Int32} {x3 : Int32} {Q : ((Nat → Int32) × (Nat → Int32) × (Nat → Int32) × (Nat → Int32) × (Nat → Int32) × (Nat → Int32)) → Prop} {B38 : (Nat → Int32) → (Nat → Int32) → (Nat → Int32) → (Nat → Int32) → (Nat → Int32) → Int32 → Prop} (cx : Cx x cX11_place 9 RX11 rm_X11_place D [(cyI, .int), (cyJ, .long), (cyZ, .boolean)]) (hR : ∀ (u : (Nat → Int32) × (Nat → Int32) × (Nat → Int32) × (Nat → Int32) × (Nat → Int32) × (Nat → Int32)) (pc : Nat) (lv : List (Nat × Value)), decode cX11_place pc = .ok (.return_, 1) → Q u → J x 0 0 9 (W_Model cyI cyJ cyZ a_M a_M_square a_M_want a_M_text a_M_read a_M_row a_M_foldSet a_M_foldEdges a_M_foldNeeds a_M_foldYards a_M_least a_M_ways a_M_price a_M_rowBy a_M_columnBy a_M_rowOf a_M_wayBack a_M_slack a_M_isUsed a_M_lifted a_M_freed a_M_path M_wide M_high M_hedges M_hurdles M_wants M_rest M_frozen M_bytes M_position M_tokenAt M_token M_digits M_number M_faultAt M_readMany M_readWide M_readHigh M_nights M_why M_folds M_square M_want M_text M_read M_row M_foldSet M_foldEdges M_foldNeeds M_foldYards M_least M_ways M_price u.1 u.2.1 u.2.2.1 u.2.2.2.1 u.2.2.2.2.1 u.2.2.2.2.2 M_lifted M_freed M_path) lv pc []) (hB38 : ∀ (M_rowBy : Nat → Int32) (M_columnBy : Nat → Int32) (M_wayBack : Nat → Int32) (M_slack : Nat → Int32) (M_isUsed : Nat → Int32) (x3 : Int32), B38 M_rowBy M_columnBy M_wayBack M_slack M_isUsed x3 → J x 0 0 9 (W_Model cyI cyJ cyZ a_M a_M_square a_M_want a_M_text a_M_read a_M_row a_M_foldSet a_M_foldEdges a_M_foldNeeds a_M_foldYards a_M_least a_M_ways a_M_price a_M_rowBy a_M_columnBy a_M_rowOf a_M_wayBack a_M_slack a_M_isUsed a_M_lifted a_M_freed a_M_path M_wide M_high M_hedges M_hurdles M_wants M_rest M_frozen M_bytes M_position M_tokenAt M_token M_digits M_number M_faultAt M_readMany M_readWide M_readHigh M_nights M_why M_folds M_square M_want M_text M_read M_row M_foldSet M_foldEdges M_foldNeeds M_foldYards M_least M_ways M_price M_rowBy M_columnBy M_rowOf M_wayBack M_slack M_isUsed M_lifted M_freed M_path) [(0, .ref a_M), (2, .int p2), (3, .int x3)] 38 []) (h : bd_X11_place_38 Q B38 p2 M_price M_rowOf M_rowBy M_columnBy M_wayBack M_slack M_isUsed x3) :
    J x 0 0 9 (W_Model cyI cyJ cyZ a_M a_M_square a_M_want a_M_text a_M_read a_M_row a_M_foldSet a_M_foldEdges a_M_foldNeeds a_M_foldYards a_M_least a_M_ways a_M_price a_M_rowBy a_M_columnBy a_M_rowOf a_M_wayBack a_M_slack a_M_isUsed a_M_lifted a_M_freed a_M_path M_wide M_high M_hedges M_hurdles M_wants M_rest M_frozen M_bytes M_position M_tokenAt M_token M_digits M_number M_faultAt M_readMany M_readWide M_readHigh M_nights M_why M_folds M_square M_want M_text M_read M_row M_foldSet M_foldEdges M_foldNeeds M_foldYards M_least M_ways M_price M_rowBy M_columnBy M_rowOf M_wayBack M_slack M_isUsed M_lifted M_freed M_path) [(0, .ref a_M), (2, .int p2), (3, .int x3)] 38 [] := by
  unfold bd_X11_place_38 at h
  refine j_aload_n cx 0 rfl rfl dX11_place_38 (pn := 39) rfl ?_
  refine j_get cx inGX11 0 rfl rfl 34 (by decide) q_fl_X11_64 rfl rfl dX11_place_39 (pn := 42) rfl ?_
  refine j_iload_n cx 2 rfl rfl dX11_place_42 (pn := 43) rfl ?_
  refine j_iald cx 15 0 rfl rfl h.1 dX11_place_43 (pn := 44) rfl ?_
  have h := h.2
  refine j_if_eq cx 259 dX11_place_44 (pn := 47) rfl rfl (fun c3 => ?_) (fun c3 => ?_)
  · have h := h.1 c3
    refine j_sub [0, 2] [(0, .ref a_M), (3, .int x3)] rfl ?_
    exact J_X11_place_259 cx hR h
  · have h := h.2 c3
    refine j_aload_n cx 0 rfl rfl dX11_place_47 (pn := 48) rfl ?_
    refine j_get cx inGX11 0 rfl rfl 37 (by decide) q_fl_X11_73 rfl rfl dX11_place_48 (pn := 51) rfl ?_
    refine j_iload_n cx 2 rfl rfl dX11_place_51 (pn := 52) rfl ?_
    refine j_iconst cx (v := 1) (by decide) dX11_place_52 (pn := 53) rfl ?_
    have hin := h.1
    obtain ⟨f8, ef8⟩ : ∃ z, z = upd M_isUsed x3.toNatClampNeg 1 := ⟨_, rfl⟩
    have h := h.2 f8 ef8
    refine j_zast cx 18 2 rfl rfl hin rfl (W_Model cyI cyJ cyZ a_M a_M_square a_M_want a_M_text a_M_read a_M_row a_M_foldSet a_M_foldEdges a_M_foldNeeds a_M_foldYards a_M_least a_M_ways a_M_price a_M_rowBy a_M_columnBy a_M_rowOf a_M_wayBack a_M_slack a_M_isUsed a_M_lifted a_M_freed a_M_path M_wide M_high M_hedges M_hurdles M_wants M_rest M_frozen M_bytes M_position M_tokenAt M_token M_digits M_number M_faultAt M_readMany M_readWide M_readHigh M_nights M_why M_folds M_square M_want M_text M_read M_row M_foldSet M_foldEdges M_foldNeeds M_foldYards M_least M_ways M_price M_rowBy M_columnBy M_rowOf M_wayBack M_slack f8 M_lifted M_freed M_path) (by subst ef8; rfl) dX11_place_53 (pn := 54) rfl ?_
    refine j_aload_n cx 0 rfl rfl dX11_place_54 (pn := 55) rfl ?_
    refine j_get cx inGX11 0 rfl rfl 34 (by decide) q_fl_X11_64 rfl rfl dX11_place_55 (pn := 58) rfl ?_
    refine j_iload_n cx 2 rfl rfl dX11_place_58 (pn := 59) rfl ?_
    refine j_iald cx 15 0 rfl rfl h.1 dX11_place_59 (pn := 60) rfl ?_
    have h := h.2
    refine j_topi (fun y9 ey9 => ?_)
    have h := h y9 ey9
    refine j_istore cx [(4, .int y9), (0, .ref a_M), (2, .int p2), (3, .int x3)] (by decide) rfl dX11_place_60 (pn := 62) rfl ?_
    refine j_ldcw cx q_c_X11_267 dX11_place_62 (pn := 65) rfl ?_
    refine j_istore cx [(5, .int 100000), (4, .int y9), (0, .ref a_M), (2, .int p2), (3, .int x3)] (by decide) rfl dX11_place_65 (pn := 67) rfl ?_
    refine j_iconst cx (v := 0) (by decide) dX11_place_67 (pn := 68) rfl ?_
    refine j_istore cx [(6, .int 0), (5, .int 100000), (4, .int y9), (0, .ref a_M), (2, .int p2), (3, .int x3)] (by decide) rfl dX11_place_68 (pn := 70) rfl ?_
    refine j_iconst cx (v := 1) (by decide) dX11_place_70 (pn := 71) rfl ?_
    refine j_istore cx [(7, .int 1), (6, .int 0), (5, .int 100000), (4, .int y9), (0, .ref a_M), (2, .int p2), (3, .int x3)] (by decide) rfl dX11_place_71 (pn := 73) rfl ?_
    refine j_sub [4, 5, 6, 3, 2, 1, 0] [(0, .ref a_M), (2, .int p2), (3, .int x3), (4, .int y9), (5, .int 100000), (6, .int 0), (7, .int 1)] rfl ?_
    exact J_X11_place_73 cx hR hB38 h
set_option maxHeartbeats 4000000 in
set_option maxRecDepth 100000 in
theorem J_X11_place_38 {x : CX} {D : DG} {cyI cyJ cyZ : ClassId} {a_M a_M_square a_M_want a_M_text a_M_read a_M_row a_M_foldSet a_M_foldEdges a_M_foldNeeds a_M_foldYards a_M_least a_M_ways a_M_price a_M_rowBy a_M_columnBy a_M_rowOf a_M_wayBack a_M_slack a_M_isUsed a_M_lifted a_M_freed a_M_path : Nat} {M_wide : Int32} {M_high : Int32} {M_hedges : Int64} {M_hurdles : Int32} {M_wants : Int32} {M_rest : Int32} {M_frozen : Int32} {M_bytes : Int32} {M_position : Int32} {M_tokenAt : Int32} {M_token : Int64} {M_digits : Int32} {M_number : Int32} {M_faultAt : Int32} {M_readMany : Int32} {M_readWide : Int32} {M_readHigh : Int32} {M_nights : Int32} {M_why : Int32} {M_folds : Int32} {M_square : Nat → Int32} {M_want : Nat → Int32} {M_text : Nat → Int32} {M_read : Nat → Int32} {M_row : Nat → Int32} {M_foldSet : Nat → Int32} {M_foldEdges : Nat → Int64} {M_foldNeeds : Nat → Int32} {M_foldYards : Nat → Int32} {M_least : Nat → Int32} {M_ways : Nat → Int32} {M_price : Nat → Int32} {M_rowBy : Nat → Int32} {M_columnBy : Nat → Int32} {M_rowOf : Nat → Int32} {M_wayBack : Nat → Int32} {M_slack : Nat → Int32} {M_isUsed : Nat → Int32} {M_lifted : Nat → Int32} {M_freed : Nat → Int32} {M_path : Nat → Int32} {p2 : Int32} {x3 : Int32} {Q : ((Nat → Int32) × (Nat → Int32) × (Nat → Int32) × (Nat → Int32) × (Nat → Int32) × (Nat → Int32)) → Prop} (cx : Cx x cX11_place 9 RX11 rm_X11_place D [(cyI, .int), (cyJ, .long), (cyZ, .boolean)]) (hR : ∀ (u : (Nat → Int32) × (Nat → Int32) × (Nat → Int32) × (Nat → Int32) × (Nat → Int32) × (Nat → Int32)) (pc : Nat) (lv : List (Nat × Value)), decode cX11_place pc = .ok (.return_, 1) → Q u → J x 0 0 9 (W_Model cyI cyJ cyZ a_M a_M_square a_M_want a_M_text a_M_read a_M_row a_M_foldSet a_M_foldEdges a_M_foldNeeds a_M_foldYards a_M_least a_M_ways a_M_price a_M_rowBy a_M_columnBy a_M_rowOf a_M_wayBack a_M_slack a_M_isUsed a_M_lifted a_M_freed a_M_path M_wide M_high M_hedges M_hurdles M_wants M_rest M_frozen M_bytes M_position M_tokenAt M_token M_digits M_number M_faultAt M_readMany M_readWide M_readHigh M_nights M_why M_folds M_square M_want M_text M_read M_row M_foldSet M_foldEdges M_foldNeeds M_foldYards M_least M_ways M_price u.1 u.2.1 u.2.2.1 u.2.2.2.1 u.2.2.2.2.1 u.2.2.2.2.2 M_lifted M_freed M_path) lv pc []) (h : lp_X11_place_38 Q  p2 M_price M_rowOf M_rowBy M_columnBy M_wayBack M_slack M_isUsed x3) :
    J x 0 0 9 (W_Model cyI cyJ cyZ a_M a_M_square a_M_want a_M_text a_M_read a_M_row a_M_foldSet a_M_foldEdges a_M_foldNeeds a_M_foldYards a_M_least a_M_ways a_M_price a_M_rowBy a_M_columnBy a_M_rowOf a_M_wayBack a_M_slack a_M_isUsed a_M_lifted a_M_freed a_M_path M_wide M_high M_hedges M_hurdles M_wants M_rest M_frozen M_bytes M_position M_tokenAt M_token M_digits M_number M_faultAt M_readMany M_readWide M_readHigh M_nights M_why M_folds M_square M_want M_text M_read M_row M_foldSet M_foldEdges M_foldNeeds M_foldYards M_least M_ways M_price M_rowBy M_columnBy M_rowOf M_wayBack M_slack M_isUsed M_lifted M_freed M_path) [(0, .ref a_M), (2, .int p2), (3, .int x3)] 38 [] := by
  obtain ⟨I, ⟨n, h0⟩, hb⟩ := h
  revert M_rowBy M_columnBy M_wayBack M_slack M_isUsed x3
  induction n using Nat.strongRecOn with
  | _ n ih =>
    intro M_rowBy M_columnBy M_wayBack M_slack M_isUsed x3 h0
    exact B_X11_place_38 cx hR (fun _ _ _ _ _ _ hz => by obtain ⟨n2, hlt, hI⟩ := hz; exact ih n2 hlt hI) (hb n M_rowBy M_columnBy M_wayBack M_slack M_isUsed x3 h0)
set_option maxHeartbeats 4000000 in
set_option maxRecDepth 100000 in
theorem B_X11_place_2 {x : CX} {D : DG} {cyI cyJ cyZ : ClassId} {a_M a_M_square a_M_want a_M_text a_M_read a_M_row a_M_foldSet a_M_foldEdges a_M_foldNeeds a_M_foldYards a_M_least a_M_ways a_M_price a_M_rowBy a_M_columnBy a_M_rowOf a_M_wayBack a_M_slack a_M_isUsed a_M_lifted a_M_freed a_M_path : Nat} {M_wide : Int32} {M_high : Int32} {M_hedges : Int64} {M_hurdles : Int32} {M_wants : Int32} {M_rest : Int32} {M_frozen : Int32} {M_bytes : Int32} {M_position : Int32} {M_tokenAt : Int32} {M_token : Int64} {M_digits : Int32} {M_number : Int32} {M_faultAt : Int32} {M_readMany : Int32} {M_readWide : Int32} {M_readHigh : Int32} {M_nights : Int32} {M_why : Int32} {M_folds : Int32} {M_square : Nat → Int32} {M_want : Nat → Int32} {M_text : Nat → Int32} {M_read : Nat → Int32} {M_row : Nat → Int32} {M_foldSet : Nat → Int32} {M_foldEdges : Nat → Int64} {M_foldNeeds : Nat → Int32} {M_foldYards : Nat → Int32} {M_least : Nat → Int32} {M_ways : Nat → Int32} {M_price : Nat → Int32} {M_rowBy : Nat → Int32} {M_columnBy : Nat → Int32} {M_rowOf : Nat → Int32} {M_wayBack : Nat → Int32} {M_slack : Nat → Int32} {M_isUsed : Nat → Int32} {M_lifted : Nat → Int32} {M_freed : Nat → Int32} {M_path : Nat → Int32} {p1 : Int32} {p2 : Int32} {x3 : Int32} {Q : ((Nat → Int32) × (Nat → Int32) × (Nat → Int32) × (Nat → Int32) × (Nat → Int32) × (Nat → Int32)) → Prop} {B2 : (Nat → Int32) → (Nat → Int32) → Int32 → Prop} (cx : Cx x cX11_place 9 RX11 rm_X11_place D [(cyI, .int), (cyJ, .long), (cyZ, .boolean)]) (hR : ∀ (u : (Nat → Int32) × (Nat → Int32) × (Nat → Int32) × (Nat → Int32) × (Nat → Int32) × (Nat → Int32)) (pc : Nat) (lv : List (Nat × Value)), decode cX11_place pc = .ok (.return_, 1) → Q u → J x 0 0 9 (W_Model cyI cyJ cyZ a_M a_M_square a_M_want a_M_text a_M_read a_M_row a_M_foldSet a_M_foldEdges a_M_foldNeeds a_M_foldYards a_M_least a_M_ways a_M_price a_M_rowBy a_M_columnBy a_M_rowOf a_M_wayBack a_M_slack a_M_isUsed a_M_lifted a_M_freed a_M_path M_wide M_high M_hedges M_hurdles M_wants M_rest M_frozen M_bytes M_position M_tokenAt M_token M_digits M_number M_faultAt M_readMany M_readWide M_readHigh M_nights M_why M_folds M_square M_want M_text M_read M_row M_foldSet M_foldEdges M_foldNeeds M_foldYards M_least M_ways M_price u.1 u.2.1 u.2.2.1 u.2.2.2.1 u.2.2.2.2.1 u.2.2.2.2.2 M_lifted M_freed M_path) lv pc []) (hB2 : ∀ (M_slack : Nat → Int32) (M_isUsed : Nat → Int32) (x3 : Int32), B2 M_slack M_isUsed x3 → J x 0 0 9 (W_Model cyI cyJ cyZ a_M a_M_square a_M_want a_M_text a_M_read a_M_row a_M_foldSet a_M_foldEdges a_M_foldNeeds a_M_foldYards a_M_least a_M_ways a_M_price a_M_rowBy a_M_columnBy a_M_rowOf a_M_wayBack a_M_slack a_M_isUsed a_M_lifted a_M_freed a_M_path M_wide M_high M_hedges M_hurdles M_wants M_rest M_frozen M_bytes M_position M_tokenAt M_token M_digits M_number M_faultAt M_readMany M_readWide M_readHigh M_nights M_why M_folds M_square M_want M_text M_read M_row M_foldSet M_foldEdges M_foldNeeds M_foldYards M_least M_ways M_price M_rowBy M_columnBy M_rowOf M_wayBack M_slack M_isUsed M_lifted M_freed M_path) [(0, .ref a_M), (1, .int p1), (2, .int p2), (3, .int x3)] 2 []) (h : bd_X11_place_2 Q B2 p1 p2 M_price M_rowBy M_columnBy M_rowOf M_wayBack M_slack M_isUsed x3) :
    J x 0 0 9 (W_Model cyI cyJ cyZ a_M a_M_square a_M_want a_M_text a_M_read a_M_row a_M_foldSet a_M_foldEdges a_M_foldNeeds a_M_foldYards a_M_least a_M_ways a_M_price a_M_rowBy a_M_columnBy a_M_rowOf a_M_wayBack a_M_slack a_M_isUsed a_M_lifted a_M_freed a_M_path M_wide M_high M_hedges M_hurdles M_wants M_rest M_frozen M_bytes M_position M_tokenAt M_token M_digits M_number M_faultAt M_readMany M_readWide M_readHigh M_nights M_why M_folds M_square M_want M_text M_read M_row M_foldSet M_foldEdges M_foldNeeds M_foldYards M_least M_ways M_price M_rowBy M_columnBy M_rowOf M_wayBack M_slack M_isUsed M_lifted M_freed M_path) [(0, .ref a_M), (1, .int p1), (2, .int p2), (3, .int x3)] 2 [] := by
  unfold bd_X11_place_2 at h
  refine j_iload_n cx 3 rfl rfl dX11_place_2 (pn := 3) rfl ?_
  refine j_iload_n cx 2 rfl rfl dX11_place_3 (pn := 4) rfl ?_
  refine j_icmp_gt cx 29 dX11_place_4 (pn := 7) rfl rfl (fun c1 => ?_) (fun c1 => ?_)
  · have h := h.1 c1
    refine j_aload_n cx 0 rfl rfl dX11_place_29 (pn := 30) rfl ?_
    refine j_get cx inGX11 0 rfl rfl 34 (by decide) q_fl_X11_64 rfl rfl dX11_place_30 (pn := 33) rfl ?_
    refine j_iconst cx (v := 0) (by decide) dX11_place_33 (pn := 34) rfl ?_
    refine j_iload_n cx 1 rfl rfl dX11_place_34 (pn := 35) rfl ?_
    have hin := h.1
    obtain ⟨f2, ef2⟩ : ∃ z, z = upd M_rowOf (0 : Int32).toNatClampNeg p1 := ⟨_, rfl⟩
    have h := h.2 f2 ef2
    refine j_iast cx 15 0 rfl rfl hin (W_Model cyI cyJ cyZ a_M a_M_square a_M_want a_M_text a_M_read a_M_row a_M_foldSet a_M_foldEdges a_M_foldNeeds a_M_foldYards a_M_least a_M_ways a_M_price a_M_rowBy a_M_columnBy a_M_rowOf a_M_wayBack a_M_slack a_M_isUsed a_M_lifted a_M_freed a_M_path M_wide M_high M_hedges M_hurdles M_wants M_rest M_frozen M_bytes M_position M_tokenAt M_token M_digits M_number M_faultAt M_readMany M_readWide M_readHigh M_nights M_why M_folds M_square M_want M_text M_read M_row M_foldSet M_foldEdges M_foldNeeds M_foldYards M_least M_ways M_price M_rowBy M_columnBy f2 M_wayBack M_slack M_isUsed M_lifted M_freed M_path) (by subst ef2; rfl) dX11_place_35 (pn := 36) rfl ?_
    refine j_iconst cx (v := 0) (by decide) dX11_place_36 (pn := 37) rfl ?_
    refine j_istore_n cx rfl [(3, .int 0), (0, .ref a_M), (1, .int p1), (2, .int p2)] (by decide) rfl dX11_place_37 (pn := 38) rfl ?_
    refine j_sub [1, 3, 0] [(0, .ref a_M), (2, .int p2), (3, .int 0)] rfl ?_
    exact J_X11_place_38 cx hR h
  · have h := h.2 c1
    refine j_aload_n cx 0 rfl rfl dX11_place_7 (pn := 8) rfl ?_
    refine j_get cx inGX11 0 rfl rfl 36 (by decide) q_fl_X11_70 rfl rfl dX11_place_8 (pn := 11) rfl ?_
    refine j_iload_n cx 3 rfl rfl dX11_place_11 (pn := 12) rfl ?_
    refine j_ldcw cx q_c_X11_267 dX11_place_12 (pn := 15) rfl ?_
    have hin := h.1
    obtain ⟨f28, ef28⟩ : ∃ z, z = upd M_slack x3.toNatClampNeg 100000 := ⟨_, rfl⟩
    have h := h.2 f28 ef28
    refine j_iast cx 17 0 rfl rfl hin (W_Model cyI cyJ cyZ a_M a_M_square a_M_want a_M_text a_M_read a_M_row a_M_foldSet a_M_foldEdges a_M_foldNeeds a_M_foldYards a_M_least a_M_ways a_M_price a_M_rowBy a_M_columnBy a_M_rowOf a_M_wayBack a_M_slack a_M_isUsed a_M_lifted a_M_freed a_M_path M_wide M_high M_hedges M_hurdles M_wants M_rest M_frozen M_bytes M_position M_tokenAt M_token M_digits M_number M_faultAt M_readMany M_readWide M_readHigh M_nights M_why M_folds M_square M_want M_text M_read M_row M_foldSet M_foldEdges M_foldNeeds M_foldYards M_least M_ways M_price M_rowBy M_columnBy M_rowOf M_wayBack f28 M_isUsed M_lifted M_freed M_path) (by subst ef28; rfl) dX11_place_15 (pn := 16) rfl ?_
    refine j_aload_n cx 0 rfl rfl dX11_place_16 (pn := 17) rfl ?_
    refine j_get cx inGX11 0 rfl rfl 37 (by decide) q_fl_X11_73 rfl rfl dX11_place_17 (pn := 20) rfl ?_
    refine j_iload_n cx 3 rfl rfl dX11_place_20 (pn := 21) rfl ?_
    refine j_iconst cx (v := 0) (by decide) dX11_place_21 (pn := 22) rfl ?_
    have hin := h.1
    obtain ⟨f29, ef29⟩ : ∃ z, z = upd M_isUsed x3.toNatClampNeg 0 := ⟨_, rfl⟩
    have h := h.2 f29 ef29
    refine j_zast cx 18 2 rfl rfl hin rfl (W_Model cyI cyJ cyZ a_M a_M_square a_M_want a_M_text a_M_read a_M_row a_M_foldSet a_M_foldEdges a_M_foldNeeds a_M_foldYards a_M_least a_M_ways a_M_price a_M_rowBy a_M_columnBy a_M_rowOf a_M_wayBack a_M_slack a_M_isUsed a_M_lifted a_M_freed a_M_path M_wide M_high M_hedges M_hurdles M_wants M_rest M_frozen M_bytes M_position M_tokenAt M_token M_digits M_number M_faultAt M_readMany M_readWide M_readHigh M_nights M_why M_folds M_square M_want M_text M_read M_row M_foldSet M_foldEdges M_foldNeeds M_foldYards M_least M_ways M_price M_rowBy M_columnBy M_rowOf M_wayBack f28 f29 M_lifted M_freed M_path) (by subst ef29; rfl) dX11_place_22 (pn := 23) rfl ?_
    obtain ⟨y30, ey30⟩ : ∃ z : Int32, z = x3 + 1 := ⟨_, rfl⟩
    have h := h y30 ey30
    refine j_iinc cx 3 rfl (cst := 1) (by decide) ey30 [(3, .int y30), (0, .ref a_M), (1, .int p1), (2, .int p2)] (by decide) rfl dX11_place_23 (pn := 26) rfl ?_
    refine j_goto cx 2 dX11_place_26 rfl ?_
    refine j_sub [1, 2, 3, 0] [(0, .ref a_M), (1, .int p1), (2, .int p2), (3, .int y30)] rfl ?_
    exact hB2 _ _ _ h
set_option maxHeartbeats 4000000 in
set_option maxRecDepth 100000 in
theorem J_X11_place_2 {x : CX} {D : DG} {cyI cyJ cyZ : ClassId} {a_M a_M_square a_M_want a_M_text a_M_read a_M_row a_M_foldSet a_M_foldEdges a_M_foldNeeds a_M_foldYards a_M_least a_M_ways a_M_price a_M_rowBy a_M_columnBy a_M_rowOf a_M_wayBack a_M_slack a_M_isUsed a_M_lifted a_M_freed a_M_path : Nat} {M_wide : Int32} {M_high : Int32} {M_hedges : Int64} {M_hurdles : Int32} {M_wants : Int32} {M_rest : Int32} {M_frozen : Int32} {M_bytes : Int32} {M_position : Int32} {M_tokenAt : Int32} {M_token : Int64} {M_digits : Int32} {M_number : Int32} {M_faultAt : Int32} {M_readMany : Int32} {M_readWide : Int32} {M_readHigh : Int32} {M_nights : Int32} {M_why : Int32} {M_folds : Int32} {M_square : Nat → Int32} {M_want : Nat → Int32} {M_text : Nat → Int32} {M_read : Nat → Int32} {M_row : Nat → Int32} {M_foldSet : Nat → Int32} {M_foldEdges : Nat → Int64} {M_foldNeeds : Nat → Int32} {M_foldYards : Nat → Int32} {M_least : Nat → Int32} {M_ways : Nat → Int32} {M_price : Nat → Int32} {M_rowBy : Nat → Int32} {M_columnBy : Nat → Int32} {M_rowOf : Nat → Int32} {M_wayBack : Nat → Int32} {M_slack : Nat → Int32} {M_isUsed : Nat → Int32} {M_lifted : Nat → Int32} {M_freed : Nat → Int32} {M_path : Nat → Int32} {p1 : Int32} {p2 : Int32} {x3 : Int32} {Q : ((Nat → Int32) × (Nat → Int32) × (Nat → Int32) × (Nat → Int32) × (Nat → Int32) × (Nat → Int32)) → Prop} (cx : Cx x cX11_place 9 RX11 rm_X11_place D [(cyI, .int), (cyJ, .long), (cyZ, .boolean)]) (hR : ∀ (u : (Nat → Int32) × (Nat → Int32) × (Nat → Int32) × (Nat → Int32) × (Nat → Int32) × (Nat → Int32)) (pc : Nat) (lv : List (Nat × Value)), decode cX11_place pc = .ok (.return_, 1) → Q u → J x 0 0 9 (W_Model cyI cyJ cyZ a_M a_M_square a_M_want a_M_text a_M_read a_M_row a_M_foldSet a_M_foldEdges a_M_foldNeeds a_M_foldYards a_M_least a_M_ways a_M_price a_M_rowBy a_M_columnBy a_M_rowOf a_M_wayBack a_M_slack a_M_isUsed a_M_lifted a_M_freed a_M_path M_wide M_high M_hedges M_hurdles M_wants M_rest M_frozen M_bytes M_position M_tokenAt M_token M_digits M_number M_faultAt M_readMany M_readWide M_readHigh M_nights M_why M_folds M_square M_want M_text M_read M_row M_foldSet M_foldEdges M_foldNeeds M_foldYards M_least M_ways M_price u.1 u.2.1 u.2.2.1 u.2.2.2.1 u.2.2.2.2.1 u.2.2.2.2.2 M_lifted M_freed M_path) lv pc []) (h : lp_X11_place_2 Q  p1 p2 M_price M_rowBy M_columnBy M_rowOf M_wayBack M_slack M_isUsed x3) :
    J x 0 0 9 (W_Model cyI cyJ cyZ a_M a_M_square a_M_want a_M_text a_M_read a_M_row a_M_foldSet a_M_foldEdges a_M_foldNeeds a_M_foldYards a_M_least a_M_ways a_M_price a_M_rowBy a_M_columnBy a_M_rowOf a_M_wayBack a_M_slack a_M_isUsed a_M_lifted a_M_freed a_M_path M_wide M_high M_hedges M_hurdles M_wants M_rest M_frozen M_bytes M_position M_tokenAt M_token M_digits M_number M_faultAt M_readMany M_readWide M_readHigh M_nights M_why M_folds M_square M_want M_text M_read M_row M_foldSet M_foldEdges M_foldNeeds M_foldYards M_least M_ways M_price M_rowBy M_columnBy M_rowOf M_wayBack M_slack M_isUsed M_lifted M_freed M_path) [(0, .ref a_M), (1, .int p1), (2, .int p2), (3, .int x3)] 2 [] := by
  obtain ⟨I, ⟨n, h0⟩, hb⟩ := h
  revert M_slack M_isUsed x3
  induction n using Nat.strongRecOn with
  | _ n ih =>
    intro M_slack M_isUsed x3 h0
    exact B_X11_place_2 cx hR (fun _ _ _ hz => by obtain ⟨n2, hlt, hI⟩ := hz; exact ih n2 hlt hI) (hb n M_slack M_isUsed x3 h0)
set_option maxHeartbeats 4000000 in
set_option maxRecDepth 100000 in
theorem c_X11_place {D : DG} {cyI cyJ cyZ : ClassId} {a_M a_M_square a_M_want a_M_text a_M_read a_M_row a_M_foldSet a_M_foldEdges a_M_foldNeeds a_M_foldYards a_M_least a_M_ways a_M_price a_M_rowBy a_M_columnBy a_M_rowOf a_M_wayBack a_M_slack a_M_isUsed a_M_lifted a_M_freed a_M_path : Nat} {M_wide : Int32} {M_high : Int32} {M_hedges : Int64} {M_hurdles : Int32} {M_wants : Int32} {M_rest : Int32} {M_frozen : Int32} {M_bytes : Int32} {M_position : Int32} {M_tokenAt : Int32} {M_token : Int64} {M_digits : Int32} {M_number : Int32} {M_faultAt : Int32} {M_readMany : Int32} {M_readWide : Int32} {M_readHigh : Int32} {M_nights : Int32} {M_why : Int32} {M_folds : Int32} {M_square : Nat → Int32} {M_want : Nat → Int32} {M_text : Nat → Int32} {M_read : Nat → Int32} {M_row : Nat → Int32} {M_foldSet : Nat → Int32} {M_foldEdges : Nat → Int64} {M_foldNeeds : Nat → Int32} {M_foldYards : Nat → Int32} {M_least : Nat → Int32} {M_ways : Nat → Int32} {M_price : Nat → Int32} {M_rowBy : Nat → Int32} {M_columnBy : Nat → Int32} {M_rowOf : Nat → Int32} {M_wayBack : Nat → Int32} {M_slack : Nat → Int32} {M_isUsed : Nat → Int32} {M_lifted : Nat → Int32} {M_freed : Nat → Int32} {M_path : Nat → Int32} {p1 : Int32} {p2 : Int32} {Q : ((Nat → Int32) × (Nat → Int32) × (Nat → Int32) × (Nat → Int32) × (Nat → Int32) × (Nat → Int32)) → Prop} (h : wp_X11_place p1 p2 M_price M_rowBy M_columnBy M_rowOf M_wayBack M_slack M_isUsed Q) :
    MetV yX11_place cX11_place 9 (none) rm_X11_place D [(cyI, .int), (cyJ, .long), (cyZ, .boolean)] [.ref a_M, .int p1, .int p2] (W_Model cyI cyJ cyZ a_M a_M_square a_M_want a_M_text a_M_read a_M_row a_M_foldSet a_M_foldEdges a_M_foldNeeds a_M_foldYards a_M_least a_M_ways a_M_price a_M_rowBy a_M_columnBy a_M_rowOf a_M_wayBack a_M_slack a_M_isUsed a_M_lifted a_M_freed a_M_path M_wide M_high M_hedges M_hurdles M_wants M_rest M_frozen M_bytes M_position M_tokenAt M_token M_digits M_number M_faultAt M_readMany M_readWide M_readHigh M_nights M_why M_folds M_square M_want M_text M_read M_row M_foldSet M_foldEdges M_foldNeeds M_foldYards M_least M_ways M_price M_rowBy M_columnBy M_rowOf M_wayBack M_slack M_isUsed M_lifted M_freed M_path) (fun u : (Nat → Int32) × (Nat → Int32) × (Nat → Int32) × (Nat → Int32) × (Nat → Int32) × (Nat → Int32) => (W_Model cyI cyJ cyZ a_M a_M_square a_M_want a_M_text a_M_read a_M_row a_M_foldSet a_M_foldEdges a_M_foldNeeds a_M_foldYards a_M_least a_M_ways a_M_price a_M_rowBy a_M_columnBy a_M_rowOf a_M_wayBack a_M_slack a_M_isUsed a_M_lifted a_M_freed a_M_path M_wide M_high M_hedges M_hurdles M_wants M_rest M_frozen M_bytes M_position M_tokenAt M_token M_digits M_number M_faultAt M_readMany M_readWide M_readHigh M_nights M_why M_folds M_square M_want M_text M_read M_row M_foldSet M_foldEdges M_foldNeeds M_foldYards M_least M_ways M_price u.1 u.2.1 u.2.2.1 u.2.2.2.1 u.2.2.2.2.1 u.2.2.2.2.2 M_lifted M_freed M_path)) (fun u => Q u) := by
  unfold wp_X11_place at h
  refine metV_of (by decide) (Nat.le_of_ble_eq_true rfl) (fun x cx0 hR0 => ?_)
  have cx : Cx x cX11_place 9 RX11 rm_X11_place D [(cyI, .int), (cyJ, .long), (cyZ, .boolean)] := cx0
  have hR : ∀ (u : (Nat → Int32) × (Nat → Int32) × (Nat → Int32) × (Nat → Int32) × (Nat → Int32) × (Nat → Int32)) (pc : Nat) (lv : List (Nat × Value)), decode cX11_place pc = .ok (.return_, 1) → Q u → J x 0 0 9 (W_Model cyI cyJ cyZ a_M a_M_square a_M_want a_M_text a_M_read a_M_row a_M_foldSet a_M_foldEdges a_M_foldNeeds a_M_foldYards a_M_least a_M_ways a_M_price a_M_rowBy a_M_columnBy a_M_rowOf a_M_wayBack a_M_slack a_M_isUsed a_M_lifted a_M_freed a_M_path M_wide M_high M_hedges M_hurdles M_wants M_rest M_frozen M_bytes M_position M_tokenAt M_token M_digits M_number M_faultAt M_readMany M_readWide M_readHigh M_nights M_why M_folds M_square M_want M_text M_read M_row M_foldSet M_foldEdges M_foldNeeds M_foldYards M_least M_ways M_price u.1 u.2.1 u.2.2.1 u.2.2.2.1 u.2.2.2.2.1 u.2.2.2.2.2 M_lifted M_freed M_path) lv pc [] := (fun u pc lv d hq => hR0 u pc lv d hq)
  show J x 0 0 9 (W_Model cyI cyJ cyZ a_M a_M_square a_M_want a_M_text a_M_read a_M_row a_M_foldSet a_M_foldEdges a_M_foldNeeds a_M_foldYards a_M_least a_M_ways a_M_price a_M_rowBy a_M_columnBy a_M_rowOf a_M_wayBack a_M_slack a_M_isUsed a_M_lifted a_M_freed a_M_path M_wide M_high M_hedges M_hurdles M_wants M_rest M_frozen M_bytes M_position M_tokenAt M_token M_digits M_number M_faultAt M_readMany M_readWide M_readHigh M_nights M_why M_folds M_square M_want M_text M_read M_row M_foldSet M_foldEdges M_foldNeeds M_foldYards M_least M_ways M_price M_rowBy M_columnBy M_rowOf M_wayBack M_slack M_isUsed M_lifted M_freed M_path) [(0, .ref a_M), (1, .int p1), (2, .int p2)] 0 []
  refine j_iconst cx (v := 0) (by decide) dX11_place_0 (pn := 1) rfl ?_
  refine j_istore_n cx rfl [(3, .int 0), (0, .ref a_M), (1, .int p1), (2, .int p2)] (by decide) rfl dX11_place_1 (pn := 2) rfl ?_
  refine j_sub [1, 2, 3, 0] [(0, .ref a_M), (1, .int p1), (2, .int p2), (3, .int 0)] rfl ?_
  exact J_X11_place_2 cx hR h
theorem dX11_leastPrice_0 : decode cX11_leastPrice 0 = .ok (.iconst 0, 1) := by decide +kernel
theorem dX11_leastPrice_1 : decode cX11_leastPrice 1 = .ok (.istore_n 3, 1) := by decide +kernel
theorem dX11_leastPrice_2 : decode cX11_leastPrice 2 = .ok (.iload_n 3, 1) := by decide +kernel
theorem dX11_leastPrice_3 : decode cX11_leastPrice 3 = .ok (.bipush 64, 2) := by decide +kernel
theorem dX11_leastPrice_5 : decode cX11_leastPrice 5 = .ok (.if_icmp .ge 23, 3) := by decide +kernel
theorem dX11_leastPrice_8 : decode cX11_leastPrice 8 = .ok (.aload_n 0, 1) := by decide +kernel
theorem dX11_leastPrice_9 : decode cX11_leastPrice 9 = .ok (.getfield 61, 3) := by decide +kernel
theorem dX11_leastPrice_12 : decode cX11_leastPrice 12 = .ok (.iload_n 3, 1) := by decide +kernel
theorem dX11_leastPrice_13 : decode cX11_leastPrice 13 = .ok (.iconst 0, 1) := by decide +kernel
theorem dX11_leastPrice_14 : decode cX11_leastPrice 14 = .ok (.iastore, 1) := by decide +kernel
theorem dX11_leastPrice_15 : decode cX11_leastPrice 15 = .ok (.aload_n 0, 1) := by decide +kernel
theorem dX11_leastPrice_16 : decode cX11_leastPrice 16 = .ok (.getfield 64, 3) := by decide +kernel
theorem dX11_leastPrice_19 : decode cX11_leastPrice 19 = .ok (.iload_n 3, 1) := by decide +kernel
theorem dX11_leastPrice_20 : decode cX11_leastPrice 20 = .ok (.iconst 0, 1) := by decide +kernel
theorem dX11_leastPrice_21 : decode cX11_leastPrice 21 = .ok (.iastore, 1) := by decide +kernel
theorem dX11_leastPrice_22 : decode cX11_leastPrice 22 = .ok (.iinc 3 1, 3) := by decide +kernel
theorem dX11_leastPrice_25 : decode cX11_leastPrice 25 = .ok (.goto (-23), 3) := by decide +kernel
theorem dX11_leastPrice_28 : decode cX11_leastPrice 28 = .ok (.iconst 0, 1) := by decide +kernel
theorem dX11_leastPrice_29 : decode cX11_leastPrice 29 = .ok (.istore_n 3, 1) := by decide +kernel
theorem dX11_leastPrice_30 : decode cX11_leastPrice 30 = .ok (.iload_n 3, 1) := by decide +kernel
theorem dX11_leastPrice_31 : decode cX11_leastPrice 31 = .ok (.bipush 33, 2) := by decide +kernel
theorem dX11_leastPrice_33 : decode cX11_leastPrice 33 = .ok (.if_icmp .ge 16, 3) := by decide +kernel
theorem dX11_leastPrice_36 : decode cX11_leastPrice 36 = .ok (.aload_n 0, 1) := by decide +kernel
theorem dX11_leastPrice_37 : decode cX11_leastPrice 37 = .ok (.getfield 58, 3) := by decide +kernel
theorem dX11_leastPrice_40 : decode cX11_leastPrice 40 = .ok (.iload_n 3, 1) := by decide +kernel
theorem dX11_leastPrice_41 : decode cX11_leastPrice 41 = .ok (.iconst 0, 1) := by decide +kernel
theorem dX11_leastPrice_42 : decode cX11_leastPrice 42 = .ok (.iastore, 1) := by decide +kernel
theorem dX11_leastPrice_43 : decode cX11_leastPrice 43 = .ok (.iinc 3 1, 3) := by decide +kernel
theorem dX11_leastPrice_46 : decode cX11_leastPrice 46 = .ok (.goto (-16), 3) := by decide +kernel
theorem dX11_leastPrice_49 : decode cX11_leastPrice 49 = .ok (.iconst 1, 1) := by decide +kernel
theorem dX11_leastPrice_50 : decode cX11_leastPrice 50 = .ok (.istore_n 3, 1) := by decide +kernel
theorem dX11_leastPrice_51 : decode cX11_leastPrice 51 = .ok (.iload_n 3, 1) := by decide +kernel
theorem dX11_leastPrice_52 : decode cX11_leastPrice 52 = .ok (.iload_n 1, 1) := by decide +kernel
theorem dX11_leastPrice_53 : decode cX11_leastPrice 53 = .ok (.if_icmp .gt 15, 3) := by decide +kernel
theorem dX11_leastPrice_56 : decode cX11_leastPrice 56 = .ok (.aload_n 0, 1) := by decide +kernel
theorem dX11_leastPrice_57 : decode cX11_leastPrice 57 = .ok (.iload_n 3, 1) := by decide +kernel
theorem dX11_leastPrice_58 : decode cX11_leastPrice 58 = .ok (.iload_n 2, 1) := by decide +kernel
theorem dX11_leastPrice_59 : decode cX11_leastPrice 59 = .ok (.invokevirtual 263, 3) := by decide +kernel
theorem dX11_leastPrice_62 : decode cX11_leastPrice 62 = .ok (.iinc 3 1, 3) := by decide +kernel
theorem dX11_leastPrice_65 : decode cX11_leastPrice 65 = .ok (.goto (-14), 3) := by decide +kernel
theorem dX11_leastPrice_68 : decode cX11_leastPrice 68 = .ok (.iconst 0, 1) := by decide +kernel
theorem dX11_leastPrice_69 : decode cX11_leastPrice 69 = .ok (.istore_n 3, 1) := by decide +kernel
theorem dX11_leastPrice_70 : decode cX11_leastPrice 70 = .ok (.iconst 1, 1) := by decide +kernel
theorem dX11_leastPrice_71 : decode cX11_leastPrice 71 = .ok (.istore 4, 2) := by decide +kernel
theorem dX11_leastPrice_73 : decode cX11_leastPrice 73 = .ok (.iload 4, 2) := by decide +kernel
theorem dX11_leastPrice_75 : decode cX11_leastPrice 75 = .ok (.iload_n 2, 1) := by decide +kernel
theorem dX11_leastPrice_76 : decode cX11_leastPrice 76 = .ok (.if_icmp .gt 48, 3) := by decide +kernel
theorem dX11_leastPrice_79 : decode cX11_leastPrice 79 = .ok (.iload_n 3, 1) := by decide +kernel
theorem dX11_leastPrice_80 : decode cX11_leastPrice 80 = .ok (.aload_n 0, 1) := by decide +kernel
theorem dX11_leastPrice_81 : decode cX11_leastPrice 81 = .ok (.getfield 64, 3) := by decide +kernel
theorem dX11_leastPrice_84 : decode cX11_leastPrice 84 = .ok (.iload 4, 2) := by decide +kernel
theorem dX11_leastPrice_86 : decode cX11_leastPrice 86 = .ok (.iaload, 1) := by decide +kernel
theorem dX11_leastPrice_87 : decode cX11_leastPrice 87 = .ok (.ifCond .le 28, 3) := by decide +kernel
theorem dX11_leastPrice_90 : decode cX11_leastPrice 90 = .ok (.aload_n 0, 1) := by decide +kernel
theorem dX11_leastPrice_91 : decode cX11_leastPrice 91 = .ok (.getfield 55, 3) := by decide +kernel
theorem dX11_leastPrice_94 : decode cX11_leastPrice 94 = .ok (.bipush 64, 2) := by decide +kernel
theorem dX11_leastPrice_96 : decode cX11_leastPrice 96 = .ok (.aload_n 0, 1) := by decide +kernel
theorem dX11_leastPrice_97 : decode cX11_leastPrice 97 = .ok (.getfield 64, 3) := by decide +kernel
theorem dX11_leastPrice_100 : decode cX11_leastPrice 100 = .ok (.iload 4, 2) := by decide +kernel
theorem dX11_leastPrice_102 : decode cX11_leastPrice 102 = .ok (.iaload, 1) := by decide +kernel
theorem dX11_leastPrice_103 : decode cX11_leastPrice 103 = .ok (.iconst 1, 1) := by decide +kernel
theorem dX11_leastPrice_104 : decode cX11_leastPrice 104 = .ok (.isub, 1) := by decide +kernel
theorem dX11_leastPrice_105 : decode cX11_leastPrice 105 = .ok (.imul, 1) := by decide +kernel
theorem dX11_leastPrice_106 : decode cX11_leastPrice 106 = .ok (.iload 4, 2) := by decide +kernel
theorem dX11_leastPrice_108 : decode cX11_leastPrice 108 = .ok (.iadd, 1) := by decide +kernel
theorem dX11_leastPrice_109 : decode cX11_leastPrice 109 = .ok (.iconst 1, 1) := by decide +kernel
theorem dX11_leastPrice_110 : decode cX11_leastPrice 110 = .ok (.isub, 1) := by decide +kernel
theorem dX11_leastPrice_111 : decode cX11_leastPrice 111 = .ok (.iaload, 1) := by decide +kernel
theorem dX11_leastPrice_112 : decode cX11_leastPrice 112 = .ok (.goto 4, 3) := by decide +kernel
theorem dX11_leastPrice_115 : decode cX11_leastPrice 115 = .ok (.iconst 0, 1) := by decide +kernel
theorem dX11_leastPrice_116 : decode cX11_leastPrice 116 = .ok (.iadd, 1) := by decide +kernel
theorem dX11_leastPrice_117 : decode cX11_leastPrice 117 = .ok (.istore_n 3, 1) := by decide +kernel
theorem dX11_leastPrice_118 : decode cX11_leastPrice 118 = .ok (.iinc 4 1, 3) := by decide +kernel
theorem dX11_leastPrice_121 : decode cX11_leastPrice 121 = .ok (.goto (-48), 3) := by decide +kernel
theorem dX11_leastPrice_124 : decode cX11_leastPrice 124 = .ok (.iload_n 3, 1) := by decide +kernel
theorem dX11_leastPrice_125 : decode cX11_leastPrice 125 = .ok (.ireturn, 1) := by decide +kernel
abbrev rm_X11_leastPrice : Room := { frames := 1, cells := 0, slots := 0, locals := 28 }
theorem hd_X11_leastPrice : yX11_leastPrice.cls ≠ "java/lang/invoke/MethodHandle" ∧ yX11_leastPrice.cls ≠ "java/lang/invoke/VarHandle" ∧ (parseMethodDescriptor yX11_leastPrice.desc).map (fun d => d.parameters.length) = some 2 := by decide +kernel
def bk_X11_leastPrice_116 (Q : Int32 → ((Nat → Int32) × (Nat → Int32) × (Nat → Int32) × (Nat → Int32) × (Nat → Int32) × (Nat → Int32)) → Prop) (B73 : Int32 → Int32 → Prop) (x4 : Int32) (s0 : Int32) (s1 : Int32) : Prop :=
∀ y6 : Int32, y6 = (s1 + s0) →
∀ y7 : Int32, y7 = (x4 + 1) →
B73 y6 y7
def bd_X11_leastPrice_73 (Q : Int32 → ((Nat → Int32) × (Nat → Int32) × (Nat → Int32) × (Nat → Int32) × (Nat → Int32) × (Nat → Int32)) → Prop) (B73 : Int32 → Int32 → Prop) (p2 : Int32) (M_price : Nat → Int32) (M_rowBy : Nat → Int32) (M_columnBy : Nat → Int32) (M_rowOf : Nat → Int32) (M_wayBack : Nat → Int32) (M_slack : Nat → Int32) (M_isUsed : Nat → Int32) (x3 : Int32) (x4 : Int32) : Prop :=
((p2 < x4 → Q x3 (M_rowBy, M_columnBy, M_rowOf, M_wayBack, M_slack, M_isUsed)) ∧
(¬ p2 < x4 → vp_in x4 64 ∧ (((M_rowOf x4.toNatClampNeg) ≤ 0 → bk_X11_leastPrice_116 Q B73 x4 0 x3) ∧
(¬ (M_rowOf x4.toNatClampNeg) ≤ 0 → vp_in x4 64 ∧ vp_in (((64 * ((M_rowOf x4.toNatClampNeg) - 1)) + x4) - 1) 2048 ∧ bk_X11_leastPrice_116 Q B73 x4 (M_price (((64 * ((M_rowOf x4.toNatClampNeg) - 1)) + x4) - 1).toNatClampNeg) x3))))
def lp_X11_leastPrice_73 (Q : Int32 → ((Nat → Int32) × (Nat → Int32) × (Nat → Int32) × (Nat → Int32) × (Nat → Int32) × (Nat → Int32)) → Prop) (p2 : Int32) (M_price : Nat → Int32) (M_rowBy : Nat → Int32) (M_columnBy : Nat → Int32) (M_rowOf : Nat → Int32) (M_wayBack : Nat → Int32) (M_slack : Nat → Int32) (M_isUsed : Nat → Int32) (x3 : Int32) (x4 : Int32) : Prop :=
∃ I : Nat → Int32 → Int32 → Prop, (∃ n, I n x3 x4) ∧ ∀ n x3 x4, I n x3 x4 → bd_X11_leastPrice_73 Q  (fun x3' x4' => ∃ n', n' < n ∧ I n' x3' x4') p2 M_price M_rowBy M_columnBy M_rowOf M_wayBack M_slack M_isUsed x3 x4
def bd_X11_leastPrice_51 (Q : Int32 → ((Nat → Int32) × (Nat → Int32) × (Nat → Int32) × (Nat → Int32) × (Nat → Int32) × (Nat → Int32)) → Prop) (B51 : (Nat → Int32) → (Nat → Int32) → (Nat → Int32) → (Nat → Int32) → (Nat → Int32) → (Nat → Int32) → Int32 → Prop) (p1 : Int32) (p2 : Int32) (M_price : Nat → Int32) (M_rowBy : Nat → Int32) (M_columnBy : Nat → Int32) (M_rowOf : Nat → Int32) (M_wayBack : Nat → Int32) (M_slack : Nat → Int32) (M_isUsed : Nat → Int32) (x3 : Int32) : Prop :=
((p1 < x3 → lp_X11_leastPrice_73 Q p2 M_price M_rowBy M_columnBy M_rowOf M_wayBack M_slack M_isUsed 0 1) ∧
(¬ p1 < x3 → wp_X11_place x3 p2 M_price M_rowBy M_columnBy M_rowOf M_wayBack M_slack M_isUsed (fun (u8 : (Nat → Int32) × (Nat → Int32) × (Nat → Int32) × (Nat → Int32) × (Nat → Int32) × (Nat → Int32)) => ∀ y9 : Int32, y9 = (x3 + 1) →
B51 u8.1 u8.2.1 u8.2.2.1 u8.2.2.2.1 u8.2.2.2.2.1 u8.2.2.2.2.2 y9)))
def lp_X11_leastPrice_51 (Q : Int32 → ((Nat → Int32) × (Nat → Int32) × (Nat → Int32) × (Nat → Int32) × (Nat → Int32) × (Nat → Int32)) → Prop) (p1 : Int32) (p2 : Int32) (M_price : Nat → Int32) (M_rowBy : Nat → Int32) (M_columnBy : Nat → Int32) (M_rowOf : Nat → Int32) (M_wayBack : Nat → Int32) (M_slack : Nat → Int32) (M_isUsed : Nat → Int32) (x3 : Int32) : Prop :=
∃ I : Nat → (Nat → Int32) → (Nat → Int32) → (Nat → Int32) → (Nat → Int32) → (Nat → Int32) → (Nat → Int32) → Int32 → Prop, (∃ n, I n M_rowBy M_columnBy M_rowOf M_wayBack M_slack M_isUsed x3) ∧ ∀ n M_rowBy M_columnBy M_rowOf M_wayBack M_slack M_isUsed x3, I n M_rowBy M_columnBy M_rowOf M_wayBack M_slack M_isUsed x3 → bd_X11_leastPrice_51 Q  (fun M_rowBy' M_columnBy' M_rowOf' M_wayBack' M_slack' M_isUsed' x3' => ∃ n', n' < n ∧ I n' M_rowBy' M_columnBy' M_rowOf' M_wayBack' M_slack' M_isUsed' x3') p1 p2 M_price M_rowBy M_columnBy M_rowOf M_wayBack M_slack M_isUsed x3
def bd_X11_leastPrice_30 (Q : Int32 → ((Nat → Int32) × (Nat → Int32) × (Nat → Int32) × (Nat → Int32) × (Nat → Int32) × (Nat → Int32)) → Prop) (B30 : (Nat → Int32) → Int32 → Prop) (p1 : Int32) (p2 : Int32) (M_price : Nat → Int32) (M_columnBy : Nat → Int32) (M_rowOf : Nat → Int32) (M_wayBack : Nat → Int32) (M_slack : Nat → Int32) (M_isUsed : Nat → Int32) (M_rowBy : Nat → Int32) (x3 : Int32) : Prop :=
((33 ≤ x3 → lp_X11_leastPrice_51 Q p1 p2 M_price M_rowBy M_columnBy M_rowOf M_wayBack M_slack M_isUsed 1) ∧
(¬ 33 ≤ x3 → vp_in x3 33 ∧ (∀ f10 : Nat → Int32, f10 = (upd M_rowBy x3.toNatClampNeg 0) →
∀ y11 : Int32, y11 = (x3 + 1) →
B30 f10 y11)))
def lp_X11_leastPrice_30 (Q : Int32 → ((Nat → Int32) × (Nat → Int32) × (Nat → Int32) × (Nat → Int32) × (Nat → Int32) × (Nat → Int32)) → Prop) (p1 : Int32) (p2 : Int32) (M_price : Nat → Int32) (M_columnBy : Nat → Int32) (M_rowOf : Nat → Int32) (M_wayBack : Nat → Int32) (M_slack : Nat → Int32) (M_isUsed : Nat → Int32) (M_rowBy : Nat → Int32) (x3 : Int32) : Prop :=
∃ I : Nat → (Nat → Int32) → Int32 → Prop, (∃ n, I n M_rowBy x3) ∧ ∀ n M_rowBy x3, I n M_rowBy x3 → bd_X11_leastPrice_30 Q  (fun M_rowBy' x3' => ∃ n', n' < n ∧ I n' M_rowBy' x3') p1 p2 M_price M_columnBy M_rowOf M_wayBack M_slack M_isUsed M_rowBy x3
def bd_X11_leastPrice_2 (Q : Int32 → ((Nat → Int32) × (Nat → Int32) × (Nat → Int32) × (Nat → Int32) × (Nat → Int32) × (Nat → Int32)) → Prop) (B2 : (Nat → Int32) → (Nat → Int32) → Int32 → Prop) (p1 : Int32) (p2 : Int32) (M_price : Nat → Int32) (M_rowBy : Nat → Int32) (M_wayBack : Nat → Int32) (M_slack : Nat → Int32) (M_isUsed : Nat → Int32) (M_columnBy : Nat → Int32) (M_rowOf : Nat → Int32) (x3 : Int32) : Prop :=
((64 ≤ x3 → lp_X11_leastPrice_30 Q p1 p2 M_price M_columnBy M_rowOf M_wayBack M_slack M_isUsed M_rowBy 0) ∧
(¬ 64 ≤ x3 → vp_in x3 64 ∧ (∀ f12 : Nat → Int32, f12 = (upd M_columnBy x3.toNatClampNeg 0) →
vp_in x3 64 ∧ (∀ f13 : Nat → Int32, f13 = (upd M_rowOf x3.toNatClampNeg 0) →
∀ y14 : Int32, y14 = (x3 + 1) →
B2 f12 f13 y14))))
def lp_X11_leastPrice_2 (Q : Int32 → ((Nat → Int32) × (Nat → Int32) × (Nat → Int32) × (Nat → Int32) × (Nat → Int32) × (Nat → Int32)) → Prop) (p1 : Int32) (p2 : Int32) (M_price : Nat → Int32) (M_rowBy : Nat → Int32) (M_wayBack : Nat → Int32) (M_slack : Nat → Int32) (M_isUsed : Nat → Int32) (M_columnBy : Nat → Int32) (M_rowOf : Nat → Int32) (x3 : Int32) : Prop :=
∃ I : Nat → (Nat → Int32) → (Nat → Int32) → Int32 → Prop, (∃ n, I n M_columnBy M_rowOf x3) ∧ ∀ n M_columnBy M_rowOf x3, I n M_columnBy M_rowOf x3 → bd_X11_leastPrice_2 Q  (fun M_columnBy' M_rowOf' x3' => ∃ n', n' < n ∧ I n' M_columnBy' M_rowOf' x3') p1 p2 M_price M_rowBy M_wayBack M_slack M_isUsed M_columnBy M_rowOf x3
def wp_X11_leastPrice (p1 : Int32) (p2 : Int32) (M_price : Nat → Int32) (M_rowBy : Nat → Int32) (M_columnBy : Nat → Int32) (M_rowOf : Nat → Int32) (M_wayBack : Nat → Int32) (M_slack : Nat → Int32) (M_isUsed : Nat → Int32) (Q : Int32 → ((Nat → Int32) × (Nat → Int32) × (Nat → Int32) × (Nat → Int32) × (Nat → Int32) × (Nat → Int32)) → Prop) : Prop :=
lp_X11_leastPrice_2 Q p1 p2 M_price M_rowBy M_wayBack M_slack M_isUsed M_columnBy M_rowOf 0
set_option maxHeartbeats 4000000 in
set_option maxRecDepth 100000 in
theorem J_X11_leastPrice_116 {x : CX} {D : DG} {cyI cyJ cyZ : ClassId} {a_M a_M_square a_M_want a_M_text a_M_read a_M_row a_M_foldSet a_M_foldEdges a_M_foldNeeds a_M_foldYards a_M_least a_M_ways a_M_price a_M_rowBy a_M_columnBy a_M_rowOf a_M_wayBack a_M_slack a_M_isUsed a_M_lifted a_M_freed a_M_path : Nat} {M_wide : Int32} {M_high : Int32} {M_hedges : Int64} {M_hurdles : Int32} {M_wants : Int32} {M_rest : Int32} {M_frozen : Int32} {M_bytes : Int32} {M_position : Int32} {M_tokenAt : Int32} {M_token : Int64} {M_digits : Int32} {M_number : Int32} {M_faultAt : Int32} {M_readMany : Int32} {M_readWide : Int32} {M_readHigh : Int32} {M_nights : Int32} {M_why : Int32} {M_folds : Int32} {M_square : Nat → Int32} {M_want : Nat → Int32} {M_text : Nat → Int32} {M_read : Nat → Int32} {M_row : Nat → Int32} {M_foldSet : Nat → Int32} {M_foldEdges : Nat → Int64} {M_foldNeeds : Nat → Int32} {M_foldYards : Nat → Int32} {M_least : Nat → Int32} {M_ways : Nat → Int32} {M_price : Nat → Int32} {M_rowBy : Nat → Int32} {M_columnBy : Nat → Int32} {M_rowOf : Nat → Int32} {M_wayBack : Nat → Int32} {M_slack : Nat → Int32} {M_isUsed : Nat → Int32} {M_lifted : Nat → Int32} {M_freed : Nat → Int32} {M_path : Nat → Int32} {p2 : Int32} {x4 : Int32} {s0 : Int32} {s1 : Int32} {Q : Int32 → ((Nat → Int32) × (Nat → Int32) × (Nat → Int32) × (Nat → Int32) × (Nat → Int32) × (Nat → Int32)) → Prop} {B73 : Int32 → Int32 → Prop} (cx : Cx x cX11_leastPrice 5 RX11 rm_X11_leastPrice D [(cyI, .int), (cyJ, .long), (cyZ, .boolean)]) (hR : ∀ (v : Int32) (u : (Nat → Int32) × (Nat → Int32) × (Nat → Int32) × (Nat → Int32) × (Nat → Int32) × (Nat → Int32)) (pc : Nat) (lv : List (Nat × Value)), decode cX11_leastPrice pc = .ok (.ireturn, 1) → Q v u → J x 0 0 5 (W_Model cyI cyJ cyZ a_M a_M_square a_M_want a_M_text a_M_read a_M_row a_M_foldSet a_M_foldEdges a_M_foldNeeds a_M_foldYards a_M_least a_M_ways a_M_price a_M_rowBy a_M_columnBy a_M_rowOf a_M_wayBack a_M_slack a_M_isUsed a_M_lifted a_M_freed a_M_path M_wide M_high M_hedges M_hurdles M_wants M_rest M_frozen M_bytes M_position M_tokenAt M_token M_digits M_number M_faultAt M_readMany M_readWide M_readHigh M_nights M_why M_folds M_square M_want M_text M_read M_row M_foldSet M_foldEdges M_foldNeeds M_foldYards M_least M_ways M_price u.1 u.2.1 u.2.2.1 u.2.2.2.1 u.2.2.2.2.1 u.2.2.2.2.2 M_lifted M_freed M_path) lv pc [.int v]) (hB73 : ∀ (x3 : Int32) (x4 : Int32), B73 x3 x4 → J x 0 0 5 (W_Model cyI cyJ cyZ a_M a_M_square a_M_want a_M_text a_M_read a_M_row a_M_foldSet a_M_foldEdges a_M_foldNeeds a_M_foldYards a_M_least a_M_ways a_M_price a_M_rowBy a_M_columnBy a_M_rowOf a_M_wayBack a_M_slack a_M_isUsed a_M_lifted a_M_freed a_M_path M_wide M_high M_hedges M_hurdles M_wants M_rest M_frozen M_bytes M_position M_tokenAt M_token M_digits M_number M_faultAt M_readMany M_readWide M_readHigh M_nights M_why M_folds M_square M_want M_text M_read M_row M_foldSet M_foldEdges M_foldNeeds M_foldYards M_least M_ways M_price M_rowBy M_columnBy M_rowOf M_wayBack M_slack M_isUsed M_lifted M_freed M_path) [(0, .ref a_M), (2, .int p2), (3, .int x3), (4, .int x4)] 73 []) (h : bk_X11_leastPrice_116 Q B73 x4 s0 s1) :
    J x 0 0 5 (W_Model cyI cyJ cyZ a_M a_M_square a_M_want a_M_text a_M_read a_M_row a_M_foldSet a_M_foldEdges a_M_foldNeeds a_M_foldYards a_M_least a_M_ways a_M_price a_M_rowBy a_M_columnBy a_M_rowOf a_M_wayBack a_M_slack a_M_isUsed a_M_lifted a_M_freed a_M_path M_wide M_high M_hedges M_hurdles M_wants M_rest M_frozen M_bytes M_position M_tokenAt M_token M_digits M_number M_faultAt M_readMany M_readWide M_readHigh M_nights M_why M_folds M_square M_want M_text M_read M_row M_foldSet M_foldEdges M_foldNeeds M_foldYards M_least M_ways M_price M_rowBy M_columnBy M_rowOf M_wayBack M_slack M_isUsed M_lifted M_freed M_path) [(0, .ref a_M), (2, .int p2), (4, .int x4)] 116 [.int s0, .int s1] := by
  unfold bk_X11_leastPrice_116 at h
  refine j_iadd cx dX11_leastPrice_116 (pn := 117) rfl ?_
  refine j_topi (fun y6 ey6 => ?_)
  have h := h y6 ey6
  refine j_istore_n cx rfl [(3, .int y6), (0, .ref a_M), (2, .int p2), (4, .int x4)] (by decide) rfl dX11_leastPrice_117 (pn := 118) rfl ?_
  obtain ⟨y7, ey7⟩ : ∃ z : Int32, z = x4 + 1 := ⟨_, rfl⟩
  have h := h y7 ey7
  refine j_iinc cx 3 rfl (cst := 1) (by decide) ey7 [(4, .int y7), (3, .int y6), (0, .ref a_M), (2, .int p2)] (by decide) rfl dX11_leastPrice_118 (pn := 121) rfl ?_
  refine j_goto cx 73 dX11_leastPrice_121 rfl ?_
  refine j_sub [2, 3, 1, 0] [(0, .ref a_M), (2, .int p2), (3, .int y6), (4, .int y7)] rfl ?_
  exact hB73 _ _ h
set_option maxHeartbeats 4000000 in
set_option maxRecDepth 100000 in
theorem B_X11_leastPrice_73 {x : CX} {D : DG} {cyI cyJ cyZ : ClassId} {a_M a_M_square a_M_want a_M_text a_M_read a_M_row a_M_foldSet a_M_foldEdges a_M_foldNeeds a_M_foldYards a_M_least a_M_ways a_M_price a_M_rowBy a_M_columnBy a_M_rowOf a_M_wayBack a_M_slack a_M_isUsed a_M_lifted a_M_freed a_M_path : Nat} {M_wide : Int32} {M_high : Int32} {M_hedges : Int64} {M_hurdles : Int32} {M_wants : Int32} {M_rest : Int32} {M_frozen : Int32} {M_bytes : Int32} {M_position : Int32} {M_tokenAt : Int32} {M_token : Int64} {M_digits : Int32} {M_number : Int32} {M_faultAt : Int32} {M_readMany : Int32} {M_readWide : Int32} {M_readHigh : Int32} {M_nights : Int32} {M_why : Int32} {M_folds : Int32} {M_square : Nat → Int32} {M_want : Nat → Int32} {M_text : Nat → Int32} {M_read : Nat → Int32} {M_row : Nat → Int32} {M_foldSet : Nat → Int32} {M_foldEdges : Nat → Int64} {M_foldNeeds : Nat → Int32} {M_foldYards : Nat → Int32} {M_least : Nat → Int32} {M_ways : Nat → Int32} {M_price : Nat → Int32} {M_rowBy : Nat → Int32} {M_columnBy : Nat → Int32} {M_rowOf : Nat → Int32} {M_wayBack : Nat → Int32} {M_slack : Nat → Int32} {M_isUsed : Nat → Int32} {M_lifted : Nat → Int32} {M_freed : Nat → Int32} {M_path : Nat → Int32} {p2 : Int32} {x3 : Int32} {x4 : Int32} {Q : Int32 → ((Nat → Int32) × (Nat → Int32) × (Nat → Int32) × (Nat → Int32) × (Nat → Int32) × (Nat → Int32)) → Prop} {B73 : Int32 → Int32 → Prop} (cx : Cx x cX11_leastPrice 5 RX11 rm_X11_leastPrice D [(cyI, .int), (cyJ, .long), (cyZ, .boolean)]) (hR : ∀ (v : Int32) (u : (Nat → Int32) × (Nat → Int32) × (Nat → Int32) × (Nat → Int32) × (Nat → Int32) × (Nat → Int32)) (pc : Nat) (lv : List (Nat × Value)), decode cX11_leastPrice pc = .ok (.ireturn, 1) → Q v u → J x 0 0 5 (W_Model cyI cyJ cyZ a_M a_M_square a_M_want a_M_text a_M_read a_M_row a_M_foldSet a_M_foldEdges a_M_foldNeeds a_M_foldYards a_M_least a_M_ways a_M_price a_M_rowBy a_M_columnBy a_M_rowOf a_M_wayBack a_M_slack a_M_isUsed a_M_lifted a_M_freed a_M_path M_wide M_high M_hedges M_hurdles M_wants M_rest M_frozen M_bytes M_position M_tokenAt M_token M_digits M_number M_faultAt M_readMany M_readWide M_readHigh M_nights M_why M_folds M_square M_want M_text M_read M_row M_foldSet M_foldEdges M_foldNeeds M_foldYards M_least M_ways M_price u.1 u.2.1 u.2.2.1 u.2.2.2.1 u.2.2.2.2.1 u.2.2.2.2.2 M_lifted M_freed M_path) lv pc [.int v]) (hB73 : ∀ (x3 : Int32) (x4 : Int32), B73 x3 x4 → J x 0 0 5 (W_Model cyI cyJ cyZ a_M a_M_square a_M_want a_M_text a_M_read a_M_row a_M_foldSet a_M_foldEdges a_M_foldNeeds a_M_foldYards a_M_least a_M_ways a_M_price a_M_rowBy a_M_columnBy a_M_rowOf a_M_wayBack a_M_slack a_M_isUsed a_M_lifted a_M_freed a_M_path M_wide M_high M_hedges M_hurdles M_wants M_rest M_frozen M_bytes M_position M_tokenAt M_token M_digits M_number M_faultAt M_readMany M_readWide M_readHigh M_nights M_why M_folds M_square M_want M_text M_read M_row M_foldSet M_foldEdges M_foldNeeds M_foldYards M_least M_ways M_price M_rowBy M_columnBy M_rowOf M_wayBack M_slack M_isUsed M_lifted M_freed M_path) [(0, .ref a_M), (2, .int p2), (3, .int x3), (4, .int x4)] 73 []) (h : bd_X11_leastPrice_73 Q B73 p2 M_price M_rowBy M_columnBy M_rowOf M_wayBack M_slack M_isUsed x3 x4) :
    J x 0 0 5 (W_Model cyI cyJ cyZ a_M a_M_square a_M_want a_M_text a_M_read a_M_row a_M_foldSet a_M_foldEdges a_M_foldNeeds a_M_foldYards a_M_least a_M_ways a_M_price a_M_rowBy a_M_columnBy a_M_rowOf a_M_wayBack a_M_slack a_M_isUsed a_M_lifted a_M_freed a_M_path M_wide M_high M_hedges M_hurdles M_wants M_rest M_frozen M_bytes M_position M_tokenAt M_token M_digits M_number M_faultAt M_readMany M_readWide M_readHigh M_nights M_why M_folds M_square M_want M_text M_read M_row M_foldSet M_foldEdges M_foldNeeds M_foldYards M_least M_ways M_price M_rowBy M_columnBy M_rowOf M_wayBack M_slack M_isUsed M_lifted M_freed M_path) [(0, .ref a_M), (2, .int p2), (3, .int x3), (4, .int x4)] 73 [] := by
  unfold bd_X11_leastPrice_73 at h
  refine j_iload cx 3 rfl dX11_leastPrice_73 (pn := 75) rfl ?_
  refine j_iload_n cx 1 rfl rfl dX11_leastPrice_75 (pn := 76) rfl ?_
  refine j_icmp_gt cx 124 dX11_leastPrice_76 (pn := 79) rfl rfl (fun c4 => ?_) (fun c4 => ?_)
  · have h := h.1 c4
    refine j_iload_n cx 2 rfl rfl dX11_leastPrice_124 (pn := 125) rfl ?_
    exact hR x3 (M_rowBy, M_columnBy, M_rowOf, M_wayBack, M_slack, M_isUsed) 125 _ dX11_leastPrice_125 h
  · have h := h.2 c4
    refine j_iload_n cx 2 rfl rfl dX11_leastPrice_79 (pn := 80) rfl ?_
    refine j_aload_n cx 0 rfl rfl dX11_leastPrice_80 (pn := 81) rfl ?_
    refine j_get cx inGX11 0 rfl rfl 34 (by decide) q_fl_X11_64 rfl rfl dX11_leastPrice_81 (pn := 84) rfl ?_
    refine j_iload cx 3 rfl dX11_leastPrice_84 (pn := 86) rfl ?_
    refine j_iald cx 15 0 rfl rfl h.1 dX11_leastPrice_86 (pn := 87) rfl ?_
    have h := h.2
    refine j_if_le cx 115 dX11_leastPrice_87 (pn := 90) rfl rfl (fun c5 => ?_) (fun c5 => ?_)
    · have h := h.1 c5
      refine j_iconst cx (v := 0) (by decide) dX11_leastPrice_115 (pn := 116) rfl ?_
      refine j_sub [0, 1, 3] [(0, .ref a_M), (2, .int p2), (4, .int x4)] rfl ?_
      exact J_X11_leastPrice_116 cx hR hB73 h
    · have h := h.2 c5
      refine j_aload_n cx 0 rfl rfl dX11_leastPrice_90 (pn := 91) rfl ?_
      refine j_get cx inGX11 0 rfl rfl 31 (by decide) q_fl_X11_55 rfl rfl dX11_leastPrice_91 (pn := 94) rfl ?_
      refine j_bipush cx (v := 64) (by decide) dX11_leastPrice_94 (pn := 96) rfl ?_
      refine j_aload_n cx 0 rfl rfl dX11_leastPrice_96 (pn := 97) rfl ?_
      refine j_get cx inGX11 0 rfl rfl 34 (by decide) q_fl_X11_64 rfl rfl dX11_leastPrice_97 (pn := 100) rfl ?_
      refine j_iload cx 3 rfl dX11_leastPrice_100 (pn := 102) rfl ?_
      refine j_iald cx 15 0 rfl rfl h.1 dX11_leastPrice_102 (pn := 103) rfl ?_
      have h := h.2
      refine j_iconst cx (v := 1) (by decide) dX11_leastPrice_103 (pn := 104) rfl ?_
      refine j_isub cx dX11_leastPrice_104 (pn := 105) rfl ?_
      refine j_imul cx dX11_leastPrice_105 (pn := 106) rfl ?_
      refine j_iload cx 3 rfl dX11_leastPrice_106 (pn := 108) rfl ?_
      refine j_iadd cx dX11_leastPrice_108 (pn := 109) rfl ?_
      refine j_iconst cx (v := 1) (by decide) dX11_leastPrice_109 (pn := 110) rfl ?_
      refine j_isub cx dX11_leastPrice_110 (pn := 111) rfl ?_
      refine j_iald cx 12 0 rfl rfl h.1 dX11_leastPrice_111 (pn := 112) rfl ?_
      have h := h.2
      refine j_goto cx 116 dX11_leastPrice_112 rfl ?_
      refine j_sub [0, 1, 3] [(0, .ref a_M), (2, .int p2), (4, .int x4)] rfl ?_
      exact J_X11_leastPrice_116 cx hR hB73 h
set_option maxHeartbeats 4000000 in
set_option maxRecDepth 100000 in
theorem J_X11_leastPrice_73 {x : CX} {D : DG} {cyI cyJ cyZ : ClassId} {a_M a_M_square a_M_want a_M_text a_M_read a_M_row a_M_foldSet a_M_foldEdges a_M_foldNeeds a_M_foldYards a_M_least a_M_ways a_M_price a_M_rowBy a_M_columnBy a_M_rowOf a_M_wayBack a_M_slack a_M_isUsed a_M_lifted a_M_freed a_M_path : Nat} {M_wide : Int32} {M_high : Int32} {M_hedges : Int64} {M_hurdles : Int32} {M_wants : Int32} {M_rest : Int32} {M_frozen : Int32} {M_bytes : Int32} {M_position : Int32} {M_tokenAt : Int32} {M_token : Int64} {M_digits : Int32} {M_number : Int32} {M_faultAt : Int32} {M_readMany : Int32} {M_readWide : Int32} {M_readHigh : Int32} {M_nights : Int32} {M_why : Int32} {M_folds : Int32} {M_square : Nat → Int32} {M_want : Nat → Int32} {M_text : Nat → Int32} {M_read : Nat → Int32} {M_row : Nat → Int32} {M_foldSet : Nat → Int32} {M_foldEdges : Nat → Int64} {M_foldNeeds : Nat → Int32} {M_foldYards : Nat → Int32} {M_least : Nat → Int32} {M_ways : Nat → Int32} {M_price : Nat → Int32} {M_rowBy : Nat → Int32} {M_columnBy : Nat → Int32} {M_rowOf : Nat → Int32} {M_wayBack : Nat → Int32} {M_slack : Nat → Int32} {M_isUsed : Nat → Int32} {M_lifted : Nat → Int32} {M_freed : Nat → Int32} {M_path : Nat → Int32} {p2 : Int32} {x3 : Int32} {x4 : Int32} {Q : Int32 → ((Nat → Int32) × (Nat → Int32) × (Nat → Int32) × (Nat → Int32) × (Nat → Int32) × (Nat → Int32)) → Prop} (cx : Cx x cX11_leastPrice 5 RX11 rm_X11_leastPrice D [(cyI, .int), (cyJ, .long), (cyZ, .boolean)]) (hR : ∀ (v : Int32) (u : (Nat → Int32) × (Nat → Int32) × (Nat → Int32) × (Nat → Int32) × (Nat → Int32) × (Nat → Int32)) (pc : Nat) (lv : List (Nat × Value)), decode cX11_leastPrice pc = .ok (.ireturn, 1) → Q v u → J x 0 0 5 (W_Model cyI cyJ cyZ a_M a_M_square a_M_want a_M_text a_M_read a_M_row a_M_foldSet a_M_foldEdges a_M_foldNeeds a_M_foldYards a_M_least a_M_ways a_M_price a_M_rowBy a_M_columnBy a_M_rowOf a_M_wayBack a_M_slack a_M_isUsed a_M_lifted a_M_freed a_M_path M_wide M_high M_hedges M_hurdles M_wants M_rest M_frozen M_bytes M_position M_tokenAt M_token M_digits M_number M_faultAt M_readMany M_readWide M_readHigh M_nights M_why M_folds M_square M_want M_text M_read M_row M_foldSet M_foldEdges M_foldNeeds M_foldYards M_least M_ways M_price u.1 u.2.1 u.2.2.1 u.2.2.2.1 u.2.2.2.2.1 u.2.2.2.2.2 M_lifted M_freed M_path) lv pc [.int v]) (h : lp_X11_leastPrice_73 Q  p2 M_price M_rowBy M_columnBy M_rowOf M_wayBack M_slack M_isUsed x3 x4) :
    J x 0 0 5 (W_Model cyI cyJ cyZ a_M a_M_square a_M_want a_M_text a_M_read a_M_row a_M_foldSet a_M_foldEdges a_M_foldNeeds a_M_foldYards a_M_least a_M_ways a_M_price a_M_rowBy a_M_columnBy a_M_rowOf a_M_wayBack a_M_slack a_M_isUsed a_M_lifted a_M_freed a_M_path M_wide M_high M_hedges M_hurdles M_wants M_rest M_frozen M_bytes M_position M_tokenAt M_token M_digits M_number M_faultAt M_readMany M_readWide M_readHigh M_nights M_why M_folds M_square M_want M_text M_read M_row M_foldSet M_foldEdges M_foldNeeds M_foldYards M_least M_ways M_price M_rowBy M_columnBy M_rowOf M_wayBack M_slack M_isUsed M_lifted M_freed M_path) [(0, .ref a_M), (2, .int p2), (3, .int x3), (4, .int x4)] 73 [] := by
  obtain ⟨I, ⟨n, h0⟩, hb⟩ := h
  revert x3 x4
  induction n using Nat.strongRecOn with
  | _ n ih =>
    intro x3 x4 h0
    exact B_X11_leastPrice_73 cx hR (fun _ _ hz => by obtain ⟨n2, hlt, hI⟩ := hz; exact ih n2 hlt hI) (hb n x3 x4 h0)
set_option maxHeartbeats 4000000 in
set_option maxRecDepth 100000 in
theorem B_X11_leastPrice_51 {x : CX} {D : DG} {cyI cyJ cyZ : ClassId} {a_M a_M_square a_M_want a_M_text a_M_read a_M_row a_M_foldSet a_M_foldEdges a_M_foldNeeds a_M_foldYards a_M_least a_M_ways a_M_price a_M_rowBy a_M_columnBy a_M_rowOf a_M_wayBack a_M_slack a_M_isUsed a_M_lifted a_M_freed a_M_path : Nat} {M_wide : Int32} {M_high : Int32} {M_hedges : Int64} {M_hurdles : Int32} {M_wants : Int32} {M_rest : Int32} {M_frozen : Int32} {M_bytes : Int32} {M_position : Int32} {M_tokenAt : Int32} {M_token : Int64} {M_digits : Int32} {M_number : Int32} {M_faultAt : Int32} {M_readMany : Int32} {M_readWide : Int32} {M_readHigh : Int32} {M_nights : Int32} {M_why : Int32} {M_folds : Int32} {M_square : Nat → Int32} {M_want : Nat → Int32} {M_text : Nat → Int32} {M_read : Nat → Int32} {M_row : Nat → Int32} {M_foldSet : Nat → Int32} {M_foldEdges : Nat → Int64} {M_foldNeeds : Nat → Int32} {M_foldYards : Nat → Int32} {M_least : Nat → Int32} {M_ways : Nat → Int32} {M_price : Nat → Int32} {M_rowBy : Nat → Int32} {M_columnBy : Nat → Int32} {M_rowOf : Nat → Int32} {M_wayBack : Nat → Int32} {M_slack : Nat → Int32} {M_isUsed : Nat → Int32} {M_lifted : Nat → Int32} {M_freed : Nat → Int32} {M_path : Nat → Int32} {p1 : Int32} {p2 : Int32} {x3 : Int32} {Q : Int32 → ((Nat → Int32) × (Nat → Int32) × (Nat → Int32) × (Nat → Int32) × (Nat → Int32) × (Nat → Int32)) → Prop} {B51 : (Nat → Int32) → (Nat → Int32) → (Nat → Int32) → (Nat → Int32) → (Nat → Int32) → (Nat → Int32) → Int32 → Prop} (cx : Cx x cX11_leastPrice 5 RX11 rm_X11_leastPrice D [(cyI, .int), (cyJ, .long), (cyZ, .boolean)]) (hR : ∀ (v : Int32) (u : (Nat → Int32) × (Nat → Int32) × (Nat → Int32) × (Nat → Int32) × (Nat → Int32) × (Nat → Int32)) (pc : Nat) (lv : List (Nat × Value)), decode cX11_leastPrice pc = .ok (.ireturn, 1) → Q v u → J x 0 0 5 (W_Model cyI cyJ cyZ a_M a_M_square a_M_want a_M_text a_M_read a_M_row a_M_foldSet a_M_foldEdges a_M_foldNeeds a_M_foldYards a_M_least a_M_ways a_M_price a_M_rowBy a_M_columnBy a_M_rowOf a_M_wayBack a_M_slack a_M_isUsed a_M_lifted a_M_freed a_M_path M_wide M_high M_hedges M_hurdles M_wants M_rest M_frozen M_bytes M_position M_tokenAt M_token M_digits M_number M_faultAt M_readMany M_readWide M_readHigh M_nights M_why M_folds M_square M_want M_text M_read M_row M_foldSet M_foldEdges M_foldNeeds M_foldYards M_least M_ways M_price u.1 u.2.1 u.2.2.1 u.2.2.2.1 u.2.2.2.2.1 u.2.2.2.2.2 M_lifted M_freed M_path) lv pc [.int v]) (hB51 : ∀ (M_rowBy : Nat → Int32) (M_columnBy : Nat → Int32) (M_rowOf : Nat → Int32) (M_wayBack : Nat → Int32) (M_slack : Nat → Int32) (M_isUsed : Nat → Int32) (x3 : Int32), B51 M_rowBy M_columnBy M_rowOf M_wayBack M_slack M_isUsed x3 → J x 0 0 5 (W_Model cyI cyJ cyZ a_M a_M_square a_M_want a_M_text a_M_read a_M_row a_M_foldSet a_M_foldEdges a_M_foldNeeds a_M_foldYards a_M_least a_M_ways a_M_price a_M_rowBy a_M_columnBy a_M_rowOf a_M_wayBack a_M_slack a_M_isUsed a_M_lifted a_M_freed a_M_path M_wide M_high M_hedges M_hurdles M_wants M_rest M_frozen M_bytes M_position M_tokenAt M_token M_digits M_number M_faultAt M_readMany M_readWide M_readHigh M_nights M_why M_folds M_square M_want M_text M_read M_row M_foldSet M_foldEdges M_foldNeeds M_foldYards M_least M_ways M_price M_rowBy M_columnBy M_rowOf M_wayBack M_slack M_isUsed M_lifted M_freed M_path) [(0, .ref a_M), (1, .int p1), (2, .int p2), (3, .int x3)] 51 []) (h : bd_X11_leastPrice_51 Q B51 p1 p2 M_price M_rowBy M_columnBy M_rowOf M_wayBack M_slack M_isUsed x3) :
    J x 0 0 5 (W_Model cyI cyJ cyZ a_M a_M_square a_M_want a_M_text a_M_read a_M_row a_M_foldSet a_M_foldEdges a_M_foldNeeds a_M_foldYards a_M_least a_M_ways a_M_price a_M_rowBy a_M_columnBy a_M_rowOf a_M_wayBack a_M_slack a_M_isUsed a_M_lifted a_M_freed a_M_path M_wide M_high M_hedges M_hurdles M_wants M_rest M_frozen M_bytes M_position M_tokenAt M_token M_digits M_number M_faultAt M_readMany M_readWide M_readHigh M_nights M_why M_folds M_square M_want M_text M_read M_row M_foldSet M_foldEdges M_foldNeeds M_foldYards M_least M_ways M_price M_rowBy M_columnBy M_rowOf M_wayBack M_slack M_isUsed M_lifted M_freed M_path) [(0, .ref a_M), (1, .int p1), (2, .int p2), (3, .int x3)] 51 [] := by
  unfold bd_X11_leastPrice_51 at h
  refine j_iload_n cx 3 rfl rfl dX11_leastPrice_51 (pn := 52) rfl ?_
  refine j_iload_n cx 1 rfl rfl dX11_leastPrice_52 (pn := 53) rfl ?_
  refine j_icmp_gt cx 68 dX11_leastPrice_53 (pn := 56) rfl rfl (fun c3 => ?_) (fun c3 => ?_)
  · have h := h.1 c3
    refine j_iconst cx (v := 0) (by decide) dX11_leastPrice_68 (pn := 69) rfl ?_
    refine j_istore_n cx rfl [(3, .int 0), (0, .ref a_M), (1, .int p1), (2, .int p2)] (by decide) rfl dX11_leastPrice_69 (pn := 70) rfl ?_
    refine j_iconst cx (v := 1) (by decide) dX11_leastPrice_70 (pn := 71) rfl ?_
    refine j_istore cx [(4, .int 1), (3, .int 0), (0, .ref a_M), (1, .int p1), (2, .int p2)] (by decide) rfl dX11_leastPrice_71 (pn := 73) rfl ?_
    refine j_sub [2, 4, 1, 0] [(0, .ref a_M), (2, .int p2), (3, .int 0), (4, .int 1)] rfl ?_
    exact J_X11_leastPrice_73 cx hR h
  · have h := h.2 c3
    refine j_aload_n cx 0 rfl rfl dX11_leastPrice_56 (pn := 57) rfl ?_
    refine j_iload_n cx 3 rfl rfl dX11_leastPrice_57 (pn := 58) rfl ?_
    refine j_iload_n cx 2 rfl rfl dX11_leastPrice_58 (pn := 59) rfl ?_
    refine j_callvV0 cx q_inst_X11_place q_sel_X11_place (b := a_M) (As := [.int x3, .int p2]) (rest := []) (c_X11_place h) ⟨q_code_X11_place, q_ml_X11_263, q_init_X11, hd_X11_place, ⟨Nat.le_of_ble_eq_true rfl, Nat.le_of_ble_eq_true rfl⟩, Nat.le_of_ble_eq_true rfl, Nat.le_of_ble_eq_true rfl⟩ (q0 := 0) rfl rfl rfl rfl (Nat.le_of_ble_eq_true rfl) dX11_leastPrice_59 (pn := 62) rfl (fun u8 h => ?_)
    show J x 0 0 5 (W_Model cyI cyJ cyZ a_M a_M_square a_M_want a_M_text a_M_read a_M_row a_M_foldSet a_M_foldEdges a_M_foldNeeds a_M_foldYards a_M_least a_M_ways a_M_price a_M_rowBy a_M_columnBy a_M_rowOf a_M_wayBack a_M_slack a_M_isUsed a_M_lifted a_M_freed a_M_path M_wide M_high M_hedges M_hurdles M_wants M_rest M_frozen M_bytes M_position M_tokenAt M_token M_digits M_number M_faultAt M_readMany M_readWide M_readHigh M_nights M_why M_folds M_square M_want M_text M_read M_row M_foldSet M_foldEdges M_foldNeeds M_foldYards M_least M_ways M_price u8.1 u8.2.1 u8.2.2.1 u8.2.2.2.1 u8.2.2.2.2.1 u8.2.2.2.2.2 M_lifted M_freed M_path) [(0, .ref a_M), (1, .int p1), (2, .int p2), (3, .int x3)] 62 []
    obtain ⟨y9, ey9⟩ : ∃ z : Int32, z = x3 + 1 := ⟨_, rfl⟩
    have h := h y9 ey9
    refine j_iinc cx 3 rfl (cst := 1) (by decide) ey9 [(3, .int y9), (0, .ref a_M), (1, .int p1), (2, .int p2)] (by decide) rfl dX11_leastPrice_62 (pn := 65) rfl ?_
    refine j_goto cx 51 dX11_leastPrice_65 rfl ?_
    refine j_sub [1, 2, 3, 0] [(0, .ref a_M), (1, .int p1), (2, .int p2), (3, .int y9)] rfl ?_
    exact hB51 _ _ _ _ _ _ _ h
set_option maxHeartbeats 4000000 in
set_option maxRecDepth 100000 in
theorem J_X11_leastPrice_51 {x : CX} {D : DG} {cyI cyJ cyZ : ClassId} {a_M a_M_square a_M_want a_M_text a_M_read a_M_row a_M_foldSet a_M_foldEdges a_M_foldNeeds a_M_foldYards a_M_least a_M_ways a_M_price a_M_rowBy a_M_columnBy a_M_rowOf a_M_wayBack a_M_slack a_M_isUsed a_M_lifted a_M_freed a_M_path : Nat} {M_wide : Int32} {M_high : Int32} {M_hedges : Int64} {M_hurdles : Int32} {M_wants : Int32} {M_rest : Int32} {M_frozen : Int32} {M_bytes : Int32} {M_position : Int32} {M_tokenAt : Int32} {M_token : Int64} {M_digits : Int32} {M_number : Int32} {M_faultAt : Int32} {M_readMany : Int32} {M_readWide : Int32} {M_readHigh : Int32} {M_nights : Int32} {M_why : Int32} {M_folds : Int32} {M_square : Nat → Int32} {M_want : Nat → Int32} {M_text : Nat → Int32} {M_read : Nat → Int32} {M_row : Nat → Int32} {M_foldSet : Nat → Int32} {M_foldEdges : Nat → Int64} {M_foldNeeds : Nat → Int32} {M_foldYards : Nat → Int32} {M_least : Nat → Int32} {M_ways : Nat → Int32} {M_price : Nat → Int32} {M_rowBy : Nat → Int32} {M_columnBy : Nat → Int32} {M_rowOf : Nat → Int32} {M_wayBack : Nat → Int32} {M_slack : Nat → Int32} {M_isUsed : Nat → Int32} {M_lifted : Nat → Int32} {M_freed : Nat → Int32} {M_path : Nat → Int32} {p1 : Int32} {p2 : Int32} {x3 : Int32} {Q : Int32 → ((Nat → Int32) × (Nat → Int32) × (Nat → Int32) × (Nat → Int32) × (Nat → Int32) × (Nat → Int32)) → Prop} (cx : Cx x cX11_leastPrice 5 RX11 rm_X11_leastPrice D [(cyI, .int), (cyJ, .long), (cyZ, .boolean)]) (hR : ∀ (v : Int32) (u : (Nat → Int32) × (Nat → Int32) × (Nat → Int32) × (Nat → Int32) × (Nat → Int32) × (Nat → Int32)) (pc : Nat) (lv : List (Nat × Value)), decode cX11_leastPrice pc = .ok (.ireturn, 1) → Q v u → J x 0 0 5 (W_Model cyI cyJ cyZ a_M a_M_square a_M_want a_M_text a_M_read a_M_row a_M_foldSet a_M_foldEdges a_M_foldNeeds a_M_foldYards a_M_least a_M_ways a_M_price a_M_rowBy a_M_columnBy a_M_rowOf a_M_wayBack a_M_slack a_M_isUsed a_M_lifted a_M_freed a_M_path M_wide M_high M_hedges M_hurdles M_wants M_rest M_frozen M_bytes M_position M_tokenAt M_token M_digits M_number M_faultAt M_readMany M_readWide M_readHigh M_nights M_why M_folds M_square M_want M_text M_read M_row M_foldSet M_foldEdges M_foldNeeds M_foldYards M_least M_ways M_price u.1 u.2.1 u.2.2.1 u.2.2.2.1 u.2.2.2.2.1 u.2.2.2.2.2 M_lifted M_freed M_path) lv pc [.int v]) (h : lp_X11_leastPrice_51 Q  p1 p2 M_price M_rowBy M_columnBy M_rowOf M_wayBack M_slack M_isUsed x3) :
    J x 0 0 5 (W_Model cyI cyJ cyZ a_M a_M_square a_M_want a_M_text a_M_read a_M_row a_M_foldSet a_M_foldEdges a_M_foldNeeds a_M_foldYards a_M_least a_M_ways a_M_price a_M_rowBy a_M_columnBy a_M_rowOf a_M_wayBack a_M_slack a_M_isUsed a_M_lifted a_M_freed a_M_path M_wide M_high M_hedges M_hurdles M_wants M_rest M_frozen M_bytes M_position M_tokenAt M_token M_digits M_number M_faultAt M_readMany M_readWide M_readHigh M_nights M_why M_folds M_square M_want M_text M_read M_row M_foldSet M_foldEdges M_foldNeeds M_foldYards M_least M_ways M_price M_rowBy M_columnBy M_rowOf M_wayBack M_slack M_isUsed M_lifted M_freed M_path) [(0, .ref a_M), (1, .int p1), (2, .int p2), (3, .int x3)] 51 [] := by
  obtain ⟨I, ⟨n, h0⟩, hb⟩ := h
  revert M_rowBy M_columnBy M_rowOf M_wayBack M_slack M_isUsed x3
  induction n using Nat.strongRecOn with
  | _ n ih =>
    intro M_rowBy M_columnBy M_rowOf M_wayBack M_slack M_isUsed x3 h0
    exact B_X11_leastPrice_51 cx hR (fun _ _ _ _ _ _ _ hz => by obtain ⟨n2, hlt, hI⟩ := hz; exact ih n2 hlt hI) (hb n M_rowBy M_columnBy M_rowOf M_wayBack M_slack M_isUsed x3 h0)
set_option maxHeartbeats 4000000 in
set_option maxRecDepth 100000 in
theorem B_X11_leastPrice_30 {x : CX} {D : DG} {cyI cyJ cyZ : ClassId} {a_M a_M_square a_M_want a_M_text a_M_read a_M_row a_M_foldSet a_M_foldEdges a_M_foldNeeds a_M_foldYards a_M_least a_M_ways a_M_price a_M_rowBy a_M_columnBy a_M_rowOf a_M_wayBack a_M_slack a_M_isUsed a_M_lifted a_M_freed a_M_path : Nat} {M_wide : Int32} {M_high : Int32} {M_hedges : Int64} {M_hurdles : Int32} {M_wants : Int32} {M_rest : Int32} {M_frozen : Int32} {M_bytes : Int32} {M_position : Int32} {M_tokenAt : Int32} {M_token : Int64} {M_digits : Int32} {M_number : Int32} {M_faultAt : Int32} {M_readMany : Int32} {M_readWide : Int32} {M_readHigh : Int32} {M_nights : Int32} {M_why : Int32} {M_folds : Int32} {M_square : Nat → Int32} {M_want : Nat → Int32} {M_text : Nat → Int32} {M_read : Nat → Int32} {M_row : Nat → Int32} {M_foldSet : Nat → Int32} {M_foldEdges : Nat → Int64} {M_foldNeeds : Nat → Int32} {M_foldYards : Nat → Int32} {M_least : Nat → Int32} {M_ways : Nat → Int32} {M_price : Nat → Int32} {M_rowBy : Nat → Int32} {M_columnBy : Nat → Int32} {M_rowOf : Nat → Int32} {M_wayBack : Nat → Int32} {M_slack : Nat → Int32} {M_isUsed : Nat → Int32} {M_lifted : Nat → Int32} {M_freed : Nat → Int32} {M_path : Nat → Int32} {p1 : Int32} {p2 : Int32} {x3 : Int32} {Q : Int32 → ((Nat → Int32) × (Nat → Int32) × (Nat → Int32) × (Nat → Int32) × (Nat → Int32) × (Nat → Int32)) → Prop} {B30 : (Nat → Int32) → Int32 → Prop} (cx : Cx x cX11_leastPrice 5 RX11 rm_X11_leastPrice D [(cyI, .int), (cyJ, .long), (cyZ, .boolean)]) (hR : ∀ (v : Int32) (u : (Nat → Int32) × (Nat → Int32) × (Nat → Int32) × (Nat → Int32) × (Nat → Int32) × (Nat → Int32)) (pc : Nat) (lv : List (Nat × Value)), decode cX11_leastPrice pc = .ok (.ireturn, 1) → Q v u → J x 0 0 5 (W_Model cyI cyJ cyZ a_M a_M_square a_M_want a_M_text a_M_read a_M_row a_M_foldSet a_M_foldEdges a_M_foldNeeds a_M_foldYards a_M_least a_M_ways a_M_price a_M_rowBy a_M_columnBy a_M_rowOf a_M_wayBack a_M_slack a_M_isUsed a_M_lifted a_M_freed a_M_path M_wide M_high M_hedges M_hurdles M_wants M_rest M_frozen M_bytes M_position M_tokenAt M_token M_digits M_number M_faultAt M_readMany M_readWide M_readHigh M_nights M_why M_folds M_square M_want M_text M_read M_row M_foldSet M_foldEdges M_foldNeeds M_foldYards M_least M_ways M_price u.1 u.2.1 u.2.2.1 u.2.2.2.1 u.2.2.2.2.1 u.2.2.2.2.2 M_lifted M_freed M_path) lv pc [.int v]) (hB30 : ∀ (M_rowBy : Nat → Int32) (x3 : Int32), B30 M_rowBy x3 → J x 0 0 5 (W_Model cyI cyJ cyZ a_M a_M_square a_M_want a_M_text a_M_read a_M_row a_M_foldSet a_M_foldEdges a_M_foldNeeds a_M_foldYards a_M_least a_M_ways a_M_price a_M_rowBy a_M_columnBy a_M_rowOf a_M_wayBack a_M_slack a_M_isUsed a_M_lifted a_M_freed a_M_path M_wide M_high M_hedges M_hurdles M_wants M_rest M_frozen M_bytes M_position M_tokenAt M_token M_digits M_number M_faultAt M_readMany M_readWide M_readHigh M_nights M_why M_folds M_square M_want M_text M_read M_row M_foldSet M_foldEdges M_foldNeeds M_foldYards M_least M_ways M_price M_rowBy M_columnBy M_rowOf M_wayBack M_slack M_isUsed M_lifted M_freed M_path) [(0, .ref a_M), (1, .int p1), (2, .int p2), (3, .int x3)] 30 []) (h : bd_X11_leastPrice_30 Q B30 p1 p2 M_price M_columnBy M_rowOf M_wayBack M_slack M_isUsed M_rowBy x3) :
    J x 0 0 5 (W_Model cyI cyJ cyZ a_M a_M_square a_M_want a_M_text a_M_read a_M_row a_M_foldSet a_M_foldEdges a_M_foldNeeds a_M_foldYards a_M_least a_M_ways a_M_price a_M_rowBy a_M_columnBy a_M_rowOf a_M_wayBack a_M_slack a_M_isUsed a_M_lifted a_M_freed a_M_path M_wide M_high M_hedges M_hurdles M_wants M_rest M_frozen M_bytes M_position M_tokenAt M_token M_digits M_number M_faultAt M_readMany M_readWide M_readHigh M_nights M_why M_folds M_square M_want M_text M_read M_row M_foldSet M_foldEdges M_foldNeeds M_foldYards M_least M_ways M_price M_rowBy M_columnBy M_rowOf M_wayBack M_slack M_isUsed M_lifted M_freed M_path) [(0, .ref a_M), (1, .int p1), (2, .int p2), (3, .int x3)] 30 [] := by
  unfold bd_X11_leastPrice_30 at h
  refine j_iload_n cx 3 rfl rfl dX11_leastPrice_30 (pn := 31) rfl ?_
  refine j_bipush cx (v := 33) (by decide) dX11_leastPrice_31 (pn := 33) rfl ?_
  refine j_icmp_ge cx 49 dX11_leastPrice_33 (pn := 36) rfl rfl (fun c2 => ?_) (fun c2 => ?_)
  · have h := h.1 c2
    refine j_iconst cx (v := 1) (by decide) dX11_leastPrice_49 (pn := 50) rfl ?_
    refine j_istore_n cx rfl [(3, .int 1), (0, .ref a_M), (1, .int p1), (2, .int p2)] (by decide) rfl dX11_leastPrice_50 (pn := 51) rfl ?_
    refine j_sub [1, 2, 3, 0] [(0, .ref a_M), (1, .int p1), (2, .int p2), (3, .int 1)] rfl ?_
    exact J_X11_leastPrice_51 cx hR h
  · have h := h.2 c2
    refine j_aload_n cx 0 rfl rfl dX11_leastPrice_36 (pn := 37) rfl ?_
    refine j_get cx inGX11 0 rfl rfl 32 (by decide) q_fl_X11_58 rfl rfl dX11_leastPrice_37 (pn := 40) rfl ?_
    refine j_iload_n cx 3 rfl rfl dX11_leastPrice_40 (pn := 41) rfl ?_
    refine j_iconst cx (v := 0) (by decide) dX11_leastPrice_41 (pn := 42) rfl ?_
    have hin := h.1
    obtain ⟨f10, ef10⟩ : ∃ z, z = upd M_rowBy x3.toNatClampNeg 0 := ⟨_, rfl⟩
    have h := h.2 f10 ef10
    refine j_iast cx 13 0 rfl rfl hin (W_Model cyI cyJ cyZ a_M a_M_square a_M_want a_M_text a_M_read a_M_row a_M_foldSet a_M_foldEdges a_M_foldNeeds a_M_foldYards a_M_least a_M_ways a_M_price a_M_rowBy a_M_columnBy a_M_rowOf a_M_wayBack a_M_slack a_M_isUsed a_M_lifted a_M_freed a_M_path M_wide M_high M_hedges M_hurdles M_wants M_rest M_frozen M_bytes M_position M_tokenAt M_token M_digits M_number M_faultAt M_readMany M_readWide M_readHigh M_nights M_why M_folds M_square M_want M_text M_read M_row M_foldSet M_foldEdges M_foldNeeds M_foldYards M_least M_ways M_price f10 M_columnBy M_rowOf M_wayBack M_slack M_isUsed M_lifted M_freed M_path) (by subst ef10; rfl) dX11_leastPrice_42 (pn := 43) rfl ?_
    obtain ⟨y11, ey11⟩ : ∃ z : Int32, z = x3 + 1 := ⟨_, rfl⟩
    have h := h y11 ey11
    refine j_iinc cx 3 rfl (cst := 1) (by decide) ey11 [(3, .int y11), (0, .ref a_M), (1, .int p1), (2, .int p2)] (by decide) rfl dX11_leastPrice_43 (pn := 46) rfl ?_
    refine j_goto cx 30 dX11_leastPrice_46 rfl ?_
    refine j_sub [1, 2, 3, 0] [(0, .ref a_M), (1, .int p1), (2, .int p2), (3, .int y11)] rfl ?_
    exact hB30 _ _ h
set_option maxHeartbeats 4000000 in
set_option maxRecDepth 100000 in
theorem J_X11_leastPrice_30 {x : CX} {D : DG} {cyI cyJ cyZ : ClassId} {a_M a_M_square a_M_want a_M_text a_M_read a_M_row a_M_foldSet a_M_foldEdges a_M_foldNeeds a_M_foldYards a_M_least a_M_ways a_M_price a_M_rowBy a_M_columnBy a_M_rowOf a_M_wayBack a_M_slack a_M_isUsed a_M_lifted a_M_freed a_M_path : Nat} {M_wide : Int32} {M_high : Int32} {M_hedges : Int64} {M_hurdles : Int32} {M_wants : Int32} {M_rest : Int32} {M_frozen : Int32} {M_bytes : Int32} {M_position : Int32} {M_tokenAt : Int32} {M_token : Int64} {M_digits : Int32} {M_number : Int32} {M_faultAt : Int32} {M_readMany : Int32} {M_readWide : Int32} {M_readHigh : Int32} {M_nights : Int32} {M_why : Int32} {M_folds : Int32} {M_square : Nat → Int32} {M_want : Nat → Int32} {M_text : Nat → Int32} {M_read : Nat → Int32} {M_row : Nat → Int32} {M_foldSet : Nat → Int32} {M_foldEdges : Nat → Int64} {M_foldNeeds : Nat → Int32} {M_foldYards : Nat → Int32} {M_least : Nat → Int32} {M_ways : Nat → Int32} {M_price : Nat → Int32} {M_rowBy : Nat → Int32} {M_columnBy : Nat → Int32} {M_rowOf : Nat → Int32} {M_wayBack : Nat → Int32} {M_slack : Nat → Int32} {M_isUsed : Nat → Int32} {M_lifted : Nat → Int32} {M_freed : Nat → Int32} {M_path : Nat → Int32} {p1 : Int32} {p2 : Int32} {x3 : Int32} {Q : Int32 → ((Nat → Int32) × (Nat → Int32) × (Nat → Int32) × (Nat → Int32) × (Nat → Int32) × (Nat → Int32)) → Prop} (cx : Cx x cX11_leastPrice 5 RX11 rm_X11_leastPrice D [(cyI, .int), (cyJ, .long), (cyZ, .boolean)]) (hR : ∀ (v : Int32) (u : (Nat → Int32) × (Nat → Int32) × (Nat → Int32) × (Nat → Int32) × (Nat → Int32) × (Nat → Int32)) (pc : Nat) (lv : List (Nat × Value)), decode cX11_leastPrice pc = .ok (.ireturn, 1) → Q v u → J x 0 0 5 (W_Model cyI cyJ cyZ a_M a_M_square a_M_want a_M_text a_M_read a_M_row a_M_foldSet a_M_foldEdges a_M_foldNeeds a_M_foldYards a_M_least a_M_ways a_M_price a_M_rowBy a_M_columnBy a_M_rowOf a_M_wayBack a_M_slack a_M_isUsed a_M_lifted a_M_freed a_M_path M_wide M_high M_hedges M_hurdles M_wants M_rest M_frozen M_bytes M_position M_tokenAt M_token M_digits M_number M_faultAt M_readMany M_readWide M_readHigh M_nights M_why M_folds M_square M_want M_text M_read M_row M_foldSet M_foldEdges M_foldNeeds M_foldYards M_least M_ways M_price u.1 u.2.1 u.2.2.1 u.2.2.2.1 u.2.2.2.2.1 u.2.2.2.2.2 M_lifted M_freed M_path) lv pc [.int v]) (h : lp_X11_leastPrice_30 Q  p1 p2 M_price M_columnBy M_rowOf M_wayBack M_slack M_isUsed M_rowBy x3) :
    J x 0 0 5 (W_Model cyI cyJ cyZ a_M a_M_square a_M_want a_M_text a_M_read a_M_row a_M_foldSet a_M_foldEdges a_M_foldNeeds a_M_foldYards a_M_least a_M_ways a_M_price a_M_rowBy a_M_columnBy a_M_rowOf a_M_wayBack a_M_slack a_M_isUsed a_M_lifted a_M_freed a_M_path M_wide M_high M_hedges M_hurdles M_wants M_rest M_frozen M_bytes M_position M_tokenAt M_token M_digits M_number M_faultAt M_readMany M_readWide M_readHigh M_nights M_why M_folds M_square M_want M_text M_read M_row M_foldSet M_foldEdges M_foldNeeds M_foldYards M_least M_ways M_price M_rowBy M_columnBy M_rowOf M_wayBack M_slack M_isUsed M_lifted M_freed M_path) [(0, .ref a_M), (1, .int p1), (2, .int p2), (3, .int x3)] 30 [] := by
  obtain ⟨I, ⟨n, h0⟩, hb⟩ := h
  revert M_rowBy x3
  induction n using Nat.strongRecOn with
  | _ n ih =>
    intro M_rowBy x3 h0
    exact B_X11_leastPrice_30 cx hR (fun _ _ hz => by obtain ⟨n2, hlt, hI⟩ := hz; exact ih n2 hlt hI) (hb n M_rowBy x3 h0)
set_option maxHeartbeats 4000000 in
set_option maxRecDepth 100000 in
theorem B_X11_leastPrice_2 {x : CX} {D : DG} {cyI cyJ cyZ : ClassId} {a_M a_M_square a_M_want a_M_text a_M_read a_M_row a_M_foldSet a_M_foldEdges a_M_foldNeeds a_M_foldYards a_M_least a_M_ways a_M_price a_M_rowBy a_M_columnBy a_M_rowOf a_M_wayBack a_M_slack a_M_isUsed a_M_lifted a_M_freed a_M_path : Nat} {M_wide : Int32} {M_high : Int32} {M_hedges : Int64} {M_hurdles : Int32} {M_wants : Int32} {M_rest : Int32} {M_frozen : Int32} {M_bytes : Int32} {M_position : Int32} {M_tokenAt : Int32} {M_token : Int64} {M_digits : Int32} {M_number : Int32} {M_faultAt : Int32} {M_readMany : Int32} {M_readWide : Int32} {M_readHigh : Int32} {M_nights : Int32} {M_why : Int32} {M_folds : Int32} {M_square : Nat → Int32} {M_want : Nat → Int32} {M_text : Nat → Int32} {M_read : Nat → Int32} {M_row : Nat → Int32} {M_foldSet : Nat → Int32} {M_foldEdges : Nat → Int64} {M_foldNeeds : Nat → Int32} {M_foldYards : Nat → Int32} {M_least : Nat → Int32} {M_ways : Nat → Int32} {M_price : Nat → Int32} {M_rowBy : Nat → Int32} {M_columnBy : Nat → Int32} {M_rowOf : Nat → Int32} {M_wayBack : Nat → Int32} {M_slack : Nat → Int32} {M_isUsed : Nat → Int32} {M_lifted : Nat → Int32} {M_freed : Nat → Int32} {M_path : Nat → Int32} {p1 : Int32} {p2 : Int32} {x3 : Int32} {Q : Int32 → ((Nat → Int32) × (Nat → Int32) × (Nat → Int32) × (Nat → Int32) × (Nat → Int32) × (Nat → Int32)) → Prop} {B2 : (Nat → Int32) → (Nat → Int32) → Int32 → Prop} (cx : Cx x cX11_leastPrice 5 RX11 rm_X11_leastPrice D [(cyI, .int), (cyJ, .long), (cyZ, .boolean)]) (hR : ∀ (v : Int32) (u : (Nat → Int32) × (Nat → Int32) × (Nat → Int32) × (Nat → Int32) × (Nat → Int32) × (Nat → Int32)) (pc : Nat) (lv : List (Nat × Value)), decode cX11_leastPrice pc = .ok (.ireturn, 1) → Q v u → J x 0 0 5 (W_Model cyI cyJ cyZ a_M a_M_square a_M_want a_M_text a_M_read a_M_row a_M_foldSet a_M_foldEdges a_M_foldNeeds a_M_foldYards a_M_least a_M_ways a_M_price a_M_rowBy a_M_columnBy a_M_rowOf a_M_wayBack a_M_slack a_M_isUsed a_M_lifted a_M_freed a_M_path M_wide M_high M_hedges M_hurdles M_wants M_rest M_frozen M_bytes M_position M_tokenAt M_token M_digits M_number M_faultAt M_readMany M_readWide M_readHigh M_nights M_why M_folds M_square M_want M_text M_read M_row M_foldSet M_foldEdges M_foldNeeds M_foldYards M_least M_ways M_price u.1 u.2.1 u.2.2.1 u.2.2.2.1 u.2.2.2.2.1 u.2.2.2.2.2 M_lifted M_freed M_path) lv pc [.int v]) (hB2 : ∀ (M_columnBy : Nat → Int32) (M_rowOf : Nat → Int32) (x3 : Int32), B2 M_columnBy M_rowOf x3 → J x 0 0 5 (W_Model cyI cyJ cyZ a_M a_M_square a_M_want a_M_text a_M_read a_M_row a_M_foldSet a_M_foldEdges a_M_foldNeeds a_M_foldYards a_M_least a_M_ways a_M_price a_M_rowBy a_M_columnBy a_M_rowOf a_M_wayBack a_M_slack a_M_isUsed a_M_lifted a_M_freed a_M_path M_wide M_high M_hedges M_hurdles M_wants M_rest M_frozen M_bytes M_position M_tokenAt M_token M_digits M_number M_faultAt M_readMany M_readWide M_readHigh M_nights M_why M_folds M_square M_want M_text M_read M_row M_foldSet M_foldEdges M_foldNeeds M_foldYards M_least M_ways M_price M_rowBy M_columnBy M_rowOf M_wayBack M_slack M_isUsed M_lifted M_freed M_path) [(0, .ref a_M), (1, .int p1), (2, .int p2), (3, .int x3)] 2 []) (h : bd_X11_leastPrice_2 Q B2 p1 p2 M_price M_rowBy M_wayBack M_slack M_isUsed M_columnBy M_rowOf x3) :
    J x 0 0 5 (W_Model cyI cyJ cyZ a_M a_M_square a_M_want a_M_text a_M_read a_M_row a_M_foldSet a_M_foldEdges a_M_foldNeeds a_M_foldYards a_M_least a_M_ways a_M_price a_M_rowBy a_M_columnBy a_M_rowOf a_M_wayBack a_M_slack a_M_isUsed a_M_lifted a_M_freed a_M_path M_wide M_high M_hedges M_hurdles M_wants M_rest M_frozen M_bytes M_position M_tokenAt M_token M_digits M_number M_faultAt M_readMany M_readWide M_readHigh M_nights M_why M_folds M_square M_want M_text M_read M_row M_foldSet M_foldEdges M_foldNeeds M_foldYards M_least M_ways M_price M_rowBy M_columnBy M_rowOf M_wayBack M_slack M_isUsed M_lifted M_freed M_path) [(0, .ref a_M), (1, .int p1), (2, .int p2), (3, .int x3)] 2 [] := by
  unfold bd_X11_leastPrice_2 at h
  refine j_iload_n cx 3 rfl rfl dX11_leastPrice_2 (pn := 3) rfl ?_
  refine j_bipush cx (v := 64) (by decide) dX11_leastPrice_3 (pn := 5) rfl ?_
  refine j_icmp_ge cx 28 dX11_leastPrice_5 (pn := 8) rfl rfl (fun c1 => ?_) (fun c1 => ?_)
  · have h := h.1 c1
    refine j_iconst cx (v := 0) (by decide) dX11_leastPrice_28 (pn := 29) rfl ?_
    refine j_istore_n cx rfl [(3, .int 0), (0, .ref a_M), (1, .int p1), (2, .int p2)] (by decide) rfl dX11_leastPrice_29 (pn := 30) rfl ?_
    refine j_sub [1, 2, 3, 0] [(0, .ref a_M), (1, .int p1), (2, .int p2), (3, .int 0)] rfl ?_
    exact J_X11_leastPrice_30 cx hR h
  · have h := h.2 c1
    refine j_aload_n cx 0 rfl rfl dX11_leastPrice_8 (pn := 9) rfl ?_
    refine j_get cx inGX11 0 rfl rfl 33 (by decide) q_fl_X11_61 rfl rfl dX11_leastPrice_9 (pn := 12) rfl ?_
    refine j_iload_n cx 3 rfl rfl dX11_leastPrice_12 (pn := 13) rfl ?_
    refine j_iconst cx (v := 0) (by decide) dX11_leastPrice_13 (pn := 14) rfl ?_
    have hin := h.1
    obtain ⟨f12, ef12⟩ : ∃ z, z = upd M_columnBy x3.toNatClampNeg 0 := ⟨_, rfl⟩
    have h := h.2 f12 ef12
    refine j_iast cx 14 0 rfl rfl hin (W_Model cyI cyJ cyZ a_M a_M_square a_M_want a_M_text a_M_read a_M_row a_M_foldSet a_M_foldEdges a_M_foldNeeds a_M_foldYards a_M_least a_M_ways a_M_price a_M_rowBy a_M_columnBy a_M_rowOf a_M_wayBack a_M_slack a_M_isUsed a_M_lifted a_M_freed a_M_path M_wide M_high M_hedges M_hurdles M_wants M_rest M_frozen M_bytes M_position M_tokenAt M_token M_digits M_number M_faultAt M_readMany M_readWide M_readHigh M_nights M_why M_folds M_square M_want M_text M_read M_row M_foldSet M_foldEdges M_foldNeeds M_foldYards M_least M_ways M_price M_rowBy f12 M_rowOf M_wayBack M_slack M_isUsed M_lifted M_freed M_path) (by subst ef12; rfl) dX11_leastPrice_14 (pn := 15) rfl ?_
    refine j_aload_n cx 0 rfl rfl dX11_leastPrice_15 (pn := 16) rfl ?_
    refine j_get cx inGX11 0 rfl rfl 34 (by decide) q_fl_X11_64 rfl rfl dX11_leastPrice_16 (pn := 19) rfl ?_
    refine j_iload_n cx 3 rfl rfl dX11_leastPrice_19 (pn := 20) rfl ?_
    refine j_iconst cx (v := 0) (by decide) dX11_leastPrice_20 (pn := 21) rfl ?_
    have hin := h.1
    obtain ⟨f13, ef13⟩ : ∃ z, z = upd M_rowOf x3.toNatClampNeg 0 := ⟨_, rfl⟩
    have h := h.2 f13 ef13
    refine j_iast cx 15 0 rfl rfl hin (W_Model cyI cyJ cyZ a_M a_M_square a_M_want a_M_text a_M_read a_M_row a_M_foldSet a_M_foldEdges a_M_foldNeeds a_M_foldYards a_M_least a_M_ways a_M_price a_M_rowBy a_M_columnBy a_M_rowOf a_M_wayBack a_M_slack a_M_isUsed a_M_lifted a_M_freed a_M_path M_wide M_high M_hedges M_hurdles M_wants M_rest M_frozen M_bytes M_position M_tokenAt M_token M_digits M_number M_faultAt M_readMany M_readWide M_readHigh M_nights M_why M_folds M_square M_want M_text M_read M_row M_foldSet M_foldEdges M_foldNeeds M_foldYards M_least M_ways M_price M_rowBy f12 f13 M_wayBack M_slack M_isUsed M_lifted M_freed M_path) (by subst ef13; rfl) dX11_leastPrice_21 (pn := 22) rfl ?_
    obtain ⟨y14, ey14⟩ : ∃ z : Int32, z = x3 + 1 := ⟨_, rfl⟩
    have h := h y14 ey14
    refine j_iinc cx 3 rfl (cst := 1) (by decide) ey14 [(3, .int y14), (0, .ref a_M), (1, .int p1), (2, .int p2)] (by decide) rfl dX11_leastPrice_22 (pn := 25) rfl ?_
    refine j_goto cx 2 dX11_leastPrice_25 rfl ?_
    refine j_sub [1, 2, 3, 0] [(0, .ref a_M), (1, .int p1), (2, .int p2), (3, .int y14)] rfl ?_
    exact hB2 _ _ _ h
set_option maxHeartbeats 4000000 in
set_option maxRecDepth 100000 in
theorem J_X11_leastPrice_2 {x : CX} {D : DG} {cyI cyJ cyZ : ClassId} {a_M a_M_square a_M_want a_M_text a_M_read a_M_row a_M_foldSet a_M_foldEdges a_M_foldNeeds a_M_foldYards a_M_least a_M_ways a_M_price a_M_rowBy a_M_columnBy a_M_rowOf a_M_wayBack a_M_slack a_M_isUsed a_M_lifted a_M_freed a_M_path : Nat} {M_wide : Int32} {M_high : Int32} {M_hedges : Int64} {M_hurdles : Int32} {M_wants : Int32} {M_rest : Int32} {M_frozen : Int32} {M_bytes : Int32} {M_position : Int32} {M_tokenAt : Int32} {M_token : Int64} {M_digits : Int32} {M_number : Int32} {M_faultAt : Int32} {M_readMany : Int32} {M_readWide : Int32} {M_readHigh : Int32} {M_nights : Int32} {M_why : Int32} {M_folds : Int32} {M_square : Nat → Int32} {M_want : Nat → Int32} {M_text : Nat → Int32} {M_read : Nat → Int32} {M_row : Nat → Int32} {M_foldSet : Nat → Int32} {M_foldEdges : Nat → Int64} {M_foldNeeds : Nat → Int32} {M_foldYards : Nat → Int32} {M_least : Nat → Int32} {M_ways : Nat → Int32} {M_price : Nat → Int32} {M_rowBy : Nat → Int32} {M_columnBy : Nat → Int32} {M_rowOf : Nat → Int32} {M_wayBack : Nat → Int32} {M_slack : Nat → Int32} {M_isUsed : Nat → Int32} {M_lifted : Nat → Int32} {M_freed : Nat → Int32} {M_path : Nat → Int32} {p1 : Int32} {p2 : Int32} {x3 : Int32} {Q : Int32 → ((Nat → Int32) × (Nat → Int32) × (Nat → Int32) × (Nat → Int32) × (Nat → Int32) × (Nat → Int32)) → Prop} (cx : Cx x cX11_leastPrice 5 RX11 rm_X11_leastPrice D [(cyI, .int), (cyJ, .long), (cyZ, .boolean)]) (hR : ∀ (v : Int32) (u : (Nat → Int32) × (Nat → Int32) × (Nat → Int32) × (Nat → Int32) × (Nat → Int32) × (Nat → Int32)) (pc : Nat) (lv : List (Nat × Value)), decode cX11_leastPrice pc = .ok (.ireturn, 1) → Q v u → J x 0 0 5 (W_Model cyI cyJ cyZ a_M a_M_square a_M_want a_M_text a_M_read a_M_row a_M_foldSet a_M_foldEdges a_M_foldNeeds a_M_foldYards a_M_least a_M_ways a_M_price a_M_rowBy a_M_columnBy a_M_rowOf a_M_wayBack a_M_slack a_M_isUsed a_M_lifted a_M_freed a_M_path M_wide M_high M_hedges M_hurdles M_wants M_rest M_frozen M_bytes M_position M_tokenAt M_token M_digits M_number M_faultAt M_readMany M_readWide M_readHigh M_nights M_why M_folds M_square M_want M_text M_read M_row M_foldSet M_foldEdges M_foldNeeds M_foldYards M_least M_ways M_price u.1 u.2.1 u.2.2.1 u.2.2.2.1 u.2.2.2.2.1 u.2.2.2.2.2 M_lifted M_freed M_path) lv pc [.int v]) (h : lp_X11_leastPrice_2 Q  p1 p2 M_price M_rowBy M_wayBack M_slack M_isUsed M_columnBy M_rowOf x3) :
    J x 0 0 5 (W_Model cyI cyJ cyZ a_M a_M_square a_M_want a_M_text a_M_read a_M_row a_M_foldSet a_M_foldEdges a_M_foldNeeds a_M_foldYards a_M_least a_M_ways a_M_price a_M_rowBy a_M_columnBy a_M_rowOf a_M_wayBack a_M_slack a_M_isUsed a_M_lifted a_M_freed a_M_path M_wide M_high M_hedges M_hurdles M_wants M_rest M_frozen M_bytes M_position M_tokenAt M_token M_digits M_number M_faultAt M_readMany M_readWide M_readHigh M_nights M_why M_folds M_square M_want M_text M_read M_row M_foldSet M_foldEdges M_foldNeeds M_foldYards M_least M_ways M_price M_rowBy M_columnBy M_rowOf M_wayBack M_slack M_isUsed M_lifted M_freed M_path) [(0, .ref a_M), (1, .int p1), (2, .int p2), (3, .int x3)] 2 [] := by
  obtain ⟨I, ⟨n, h0⟩, hb⟩ := h
  revert M_columnBy M_rowOf x3
  induction n using Nat.strongRecOn with
  | _ n ih =>
    intro M_columnBy M_rowOf x3 h0
    exact B_X11_leastPrice_2 cx hR (fun _ _ _ hz => by obtain ⟨n2, hlt, hI⟩ := hz; exact ih n2 hlt hI) (hb n M_columnBy M_rowOf x3 h0)
set_option maxHeartbeats 4000000 in
set_option maxRecDepth 100000 in
theorem c_X11_leastPrice {D : DG} {cyI cyJ cyZ : ClassId} {a_M a_M_square a_M_want a_M_text a_M_read a_M_row a_M_foldSet a_M_foldEdges a_M_foldNeeds a_M_foldYards a_M_least a_M_ways a_M_price a_M_rowBy a_M_columnBy a_M_rowOf a_M_wayBack a_M_slack a_M_isUsed a_M_lifted a_M_freed a_M_path : Nat} {M_wide : Int32} {M_high : Int32} {M_hedges : Int64} {M_hurdles : Int32} {M_wants : Int32} {M_rest : Int32} {M_frozen : Int32} {M_bytes : Int32} {M_position : Int32} {M_tokenAt : Int32} {M_token : Int64} {M_digits : Int32} {M_number : Int32} {M_faultAt : Int32} {M_readMany : Int32} {M_readWide : Int32} {M_readHigh : Int32} {M_nights : Int32} {M_why : Int32} {M_folds : Int32} {M_square : Nat → Int32} {M_want : Nat → Int32} {M_text : Nat → Int32} {M_read : Nat → Int32} {M_row : Nat → Int32} {M_foldSet : Nat → Int32} {M_foldEdges : Nat → Int64} {M_foldNeeds : Nat → Int32} {M_foldYards : Nat → Int32} {M_least : Nat → Int32} {M_ways : Nat → Int32} {M_price : Nat → Int32} {M_rowBy : Nat → Int32} {M_columnBy : Nat → Int32} {M_rowOf : Nat → Int32} {M_wayBack : Nat → Int32} {M_slack : Nat → Int32} {M_isUsed : Nat → Int32} {M_lifted : Nat → Int32} {M_freed : Nat → Int32} {M_path : Nat → Int32} {p1 : Int32} {p2 : Int32} {Q : Int32 → ((Nat → Int32) × (Nat → Int32) × (Nat → Int32) × (Nat → Int32) × (Nat → Int32) × (Nat → Int32)) → Prop} (h : wp_X11_leastPrice p1 p2 M_price M_rowBy M_columnBy M_rowOf M_wayBack M_slack M_isUsed Q) :
    MetI yX11_leastPrice cX11_leastPrice 5 (some .int) rm_X11_leastPrice D [(cyI, .int), (cyJ, .long), (cyZ, .boolean)] [.ref a_M, .int p1, .int p2] (W_Model cyI cyJ cyZ a_M a_M_square a_M_want a_M_text a_M_read a_M_row a_M_foldSet a_M_foldEdges a_M_foldNeeds a_M_foldYards a_M_least a_M_ways a_M_price a_M_rowBy a_M_columnBy a_M_rowOf a_M_wayBack a_M_slack a_M_isUsed a_M_lifted a_M_freed a_M_path M_wide M_high M_hedges M_hurdles M_wants M_rest M_frozen M_bytes M_position M_tokenAt M_token M_digits M_number M_faultAt M_readMany M_readWide M_readHigh M_nights M_why M_folds M_square M_want M_text M_read M_row M_foldSet M_foldEdges M_foldNeeds M_foldYards M_least M_ways M_price M_rowBy M_columnBy M_rowOf M_wayBack M_slack M_isUsed M_lifted M_freed M_path) (fun u : (Nat → Int32) × (Nat → Int32) × (Nat → Int32) × (Nat → Int32) × (Nat → Int32) × (Nat → Int32) => (W_Model cyI cyJ cyZ a_M a_M_square a_M_want a_M_text a_M_read a_M_row a_M_foldSet a_M_foldEdges a_M_foldNeeds a_M_foldYards a_M_least a_M_ways a_M_price a_M_rowBy a_M_columnBy a_M_rowOf a_M_wayBack a_M_slack a_M_isUsed a_M_lifted a_M_freed a_M_path M_wide M_high M_hedges M_hurdles M_wants M_rest M_frozen M_bytes M_position M_tokenAt M_token M_digits M_number M_faultAt M_readMany M_readWide M_readHigh M_nights M_why M_folds M_square M_want M_text M_read M_row M_foldSet M_foldEdges M_foldNeeds M_foldYards M_least M_ways M_price u.1 u.2.1 u.2.2.1 u.2.2.2.1 u.2.2.2.2.1 u.2.2.2.2.2 M_lifted M_freed M_path)) (fun v u => Q v u) := by
  unfold wp_X11_leastPrice at h
  refine metI_of (by decide) (Nat.le_of_ble_eq_true rfl) (fun x cx0 hR0 => ?_)
  have cx : Cx x cX11_leastPrice 5 RX11 rm_X11_leastPrice D [(cyI, .int), (cyJ, .long), (cyZ, .boolean)] := cx0
  have hR : ∀ (v : Int32) (u : (Nat → Int32) × (Nat → Int32) × (Nat → Int32) × (Nat → Int32) × (Nat → Int32) × (Nat → Int32)) (pc : Nat) (lv : List (Nat × Value)), decode cX11_leastPrice pc = .ok (.ireturn, 1) → Q v u → J x 0 0 5 (W_Model cyI cyJ cyZ a_M a_M_square a_M_want a_M_text a_M_read a_M_row a_M_foldSet a_M_foldEdges a_M_foldNeeds a_M_foldYards a_M_least a_M_ways a_M_price a_M_rowBy a_M_columnBy a_M_rowOf a_M_wayBack a_M_slack a_M_isUsed a_M_lifted a_M_freed a_M_path M_wide M_high M_hedges M_hurdles M_wants M_rest M_frozen M_bytes M_position M_tokenAt M_token M_digits M_number M_faultAt M_readMany M_readWide M_readHigh M_nights M_why M_folds M_square M_want M_text M_read M_row M_foldSet M_foldEdges M_foldNeeds M_foldYards M_least M_ways M_price u.1 u.2.1 u.2.2.1 u.2.2.2.1 u.2.2.2.2.1 u.2.2.2.2.2 M_lifted M_freed M_path) lv pc [.int v] := (fun v u pc lv d hq => hR0 v u pc lv d hq)
  show J x 0 0 5 (W_Model cyI cyJ cyZ a_M a_M_square a_M_want a_M_text a_M_read a_M_row a_M_foldSet a_M_foldEdges a_M_foldNeeds a_M_foldYards a_M_least a_M_ways a_M_price a_M_rowBy a_M_columnBy a_M_rowOf a_M_wayBack a_M_slack a_M_isUsed a_M_lifted a_M_freed a_M_path M_wide M_high M_hedges M_hurdles M_wants M_rest M_frozen M_bytes M_position M_tokenAt M_token M_digits M_number M_faultAt M_readMany M_readWide M_readHigh M_nights M_why M_folds M_square M_want M_text M_read M_row M_foldSet M_foldEdges M_foldNeeds M_foldYards M_least M_ways M_price M_rowBy M_columnBy M_rowOf M_wayBack M_slack M_isUsed M_lifted M_freed M_path) [(0, .ref a_M), (1, .int p1), (2, .int p2)] 0 []
  refine j_iconst cx (v := 0) (by decide) dX11_leastPrice_0 (pn := 1) rfl ?_
  refine j_istore_n cx rfl [(3, .int 0), (0, .ref a_M), (1, .int p1), (2, .int p2)] (by decide) rfl dX11_leastPrice_1 (pn := 2) rfl ?_
  refine j_sub [1, 2, 3, 0] [(0, .ref a_M), (1, .int p1), (2, .int p2), (3, .int 0)] rfl ?_
  exact J_X11_leastPrice_2 cx hR h
theorem dX11_carried_0 : decode cX11_carried 0 = .ok (.iconst 0, 1) := by decide +kernel
theorem dX11_carried_1 : decode cX11_carried 1 = .ok (.istore 5, 2) := by decide +kernel
theorem dX11_carried_3 : decode cX11_carried 3 = .ok (.iconst 0, 1) := by decide +kernel
theorem dX11_carried_4 : decode cX11_carried 4 = .ok (.istore 6, 2) := by decide +kernel
theorem dX11_carried_6 : decode cX11_carried 6 = .ok (.iconst 0, 1) := by decide +kernel
theorem dX11_carried_7 : decode cX11_carried 7 = .ok (.istore 7, 2) := by decide +kernel
theorem dX11_carried_9 : decode cX11_carried 9 = .ok (.iload 7, 2) := by decide +kernel
theorem dX11_carried_11 : decode cX11_carried 11 = .ok (.aload_n 0, 1) := by decide +kernel
theorem dX11_carried_12 : decode cX11_carried 12 = .ok (.invokevirtual 221, 3) := by decide +kernel
theorem dX11_carried_15 : decode cX11_carried 15 = .ok (.if_icmp .ge 89, 3) := by decide +kernel
theorem dX11_carried_18 : decode cX11_carried 18 = .ok (.lload_n 1, 1) := by decide +kernel
theorem dX11_carried_19 : decode cX11_carried 19 = .ok (.iload 7, 2) := by decide +kernel
theorem dX11_carried_21 : decode cX11_carried 21 = .ok (.lshr, 1) := by decide +kernel
theorem dX11_carried_22 : decode cX11_carried 22 = .ok (.lconst 1, 1) := by decide +kernel
theorem dX11_carried_23 : decode cX11_carried 23 = .ok (.land, 1) := by decide +kernel
theorem dX11_carried_24 : decode cX11_carried 24 = .ok (.lconst 1, 1) := by decide +kernel
theorem dX11_carried_25 : decode cX11_carried 25 = .ok (.lcmp, 1) := by decide +kernel
theorem dX11_carried_26 : decode cX11_carried 26 = .ok (.ifCond .ne 7, 3) := by decide +kernel
theorem dX11_carried_29 : decode cX11_carried 29 = .ok (.iconst 1, 1) := by decide +kernel
theorem dX11_carried_30 : decode cX11_carried 30 = .ok (.goto 4, 3) := by decide +kernel
theorem dX11_carried_33 : decode cX11_carried 33 = .ok (.iconst 0, 1) := by decide +kernel
theorem dX11_carried_34 : decode cX11_carried 34 = .ok (.istore 8, 2) := by decide +kernel
theorem dX11_carried_36 : decode cX11_carried 36 = .ok (.lload_n 3, 1) := by decide +kernel
theorem dX11_carried_37 : decode cX11_carried 37 = .ok (.iload 7, 2) := by decide +kernel
theorem dX11_carried_39 : decode cX11_carried 39 = .ok (.lshr, 1) := by decide +kernel
theorem dX11_carried_40 : decode cX11_carried 40 = .ok (.lconst 1, 1) := by decide +kernel
theorem dX11_carried_41 : decode cX11_carried 41 = .ok (.land, 1) := by decide +kernel
theorem dX11_carried_42 : decode cX11_carried 42 = .ok (.lconst 1, 1) := by decide +kernel
theorem dX11_carried_43 : decode cX11_carried 43 = .ok (.lcmp, 1) := by decide +kernel
theorem dX11_carried_44 : decode cX11_carried 44 = .ok (.ifCond .ne 7, 3) := by decide +kernel
theorem dX11_carried_47 : decode cX11_carried 47 = .ok (.iconst 1, 1) := by decide +kernel
theorem dX11_carried_48 : decode cX11_carried 48 = .ok (.goto 4, 3) := by decide +kernel
theorem dX11_carried_51 : decode cX11_carried 51 = .ok (.iconst 0, 1) := by decide +kernel
theorem dX11_carried_52 : decode cX11_carried 52 = .ok (.istore 9, 2) := by decide +kernel
theorem dX11_carried_54 : decode cX11_carried 54 = .ok (.iload 8, 2) := by decide +kernel
theorem dX11_carried_56 : decode cX11_carried 56 = .ok (.ifCond .eq 20, 3) := by decide +kernel
theorem dX11_carried_59 : decode cX11_carried 59 = .ok (.iload 9, 2) := by decide +kernel
theorem dX11_carried_61 : decode cX11_carried 61 = .ok (.ifCond .ne 15, 3) := by decide +kernel
theorem dX11_carried_64 : decode cX11_carried 64 = .ok (.aload_n 0, 1) := by decide +kernel
theorem dX11_carried_65 : decode cX11_carried 65 = .ok (.getfield 77, 3) := by decide +kernel
theorem dX11_carried_68 : decode cX11_carried 68 = .ok (.iload 5, 2) := by decide +kernel
theorem dX11_carried_70 : decode cX11_carried 70 = .ok (.iload 7, 2) := by decide +kernel
theorem dX11_carried_72 : decode cX11_carried 72 = .ok (.iastore, 1) := by decide +kernel
theorem dX11_carried_73 : decode cX11_carried 73 = .ok (.iinc 5 1, 3) := by decide +kernel
theorem dX11_carried_76 : decode cX11_carried 76 = .ok (.iload 9, 2) := by decide +kernel
theorem dX11_carried_78 : decode cX11_carried 78 = .ok (.ifCond .eq 20, 3) := by decide +kernel
theorem dX11_carried_81 : decode cX11_carried 81 = .ok (.iload 8, 2) := by decide +kernel
theorem dX11_carried_83 : decode cX11_carried 83 = .ok (.ifCond .ne 15, 3) := by decide +kernel
theorem dX11_carried_86 : decode cX11_carried 86 = .ok (.aload_n 0, 1) := by decide +kernel
theorem dX11_carried_87 : decode cX11_carried 87 = .ok (.getfield 80, 3) := by decide +kernel
theorem dX11_carried_90 : decode cX11_carried 90 = .ok (.iload 6, 2) := by decide +kernel
theorem dX11_carried_92 : decode cX11_carried 92 = .ok (.iload 7, 2) := by decide +kernel
theorem dX11_carried_94 : decode cX11_carried 94 = .ok (.iastore, 1) := by decide +kernel
theorem dX11_carried_95 : decode cX11_carried 95 = .ok (.iinc 6 1, 3) := by decide +kernel
theorem dX11_carried_98 : decode cX11_carried 98 = .ok (.iinc 7 1, 3) := by decide +kernel
theorem dX11_carried_101 : decode cX11_carried 101 = .ok (.goto (-92), 3) := by decide +kernel
theorem dX11_carried_104 : decode cX11_carried 104 = .ok (.iconst 0, 1) := by decide +kernel
theorem dX11_carried_105 : decode cX11_carried 105 = .ok (.istore 7, 2) := by decide +kernel
theorem dX11_carried_107 : decode cX11_carried 107 = .ok (.iload 7, 2) := by decide +kernel
theorem dX11_carried_109 : decode cX11_carried 109 = .ok (.iload 5, 2) := by decide +kernel
theorem dX11_carried_111 : decode cX11_carried 111 = .ok (.if_icmp .ge 115, 3) := by decide +kernel
theorem dX11_carried_114 : decode cX11_carried 114 = .ok (.aload_n 0, 1) := by decide +kernel
theorem dX11_carried_115 : decode cX11_carried 115 = .ok (.aload_n 0, 1) := by decide +kernel
theorem dX11_carried_116 : decode cX11_carried 116 = .ok (.getfield 77, 3) := by decide +kernel
theorem dX11_carried_119 : decode cX11_carried 119 = .ok (.iload 7, 2) := by decide +kernel
theorem dX11_carried_121 : decode cX11_carried 121 = .ok (.iaload, 1) := by decide +kernel
theorem dX11_carried_122 : decode cX11_carried 122 = .ok (.invokevirtual 268, 3) := by decide +kernel
theorem dX11_carried_125 : decode cX11_carried 125 = .ok (.istore 8, 2) := by decide +kernel
theorem dX11_carried_127 : decode cX11_carried 127 = .ok (.aload_n 0, 1) := by decide +kernel
theorem dX11_carried_128 : decode cX11_carried 128 = .ok (.aload_n 0, 1) := by decide +kernel
theorem dX11_carried_129 : decode cX11_carried 129 = .ok (.getfield 77, 3) := by decide +kernel
theorem dX11_carried_132 : decode cX11_carried 132 = .ok (.iload 7, 2) := by decide +kernel
theorem dX11_carried_134 : decode cX11_carried 134 = .ok (.iaload, 1) := by decide +kernel
theorem dX11_carried_135 : decode cX11_carried 135 = .ok (.invokevirtual 271, 3) := by decide +kernel
theorem dX11_carried_138 : decode cX11_carried 138 = .ok (.istore 9, 2) := by decide +kernel
theorem dX11_carried_140 : decode cX11_carried 140 = .ok (.iconst 0, 1) := by decide +kernel
theorem dX11_carried_141 : decode cX11_carried 141 = .ok (.istore 10, 2) := by decide +kernel
theorem dX11_carried_143 : decode cX11_carried 143 = .ok (.iload 10, 2) := by decide +kernel
theorem dX11_carried_145 : decode cX11_carried 145 = .ok (.iload 6, 2) := by decide +kernel
theorem dX11_carried_147 : decode cX11_carried 147 = .ok (.iload 5, 2) := by decide +kernel
theorem dX11_carried_149 : decode cX11_carried 149 = .ok (.iadd, 1) := by decide +kernel
theorem dX11_carried_150 : decode cX11_carried 150 = .ok (.if_icmp .ge 70, 3) := by decide +kernel
theorem dX11_carried_153 : decode cX11_carried 153 = .ok (.aload_n 0, 1) := by decide +kernel
theorem dX11_carried_154 : decode cX11_carried 154 = .ok (.getfield 55, 3) := by decide +kernel
theorem dX11_carried_157 : decode cX11_carried 157 = .ok (.bipush 64, 2) := by decide +kernel
theorem dX11_carried_159 : decode cX11_carried 159 = .ok (.iload 7, 2) := by decide +kernel
theorem dX11_carried_161 : decode cX11_carried 161 = .ok (.imul, 1) := by decide +kernel
theorem dX11_carried_162 : decode cX11_carried 162 = .ok (.iload 10, 2) := by decide +kernel
theorem dX11_carried_164 : decode cX11_carried 164 = .ok (.iadd, 1) := by decide +kernel
theorem dX11_carried_165 : decode cX11_carried 165 = .ok (.iload 10, 2) := by decide +kernel
theorem dX11_carried_167 : decode cX11_carried 167 = .ok (.iload 6, 2) := by decide +kernel
theorem dX11_carried_169 : decode cX11_carried 169 = .ok (.if_icmp .ge 39, 3) := by decide +kernel
theorem dX11_carried_172 : decode cX11_carried 172 = .ok (.iload 8, 2) := by decide +kernel
theorem dX11_carried_174 : decode cX11_carried 174 = .ok (.aload_n 0, 1) := by decide +kernel
theorem dX11_carried_175 : decode cX11_carried 175 = .ok (.aload_n 0, 1) := by decide +kernel
theorem dX11_carried_176 : decode cX11_carried 176 = .ok (.getfield 80, 3) := by decide +kernel
theorem dX11_carried_179 : decode cX11_carried 179 = .ok (.iload 10, 2) := by decide +kernel
theorem dX11_carried_181 : decode cX11_carried 181 = .ok (.iaload, 1) := by decide +kernel
theorem dX11_carried_182 : decode cX11_carried 182 = .ok (.invokevirtual 268, 3) := by decide +kernel
theorem dX11_carried_185 : decode cX11_carried 185 = .ok (.invokestatic 274, 3) := by decide +kernel
theorem dX11_carried_188 : decode cX11_carried 188 = .ok (.iload 9, 2) := by decide +kernel
theorem dX11_carried_190 : decode cX11_carried 190 = .ok (.aload_n 0, 1) := by decide +kernel
theorem dX11_carried_191 : decode cX11_carried 191 = .ok (.aload_n 0, 1) := by decide +kernel
theorem dX11_carried_192 : decode cX11_carried 192 = .ok (.getfield 80, 3) := by decide +kernel
theorem dX11_carried_195 : decode cX11_carried 195 = .ok (.iload 10, 2) := by decide +kernel
theorem dX11_carried_197 : decode cX11_carried 197 = .ok (.iaload, 1) := by decide +kernel
theorem dX11_carried_198 : decode cX11_carried 198 = .ok (.invokevirtual 271, 3) := by decide +kernel
theorem dX11_carried_201 : decode cX11_carried 201 = .ok (.invokestatic 274, 3) := by decide +kernel
theorem dX11_carried_204 : decode cX11_carried 204 = .ok (.iadd, 1) := by decide +kernel
theorem dX11_carried_205 : decode cX11_carried 205 = .ok (.goto 8, 3) := by decide +kernel
theorem dX11_carried_208 : decode cX11_carried 208 = .ok (.iload 8, 2) := by decide +kernel
theorem dX11_carried_210 : decode cX11_carried 210 = .ok (.iload 9, 2) := by decide +kernel
theorem dX11_carried_212 : decode cX11_carried 212 = .ok (.iadd, 1) := by decide +kernel
theorem dX11_carried_213 : decode cX11_carried 213 = .ok (.iastore, 1) := by decide +kernel
theorem dX11_carried_214 : decode cX11_carried 214 = .ok (.iinc 10 1, 3) := by decide +kernel
theorem dX11_carried_217 : decode cX11_carried 217 = .ok (.goto (-74), 3) := by decide +kernel
theorem dX11_carried_220 : decode cX11_carried 220 = .ok (.iinc 7 1, 3) := by decide +kernel
theorem dX11_carried_223 : decode cX11_carried 223 = .ok (.goto (-116), 3) := by decide +kernel
theorem dX11_carried_226 : decode cX11_carried 226 = .ok (.aload_n 0, 1) := by decide +kernel
theorem dX11_carried_227 : decode cX11_carried 227 = .ok (.iload 5, 2) := by decide +kernel
theorem dX11_carried_229 : decode cX11_carried 229 = .ok (.iload 6, 2) := by decide +kernel
theorem dX11_carried_231 : decode cX11_carried 231 = .ok (.iload 5, 2) := by decide +kernel
theorem dX11_carried_233 : decode cX11_carried 233 = .ok (.iadd, 1) := by decide +kernel
theorem dX11_carried_234 : decode cX11_carried 234 = .ok (.invokevirtual 277, 3) := by decide +kernel
theorem dX11_carried_237 : decode cX11_carried 237 = .ok (.ireturn, 1) := by decide +kernel
abbrev rm_X11_carried : Room := { frames := 2, cells := 0, slots := 0, locals := 52 }
theorem hd_X11_carried : yX11_carried.cls ≠ "java/lang/invoke/MethodHandle" ∧ yX11_carried.cls ≠ "java/lang/invoke/VarHandle" ∧ (parseMethodDescriptor yX11_carried.desc).map (fun d => d.parameters.length) = some 2 := by decide +kernel
def bk_X11_carried_213 (Q : Int32 → ((Nat → Int32) × (Nat → Int32) × (Nat → Int32) × (Nat → Int32) × (Nat → Int32) × (Nat → Int32) × (Nat → Int32) × (Nat → Int32) × (Nat → Int32)) → Prop) (B107 : (Nat → Int32) → Int32 → Prop) (B143 : (Nat → Int32) → Int32 → Prop) (x10 : Int32) (M_price : Nat → Int32) (s0 : Int32) (s1 : Int32) : Prop :=
vp_in s1 2048 ∧ (∀ f11 : Nat → Int32, f11 = (upd M_price s1.toNatClampNeg s0) →
∀ y12 : Int32, y12 = (x10 + 1) →
B143 f11 y12)
def bd_X11_carried_143 (Q : Int32 → ((Nat → Int32) × (Nat → Int32) × (Nat → Int32) × (Nat → Int32) × (Nat → Int32) × (Nat → Int32) × (Nat → Int32) × (Nat → Int32) × (Nat → Int32)) → Prop) (B107 : (Nat → Int32) → Int32 → Prop) (B143 : (Nat → Int32) → Int32 → Prop) (x5 : Int32) (x6 : Int32) (x7 : Int32) (x8 : Int32) (x9 : Int32) (M_wide : Int32) (M_high : Int32) (M_freed : Nat → Int32) (M_price : Nat → Int32) (x10 : Int32) : Prop :=
(((x6 + x5) ≤ x10 → ∀ y9 : Int32, y9 = (x7 + 1) →
B107 M_price y9) ∧
(¬ (x6 + x5) ≤ x10 → ((x6 ≤ x10 → bk_X11_carried_213 Q B107 B143 x10 M_price (x8 + x9) ((64 * x7) + x10)) ∧
(¬ x6 ≤ x10 → vp_in x10 64 ∧ wp_X11_edgeX (M_freed x10.toNatClampNeg) M_wide M_high (fun (r13 : Int32) => wp_X11_apart x8 r13 (fun (r14 : Int32) => vp_in x10 64 ∧ wp_X11_edgeY (M_freed x10.toNatClampNeg) M_wide M_high (fun (r15 : Int32) => wp_X11_apart x9 r15 (fun (r16 : Int32) => bk_X11_carried_213 Q B107 B143 x10 M_price (r14 + r16) ((64 * x7) + x10)))))))))
def lp_X11_carried_143 (Q : Int32 → ((Nat → Int32) × (Nat → Int32) × (Nat → Int32) × (Nat → Int32) × (Nat → Int32) × (Nat → Int32) × (Nat → Int32) × (Nat → Int32) × (Nat → Int32)) → Prop) (B107 : (Nat → Int32) → Int32 → Prop) (x5 : Int32) (x6 : Int32) (x7 : Int32) (x8 : Int32) (x9 : Int32) (M_wide : Int32) (M_high : Int32) (M_freed : Nat → Int32) (M_price : Nat → Int32) (x10 : Int32) : Prop :=
∃ I : Nat → (Nat → Int32) → Int32 → Prop, (∃ n, I n M_price x10) ∧ ∀ n M_price x10, I n M_price x10 → bd_X11_carried_143 Q B107 (fun M_price' x10' => ∃ n', n' < n ∧ I n' M_price' x10') x5 x6 x7 x8 x9 M_wide M_high M_freed M_price x10
def bd_X11_carried_107 (Q : Int32 → ((Nat → Int32) × (Nat → Int32) × (Nat → Int32) × (Nat → Int32) × (Nat → Int32) × (Nat → Int32) × (Nat → Int32) × (Nat → Int32) × (Nat → Int32)) → Prop) (B107 : (Nat → Int32) → Int32 → Prop) (x5 : Int32) (x6 : Int32) (M_wide : Int32) (M_high : Int32) (M_rowBy : Nat → Int32) (M_columnBy : Nat → Int32) (M_rowOf : Nat → Int32) (M_wayBack : Nat → Int32) (M_slack : Nat → Int32) (M_isUsed : Nat → Int32) (M_lifted : Nat → Int32) (M_freed : Nat → Int32) (M_price : Nat → Int32) (x7 : Int32) : Prop :=
((x5 ≤ x7 → wp_X11_leastPrice x5 (x6 + x5) M_price M_rowBy M_columnBy M_rowOf M_wayBack M_slack M_isUsed (fun (r4 : Int32) (u5 : (Nat → Int32) × (Nat → Int32) × (Nat → Int32) × (Nat → Int32) × (Nat → Int32) × (Nat → Int32)) => Q r4 (M_price, u5.1, u5.2.1, u5.2.2.1, u5.2.2.2.1, u5.2.2.2.2.1, u5.2.2.2.2.2, M_lifted, M_freed))) ∧
(¬ x5 ≤ x7 → vp_in x7 64 ∧ wp_X11_edgeX (M_lifted x7.toNatClampNeg) M_wide M_high (fun (r6 : Int32) => vp_in x7 64 ∧ wp_X11_edgeY (M_lifted x7.toNatClampNeg) M_wide M_high (fun (r7 : Int32) => lp_X11_carried_143 Q B107 x5 x6 x7 r6 r7 M_wide M_high M_freed M_price 0))))
def lp_X11_carried_107 (Q : Int32 → ((Nat → Int32) × (Nat → Int32) × (Nat → Int32) × (Nat → Int32) × (Nat → Int32) × (Nat → Int32) × (Nat → Int32) × (Nat → Int32) × (Nat → Int32)) → Prop) (x5 : Int32) (x6 : Int32) (M_wide : Int32) (M_high : Int32) (M_rowBy : Nat → Int32) (M_columnBy : Nat → Int32) (M_rowOf : Nat → Int32) (M_wayBack : Nat → Int32) (M_slack : Nat → Int32) (M_isUsed : Nat → Int32) (M_lifted : Nat → Int32) (M_freed : Nat → Int32) (M_price : Nat → Int32) (x7 : Int32) : Prop :=
∃ I : Nat → (Nat → Int32) → Int32 → Prop, (∃ n, I n M_price x7) ∧ ∀ n M_price x7, I n M_price x7 → bd_X11_carried_107 Q  (fun M_price' x7' => ∃ n', n' < n ∧ I n' M_price' x7') x5 x6 M_wide M_high M_rowBy M_columnBy M_rowOf M_wayBack M_slack M_isUsed M_lifted M_freed M_price x7
def bk_X11_carried_98 (Q : Int32 → ((Nat → Int32) × (Nat → Int32) × (Nat → Int32) × (Nat → Int32) × (Nat → Int32) × (Nat → Int32) × (Nat → Int32) × (Nat → Int32) × (Nat → Int32)) → Prop) (B9 : (Nat → Int32) → (Nat → Int32) → Int32 → Int32 → Int32 → Prop) (x5 : Int32) (x6 : Int32) (x7 : Int32) (M_lifted : Nat → Int32) (M_freed : Nat → Int32) : Prop :=
∀ y21 : Int32, y21 = (x7 + 1) →
B9 M_lifted M_freed x5 x6 y21
def bk_X11_carried_76 (Q : Int32 → ((Nat → Int32) × (Nat → Int32) × (Nat → Int32) × (Nat → Int32) × (Nat → Int32) × (Nat → Int32) × (Nat → Int32) × (Nat → Int32) × (Nat → Int32)) → Prop) (B9 : (Nat → Int32) → (Nat → Int32) → Int32 → Int32 → Int32 → Prop) (x5 : Int32) (x6 : Int32) (x7 : Int32) (x8 : Int32) (x9 : Int32) (M_lifted : Nat → Int32) (M_freed : Nat → Int32) : Prop :=
((x9 = 0 → bk_X11_carried_98 Q B9 x5 x6 x7 M_lifted M_freed) ∧
(¬ x9 = 0 → ((¬ x8 = 0 → bk_X11_carried_98 Q B9 x5 x6 x7 M_lifted M_freed) ∧
(x8 = 0 → vp_in x6 64 ∧ (∀ f23 : Nat → Int32, f23 = (upd M_freed x6.toNatClampNeg x7) →
∀ y24 : Int32, y24 = (x6 + 1) →
bk_X11_carried_98 Q B9 x5 y24 x7 M_lifted f23)))))
def bk_X11_carried_52 (Q : Int32 → ((Nat → Int32) × (Nat → Int32) × (Nat → Int32) × (Nat → Int32) × (Nat → Int32) × (Nat → Int32) × (Nat → Int32) × (Nat → Int32) × (Nat → Int32)) → Prop) (B9 : (Nat → Int32) → (Nat → Int32) → Int32 → Int32 → Int32 → Prop) (x5 : Int32) (x6 : Int32) (x7 : Int32) (x8 : Int32) (M_lifted : Nat → Int32) (M_freed : Nat → Int32) (s0 : Int32) : Prop :=
((x8 = 0 → bk_X11_carried_76 Q B9 x5 x6 x7 x8 s0 M_lifted M_freed) ∧
(¬ x8 = 0 → ((¬ s0 = 0 → bk_X11_carried_76 Q B9 x5 x6 x7 x8 s0 M_lifted M_freed) ∧
(s0 = 0 → vp_in x5 64 ∧ (∀ f26 : Nat → Int32, f26 = (upd M_lifted x5.toNatClampNeg x7) →
∀ y27 : Int32, y27 = (x5 + 1) →
bk_X11_carried_76 Q B9 y27 x6 x7 x8 s0 f26 M_freed)))))
def bk_X11_carried_34 (Q : Int32 → ((Nat → Int32) × (Nat → Int32) × (Nat → Int32) × (Nat → Int32) × (Nat → Int32) × (Nat → Int32) × (Nat → Int32) × (Nat → Int32) × (Nat → Int32)) → Prop) (B9 : (Nat → Int32) → (Nat → Int32) → Int32 → Int32 → Int32 → Prop) (p3 : Int64) (x5 : Int32) (x6 : Int32) (x7 : Int32) (M_lifted : Nat → Int32) (M_freed : Nat → Int32) (s0 : Int32) : Prop :=
((¬ ((p3 >>> (x7.toInt64 &&& 63)) &&& 1) = 1 → bk_X11_carried_52 Q B9 x5 x6 x7 s0 M_lifted M_freed 0) ∧
(((p3 >>> (x7.toInt64 &&& 63)) &&& 1) = 1 → bk_X11_carried_52 Q B9 x5 x6 x7 s0 M_lifted M_freed 1))
def bd_X11_carried_9 (Q : Int32 → ((Nat → Int32) × (Nat → Int32) × (Nat → Int32) × (Nat → Int32) × (Nat → Int32) × (Nat → Int32) × (Nat → Int32) × (Nat → Int32) × (Nat → Int32)) → Prop) (B9 : (Nat → Int32) → (Nat → Int32) → Int32 → Int32 → Int32 → Prop) (p1 : Int64) (p3 : Int64) (M_wide : Int32) (M_high : Int32) (M_price : Nat → Int32) (M_rowBy : Nat → Int32) (M_columnBy : Nat → Int32) (M_rowOf : Nat → Int32) (M_wayBack : Nat → Int32) (M_slack : Nat → Int32) (M_isUsed : Nat → Int32) (M_lifted : Nat → Int32) (M_freed : Nat → Int32) (x5 : Int32) (x6 : Int32) (x7 : Int32) : Prop :=
wp_X11_edgeMany M_wide M_high (fun (r1 : Int32) => ((r1 ≤ x7 → lp_X11_carried_107 Q x5 x6 M_wide M_high M_rowBy M_columnBy M_rowOf M_wayBack M_slack M_isUsed M_lifted M_freed M_price 0) ∧
(¬ r1 ≤ x7 → ((¬ ((p1 >>> (x7.toInt64 &&& 63)) &&& 1) = 1 → bk_X11_carried_34 Q B9 p3 x5 x6 x7 M_lifted M_freed 0) ∧
(((p1 >>> (x7.toInt64 &&& 63)) &&& 1) = 1 → bk_X11_carried_34 Q B9 p3 x5 x6 x7 M_lifted M_freed 1)))))
def lp_X11_carried_9 (Q : Int32 → ((Nat → Int32) × (Nat → Int32) × (Nat → Int32) × (Nat → Int32) × (Nat → Int32) × (Nat → Int32) × (Nat → Int32) × (Nat → Int32) × (Nat → Int32)) → Prop) (p1 : Int64) (p3 : Int64) (M_wide : Int32) (M_high : Int32) (M_price : Nat → Int32) (M_rowBy : Nat → Int32) (M_columnBy : Nat → Int32) (M_rowOf : Nat → Int32) (M_wayBack : Nat → Int32) (M_slack : Nat → Int32) (M_isUsed : Nat → Int32) (M_lifted : Nat → Int32) (M_freed : Nat → Int32) (x5 : Int32) (x6 : Int32) (x7 : Int32) : Prop :=
∃ I : Nat → (Nat → Int32) → (Nat → Int32) → Int32 → Int32 → Int32 → Prop, (∃ n, I n M_lifted M_freed x5 x6 x7) ∧ ∀ n M_lifted M_freed x5 x6 x7, I n M_lifted M_freed x5 x6 x7 → bd_X11_carried_9 Q  (fun M_lifted' M_freed' x5' x6' x7' => ∃ n', n' < n ∧ I n' M_lifted' M_freed' x5' x6' x7') p1 p3 M_wide M_high M_price M_rowBy M_columnBy M_rowOf M_wayBack M_slack M_isUsed M_lifted M_freed x5 x6 x7
def wp_X11_carried (p1 : Int64) (p3 : Int64) (M_wide : Int32) (M_high : Int32) (M_price : Nat → Int32) (M_rowBy : Nat → Int32) (M_columnBy : Nat → Int32) (M_rowOf : Nat → Int32) (M_wayBack : Nat → Int32) (M_slack : Nat → Int32) (M_isUsed : Nat → Int32) (M_lifted : Nat → Int32) (M_freed : Nat → Int32) (Q : Int32 → ((Nat → Int32) × (Nat → Int32) × (Nat → Int32) × (Nat → Int32) × (Nat → Int32) × (Nat → Int32) × (Nat → Int32) × (Nat → Int32) × (Nat → Int32)) → Prop) : Prop :=
lp_X11_carried_9 Q p1 p3 M_wide M_high M_price M_rowBy M_columnBy M_rowOf M_wayBack M_slack M_isUsed M_lifted M_freed 0 0 0
set_option maxHeartbeats 4000000 in
set_option maxRecDepth 100000 in
theorem J_X11_carried_213 {x : CX} {D : DG} {cyI cyJ cyZ : ClassId} {a_M a_M_square a_M_want a_M_text a_M_read a_M_row a_M_foldSet a_M_foldEdges a_M_foldNeeds a_M_foldYards a_M_least a_M_ways a_M_price a_M_rowBy a_M_columnBy a_M_rowOf a_M_wayBack a_M_slack a_M_isUsed a_M_lifted a_M_freed a_M_path : Nat} {M_wide : Int32} {M_high : Int32} {M_hedges : Int64} {M_hurdles : Int32} {M_wants : Int32} {M_rest : Int32} {M_frozen : Int32} {M_bytes : Int32} {M_position : Int32} {M_tokenAt : Int32} {M_token : Int64} {M_digits : Int32} {M_number : Int32} {M_faultAt : Int32} {M_readMany : Int32} {M_readWide : Int32} {M_readHigh : Int32} {M_nights : Int32} {M_why : Int32} {M_folds : Int32} {M_square : Nat → Int32} {M_want : Nat → Int32} {M_text : Nat → Int32} {M_read : Nat → Int32} {M_row : Nat → Int32} {M_foldSet : Nat → Int32} {M_foldEdges : Nat → Int64} {M_foldNeeds : Nat → Int32} {M_foldYards : Nat → Int32} {M_least : Nat → Int32} {M_ways : Nat → Int32} {M_price : Nat → Int32} {M_rowBy : Nat → Int32} {M_columnBy : Nat → Int32} {M_rowOf : Nat → Int32} {M_wayBack : Nat → Int32} {M_slack : Nat → Int32} {M_isUsed : Nat → Int32} {M_lifted : Nat → Int32} {M_freed : Nat → Int32} {M_path : Nat → Int32} {x5 : Int32} {x6 : Int32} {x7 : Int32} {x8 : Int32} {x9 : Int32} {x10 : Int32} {s0 : Int32} {s1 : Int32} {Q : Int32 → ((Nat → Int32) × (Nat → Int32) × (Nat → Int32) × (Nat → Int32) × (Nat → Int32) × (Nat → Int32) × (Nat → Int32) × (Nat → Int32) × (Nat → Int32)) → Prop} {B107 : (Nat → Int32) → Int32 → Prop} {B143 : (Nat → Int32) → Int32 → Prop} (cx : Cx x cX11_carried 11 RX11 rm_X11_carried D [(cyI, .int), (cyJ, .long), (cyZ, .boolean)]) (hR : ∀ (v : Int32) (u : (Nat → Int32) × (Nat → Int32) × (Nat → Int32) × (Nat → Int32) × (Nat → Int32) × (Nat → Int32) × (Nat → Int32) × (Nat → Int32) × (Nat → Int32)) (pc : Nat) (lv : List (Nat × Value)), decode cX11_carried pc = .ok (.ireturn, 1) → Q v u → J x 0 0 11 (W_Model cyI cyJ cyZ a_M a_M_square a_M_want a_M_text a_M_read a_M_row a_M_foldSet a_M_foldEdges a_M_foldNeeds a_M_foldYards a_M_least a_M_ways a_M_price a_M_rowBy a_M_columnBy a_M_rowOf a_M_wayBack a_M_slack a_M_isUsed a_M_lifted a_M_freed a_M_path M_wide M_high M_hedges M_hurdles M_wants M_rest M_frozen M_bytes M_position M_tokenAt M_token M_digits M_number M_faultAt M_readMany M_readWide M_readHigh M_nights M_why M_folds M_square M_want M_text M_read M_row M_foldSet M_foldEdges M_foldNeeds M_foldYards M_least M_ways u.1 u.2.1 u.2.2.1 u.2.2.2.1 u.2.2.2.2.1 u.2.2.2.2.2.1 u.2.2.2.2.2.2.1 u.2.2.2.2.2.2.2.1 u.2.2.2.2.2.2.2.2 M_path) lv pc [.int v]) (hB107 : ∀ (M_price : Nat → Int32) (x7 : Int32), B107 M_price x7 → J x 0 0 11 (W_Model cyI cyJ cyZ a_M a_M_square a_M_want a_M_text a_M_read a_M_row a_M_foldSet a_M_foldEdges a_M_foldNeeds a_M_foldYards a_M_least a_M_ways a_M_price a_M_rowBy a_M_columnBy a_M_rowOf a_M_wayBack a_M_slack a_M_isUsed a_M_lifted a_M_freed a_M_path M_wide M_high M_hedges M_hurdles M_wants M_rest M_frozen M_bytes M_position M_tokenAt M_token M_digits M_number M_faultAt M_readMany M_readWide M_readHigh M_nights M_why M_folds M_square M_want M_text M_read M_row M_foldSet M_foldEdges M_foldNeeds M_foldYards M_least M_ways M_price M_rowBy M_columnBy M_rowOf M_wayBack M_slack M_isUsed M_lifted M_freed M_path) [(0, .ref a_M), (5, .int x5), (6, .int x6), (7, .int x7)] 107 []) (hB143 : ∀ (M_price : Nat → Int32) (x10 : Int32), B143 M_price x10 → J x 0 0 11 (W_Model cyI cyJ cyZ a_M a_M_square a_M_want a_M_text a_M_read a_M_row a_M_foldSet a_M_foldEdges a_M_foldNeeds a_M_foldYards a_M_least a_M_ways a_M_price a_M_rowBy a_M_columnBy a_M_rowOf a_M_wayBack a_M_slack a_M_isUsed a_M_lifted a_M_freed a_M_path M_wide M_high M_hedges M_hurdles M_wants M_rest M_frozen M_bytes M_position M_tokenAt M_token M_digits M_number M_faultAt M_readMany M_readWide M_readHigh M_nights M_why M_folds M_square M_want M_text M_read M_row M_foldSet M_foldEdges M_foldNeeds M_foldYards M_least M_ways M_price M_rowBy M_columnBy M_rowOf M_wayBack M_slack M_isUsed M_lifted M_freed M_path) [(0, .ref a_M), (5, .int x5), (6, .int x6), (7, .int x7), (8, .int x8), (9, .int x9), (10, .int x10)] 143 []) (h : bk_X11_carried_213 Q B107 B143 x10 M_price s0 s1) :
    J x 0 0 11 (W_Model cyI cyJ cyZ a_M a_M_square a_M_want a_M_text a_M_read a_M_row a_M_foldSet a_M_foldEdges a_M_foldNeeds a_M_foldYards a_M_least a_M_ways a_M_price a_M_rowBy a_M_columnBy a_M_rowOf a_M_wayBack a_M_slack a_M_isUsed a_M_lifted a_M_freed a_M_path M_wide M_high M_hedges M_hurdles M_wants M_rest M_frozen M_bytes M_position M_tokenAt M_token M_digits M_number M_faultAt M_readMany M_readWide M_readHigh M_nights M_why M_folds M_square M_want M_text M_read M_row M_foldSet M_foldEdges M_foldNeeds M_foldYards M_least M_ways M_price M_rowBy M_columnBy M_rowOf M_wayBack M_slack M_isUsed M_lifted M_freed M_path) [(0, .ref a_M), (5, .int x5), (6, .int x6), (7, .int x7), (8, .int x8), (9, .int x9), (10, .int x10)] 213 [.int s0, .int s1, .ref a_M_price] := by
  unfold bk_X11_carried_213 at h
  have hin := h.1
  obtain ⟨f11, ef11⟩ : ∃ z, z = upd M_price s1.toNatClampNeg s0 := ⟨_, rfl⟩
  have h := h.2 f11 ef11
  refine j_iast cx 12 0 rfl rfl hin (W_Model cyI cyJ cyZ a_M a_M_square a_M_want a_M_text a_M_read a_M_row a_M_foldSet a_M_foldEdges a_M_foldNeeds a_M_foldYards a_M_least a_M_ways a_M_price a_M_rowBy a_M_columnBy a_M_rowOf a_M_wayBack a_M_slack a_M_isUsed a_M_lifted a_M_freed a_M_path M_wide M_high M_hedges M_hurdles M_wants M_rest M_frozen M_bytes M_position M_tokenAt M_token M_digits M_number M_faultAt M_readMany M_readWide M_readHigh M_nights M_why M_folds M_square M_want M_text M_read M_row M_foldSet M_foldEdges M_foldNeeds M_foldYards M_least M_ways f11 M_rowBy M_columnBy M_rowOf M_wayBack M_slack M_isUsed M_lifted M_freed M_path) (by subst ef11; rfl) dX11_carried_213 (pn := 214) rfl ?_
  obtain ⟨y12, ey12⟩ : ∃ z : Int32, z = x10 + 1 := ⟨_, rfl⟩
  have h := h y12 ey12
  refine j_iinc cx 6 rfl (cst := 1) (by decide) ey12 [(10, .int y12), (0, .ref a_M), (5, .int x5), (6, .int x6), (7, .int x7), (8, .int x8), (9, .int x9)] (by decide) rfl dX11_carried_214 (pn := 217) rfl ?_
  refine j_goto cx 143 dX11_carried_217 rfl ?_
  refine j_sub [1, 2, 3, 4, 5, 6, 0] [(0, .ref a_M), (5, .int x5), (6, .int x6), (7, .int x7), (8, .int x8), (9, .int x9), (10, .int y12)] rfl ?_
  exact hB143 _ _ h
set_option maxHeartbeats 4000000 in
set_option maxRecDepth 100000 in
theorem B_X11_carried_143 {x : CX} {D : DG} {cyI cyJ cyZ : ClassId} {a_M a_M_square a_M_want a_M_text a_M_read a_M_row a_M_foldSet a_M_foldEdges a_M_foldNeeds a_M_foldYards a_M_least a_M_ways a_M_price a_M_rowBy a_M_columnBy a_M_rowOf a_M_wayBack a_M_slack a_M_isUsed a_M_lifted a_M_freed a_M_path : Nat} {M_wide : Int32} {M_high : Int32} {M_hedges : Int64} {M_hurdles : Int32} {M_wants : Int32} {M_rest : Int32} {M_frozen : Int32} {M_bytes : Int32} {M_position : Int32} {M_tokenAt : Int32} {M_token : Int64} {M_digits : Int32} {M_number : Int32} {M_faultAt : Int32} {M_readMany : Int32} {M_readWide : Int32} {M_readHigh : Int32} {M_nights : Int32} {M_why : Int32} {M_folds : Int32} {M_square : Nat → Int32} {M_want : Nat → Int32} {M_text : Nat → Int32} {M_read : Nat → Int32} {M_row : Nat → Int32} {M_foldSet : Nat → Int32} {M_foldEdges : Nat → Int64} {M_foldNeeds : Nat → Int32} {M_foldYards : Nat → Int32} {M_least : Nat → Int32} {M_ways : Nat → Int32} {M_price : Nat → Int32} {M_rowBy : Nat → Int32} {M_columnBy : Nat → Int32} {M_rowOf : Nat → Int32} {M_wayBack : Nat → Int32} {M_slack : Nat → Int32} {M_isUsed : Nat → Int32} {M_lifted : Nat → Int32} {M_freed : Nat → Int32} {M_path : Nat → Int32} {x5 : Int32} {x6 : Int32} {x7 : Int32} {x8 : Int32} {x9 : Int32} {x10 : Int32} {Q : Int32 → ((Nat → Int32) × (Nat → Int32) × (Nat → Int32) × (Nat → Int32) × (Nat → Int32) × (Nat → Int32) × (Nat → Int32) × (Nat → Int32) × (Nat → Int32)) → Prop} {B107 : (Nat → Int32) → Int32 → Prop} {B143 : (Nat → Int32) → Int32 → Prop} (cx : Cx x cX11_carried 11 RX11 rm_X11_carried D [(cyI, .int), (cyJ, .long), (cyZ, .boolean)]) (hR : ∀ (v : Int32) (u : (Nat → Int32) × (Nat → Int32) × (Nat → Int32) × (Nat → Int32) × (Nat → Int32) × (Nat → Int32) × (Nat → Int32) × (Nat → Int32) × (Nat → Int32)) (pc : Nat) (lv : List (Nat × Value)), decode cX11_carried pc = .ok (.ireturn, 1) → Q v u → J x 0 0 11 (W_Model cyI cyJ cyZ a_M a_M_square a_M_want a_M_text a_M_read a_M_row a_M_foldSet a_M_foldEdges a_M_foldNeeds a_M_foldYards a_M_least a_M_ways a_M_price a_M_rowBy a_M_columnBy a_M_rowOf a_M_wayBack a_M_slack a_M_isUsed a_M_lifted a_M_freed a_M_path M_wide M_high M_hedges M_hurdles M_wants M_rest M_frozen M_bytes M_position M_tokenAt M_token M_digits M_number M_faultAt M_readMany M_readWide M_readHigh M_nights M_why M_folds M_square M_want M_text M_read M_row M_foldSet M_foldEdges M_foldNeeds M_foldYards M_least M_ways u.1 u.2.1 u.2.2.1 u.2.2.2.1 u.2.2.2.2.1 u.2.2.2.2.2.1 u.2.2.2.2.2.2.1 u.2.2.2.2.2.2.2.1 u.2.2.2.2.2.2.2.2 M_path) lv pc [.int v]) (hB107 : ∀ (M_price : Nat → Int32) (x7 : Int32), B107 M_price x7 → J x 0 0 11 (W_Model cyI cyJ cyZ a_M a_M_square a_M_want a_M_text a_M_read a_M_row a_M_foldSet a_M_foldEdges a_M_foldNeeds a_M_foldYards a_M_least a_M_ways a_M_price a_M_rowBy a_M_columnBy a_M_rowOf a_M_wayBack a_M_slack a_M_isUsed a_M_lifted a_M_freed a_M_path M_wide M_high M_hedges M_hurdles M_wants M_rest M_frozen M_bytes M_position M_tokenAt M_token M_digits M_number M_faultAt M_readMany M_readWide M_readHigh M_nights M_why M_folds M_square M_want M_text M_read M_row M_foldSet M_foldEdges M_foldNeeds M_foldYards M_least M_ways M_price M_rowBy M_columnBy M_rowOf M_wayBack M_slack M_isUsed M_lifted M_freed M_path) [(0, .ref a_M), (5, .int x5), (6, .int x6), (7, .int x7)] 107 []) (hB143 : ∀ (M_price : Nat → Int32) (x10 : Int32), B143 M_price x10 → J x 0 0 11 (W_Model cyI cyJ cyZ a_M a_M_square a_M_want a_M_text a_M_read a_M_row a_M_foldSet a_M_foldEdges a_M_foldNeeds a_M_foldYards a_M_least a_M_ways a_M_price a_M_rowBy a_M_columnBy a_M_rowOf a_M_wayBack a_M_slack a_M_isUsed a_M_lifted a_M_freed a_M_path M_wide M_high M_hedges M_hurdles M_wants M_rest M_frozen M_bytes M_position M_tokenAt M_token M_digits M_number M_faultAt M_readMany M_readWide M_readHigh M_nights M_why M_folds M_square M_want M_text M_read M_row M_foldSet M_foldEdges M_foldNeeds M_foldYards M_least M_ways M_price M_rowBy M_columnBy M_rowOf M_wayBack M_slack M_isUsed M_lifted M_freed M_path) [(0, .ref a_M), (5, .int x5), (6, .int x6), (7, .int x7), (8, .int x8), (9, .int x9), (10, .int x10)] 143 []) (h : bd_X11_carried_143 Q B107 B143 x5 x6 x7 x8 x9 M_wide M_high M_freed M_price x10) :
    J x 0 0 11 (W_Model cyI cyJ cyZ a_M a_M_square a_M_want a_M_text a_M_read a_M_row a_M_foldSet a_M_foldEdges a_M_foldNeeds a_M_foldYards a_M_least a_M_ways a_M_price a_M_rowBy a_M_columnBy a_M_rowOf a_M_wayBack a_M_slack a_M_isUsed a_M_lifted a_M_freed a_M_path M_wide M_high M_hedges M_hurdles M_wants M_rest M_frozen M_bytes M_position M_tokenAt M_token M_digits M_number M_faultAt M_readMany M_readWide M_readHigh M_nights M_why M_folds M_square M_want M_text M_read M_row M_foldSet M_foldEdges M_foldNeeds M_foldYards M_least M_ways M_price M_rowBy M_columnBy M_rowOf M_wayBack M_slack M_isUsed M_lifted M_freed M_path) [(0, .ref a_M), (5, .int x5), (6, .int x6), (7, .int x7), (8, .int x8), (9, .int x9), (10, .int x10)] 143 [] := by
  unfold bd_X11_carried_143 at h
  refine j_iload cx 6 rfl dX11_carried_143 (pn := 145) rfl ?_
  refine j_iload cx 2 rfl dX11_carried_145 (pn := 147) rfl ?_
  refine j_iload cx 1 rfl dX11_carried_147 (pn := 149) rfl ?_
  refine j_iadd cx dX11_carried_149 (pn := 150) rfl ?_
  refine j_icmp_ge cx 220 dX11_carried_150 (pn := 153) rfl rfl (fun c8 => ?_) (fun c8 => ?_)
  · have h := h.1 c8
    obtain ⟨y9, ey9⟩ : ∃ z : Int32, z = x7 + 1 := ⟨_, rfl⟩
    have h := h y9 ey9
    refine j_iinc cx 3 rfl (cst := 1) (by decide) ey9 [(7, .int y9), (0, .ref a_M), (5, .int x5), (6, .int x6), (8, .int x8), (9, .int x9), (10, .int x10)] (by decide) rfl dX11_carried_220 (pn := 223) rfl ?_
    refine j_goto cx 107 dX11_carried_223 rfl ?_
    refine j_sub [1, 2, 3, 0] [(0, .ref a_M), (5, .int x5), (6, .int x6), (7, .int y9)] rfl ?_
    exact hB107 _ _ h
  · have h := h.2 c8
    refine j_aload_n cx 0 rfl rfl dX11_carried_153 (pn := 154) rfl ?_
    refine j_get cx inGX11 0 rfl rfl 31 (by decide) q_fl_X11_55 rfl rfl dX11_carried_154 (pn := 157) rfl ?_
    refine j_bipush cx (v := 64) (by decide) dX11_carried_157 (pn := 159) rfl ?_
    refine j_iload cx 3 rfl dX11_carried_159 (pn := 161) rfl ?_
    refine j_imul cx dX11_carried_161 (pn := 162) rfl ?_
    refine j_iload cx 6 rfl dX11_carried_162 (pn := 164) rfl ?_
    refine j_iadd cx dX11_carried_164 (pn := 165) rfl ?_
    refine j_iload cx 6 rfl dX11_carried_165 (pn := 167) rfl ?_
    refine j_iload cx 2 rfl dX11_carried_167 (pn := 169) rfl ?_
    refine j_icmp_ge cx 208 dX11_carried_169 (pn := 172) rfl rfl (fun c10 => ?_) (fun c10 => ?_)
    · have h := h.1 c10
      refine j_iload cx 4 rfl dX11_carried_208 (pn := 210) rfl ?_
      refine j_iload cx 5 rfl dX11_carried_210 (pn := 212) rfl ?_
      refine j_iadd cx dX11_carried_212 (pn := 213) rfl ?_
      exact J_X11_carried_213 cx hR hB107 hB143 h
    · have h := h.2 c10
      refine j_iload cx 4 rfl dX11_carried_172 (pn := 174) rfl ?_
      refine j_aload_n cx 0 rfl rfl dX11_carried_174 (pn := 175) rfl ?_
      refine j_aload_n cx 0 rfl rfl dX11_carried_175 (pn := 176) rfl ?_
      refine j_get cx inGX11 0 rfl rfl 39 (by decide) q_fl_X11_80 rfl rfl dX11_carried_176 (pn := 179) rfl ?_
      refine j_iload cx 6 rfl dX11_carried_179 (pn := 181) rfl ?_
      refine j_iald cx 20 0 rfl rfl h.1 dX11_carried_181 (pn := 182) rfl ?_
      have h := h.2
      refine j_callvI0 cx q_inst_X11_edgeX q_sel_X11_edgeX (b := a_M) (As := [.int (M_freed x10.toNatClampNeg)]) (rest := [.int x8, .int ((64 * x7) + x10), .ref a_M_price]) (c_X11_edgeX h) ⟨q_code_X11_edgeX, q_ml_X11_268, q_init_X11, hd_X11_edgeX, ⟨Nat.le_of_ble_eq_true rfl, Nat.le_of_ble_eq_true rfl⟩, Nat.le_of_ble_eq_true rfl, Nat.le_of_ble_eq_true rfl⟩ (q0 := 0) rfl rfl rfl rfl (Nat.le_of_ble_eq_true rfl) dX11_carried_182 (pn := 185) rfl (fun r13 _ h => ?_)
      show J x 0 0 11 (W_Model cyI cyJ cyZ a_M a_M_square a_M_want a_M_text a_M_read a_M_row a_M_foldSet a_M_foldEdges a_M_foldNeeds a_M_foldYards a_M_least a_M_ways a_M_price a_M_rowBy a_M_columnBy a_M_rowOf a_M_wayBack a_M_slack a_M_isUsed a_M_lifted a_M_freed a_M_path M_wide M_high M_hedges M_hurdles M_wants M_rest M_frozen M_bytes M_position M_tokenAt M_token M_digits M_number M_faultAt M_readMany M_readWide M_readHigh M_nights M_why M_folds M_square M_want M_text M_read M_row M_foldSet M_foldEdges M_foldNeeds M_foldYards M_least M_ways M_price M_rowBy M_columnBy M_rowOf M_wayBack M_slack M_isUsed M_lifted M_freed M_path) [(0, .ref a_M), (5, .int x5), (6, .int x6), (7, .int x7), (8, .int x8), (9, .int x9), (10, .int x10)] 185 [.int r13, .int x8, .int ((64 * x7) + x10), .ref a_M_price]
      refine j_calleI cx q_stat_X11_apart (As := [.int x8, .int r13]) (rest := [.int ((64 * x7) + x10), .ref a_M_price]) (c_X11_apart h) ⟨q_code_X11_apart, q_ml_X11_274, q_init_X11, hd_X11_apart, ⟨Nat.le_of_ble_eq_true rfl, Nat.le_of_ble_eq_true rfl⟩, Nat.le_of_ble_eq_true rfl, Nat.le_of_ble_eq_true rfl⟩ rfl rfl (Nat.le_of_ble_eq_true rfl) dX11_carried_185 (pn := 188) rfl (fun r14 h => ?_)
      show J x 0 0 11 (W_Model cyI cyJ cyZ a_M a_M_square a_M_want a_M_text a_M_read a_M_row a_M_foldSet a_M_foldEdges a_M_foldNeeds a_M_foldYards a_M_least a_M_ways a_M_price a_M_rowBy a_M_columnBy a_M_rowOf a_M_wayBack a_M_slack a_M_isUsed a_M_lifted a_M_freed a_M_path M_wide M_high M_hedges M_hurdles M_wants M_rest M_frozen M_bytes M_position M_tokenAt M_token M_digits M_number M_faultAt M_readMany M_readWide M_readHigh M_nights M_why M_folds M_square M_want M_text M_read M_row M_foldSet M_foldEdges M_foldNeeds M_foldYards M_least M_ways M_price M_rowBy M_columnBy M_rowOf M_wayBack M_slack M_isUsed M_lifted M_freed M_path) [(0, .ref a_M), (5, .int x5), (6, .int x6), (7, .int x7), (8, .int x8), (9, .int x9), (10, .int x10)] 188 [.int r14, .int ((64 * x7) + x10), .ref a_M_price]
      refine j_iload cx 5 rfl dX11_carried_188 (pn := 190) rfl ?_
      refine j_aload_n cx 0 rfl rfl dX11_carried_190 (pn := 191) rfl ?_
      refine j_aload_n cx 0 rfl rfl dX11_carried_191 (pn := 192) rfl ?_
      refine j_get cx inGX11 0 rfl rfl 39 (by decide) q_fl_X11_80 rfl rfl dX11_carried_192 (pn := 195) rfl ?_
      refine j_iload cx 6 rfl dX11_carried_195 (pn := 197) rfl ?_
      refine j_iald cx 20 0 rfl rfl h.1 dX11_carried_197 (pn := 198) rfl ?_
      have h := h.2
      refine j_callvI0 cx q_inst_X11_edgeY q_sel_X11_edgeY (b := a_M) (As := [.int (M_freed x10.toNatClampNeg)]) (rest := [.int x9, .int r14, .int ((64 * x7) + x10), .ref a_M_price]) (c_X11_edgeY h) ⟨q_code_X11_edgeY, q_ml_X11_271, q_init_X11, hd_X11_edgeY, ⟨Nat.le_of_ble_eq_true rfl, Nat.le_of_ble_eq_true rfl⟩, Nat.le_of_ble_eq_true rfl, Nat.le_of_ble_eq_true rfl⟩ (q0 := 0) rfl rfl rfl rfl (Nat.le_of_ble_eq_true rfl) dX11_carried_198 (pn := 201) rfl (fun r15 _ h => ?_)
      show J x 0 0 11 (W_Model cyI cyJ cyZ a_M a_M_square a_M_want a_M_text a_M_read a_M_row a_M_foldSet a_M_foldEdges a_M_foldNeeds a_M_foldYards a_M_least a_M_ways a_M_price a_M_rowBy a_M_columnBy a_M_rowOf a_M_wayBack a_M_slack a_M_isUsed a_M_lifted a_M_freed a_M_path M_wide M_high M_hedges M_hurdles M_wants M_rest M_frozen M_bytes M_position M_tokenAt M_token M_digits M_number M_faultAt M_readMany M_readWide M_readHigh M_nights M_why M_folds M_square M_want M_text M_read M_row M_foldSet M_foldEdges M_foldNeeds M_foldYards M_least M_ways M_price M_rowBy M_columnBy M_rowOf M_wayBack M_slack M_isUsed M_lifted M_freed M_path) [(0, .ref a_M), (5, .int x5), (6, .int x6), (7, .int x7), (8, .int x8), (9, .int x9), (10, .int x10)] 201 [.int r15, .int x9, .int r14, .int ((64 * x7) + x10), .ref a_M_price]
      refine j_calleI cx q_stat_X11_apart (As := [.int x9, .int r15]) (rest := [.int r14, .int ((64 * x7) + x10), .ref a_M_price]) (c_X11_apart h) ⟨q_code_X11_apart, q_ml_X11_274, q_init_X11, hd_X11_apart, ⟨Nat.le_of_ble_eq_true rfl, Nat.le_of_ble_eq_true rfl⟩, Nat.le_of_ble_eq_true rfl, Nat.le_of_ble_eq_true rfl⟩ rfl rfl (Nat.le_of_ble_eq_true rfl) dX11_carried_201 (pn := 204) rfl (fun r16 h => ?_)
      show J x 0 0 11 (W_Model cyI cyJ cyZ a_M a_M_square a_M_want a_M_text a_M_read a_M_row a_M_foldSet a_M_foldEdges a_M_foldNeeds a_M_foldYards a_M_least a_M_ways a_M_price a_M_rowBy a_M_columnBy a_M_rowOf a_M_wayBack a_M_slack a_M_isUsed a_M_lifted a_M_freed a_M_path M_wide M_high M_hedges M_hurdles M_wants M_rest M_frozen M_bytes M_position M_tokenAt M_token M_digits M_number M_faultAt M_readMany M_readWide M_readHigh M_nights M_why M_folds M_square M_want M_text M_read M_row M_foldSet M_foldEdges M_foldNeeds M_foldYards M_least M_ways M_price M_rowBy M_columnBy M_rowOf M_wayBack M_slack M_isUsed M_lifted M_freed M_path) [(0, .ref a_M), (5, .int x5), (6, .int x6), (7, .int x7), (8, .int x8), (9, .int x9), (10, .int x10)] 204 [.int r16, .int r14, .int ((64 * x7) + x10), .ref a_M_price]
      refine j_iadd cx dX11_carried_204 (pn := 205) rfl ?_
      refine j_goto cx 213 dX11_carried_205 rfl ?_
      exact J_X11_carried_213 cx hR hB107 hB143 h
set_option maxHeartbeats 4000000 in
set_option maxRecDepth 100000 in
theorem J_X11_carried_143 {x : CX} {D : DG} {cyI cyJ cyZ : ClassId} {a_M a_M_square a_M_want a_M_text a_M_read a_M_row a_M_foldSet a_M_foldEdges a_M_foldNeeds a_M_foldYards a_M_least a_M_ways a_M_price a_M_rowBy a_M_columnBy a_M_rowOf a_M_wayBack a_M_slack a_M_isUsed a_M_lifted a_M_freed a_M_path : Nat} {M_wide : Int32} {M_high : Int32} {M_hedges : Int64} {M_hurdles : Int32} {M_wants : Int32} {M_rest : Int32} {M_frozen : Int32} {M_bytes : Int32} {M_position : Int32} {M_tokenAt : Int32} {M_token : Int64} {M_digits : Int32} {M_number : Int32} {M_faultAt : Int32} {M_readMany : Int32} {M_readWide : Int32} {M_readHigh : Int32} {M_nights : Int32} {M_why : Int32} {M_folds : Int32} {M_square : Nat → Int32} {M_want : Nat → Int32} {M_text : Nat → Int32} {M_read : Nat → Int32} {M_row : Nat → Int32} {M_foldSet : Nat → Int32} {M_foldEdges : Nat → Int64} {M_foldNeeds : Nat → Int32} {M_foldYards : Nat → Int32} {M_least : Nat → Int32} {M_ways : Nat → Int32} {M_price : Nat → Int32} {M_rowBy : Nat → Int32} {M_columnBy : Nat → Int32} {M_rowOf : Nat → Int32} {M_wayBack : Nat → Int32} {M_slack : Nat → Int32} {M_isUsed : Nat → Int32} {M_lifted : Nat → Int32} {M_freed : Nat → Int32} {M_path : Nat → Int32} {x5 : Int32} {x6 : Int32} {x7 : Int32} {x8 : Int32} {x9 : Int32} {x10 : Int32} {Q : Int32 → ((Nat → Int32) × (Nat → Int32) × (Nat → Int32) × (Nat → Int32) × (Nat → Int32) × (Nat → Int32) × (Nat → Int32) × (Nat → Int32) × (Nat → Int32)) → Prop} {B107 : (Nat → Int32) → Int32 → Prop} (cx : Cx x cX11_carried 11 RX11 rm_X11_carried D [(cyI, .int), (cyJ, .long), (cyZ, .boolean)]) (hR : ∀ (v : Int32) (u : (Nat → Int32) × (Nat → Int32) × (Nat → Int32) × (Nat → Int32) × (Nat → Int32) × (Nat → Int32) × (Nat → Int32) × (Nat → Int32) × (Nat → Int32)) (pc : Nat) (lv : List (Nat × Value)), decode cX11_carried pc = .ok (.ireturn, 1) → Q v u → J x 0 0 11 (W_Model cyI cyJ cyZ a_M a_M_square a_M_want a_M_text a_M_read a_M_row a_M_foldSet a_M_foldEdges a_M_foldNeeds a_M_foldYards a_M_least a_M_ways a_M_price a_M_rowBy a_M_columnBy a_M_rowOf a_M_wayBack a_M_slack a_M_isUsed a_M_lifted a_M_freed a_M_path M_wide M_high M_hedges M_hurdles M_wants M_rest M_frozen M_bytes M_position M_tokenAt M_token M_digits M_number M_faultAt M_readMany M_readWide M_readHigh M_nights M_why M_folds M_square M_want M_text M_read M_row M_foldSet M_foldEdges M_foldNeeds M_foldYards M_least M_ways u.1 u.2.1 u.2.2.1 u.2.2.2.1 u.2.2.2.2.1 u.2.2.2.2.2.1 u.2.2.2.2.2.2.1 u.2.2.2.2.2.2.2.1 u.2.2.2.2.2.2.2.2 M_path) lv pc [.int v]) (hB107 : ∀ (M_price : Nat → Int32) (x7 : Int32), B107 M_price x7 → J x 0 0 11 (W_Model cyI cyJ cyZ a_M a_M_square a_M_want a_M_text a_M_read a_M_row a_M_foldSet a_M_foldEdges a_M_foldNeeds a_M_foldYards a_M_least a_M_ways a_M_price a_M_rowBy a_M_columnBy a_M_rowOf a_M_wayBack a_M_slack a_M_isUsed a_M_lifted a_M_freed a_M_path M_wide M_high M_hedges M_hurdles M_wants M_rest M_frozen M_bytes M_position M_tokenAt M_token M_digits M_number M_faultAt M_readMany M_readWide M_readHigh M_nights M_why M_folds M_square M_want M_text M_read M_row M_foldSet M_foldEdges M_foldNeeds M_foldYards M_least M_ways M_price M_rowBy M_columnBy M_rowOf M_wayBack M_slack M_isUsed M_lifted M_freed M_path) [(0, .ref a_M), (5, .int x5), (6, .int x6), (7, .int x7)] 107 []) (h : lp_X11_carried_143 Q B107 x5 x6 x7 x8 x9 M_wide M_high M_freed M_price x10) :
    J x 0 0 11 (W_Model cyI cyJ cyZ a_M a_M_square a_M_want a_M_text a_M_read a_M_row a_M_foldSet a_M_foldEdges a_M_foldNeeds a_M_foldYards a_M_least a_M_ways a_M_price a_M_rowBy a_M_columnBy a_M_rowOf a_M_wayBack a_M_slack a_M_isUsed a_M_lifted a_M_freed a_M_path M_wide M_high M_hedges M_hurdles M_wants M_rest M_frozen M_bytes M_position M_tokenAt M_token M_digits M_number M_faultAt M_readMany M_readWide M_readHigh M_nights M_why M_folds M_square M_want M_text M_read M_row M_foldSet M_foldEdges M_foldNeeds M_foldYards M_least M_ways M_price M_rowBy M_columnBy M_rowOf M_wayBack M_slack M_isUsed M_lifted M_freed M_path) [(0, .ref a_M), (5, .int x5), (6, .int x6), (7, .int x7), (8, .int x8), (9, .int x9), (10, .int x10)] 143 [] := by
  obtain ⟨I, ⟨n, h0⟩, hb⟩ := h
  revert M_price x10
  induction n using Nat.strongRecOn with
  | _ n ih =>
    intro M_price x10 h0
    exact B_X11_carried_143 cx hR hB107 (fun _ _ hz => by obtain ⟨n2, hlt, hI⟩ := hz; exact ih n2 hlt hI) (hb n M_price x10 h0)
set_option maxHeartbeats 4000000 in
set_option maxRecDepth 100000 in
theorem B_X11_carried_107 {x : CX} {D : DG} {cyI cyJ cyZ : ClassId} {a_M a_M_square a_M_want a_M_text a_M_read a_M_row a_M_foldSet a_M_foldEdges a_M_foldNeeds a_M_foldYards a_M_least a_M_ways a_M_price a_M_rowBy a_M_columnBy a_M_rowOf a_M_wayBack a_M_slack a_M_isUsed a_M_lifted a_M_freed a_M_path : Nat} {M_wide : Int32} {M_high : Int32} {M_hedges : Int64} {M_hurdles : Int32} {M_wants : Int32} {M_rest : Int32} {M_frozen : Int32} {M_bytes : Int32} {M_position : Int32} {M_tokenAt : Int32} {M_token : Int64} {M_digits : Int32} {M_number : Int32} {M_faultAt : Int32} {M_readMany : Int32} {M_readWide : Int32} {M_readHigh : Int32} {M_nights : Int32} {M_why : Int32} {M_folds : Int32} {M_square : Nat → Int32} {M_want : Nat → Int32} {M_text : Nat → Int32} {M_read : Nat → Int32} {M_row : Nat → Int32} {M_foldSet : Nat → Int32} {M_foldEdges : Nat → Int64} {M_foldNeeds : Nat → Int32} {M_foldYards : Nat → Int32} {M_least : Nat → Int32} {M_ways : Nat → Int32} {M_price : Nat → Int32} {M_rowBy : Nat → Int32} {M_columnBy : Nat → Int32} {M_rowOf : Nat → Int32} {M_wayBack : Nat → Int32} {M_slack : Nat → Int32} {M_isUsed : Nat → Int32} {M_lifted : Nat → Int32} {M_freed : Nat → Int32} {M_path : Nat → Int32} {x5 : Int32} {x6 : Int32} {x7 : Int32} {Q : Int32 → ((Nat → Int32) × (Nat → Int32) × (Nat → Int32) × (Nat → Int32) × (Nat → Int32) × (Nat → Int32) × (Nat → Int32) × (Nat → Int32) × (Nat → Int32)) → Prop} {B107 : (Nat → Int32) → Int32 → Prop} (cx : Cx x cX11_carried 11 RX11 rm_X11_carried D [(cyI, .int), (cyJ, .long), (cyZ, .boolean)]) (hR : ∀ (v : Int32) (u : (Nat → Int32) × (Nat → Int32) × (Nat → Int32) × (Nat → Int32) × (Nat → Int32) × (Nat → Int32) × (Nat → Int32) × (Nat → Int32) × (Nat → Int32)) (pc : Nat) (lv : List (Nat × Value)), decode cX11_carried pc = .ok (.ireturn, 1) → Q v u → J x 0 0 11 (W_Model cyI cyJ cyZ a_M a_M_square a_M_want a_M_text a_M_read a_M_row a_M_foldSet a_M_foldEdges a_M_foldNeeds a_M_foldYards a_M_least a_M_ways a_M_price a_M_rowBy a_M_columnBy a_M_rowOf a_M_wayBack a_M_slack a_M_isUsed a_M_lifted a_M_freed a_M_path M_wide M_high M_hedges M_hurdles M_wants M_rest M_frozen M_bytes M_position M_tokenAt M_token M_digits M_number M_faultAt M_readMany M_readWide M_readHigh M_nights M_why M_folds M_square M_want M_text M_read M_row M_foldSet M_foldEdges M_foldNeeds M_foldYards M_least M_ways u.1 u.2.1 u.2.2.1 u.2.2.2.1 u.2.2.2.2.1 u.2.2.2.2.2.1 u.2.2.2.2.2.2.1 u.2.2.2.2.2.2.2.1 u.2.2.2.2.2.2.2.2 M_path) lv pc [.int v]) (hB107 : ∀ (M_price : Nat → Int32) (x7 : Int32), B107 M_price x7 → J x 0 0 11 (W_Model cyI cyJ cyZ a_M a_M_square a_M_want a_M_text a_M_read a_M_row a_M_foldSet a_M_foldEdges a_M_foldNeeds a_M_foldYards a_M_least a_M_ways a_M_price a_M_rowBy a_M_columnBy a_M_rowOf a_M_wayBack a_M_slack a_M_isUsed a_M_lifted a_M_freed a_M_path M_wide M_high M_hedges M_hurdles M_wants M_rest M_frozen M_bytes M_position M_tokenAt M_token M_digits M_number M_faultAt M_readMany M_readWide M_readHigh M_nights M_why M_folds M_square M_want M_text M_read M_row M_foldSet M_foldEdges M_foldNeeds M_foldYards M_least M_ways M_price M_rowBy M_columnBy M_rowOf M_wayBack M_slack M_isUsed M_lifted M_freed M_path) [(0, .ref a_M), (5, .int x5), (6, .int x6), (7, .int x7)] 107 []) (h : bd_X11_carried_107 Q B107 x5 x6 M_wide M_high M_rowBy M_columnBy M_rowOf M_wayBack M_slack M_isUsed M_lifted M_freed M_price x7) :
    J x 0 0 11 (W_Model cyI cyJ cyZ a_M a_M_square a_M_want a_M_text a_M_read a_M_row a_M_foldSet a_M_foldEdges a_M_foldNeeds a_M_foldYards a_M_least a_M_ways a_M_price a_M_rowBy a_M_columnBy a_M_rowOf a_M_wayBack a_M_slack a_M_isUsed a_M_lifted a_M_freed a_M_path M_wide M_high M_hedges M_hurdles M_wants M_rest M_frozen M_bytes M_position M_tokenAt M_token M_digits M_number M_faultAt M_readMany M_readWide M_readHigh M_nights M_why M_folds M_square M_want M_text M_read M_row M_foldSet M_foldEdges M_foldNeeds M_foldYards M_least M_ways M_price M_rowBy M_columnBy M_rowOf M_wayBack M_slack M_isUsed M_lifted M_freed M_path) [(0, .ref a_M), (5, .int x5), (6, .int x6), (7, .int x7)] 107 [] := by
  unfold bd_X11_carried_107 at h
  refine j_iload cx 3 rfl dX11_carried_107 (pn := 109) rfl ?_
  refine j_iload cx 1 rfl dX11_carried_109 (pn := 111) rfl ?_
  refine j_icmp_ge cx 226 dX11_carried_111 (pn := 114) rfl rfl (fun c3 => ?_) (fun c3 => ?_)
  · have h := h.1 c3
    refine j_aload_n cx 0 rfl rfl dX11_carried_226 (pn := 227) rfl ?_
    refine j_iload cx 1 rfl dX11_carried_227 (pn := 229) rfl ?_
    refine j_iload cx 2 rfl dX11_carried_229 (pn := 231) rfl ?_
    refine j_iload cx 1 rfl dX11_carried_231 (pn := 233) rfl ?_
    refine j_iadd cx dX11_carried_233 (pn := 234) rfl ?_
    refine j_callvI0 cx q_inst_X11_leastPrice q_sel_X11_leastPrice (b := a_M) (As := [.int x5, .int (x6 + x5)]) (rest := []) (c_X11_leastPrice h) ⟨q_code_X11_leastPrice, q_ml_X11_277, q_init_X11, hd_X11_leastPrice, ⟨Nat.le_of_ble_eq_true rfl, Nat.le_of_ble_eq_true rfl⟩, Nat.le_of_ble_eq_true rfl, Nat.le_of_ble_eq_true rfl⟩ (q0 := 0) rfl rfl rfl rfl (Nat.le_of_ble_eq_true rfl) dX11_carried_234 (pn := 237) rfl (fun r4 u5 h => ?_)
    show J x 0 0 11 (W_Model cyI cyJ cyZ a_M a_M_square a_M_want a_M_text a_M_read a_M_row a_M_foldSet a_M_foldEdges a_M_foldNeeds a_M_foldYards a_M_least a_M_ways a_M_price a_M_rowBy a_M_columnBy a_M_rowOf a_M_wayBack a_M_slack a_M_isUsed a_M_lifted a_M_freed a_M_path M_wide M_high M_hedges M_hurdles M_wants M_rest M_frozen M_bytes M_position M_tokenAt M_token M_digits M_number M_faultAt M_readMany M_readWide M_readHigh M_nights M_why M_folds M_square M_want M_text M_read M_row M_foldSet M_foldEdges M_foldNeeds M_foldYards M_least M_ways M_price u5.1 u5.2.1 u5.2.2.1 u5.2.2.2.1 u5.2.2.2.2.1 u5.2.2.2.2.2 M_lifted M_freed M_path) [(0, .ref a_M), (5, .int x5), (6, .int x6), (7, .int x7)] 237 [.int r4]
    exact hR r4 (M_price, u5.1, u5.2.1, u5.2.2.1, u5.2.2.2.1, u5.2.2.2.2.1, u5.2.2.2.2.2, M_lifted, M_freed) 237 _ dX11_carried_237 h
  · have h := h.2 c3
    refine j_aload_n cx 0 rfl rfl dX11_carried_114 (pn := 115) rfl ?_
    refine j_aload_n cx 0 rfl rfl dX11_carried_115 (pn := 116) rfl ?_
    refine j_get cx inGX11 0 rfl rfl 38 (by decide) q_fl_X11_77 rfl rfl dX11_carried_116 (pn := 119) rfl ?_
    refine j_iload cx 3 rfl dX11_carried_119 (pn := 121) rfl ?_
    refine j_iald cx 19 0 rfl rfl h.1 dX11_carried_121 (pn := 122) rfl ?_
    have h := h.2
    refine j_callvI0 cx q_inst_X11_edgeX q_sel_X11_edgeX (b := a_M) (As := [.int (M_lifted x7.toNatClampNeg)]) (rest := []) (c_X11_edgeX h) ⟨q_code_X11_edgeX, q_ml_X11_268, q_init_X11, hd_X11_edgeX, ⟨Nat.le_of_ble_eq_true rfl, Nat.le_of_ble_eq_true rfl⟩, Nat.le_of_ble_eq_true rfl, Nat.le_of_ble_eq_true rfl⟩ (q0 := 0) rfl rfl rfl rfl (Nat.le_of_ble_eq_true rfl) dX11_carried_122 (pn := 125) rfl (fun r6 _ h => ?_)
    show J x 0 0 11 (W_Model cyI cyJ cyZ a_M a_M_square a_M_want a_M_text a_M_read a_M_row a_M_foldSet a_M_foldEdges a_M_foldNeeds a_M_foldYards a_M_least a_M_ways a_M_price a_M_rowBy a_M_columnBy a_M_rowOf a_M_wayBack a_M_slack a_M_isUsed a_M_lifted a_M_freed a_M_path M_wide M_high M_hedges M_hurdles M_wants M_rest M_frozen M_bytes M_position M_tokenAt M_token M_digits M_number M_faultAt M_readMany M_readWide M_readHigh M_nights M_why M_folds M_square M_want M_text M_read M_row M_foldSet M_foldEdges M_foldNeeds M_foldYards M_least M_ways M_price M_rowBy M_columnBy M_rowOf M_wayBack M_slack M_isUsed M_lifted M_freed M_path) [(0, .ref a_M), (5, .int x5), (6, .int x6), (7, .int x7)] 125 [.int r6]
    refine j_istore cx [(8, .int r6), (0, .ref a_M), (5, .int x5), (6, .int x6), (7, .int x7)] (by decide) rfl dX11_carried_125 (pn := 127) rfl ?_
    refine j_aload_n cx 1 rfl rfl dX11_carried_127 (pn := 128) rfl ?_
    refine j_aload_n cx 1 rfl rfl dX11_carried_128 (pn := 129) rfl ?_
    refine j_get cx inGX11 0 rfl rfl 38 (by decide) q_fl_X11_77 rfl rfl dX11_carried_129 (pn := 132) rfl ?_
    refine j_iload cx 4 rfl dX11_carried_132 (pn := 134) rfl ?_
    refine j_iald cx 19 0 rfl rfl h.1 dX11_carried_134 (pn := 135) rfl ?_
    have h := h.2
    refine j_callvI0 cx q_inst_X11_edgeY q_sel_X11_edgeY (b := a_M) (As := [.int (M_lifted x7.toNatClampNeg)]) (rest := []) (c_X11_edgeY h) ⟨q_code_X11_edgeY, q_ml_X11_271, q_init_X11, hd_X11_edgeY, ⟨Nat.le_of_ble_eq_true rfl, Nat.le_of_ble_eq_true rfl⟩, Nat.le_of_ble_eq_true rfl, Nat.le_of_ble_eq_true rfl⟩ (q0 := 0) rfl rfl rfl rfl (Nat.le_of_ble_eq_true rfl) dX11_carried_135 (pn := 138) rfl (fun r7 _ h => ?_)
    show J x 0 0 11 (W_Model cyI cyJ cyZ a_M a_M_square a_M_want a_M_text a_M_read a_M_row a_M_foldSet a_M_foldEdges a_M_foldNeeds a_M_foldYards a_M_least a_M_ways a_M_price a_M_rowBy a_M_columnBy a_M_rowOf a_M_wayBack a_M_slack a_M_isUsed a_M_lifted a_M_freed a_M_path M_wide M_high M_hedges M_hurdles M_wants M_rest M_frozen M_bytes M_position M_tokenAt M_token M_digits M_number M_faultAt M_readMany M_readWide M_readHigh M_nights M_why M_folds M_square M_want M_text M_read M_row M_foldSet M_foldEdges M_foldNeeds M_foldYards M_least M_ways M_price M_rowBy M_columnBy M_rowOf M_wayBack M_slack M_isUsed M_lifted M_freed M_path) [(8, .int r6), (0, .ref a_M), (5, .int x5), (6, .int x6), (7, .int x7)] 138 [.int r7]
    refine j_istore cx [(9, .int r7), (8, .int r6), (0, .ref a_M), (5, .int x5), (6, .int x6), (7, .int x7)] (by decide) rfl dX11_carried_138 (pn := 140) rfl ?_
    refine j_iconst cx (v := 0) (by decide) dX11_carried_140 (pn := 141) rfl ?_
    refine j_istore cx [(10, .int 0), (9, .int r7), (8, .int r6), (0, .ref a_M), (5, .int x5), (6, .int x6), (7, .int x7)] (by decide) rfl dX11_carried_141 (pn := 143) rfl ?_
    refine j_sub [3, 4, 5, 6, 2, 1, 0] [(0, .ref a_M), (5, .int x5), (6, .int x6), (7, .int x7), (8, .int r6), (9, .int r7), (10, .int 0)] rfl ?_
    exact J_X11_carried_143 cx hR hB107 h
set_option maxHeartbeats 4000000 in
set_option maxRecDepth 100000 in
theorem J_X11_carried_107 {x : CX} {D : DG} {cyI cyJ cyZ : ClassId} {a_M a_M_square a_M_want a_M_text a_M_read a_M_row a_M_foldSet a_M_foldEdges a_M_foldNeeds a_M_foldYards a_M_least a_M_ways a_M_price a_M_rowBy a_M_columnBy a_M_rowOf a_M_wayBack a_M_slack a_M_isUsed a_M_lifted a_M_freed a_M_path : Nat} {M_wide : Int32} {M_high : Int32} {M_hedges : Int64} {M_hurdles : Int32} {M_wants : Int32} {M_rest : Int32} {M_frozen : Int32} {M_bytes : Int32} {M_position : Int32} {M_tokenAt : Int32} {M_token : Int64} {M_digits : Int32} {M_number : Int32} {M_faultAt : Int32} {M_readMany : Int32} {M_readWide : Int32} {M_readHigh : Int32} {M_nights : Int32} {M_why : Int32} {M_folds : Int32} {M_square : Nat → Int32} {M_want : Nat → Int32} {M_text : Nat → Int32} {M_read : Nat → Int32} {M_row : Nat → Int32} {M_foldSet : Nat → Int32} {M_foldEdges : Nat → Int64} {M_foldNeeds : Nat → Int32} {M_foldYards : Nat → Int32} {M_least : Nat → Int32} {M_ways : Nat → Int32} {M_price : Nat → Int32} {M_rowBy : Nat → Int32} {M_columnBy : Nat → Int32} {M_rowOf : Nat → Int32} {M_wayBack : Nat → Int32} {M_slack : Nat → Int32} {M_isUsed : Nat → Int32} {M_lifted : Nat → Int32} {M_freed : Nat → Int32} {M_path : Nat → Int32} {x5 : Int32} {x6 : Int32} {x7 : Int32} {Q : Int32 → ((Nat → Int32) × (Nat → Int32) × (Nat → Int32) × (Nat → Int32) × (Nat → Int32) × (Nat → Int32) × (Nat → Int32) × (Nat → Int32) × (Nat → Int32)) → Prop} (cx : Cx x cX11_carried 11 RX11 rm_X11_carried D [(cyI, .int), (cyJ, .long), (cyZ, .boolean)]) (hR : ∀ (v : Int32) (u : (Nat → Int32) × (Nat → Int32) × (Nat → Int32) × (Nat → Int32) × (Nat → Int32) × (Nat → Int32) × (Nat → Int32) × (Nat → Int32) × (Nat → Int32)) (pc : Nat) (lv : List (Nat × Value)), decode cX11_carried pc = .ok (.ireturn, 1) → Q v u → J x 0 0 11 (W_Model cyI cyJ cyZ a_M a_M_square a_M_want a_M_text a_M_read a_M_row a_M_foldSet a_M_foldEdges a_M_foldNeeds a_M_foldYards a_M_least a_M_ways a_M_price a_M_rowBy a_M_columnBy a_M_rowOf a_M_wayBack a_M_slack a_M_isUsed a_M_lifted a_M_freed a_M_path M_wide M_high M_hedges M_hurdles M_wants M_rest M_frozen M_bytes M_position M_tokenAt M_token M_digits M_number M_faultAt M_readMany M_readWide M_readHigh M_nights M_why M_folds M_square M_want M_text M_read M_row M_foldSet M_foldEdges M_foldNeeds M_foldYards M_least M_ways u.1 u.2.1 u.2.2.1 u.2.2.2.1 u.2.2.2.2.1 u.2.2.2.2.2.1 u.2.2.2.2.2.2.1 u.2.2.2.2.2.2.2.1 u.2.2.2.2.2.2.2.2 M_path) lv pc [.int v]) (h : lp_X11_carried_107 Q  x5 x6 M_wide M_high M_rowBy M_columnBy M_rowOf M_wayBack M_slack M_isUsed M_lifted M_freed M_price x7) :
    J x 0 0 11 (W_Model cyI cyJ cyZ a_M a_M_square a_M_want a_M_text a_M_read a_M_row a_M_foldSet a_M_foldEdges a_M_foldNeeds a_M_foldYards a_M_least a_M_ways a_M_price a_M_rowBy a_M_columnBy a_M_rowOf a_M_wayBack a_M_slack a_M_isUsed a_M_lifted a_M_freed a_M_path M_wide M_high M_hedges M_hurdles M_wants M_rest M_frozen M_bytes M_position M_tokenAt M_token M_digits M_number M_faultAt M_readMany M_readWide M_readHigh M_nights M_why M_folds M_square M_want M_text M_read M_row M_foldSet M_foldEdges M_foldNeeds M_foldYards M_least M_ways M_price M_rowBy M_columnBy M_rowOf M_wayBack M_slack M_isUsed M_lifted M_freed M_path) [(0, .ref a_M), (5, .int x5), (6, .int x6), (7, .int x7)] 107 [] := by
  obtain ⟨I, ⟨n, h0⟩, hb⟩ := h
  revert M_price x7
  induction n using Nat.strongRecOn with
  | _ n ih =>
    intro M_price x7 h0
    exact B_X11_carried_107 cx hR (fun _ _ hz => by obtain ⟨n2, hlt, hI⟩ := hz; exact ih n2 hlt hI) (hb n M_price x7 h0)
set_option maxHeartbeats 4000000 in
set_option maxRecDepth 100000 in
theorem J_X11_carried_98 {x : CX} {D : DG} {cyI cyJ cyZ : ClassId} {a_M a_M_square a_M_want a_M_text a_M_read a_M_row a_M_foldSet a_M_foldEdges a_M_foldNeeds a_M_foldYards a_M_least a_M_ways a_M_price a_M_rowBy a_M_columnBy a_M_rowOf a_M_wayBack a_M_slack a_M_isUsed a_M_lifted a_M_freed a_M_path : Nat} {M_wide : Int32} {M_high : Int32} {M_hedges : Int64} {M_hurdles : Int32} {M_wants : Int32} {M_rest : Int32} {M_frozen : Int32} {M_bytes : Int32} {M_position : Int32} {M_tokenAt : Int32} {M_token : Int64} {M_digits : Int32} {M_number : Int32} {M_faultAt : Int32} {M_readMany : Int32} {M_readWide : Int32} {M_readHigh : Int32} {M_nights : Int32} {M_why : Int32} {M_folds : Int32} {M_square : Nat → Int32} {M_want : Nat → Int32} {M_text : Nat → Int32} {M_read : Nat → Int32} {M_row : Nat → Int32} {M_foldSet : Nat → Int32} {M_foldEdges : Nat → Int64} {M_foldNeeds : Nat → Int32} {M_foldYards : Nat → Int32} {M_least : Nat → Int32} {M_ways : Nat → Int32} {M_price : Nat → Int32} {M_rowBy : Nat → Int32} {M_columnBy : Nat → Int32} {M_rowOf : Nat → Int32} {M_wayBack : Nat → Int32} {M_slack : Nat → Int32} {M_isUsed : Nat → Int32} {M_lifted : Nat → Int32} {M_freed : Nat → Int32} {M_path : Nat → Int32} {p1 : Int64} {p3 : Int64} {x5 : Int32} {x6 : Int32} {x7 : Int32} {Q : Int32 → ((Nat → Int32) × (Nat → Int32) × (Nat → Int32) × (Nat → Int32) × (Nat → Int32) × (Nat → Int32) × (Nat → Int32) × (Nat → Int32) × (Nat → Int32)) → Prop} {B9 : (Nat → Int32) → (Nat → Int32) → Int32 → Int32 → Int32 → Prop} (cx : Cx x cX11_carried 11 RX11 rm_X11_carried D [(cyI, .int), (cyJ, .long), (cyZ, .boolean)]) (hR : ∀ (v : Int32) (u : (Nat → Int32) × (Nat → Int32) × (Nat → Int32) × (Nat → Int32) × (Nat → Int32) × (Nat → Int32) × (Nat → Int32) × (Nat → Int32) × (Nat → Int32)) (pc : Nat) (lv : List (Nat × Value)), decode cX11_carried pc = .ok (.ireturn, 1) → Q v u → J x 0 0 11 (W_Model cyI cyJ cyZ a_M a_M_square a_M_want a_M_text a_M_read a_M_row a_M_foldSet a_M_foldEdges a_M_foldNeeds a_M_foldYards a_M_least a_M_ways a_M_price a_M_rowBy a_M_columnBy a_M_rowOf a_M_wayBack a_M_slack a_M_isUsed a_M_lifted a_M_freed a_M_path M_wide M_high M_hedges M_hurdles M_wants M_rest M_frozen M_bytes M_position M_tokenAt M_token M_digits M_number M_faultAt M_readMany M_readWide M_readHigh M_nights M_why M_folds M_square M_want M_text M_read M_row M_foldSet M_foldEdges M_foldNeeds M_foldYards M_least M_ways u.1 u.2.1 u.2.2.1 u.2.2.2.1 u.2.2.2.2.1 u.2.2.2.2.2.1 u.2.2.2.2.2.2.1 u.2.2.2.2.2.2.2.1 u.2.2.2.2.2.2.2.2 M_path) lv pc [.int v]) (hB9 : ∀ (M_lifted : Nat → Int32) (M_freed : Nat → Int32) (x5 : Int32) (x6 : Int32) (x7 : Int32), B9 M_lifted M_freed x5 x6 x7 → J x 0 0 11 (W_Model cyI cyJ cyZ a_M a_M_square a_M_want a_M_text a_M_read a_M_row a_M_foldSet a_M_foldEdges a_M_foldNeeds a_M_foldYards a_M_least a_M_ways a_M_price a_M_rowBy a_M_columnBy a_M_rowOf a_M_wayBack a_M_slack a_M_isUsed a_M_lifted a_M_freed a_M_path M_wide M_high M_hedges M_hurdles M_wants M_rest M_frozen M_bytes M_position M_tokenAt M_token M_digits M_number M_faultAt M_readMany M_readWide M_readHigh M_nights M_why M_folds M_square M_want M_text M_read M_row M_foldSet M_foldEdges M_foldNeeds M_foldYards M_least M_ways M_price M_rowBy M_columnBy M_rowOf M_wayBack M_slack M_isUsed M_lifted M_freed M_path) [(0, .ref a_M), (1, .long p1), (3, .long p3), (5, .int x5), (6, .int x6), (7, .int x7)] 9 []) (h : bk_X11_carried_98 Q B9 x5 x6 x7 M_lifted M_freed) :
    J x 0 0 11 (W_Model cyI cyJ cyZ a_M a_M_square a_M_want a_M_text a_M_read a_M_row a_M_foldSet a_M_foldEdges a_M_foldNeeds a_M_foldYards a_M_least a_M_ways a_M_price a_M_rowBy a_M_columnBy a_M_rowOf a_M_wayBack a_M_slack a_M_isUsed a_M_lifted a_M_freed a_M_path M_wide M_high M_hedges M_hurdles M_wants M_rest M_frozen M_bytes M_position M_tokenAt M_token M_digits M_number M_faultAt M_readMany M_readWide M_readHigh M_nights M_why M_folds M_square M_want M_text M_read M_row M_foldSet M_foldEdges M_foldNeeds M_foldYards M_least M_ways M_price M_rowBy M_columnBy M_rowOf M_wayBack M_slack M_isUsed M_lifted M_freed M_path) [(0, .ref a_M), (1, .long p1), (3, .long p3), (5, .int x5), (6, .int x6), (7, .int x7)] 98 [] := by
  unfold bk_X11_carried_98 at h
  obtain ⟨y21, ey21⟩ : ∃ z : Int32, z = x7 + 1 := ⟨_, rfl⟩
  have h := h y21 ey21
  refine j_iinc cx 5 rfl (cst := 1) (by decide) ey21 [(7, .int y21), (0, .ref a_M), (1, .long p1), (3, .long p3), (5, .int x5), (6, .int x6)] (by decide) rfl dX11_carried_98 (pn := 101) rfl ?_
  refine j_goto cx 9 dX11_carried_101 rfl ?_
  refine j_sub [1, 2, 3, 4, 5, 0] [(0, .ref a_M), (1, .long p1), (3, .long p3), (5, .int x5), (6, .int x6), (7, .int y21)] rfl ?_
  exact hB9 _ _ _ _ _ h
set_option maxHeartbeats 4000000 in
set_option maxRecDepth 100000 in
theorem J_X11_carried_76 {x : CX} {D : DG} {cyI cyJ cyZ : ClassId} {a_M a_M_square a_M_want a_M_text a_M_read a_M_row a_M_foldSet a_M_foldEdges a_M_foldNeeds a_M_foldYards a_M_least a_M_ways a_M_price a_M_rowBy a_M_columnBy a_M_rowOf a_M_wayBack a_M_slack a_M_isUsed a_M_lifted a_M_freed a_M_path : Nat} {M_wide : Int32} {M_high : Int32} {M_hedges : Int64} {M_hurdles : Int32} {M_wants : Int32} {M_rest : Int32} {M_frozen : Int32} {M_bytes : Int32} {M_position : Int32} {M_tokenAt : Int32} {M_token : Int64} {M_digits : Int32} {M_number : Int32} {M_faultAt : Int32} {M_readMany : Int32} {M_readWide : Int32} {M_readHigh : Int32} {M_nights : Int32} {M_why : Int32} {M_folds : Int32} {M_square : Nat → Int32} {M_want : Nat → Int32} {M_text : Nat → Int32} {M_read : Nat → Int32} {M_row : Nat → Int32} {M_foldSet : Nat → Int32} {M_foldEdges : Nat → Int64} {M_foldNeeds : Nat → Int32} {M_foldYards : Nat → Int32} {M_least : Nat → Int32} {M_ways : Nat → Int32} {M_price : Nat → Int32} {M_rowBy : Nat → Int32} {M_columnBy : Nat → Int32} {M_rowOf : Nat → Int32} {M_wayBack : Nat → Int32} {M_slack : Nat → Int32} {M_isUsed : Nat → Int32} {M_lifted : Nat → Int32} {M_freed : Nat → Int32} {M_path : Nat → Int32} {p1 : Int64} {p3 : Int64} {x5 : Int32} {x6 : Int32} {x7 : Int32} {x8 : Int32} {x9 : Int32} {Q : Int32 → ((Nat → Int32) × (Nat → Int32) × (Nat → Int32) × (Nat → Int32) × (Nat → Int32) × (Nat → Int32) × (Nat → Int32) × (Nat → Int32) × (Nat → Int32)) → Prop} {B9 : (Nat → Int32) → (Nat → Int32) → Int32 → Int32 → Int32 → Prop} (cx : Cx x cX11_carried 11 RX11 rm_X11_carried D [(cyI, .int), (cyJ, .long), (cyZ, .boolean)]) (hR : ∀ (v : Int32) (u : (Nat → Int32) × (Nat → Int32) × (Nat → Int32) × (Nat → Int32) × (Nat → Int32) × (Nat → Int32) × (Nat → Int32) × (Nat → Int32) × (Nat → Int32)) (pc : Nat) (lv : List (Nat × Value)), decode cX11_carried pc = .ok (.ireturn, 1) → Q v u → J x 0 0 11 (W_Model cyI cyJ cyZ a_M a_M_square a_M_want a_M_text a_M_read a_M_row a_M_foldSet a_M_foldEdges a_M_foldNeeds a_M_foldYards a_M_least a_M_ways a_M_price a_M_rowBy a_M_columnBy a_M_rowOf a_M_wayBack a_M_slack a_M_isUsed a_M_lifted a_M_freed a_M_path M_wide M_high M_hedges M_hurdles M_wants M_rest M_frozen M_bytes M_position M_tokenAt M_token M_digits M_number M_faultAt M_readMany M_readWide M_readHigh M_nights M_why M_folds M_square M_want M_text M_read M_row M_foldSet M_foldEdges M_foldNeeds M_foldYards M_least M_ways u.1 u.2.1 u.2.2.1 u.2.2.2.1 u.2.2.2.2.1 u.2.2.2.2.2.1 u.2.2.2.2.2.2.1 u.2.2.2.2.2.2.2.1 u.2.2.2.2.2.2.2.2 M_path) lv pc [.int v]) (hB9 : ∀ (M_lifted : Nat → Int32) (M_freed : Nat → Int32) (x5 : Int32) (x6 : Int32) (x7 : Int32), B9 M_lifted M_freed x5 x6 x7 → J x 0 0 11 (W_Model cyI cyJ cyZ a_M a_M_square a_M_want a_M_text a_M_read a_M_row a_M_foldSet a_M_foldEdges a_M_foldNeeds a_M_foldYards a_M_least a_M_ways a_M_price a_M_rowBy a_M_columnBy a_M_rowOf a_M_wayBack a_M_slack a_M_isUsed a_M_lifted a_M_freed a_M_path M_wide M_high M_hedges M_hurdles M_wants M_rest M_frozen M_bytes M_position M_tokenAt M_token M_digits M_number M_faultAt M_readMany M_readWide M_readHigh M_nights M_why M_folds M_square M_want M_text M_read M_row M_foldSet M_foldEdges M_foldNeeds M_foldYards M_least M_ways M_price M_rowBy M_columnBy M_rowOf M_wayBack M_slack M_isUsed M_lifted M_freed M_path) [(0, .ref a_M), (1, .long p1), (3, .long p3), (5, .int x5), (6, .int x6), (7, .int x7)] 9 []) (h : bk_X11_carried_76 Q B9 x5 x6 x7 x8 x9 M_lifted M_freed) :
    J x 0 0 11 (W_Model cyI cyJ cyZ a_M a_M_square a_M_want a_M_text a_M_read a_M_row a_M_foldSet a_M_foldEdges a_M_foldNeeds a_M_foldYards a_M_least a_M_ways a_M_price a_M_rowBy a_M_columnBy a_M_rowOf a_M_wayBack a_M_slack a_M_isUsed a_M_lifted a_M_freed a_M_path M_wide M_high M_hedges M_hurdles M_wants M_rest M_frozen M_bytes M_position M_tokenAt M_token M_digits M_number M_faultAt M_readMany M_readWide M_readHigh M_nights M_why M_folds M_square M_want M_text M_read M_row M_foldSet M_foldEdges M_foldNeeds M_foldYards M_least M_ways M_price M_rowBy M_columnBy M_rowOf M_wayBack M_slack M_isUsed M_lifted M_freed M_path) [(0, .ref a_M), (1, .long p1), (3, .long p3), (5, .int x5), (6, .int x6), (7, .int x7), (8, .int x8), (9, .int x9)] 76 [] := by
  unfold bk_X11_carried_76 at h
  refine j_iload cx 7 rfl dX11_carried_76 (pn := 78) rfl ?_
  refine j_if_eq cx 98 dX11_carried_78 (pn := 81) rfl rfl (fun c20 => ?_) (fun c20 => ?_)
  · have h := h.1 c20
    refine j_sub [0, 1, 2, 3, 4, 5] [(0, .ref a_M), (1, .long p1), (3, .long p3), (5, .int x5), (6, .int x6), (7, .int x7)] rfl ?_
    exact J_X11_carried_98 cx hR hB9 h
  · have h := h.2 c20
    refine j_iload cx 6 rfl dX11_carried_81 (pn := 83) rfl ?_
    refine j_if_ne cx 98 dX11_carried_83 (pn := 86) rfl rfl (fun c22 => ?_) (fun c22 => ?_)
    · have h := h.1 c22
      refine j_sub [0, 1, 2, 3, 4, 5] [(0, .ref a_M), (1, .long p1), (3, .long p3), (5, .int x5), (6, .int x6), (7, .int x7)] rfl ?_
      exact J_X11_carried_98 cx hR hB9 h
    · have h := h.2 c22
      refine j_aload_n cx 0 rfl rfl dX11_carried_86 (pn := 87) rfl ?_
      refine j_get cx inGX11 0 rfl rfl 39 (by decide) q_fl_X11_80 rfl rfl dX11_carried_87 (pn := 90) rfl ?_
      refine j_iload cx 4 rfl dX11_carried_90 (pn := 92) rfl ?_
      refine j_iload cx 5 rfl dX11_carried_92 (pn := 94) rfl ?_
      have hin := h.1
      obtain ⟨f23, ef23⟩ : ∃ z, z = upd M_freed x6.toNatClampNeg x7 := ⟨_, rfl⟩
      have h := h.2 f23 ef23
      refine j_iast cx 20 0 rfl rfl hin (W_Model cyI cyJ cyZ a_M a_M_square a_M_want a_M_text a_M_read a_M_row a_M_foldSet a_M_foldEdges a_M_foldNeeds a_M_foldYards a_M_least a_M_ways a_M_price a_M_rowBy a_M_columnBy a_M_rowOf a_M_wayBack a_M_slack a_M_isUsed a_M_lifted a_M_freed a_M_path M_wide M_high M_hedges M_hurdles M_wants M_rest M_frozen M_bytes M_position M_tokenAt M_token M_digits M_number M_faultAt M_readMany M_readWide M_readHigh M_nights M_why M_folds M_square M_want M_text M_read M_row M_foldSet M_foldEdges M_foldNeeds M_foldYards M_least M_ways M_price M_rowBy M_columnBy M_rowOf M_wayBack M_slack M_isUsed M_lifted f23 M_path) (by subst ef23; rfl) dX11_carried_94 (pn := 95) rfl ?_
      obtain ⟨y24, ey24⟩ : ∃ z : Int32, z = x6 + 1 := ⟨_, rfl⟩
      have h := h y24 ey24
      refine j_iinc cx 4 rfl (cst := 1) (by decide) ey24 [(6, .int y24), (0, .ref a_M), (1, .long p1), (3, .long p3), (5, .int x5), (7, .int x7), (8, .int x8), (9, .int x9)] (by decide) rfl dX11_carried_95 (pn := 98) rfl ?_
      refine j_sub [1, 2, 3, 4, 0, 5] [(0, .ref a_M), (1, .long p1), (3, .long p3), (5, .int x5), (6, .int y24), (7, .int x7)] rfl ?_
      exact J_X11_carried_98 cx hR hB9 h
set_option maxHeartbeats 4000000 in
set_option maxRecDepth 100000 in
theorem J_X11_carried_52 {x : CX} {D : DG} {cyI cyJ cyZ : ClassId} {a_M a_M_square a_M_want a_M_text a_M_read a_M_row a_M_foldSet a_M_foldEdges a_M_foldNeeds a_M_foldYards a_M_least a_M_ways a_M_price a_M_rowBy a_M_columnBy a_M_rowOf a_M_wayBack a_M_slack a_M_isUsed a_M_lifted a_M_freed a_M_path : Nat} {M_wide : Int32} {M_high : Int32} {M_hedges : Int64} {M_hurdles : Int32} {M_wants : Int32} {M_rest : Int32} {M_frozen : Int32} {M_bytes : Int32} {M_position : Int32} {M_tokenAt : Int32} {M_token : Int64} {M_digits : Int32} {M_number : Int32} {M_faultAt : Int32} {M_readMany : Int32} {M_readWide : Int32} {M_readHigh : Int32} {M_nights : Int32} {M_why : Int32} {M_folds : Int32} {M_square : Nat → Int32} {M_want : Nat → Int32} {M_text : Nat → Int32} {M_read : Nat → Int32} {M_row : Nat → Int32} {M_foldSet : Nat → Int32} {M_foldEdges : Nat → Int64} {M_foldNeeds : Nat → Int32} {M_foldYards : Nat → Int32} {M_least : Nat → Int32} {M_ways : Nat → Int32} {M_price : Nat → Int32} {M_rowBy : Nat → Int32} {M_columnBy : Nat → Int32} {M_rowOf : Nat → Int32} {M_wayBack : Nat → Int32} {M_slack : Nat → Int32} {M_isUsed : Nat → Int32} {M_lifted : Nat → Int32} {M_freed : Nat → Int32} {M_path : Nat → Int32} {p1 : Int64} {p3 : Int64} {x5 : Int32} {x6 : Int32} {x7 : Int32} {x8 : Int32} {s0 : Int32} {Q : Int32 → ((Nat → Int32) × (Nat → Int32) × (Nat → Int32) × (Nat → Int32) × (Nat → Int32) × (Nat → Int32) × (Nat → Int32) × (Nat → Int32) × (Nat → Int32)) → Prop} {B9 : (Nat → Int32) → (Nat → Int32) → Int32 → Int32 → Int32 → Prop} (cx : Cx x cX11_carried 11 RX11 rm_X11_carried D [(cyI, .int), (cyJ, .long), (cyZ, .boolean)]) (hR : ∀ (v : Int32) (u : (Nat → Int32) × (Nat → Int32) × (Nat → Int32) × (Nat → Int32) × (Nat → Int32) × (Nat → Int32) × (Nat → Int32) × (Nat → Int32) × (Nat → Int32)) (pc : Nat) (lv : List (Nat × Value)), decode cX11_carried pc = .ok (.ireturn, 1) → Q v u → J x 0 0 11 (W_Model cyI cyJ cyZ a_M a_M_square a_M_want a_M_text a_M_read a_M_row a_M_foldSet a_M_foldEdges a_M_foldNeeds a_M_foldYards a_M_least a_M_ways a_M_price a_M_rowBy a_M_columnBy a_M_rowOf a_M_wayBack a_M_slack a_M_isUsed a_M_lifted a_M_freed a_M_path M_wide M_high M_hedges M_hurdles M_wants M_rest M_frozen M_bytes M_position M_tokenAt M_token M_digits M_number M_faultAt M_readMany M_readWide M_readHigh M_nights M_why M_folds M_square M_want M_text M_read M_row M_foldSet M_foldEdges M_foldNeeds M_foldYards M_least M_ways u.1 u.2.1 u.2.2.1 u.2.2.2.1 u.2.2.2.2.1 u.2.2.2.2.2.1 u.2.2.2.2.2.2.1 u.2.2.2.2.2.2.2.1 u.2.2.2.2.2.2.2.2 M_path) lv pc [.int v]) (hB9 : ∀ (M_lifted : Nat → Int32) (M_freed : Nat → Int32) (x5 : Int32) (x6 : Int32) (x7 : Int32), B9 M_lifted M_freed x5 x6 x7 → J x 0 0 11 (W_Model cyI cyJ cyZ a_M a_M_square a_M_want a_M_text a_M_read a_M_row a_M_foldSet a_M_foldEdges a_M_foldNeeds a_M_foldYards a_M_least a_M_ways a_M_price a_M_rowBy a_M_columnBy a_M_rowOf a_M_wayBack a_M_slack a_M_isUsed a_M_lifted a_M_freed a_M_path M_wide M_high M_hedges M_hurdles M_wants M_rest M_frozen M_bytes M_position M_tokenAt M_token M_digits M_number M_faultAt M_readMany M_readWide M_readHigh M_nights M_why M_folds M_square M_want M_text M_read M_row M_foldSet M_foldEdges M_foldNeeds M_foldYards M_least M_ways M_price M_rowBy M_columnBy M_rowOf M_wayBack M_slack M_isUsed M_lifted M_freed M_path) [(0, .ref a_M), (1, .long p1), (3, .long p3), (5, .int x5), (6, .int x6), (7, .int x7)] 9 []) (h : bk_X11_carried_52 Q B9 x5 x6 x7 x8 M_lifted M_freed s0) :
    J x 0 0 11 (W_Model cyI cyJ cyZ a_M a_M_square a_M_want a_M_text a_M_read a_M_row a_M_foldSet a_M_foldEdges a_M_foldNeeds a_M_foldYards a_M_least a_M_ways a_M_price a_M_rowBy a_M_columnBy a_M_rowOf a_M_wayBack a_M_slack a_M_isUsed a_M_lifted a_M_freed a_M_path M_wide M_high M_hedges M_hurdles M_wants M_rest M_frozen M_bytes M_position M_tokenAt M_token M_digits M_number M_faultAt M_readMany M_readWide M_readHigh M_nights M_why M_folds M_square M_want M_text M_read M_row M_foldSet M_foldEdges M_foldNeeds M_foldYards M_least M_ways M_price M_rowBy M_columnBy M_rowOf M_wayBack M_slack M_isUsed M_lifted M_freed M_path) [(0, .ref a_M), (1, .long p1), (3, .long p3), (5, .int x5), (6, .int x6), (7, .int x7), (8, .int x8)] 52 [.int s0] := by
  unfold bk_X11_carried_52 at h
  refine j_istore cx [(9, .int s0), (0, .ref a_M), (1, .long p1), (3, .long p3), (5, .int x5), (6, .int x6), (7, .int x7), (8, .int x8)] (by decide) rfl dX11_carried_52 (pn := 54) rfl ?_
  refine j_iload cx 7 rfl dX11_carried_54 (pn := 56) rfl ?_
  refine j_if_eq cx 76 dX11_carried_56 (pn := 59) rfl rfl (fun c19 => ?_) (fun c19 => ?_)
  · have h := h.1 c19
    refine j_sub [1, 2, 3, 4, 5, 6, 7, 0] [(0, .ref a_M), (1, .long p1), (3, .long p3), (5, .int x5), (6, .int x6), (7, .int x7), (8, .int x8), (9, .int s0)] rfl ?_
    exact J_X11_carried_76 cx hR hB9 h
  · have h := h.2 c19
    refine j_iload cx 0 rfl dX11_carried_59 (pn := 61) rfl ?_
    refine j_if_ne cx 76 dX11_carried_61 (pn := 64) rfl rfl (fun c25 => ?_) (fun c25 => ?_)
    · have h := h.1 c25
      refine j_sub [1, 2, 3, 4, 5, 6, 7, 0] [(0, .ref a_M), (1, .long p1), (3, .long p3), (5, .int x5), (6, .int x6), (7, .int x7), (8, .int x8), (9, .int s0)] rfl ?_
      exact J_X11_carried_76 cx hR hB9 h
    · have h := h.2 c25
      refine j_aload_n cx 1 rfl rfl dX11_carried_64 (pn := 65) rfl ?_
      refine j_get cx inGX11 0 rfl rfl 38 (by decide) q_fl_X11_77 rfl rfl dX11_carried_65 (pn := 68) rfl ?_
      refine j_iload cx 4 rfl dX11_carried_68 (pn := 70) rfl ?_
      refine j_iload cx 6 rfl dX11_carried_70 (pn := 72) rfl ?_
      have hin := h.1
      obtain ⟨f26, ef26⟩ : ∃ z, z = upd M_lifted x5.toNatClampNeg x7 := ⟨_, rfl⟩
      have h := h.2 f26 ef26
      refine j_iast cx 19 0 rfl rfl hin (W_Model cyI cyJ cyZ a_M a_M_square a_M_want a_M_text a_M_read a_M_row a_M_foldSet a_M_foldEdges a_M_foldNeeds a_M_foldYards a_M_least a_M_ways a_M_price a_M_rowBy a_M_columnBy a_M_rowOf a_M_wayBack a_M_slack a_M_isUsed a_M_lifted a_M_freed a_M_path M_wide M_high M_hedges M_hurdles M_wants M_rest M_frozen M_bytes M_position M_tokenAt M_token M_digits M_number M_faultAt M_readMany M_readWide M_readHigh M_nights M_why M_folds M_square M_want M_text M_read M_row M_foldSet M_foldEdges M_foldNeeds M_foldYards M_least M_ways M_price M_rowBy M_columnBy M_rowOf M_wayBack M_slack M_isUsed f26 M_freed M_path) (by subst ef26; rfl) dX11_carried_72 (pn := 73) rfl ?_
      obtain ⟨y27, ey27⟩ : ∃ z : Int32, z = x5 + 1 := ⟨_, rfl⟩
      have h := h y27 ey27
      refine j_iinc cx 4 rfl (cst := 1) (by decide) ey27 [(5, .int y27), (9, .int s0), (0, .ref a_M), (1, .long p1), (3, .long p3), (6, .int x6), (7, .int x7), (8, .int x8)] (by decide) rfl dX11_carried_73 (pn := 76) rfl ?_
      refine j_sub [2, 3, 4, 0, 5, 6, 7, 1] [(0, .ref a_M), (1, .long p1), (3, .long p3), (5, .int y27), (6, .int x6), (7, .int x7), (8, .int x8), (9, .int s0)] rfl ?_
      exact J_X11_carried_76 cx hR hB9 h
set_option maxHeartbeats 4000000 in
set_option maxRecDepth 100000 in
theorem J_X11_carried_34 {x : CX} {D : DG} {cyI cyJ cyZ : ClassId} {a_M a_M_square a_M_want a_M_text a_M_read a_M_row a_M_foldSet a_M_foldEdges a_M_foldNeeds a_M_foldYards a_M_least a_M_ways a_M_price a_M_rowBy a_M_columnBy a_M_rowOf a_M_wayBack a_M_slack a_M_isUsed a_M_lifted a_M_freed a_M_path : Nat} {M_wide : Int32} {M_high : Int32} {M_hedges : Int64} {M_hurdles : Int32} {M_wants : Int32} {M_rest : Int32} {M_frozen : Int32} {M_bytes : Int32} {M_position : Int32} {M_tokenAt : Int32} {M_token : Int64} {M_digits : Int32} {M_number : Int32} {M_faultAt : Int32} {M_readMany : Int32} {M_readWide : Int32} {M_readHigh : Int32} {M_nights : Int32} {M_why : Int32} {M_folds : Int32} {M_square : Nat → Int32} {M_want : Nat → Int32} {M_text : Nat → Int32} {M_read : Nat → Int32} {M_row : Nat → Int32} {M_foldSet : Nat → Int32} {M_foldEdges : Nat → Int64} {M_foldNeeds : Nat → Int32} {M_foldYards : Nat → Int32} {M_least : Nat → Int32} {M_ways : Nat → Int32} {M_price : Nat → Int32} {M_rowBy : Nat → Int32} {M_columnBy : Nat → Int32} {M_rowOf : Nat → Int32} {M_wayBack : Nat → Int32} {M_slack : Nat → Int32} {M_isUsed : Nat → Int32} {M_lifted : Nat → Int32} {M_freed : Nat → Int32} {M_path : Nat → Int32} {p1 : Int64} {p3 : Int64} {x5 : Int32} {x6 : Int32} {x7 : Int32} {s0 : Int32} {Q : Int32 → ((Nat → Int32) × (Nat → Int32) × (Nat → Int32) × (Nat → Int32) × (Nat → Int32) × (Nat → Int32) × (Nat → Int32) × (Nat → Int32) × (Nat → Int32)) → Prop} {B9 : (Nat → Int32) → (Nat → Int32) → Int32 → Int32 → Int32 → Prop} (cx : Cx x cX11_carried 11 RX11 rm_X11_carried D [(cyI, .int), (cyJ, .long), (cyZ, .boolean)]) (hR : ∀ (v : Int32) (u : (Nat → Int32) × (Nat → Int32) × (Nat → Int32) × (Nat → Int32) × (Nat → Int32) × (Nat → Int32) × (Nat → Int32) × (Nat → Int32) × (Nat → Int32)) (pc : Nat) (lv : List (Nat × Value)), decode cX11_carried pc = .ok (.ireturn, 1) → Q v u → J x 0 0 11 (W_Model cyI cyJ cyZ a_M a_M_square a_M_want a_M_text a_M_read a_M_row a_M_foldSet a_M_foldEdges a_M_foldNeeds a_M_foldYards a_M_least a_M_ways a_M_price a_M_rowBy a_M_columnBy a_M_rowOf a_M_wayBack a_M_slack a_M_isUsed a_M_lifted a_M_freed a_M_path M_wide M_high M_hedges M_hurdles M_wants M_rest M_frozen M_bytes M_position M_tokenAt M_token M_digits M_number M_faultAt M_readMany M_readWide M_readHigh M_nights M_why M_folds M_square M_want M_text M_read M_row M_foldSet M_foldEdges M_foldNeeds M_foldYards M_least M_ways u.1 u.2.1 u.2.2.1 u.2.2.2.1 u.2.2.2.2.1 u.2.2.2.2.2.1 u.2.2.2.2.2.2.1 u.2.2.2.2.2.2.2.1 u.2.2.2.2.2.2.2.2 M_path) lv pc [.int v]) (hB9 : ∀ (M_lifted : Nat → Int32) (M_freed : Nat → Int32) (x5 : Int32) (x6 : Int32) (x7 : Int32), B9 M_lifted M_freed x5 x6 x7 → J x 0 0 11 (W_Model cyI cyJ cyZ a_M a_M_square a_M_want a_M_text a_M_read a_M_row a_M_foldSet a_M_foldEdges a_M_foldNeeds a_M_foldYards a_M_least a_M_ways a_M_price a_M_rowBy a_M_columnBy a_M_rowOf a_M_wayBack a_M_slack a_M_isUsed a_M_lifted a_M_freed a_M_path M_wide M_high M_hedges M_hurdles M_wants M_rest M_frozen M_bytes M_position M_tokenAt M_token M_digits M_number M_faultAt M_readMany M_readWide M_readHigh M_nights M_why M_folds M_square M_want M_text M_read M_row M_foldSet M_foldEdges M_foldNeeds M_foldYards M_least M_ways M_price M_rowBy M_columnBy M_rowOf M_wayBack M_slack M_isUsed M_lifted M_freed M_path) [(0, .ref a_M), (1, .long p1), (3, .long p3), (5, .int x5), (6, .int x6), (7, .int x7)] 9 []) (h : bk_X11_carried_34 Q B9 p3 x5 x6 x7 M_lifted M_freed s0) :
    J x 0 0 11 (W_Model cyI cyJ cyZ a_M a_M_square a_M_want a_M_text a_M_read a_M_row a_M_foldSet a_M_foldEdges a_M_foldNeeds a_M_foldYards a_M_least a_M_ways a_M_price a_M_rowBy a_M_columnBy a_M_rowOf a_M_wayBack a_M_slack a_M_isUsed a_M_lifted a_M_freed a_M_path M_wide M_high M_hedges M_hurdles M_wants M_rest M_frozen M_bytes M_position M_tokenAt M_token M_digits M_number M_faultAt M_readMany M_readWide M_readHigh M_nights M_why M_folds M_square M_want M_text M_read M_row M_foldSet M_foldEdges M_foldNeeds M_foldYards M_least M_ways M_price M_rowBy M_columnBy M_rowOf M_wayBack M_slack M_isUsed M_lifted M_freed M_path) [(0, .ref a_M), (1, .long p1), (3, .long p3), (5, .int x5), (6, .int x6), (7, .int x7)] 34 [.int s0] := by
  unfold bk_X11_carried_34 at h
  refine j_istore cx [(8, .int s0), (0, .ref a_M), (1, .long p1), (3, .long p3), (5, .int x5), (6, .int x6), (7, .int x7)] (by decide) rfl dX11_carried_34 (pn := 36) rfl ?_
  refine j_lload_n cx 3 rfl rfl dX11_carried_36 (pn := 37) rfl ?_
  refine j_iload cx 6 rfl dX11_carried_37 (pn := 39) rfl ?_
  refine j_lshr cx dX11_carried_39 (pn := 40) rfl ?_
  refine j_lconst cx (v := 1) (by decide) dX11_carried_40 (pn := 41) rfl ?_
  refine j_land cx dX11_carried_41 (pn := 42) rfl ?_
  refine j_lconst cx (v := 1) (by decide) dX11_carried_42 (pn := 43) rfl ?_
  refine j_lif_ne cx 51 dX11_carried_43 (pm := 44) (pn := 47) rfl dX11_carried_44 rfl rfl (fun c18 => ?_) (fun c18 => ?_)
  · have h := h.1 c18
    refine j_iconst cx (v := 0) (by decide) dX11_carried_51 (pn := 52) rfl ?_
    refine j_sub [1, 2, 3, 4, 5, 6, 0] [(0, .ref a_M), (1, .long p1), (3, .long p3), (5, .int x5), (6, .int x6), (7, .int x7), (8, .int s0)] rfl ?_
    exact J_X11_carried_52 cx hR hB9 h
  · have h := h.2 c18
    refine j_iconst cx (v := 1) (by decide) dX11_carried_47 (pn := 48) rfl ?_
    refine j_goto cx 52 dX11_carried_48 rfl ?_
    refine j_sub [1, 2, 3, 4, 5, 6, 0] [(0, .ref a_M), (1, .long p1), (3, .long p3), (5, .int x5), (6, .int x6), (7, .int x7), (8, .int s0)] rfl ?_
    exact J_X11_carried_52 cx hR hB9 h
set_option maxHeartbeats 4000000 in
set_option maxRecDepth 100000 in
theorem B_X11_carried_9 {x : CX} {D : DG} {cyI cyJ cyZ : ClassId} {a_M a_M_square a_M_want a_M_text a_M_read a_M_row a_M_foldSet a_M_foldEdges a_M_foldNeeds a_M_foldYards a_M_least a_M_ways a_M_price a_M_rowBy a_M_columnBy a_M_rowOf a_M_wayBack a_M_slack a_M_isUsed a_M_lifted a_M_freed a_M_path : Nat} {M_wide : Int32} {M_high : Int32} {M_hedges : Int64} {M_hurdles : Int32} {M_wants : Int32} {M_rest : Int32} {M_frozen : Int32} {M_bytes : Int32} {M_position : Int32} {M_tokenAt : Int32} {M_token : Int64} {M_digits : Int32} {M_number : Int32} {M_faultAt : Int32} {M_readMany : Int32} {M_readWide : Int32} {M_readHigh : Int32} {M_nights : Int32} {M_why : Int32} {M_folds : Int32} {M_square : Nat → Int32} {M_want : Nat → Int32} {M_text : Nat → Int32} {M_read : Nat → Int32} {M_row : Nat → Int32} {M_foldSet : Nat → Int32} {M_foldEdges : Nat → Int64} {M_foldNeeds : Nat → Int32} {M_foldYards : Nat → Int32} {M_least : Nat → Int32} {M_ways : Nat → Int32} {M_price : Nat → Int32} {M_rowBy : Nat → Int32} {M_columnBy : Nat → Int32} {M_rowOf : Nat → Int32} {M_wayBack : Nat → Int32} {M_slack : Nat → Int32} {M_isUsed : Nat → Int32} {M_lifted : Nat → Int32} {M_freed : Nat → Int32} {M_path : Nat → Int32} {p1 : Int64} {p3 : Int64} {x5 : Int32} {x6 : Int32} {x7 : Int32} {Q : Int32 → ((Nat → Int32) × (Nat → Int32) × (Nat → Int32) × (Nat → Int32) × (Nat → Int32) × (Nat → Int32) × (Nat → Int32) × (Nat → Int32) × (Nat → Int32)) → Prop} {B9 : (Nat → Int32) → (Nat → Int32) → Int32 → Int32 → Int32 → Prop} (cx : Cx x cX11_carried 11 RX11 rm_X11_carried D [(cyI, .int), (cyJ, .long), (cyZ, .boolean)]) (hR : ∀ (v : Int32) (u : (Nat → Int32) × (Nat → Int32) × (Nat → Int32) × (Nat → Int32) × (Nat → Int32) × (Nat → Int32) × (Nat → Int32) × (Nat → Int32) × (Nat → Int32)) (pc : Nat) (lv : List (Nat × Value)), decode cX11_carried pc = .ok (.ireturn, 1) → Q v u → J x 0 0 11 (W_Model cyI cyJ cyZ a_M a_M_square a_M_want a_M_text a_M_read a_M_row a_M_foldSet a_M_foldEdges a_M_foldNeeds a_M_foldYards a_M_least a_M_ways a_M_price a_M_rowBy a_M_columnBy a_M_rowOf a_M_wayBack a_M_slack a_M_isUsed a_M_lifted a_M_freed a_M_path M_wide M_high M_hedges M_hurdles M_wants M_rest M_frozen M_bytes M_position M_tokenAt M_token M_digits M_number M_faultAt M_readMany M_readWide M_readHigh M_nights M_why M_folds M_square M_want M_text M_read M_row M_foldSet M_foldEdges M_foldNeeds M_foldYards M_least M_ways u.1 u.2.1 u.2.2.1 u.2.2.2.1 u.2.2.2.2.1 u.2.2.2.2.2.1 u.2.2.2.2.2.2.1 u.2.2.2.2.2.2.2.1 u.2.2.2.2.2.2.2.2 M_path) lv pc [.int v]) (hB9 : ∀ (M_lifted : Nat → Int32) (M_freed : Nat → Int32) (x5 : Int32) (x6 : Int32) (x7 : Int32), B9 M_lifted M_freed x5 x6 x7 → J x 0 0 11 (W_Model cyI cyJ cyZ a_M a_M_square a_M_want a_M_text a_M_read a_M_row a_M_foldSet a_M_foldEdges a_M_foldNeeds a_M_foldYards a_M_least a_M_ways a_M_price a_M_rowBy a_M_columnBy a_M_rowOf a_M_wayBack a_M_slack a_M_isUsed a_M_lifted a_M_freed a_M_path M_wide M_high M_hedges M_hurdles M_wants M_rest M_frozen M_bytes M_position M_tokenAt M_token M_digits M_number M_faultAt M_readMany M_readWide M_readHigh M_nights M_why M_folds M_square M_want M_text M_read M_row M_foldSet M_foldEdges M_foldNeeds M_foldYards M_least M_ways M_price M_rowBy M_columnBy M_rowOf M_wayBack M_slack M_isUsed M_lifted M_freed M_path) [(0, .ref a_M), (1, .long p1), (3, .long p3), (5, .int x5), (6, .int x6), (7, .int x7)] 9 []) (h : bd_X11_carried_9 Q B9 p1 p3 M_wide M_high M_price M_rowBy M_columnBy M_rowOf M_wayBack M_slack M_isUsed M_lifted M_freed x5 x6 x7) :
    J x 0 0 11 (W_Model cyI cyJ cyZ a_M a_M_square a_M_want a_M_text a_M_read a_M_row a_M_foldSet a_M_foldEdges a_M_foldNeeds a_M_foldYards a_M_least a_M_ways a_M_price a_M_rowBy a_M_columnBy a_M_rowOf a_M_wayBack a_M_slack a_M_isUsed a_M_lifted a_M_freed a_M_path M_wide M_high M_hedges M_hurdles M_wants M_rest M_frozen M_bytes M_position M_tokenAt M_token M_digits M_number M_faultAt M_readMany M_readWide M_readHigh M_nights M_why M_folds M_square M_want M_text M_read M_row M_foldSet M_foldEdges M_foldNeeds M_foldYards M_least M_ways M_price M_rowBy M_columnBy M_rowOf M_wayBack M_slack M_isUsed M_lifted M_freed M_path) [(0, .ref a_M), (1, .long p1), (3, .long p3), (5, .int x5), (6, .int x6), (7, .int x7)] 9 [] := by
  unfold bd_X11_carried_9 at h
  refine j_iload cx 5 rfl dX11_carried_9 (pn := 11) rfl ?_
  refine j_aload_n cx 0 rfl rfl dX11_carried_11 (pn := 12) rfl ?_
  refine j_callvI0 cx q_inst_X11_edgeMany q_sel_X11_edgeMany (b := a_M) (As := []) (rest := [.int x7]) (c_X11_edgeMany h) ⟨q_code_X11_edgeMany, q_ml_X11_221, q_init_X11, hd_X11_edgeMany, ⟨Nat.le_of_ble_eq_true rfl, Nat.le_of_ble_eq_true rfl⟩, Nat.le_of_ble_eq_true rfl, Nat.le_of_ble_eq_true rfl⟩ (q0 := 0) rfl rfl rfl rfl (Nat.le_of_ble_eq_true rfl) dX11_carried_12 (pn := 15) rfl (fun r1 _ h => ?_)
  show J x 0 0 11 (W_Model cyI cyJ cyZ a_M a_M_square a_M_want a_M_text a_M_read a_M_row a_M_foldSet a_M_foldEdges a_M_foldNeeds a_M_foldYards a_M_least a_M_ways a_M_price a_M_rowBy a_M_columnBy a_M_rowOf a_M_wayBack a_M_slack a_M_isUsed a_M_lifted a_M_freed a_M_path M_wide M_high M_hedges M_hurdles M_wants M_rest M_frozen M_bytes M_position M_tokenAt M_token M_digits M_number M_faultAt M_readMany M_readWide M_readHigh M_nights M_why M_folds M_square M_want M_text M_read M_row M_foldSet M_foldEdges M_foldNeeds M_foldYards M_least M_ways M_price M_rowBy M_columnBy M_rowOf M_wayBack M_slack M_isUsed M_lifted M_freed M_path) [(0, .ref a_M), (1, .long p1), (3, .long p3), (5, .int x5), (6, .int x6), (7, .int x7)] 15 [.int r1, .int x7]
  refine j_icmp_ge cx 104 dX11_carried_15 (pn := 18) rfl rfl (fun c2 => ?_) (fun c2 => ?_)
  · have h := h.1 c2
    refine j_iconst cx (v := 0) (by decide) dX11_carried_104 (pn := 105) rfl ?_
    refine j_istore cx [(7, .int 0), (0, .ref a_M), (1, .long p1), (3, .long p3), (5, .int x5), (6, .int x6)] (by decide) rfl dX11_carried_105 (pn := 107) rfl ?_
    refine j_sub [1, 4, 5, 0] [(0, .ref a_M), (5, .int x5), (6, .int x6), (7, .int 0)] rfl ?_
    exact J_X11_carried_107 cx hR h
  · have h := h.2 c2
    refine j_lload_n cx 1 rfl rfl dX11_carried_18 (pn := 19) rfl ?_
    refine j_iload cx 5 rfl dX11_carried_19 (pn := 21) rfl ?_
    refine j_lshr cx dX11_carried_21 (pn := 22) rfl ?_
    refine j_lconst cx (v := 1) (by decide) dX11_carried_22 (pn := 23) rfl ?_
    refine j_land cx dX11_carried_23 (pn := 24) rfl ?_
    refine j_lconst cx (v := 1) (by decide) dX11_carried_24 (pn := 25) rfl ?_
    refine j_lif_ne cx 33 dX11_carried_25 (pm := 26) (pn := 29) rfl dX11_carried_26 rfl rfl (fun c17 => ?_) (fun c17 => ?_)
    · have h := h.1 c17
      refine j_iconst cx (v := 0) (by decide) dX11_carried_33 (pn := 34) rfl ?_
      exact J_X11_carried_34 cx hR hB9 h
    · have h := h.2 c17
      refine j_iconst cx (v := 1) (by decide) dX11_carried_29 (pn := 30) rfl ?_
      refine j_goto cx 34 dX11_carried_30 rfl ?_
      exact J_X11_carried_34 cx hR hB9 h
set_option maxHeartbeats 4000000 in
set_option maxRecDepth 100000 in
theorem J_X11_carried_9 {x : CX} {D : DG} {cyI cyJ cyZ : ClassId} {a_M a_M_square a_M_want a_M_text a_M_read a_M_row a_M_foldSet a_M_foldEdges a_M_foldNeeds a_M_foldYards a_M_least a_M_ways a_M_price a_M_rowBy a_M_columnBy a_M_rowOf a_M_wayBack a_M_slack a_M_isUsed a_M_lifted a_M_freed a_M_path : Nat} {M_wide : Int32} {M_high : Int32} {M_hedges : Int64} {M_hurdles : Int32} {M_wants : Int32} {M_rest : Int32} {M_frozen : Int32} {M_bytes : Int32} {M_position : Int32} {M_tokenAt : Int32} {M_token : Int64} {M_digits : Int32} {M_number : Int32} {M_faultAt : Int32} {M_readMany : Int32} {M_readWide : Int32} {M_readHigh : Int32} {M_nights : Int32} {M_why : Int32} {M_folds : Int32} {M_square : Nat → Int32} {M_want : Nat → Int32} {M_text : Nat → Int32} {M_read : Nat → Int32} {M_row : Nat → Int32} {M_foldSet : Nat → Int32} {M_foldEdges : Nat → Int64} {M_foldNeeds : Nat → Int32} {M_foldYards : Nat → Int32} {M_least : Nat → Int32} {M_ways : Nat → Int32} {M_price : Nat → Int32} {M_rowBy : Nat → Int32} {M_columnBy : Nat → Int32} {M_rowOf : Nat → Int32} {M_wayBack : Nat → Int32} {M_slack : Nat → Int32} {M_isUsed : Nat → Int32} {M_lifted : Nat → Int32} {M_freed : Nat → Int32} {M_path : Nat → Int32} {p1 : Int64} {p3 : Int64} {x5 : Int32} {x6 : Int32} {x7 : Int32} {Q : Int32 → ((Nat → Int32) × (Nat → Int32) × (Nat → Int32) × (Nat → Int32) × (Nat → Int32) × (Nat → Int32) × (Nat → Int32) × (Nat → Int32) × (Nat → Int32)) → Prop} (cx : Cx x cX11_carried 11 RX11 rm_X11_carried D [(cyI, .int), (cyJ, .long), (cyZ, .boolean)]) (hR : ∀ (v : Int32) (u : (Nat → Int32) × (Nat → Int32) × (Nat → Int32) × (Nat → Int32) × (Nat → Int32) × (Nat → Int32) × (Nat → Int32) × (Nat → Int32) × (Nat → Int32)) (pc : Nat) (lv : List (Nat × Value)), decode cX11_carried pc = .ok (.ireturn, 1) → Q v u → J x 0 0 11 (W_Model cyI cyJ cyZ a_M a_M_square a_M_want a_M_text a_M_read a_M_row a_M_foldSet a_M_foldEdges a_M_foldNeeds a_M_foldYards a_M_least a_M_ways a_M_price a_M_rowBy a_M_columnBy a_M_rowOf a_M_wayBack a_M_slack a_M_isUsed a_M_lifted a_M_freed a_M_path M_wide M_high M_hedges M_hurdles M_wants M_rest M_frozen M_bytes M_position M_tokenAt M_token M_digits M_number M_faultAt M_readMany M_readWide M_readHigh M_nights M_why M_folds M_square M_want M_text M_read M_row M_foldSet M_foldEdges M_foldNeeds M_foldYards M_least M_ways u.1 u.2.1 u.2.2.1 u.2.2.2.1 u.2.2.2.2.1 u.2.2.2.2.2.1 u.2.2.2.2.2.2.1 u.2.2.2.2.2.2.2.1 u.2.2.2.2.2.2.2.2 M_path) lv pc [.int v]) (h : lp_X11_carried_9 Q  p1 p3 M_wide M_high M_price M_rowBy M_columnBy M_rowOf M_wayBack M_slack M_isUsed M_lifted M_freed x5 x6 x7) :
    J x 0 0 11 (W_Model cyI cyJ cyZ a_M a_M_square a_M_want a_M_text a_M_read a_M_row a_M_foldSet a_M_foldEdges a_M_foldNeeds a_M_foldYards a_M_least a_M_ways a_M_price a_M_rowBy a_M_columnBy a_M_rowOf a_M_wayBack a_M_slack a_M_isUsed a_M_lifted a_M_freed a_M_path M_wide M_high M_hedges M_hurdles M_wants M_rest M_frozen M_bytes M_position M_tokenAt M_token M_digits M_number M_faultAt M_readMany M_readWide M_readHigh M_nights M_why M_folds M_square M_want M_text M_read M_row M_foldSet M_foldEdges M_foldNeeds M_foldYards M_least M_ways M_price M_rowBy M_columnBy M_rowOf M_wayBack M_slack M_isUsed M_lifted M_freed M_path) [(0, .ref a_M), (1, .long p1), (3, .long p3), (5, .int x5), (6, .int x6), (7, .int x7)] 9 [] := by
  obtain ⟨I, ⟨n, h0⟩, hb⟩ := h
  revert M_lifted M_freed x5 x6 x7
  induction n using Nat.strongRecOn with
  | _ n ih =>
    intro M_lifted M_freed x5 x6 x7 h0
    exact B_X11_carried_9 cx hR (fun _ _ _ _ _ hz => by obtain ⟨n2, hlt, hI⟩ := hz; exact ih n2 hlt hI) (hb n M_lifted M_freed x5 x6 x7 h0)
set_option maxHeartbeats 4000000 in
set_option maxRecDepth 100000 in
theorem c_X11_carried {D : DG} {cyI cyJ cyZ : ClassId} {a_M a_M_square a_M_want a_M_text a_M_read a_M_row a_M_foldSet a_M_foldEdges a_M_foldNeeds a_M_foldYards a_M_least a_M_ways a_M_price a_M_rowBy a_M_columnBy a_M_rowOf a_M_wayBack a_M_slack a_M_isUsed a_M_lifted a_M_freed a_M_path : Nat} {M_wide : Int32} {M_high : Int32} {M_hedges : Int64} {M_hurdles : Int32} {M_wants : Int32} {M_rest : Int32} {M_frozen : Int32} {M_bytes : Int32} {M_position : Int32} {M_tokenAt : Int32} {M_token : Int64} {M_digits : Int32} {M_number : Int32} {M_faultAt : Int32} {M_readMany : Int32} {M_readWide : Int32} {M_readHigh : Int32} {M_nights : Int32} {M_why : Int32} {M_folds : Int32} {M_square : Nat → Int32} {M_want : Nat → Int32} {M_text : Nat → Int32} {M_read : Nat → Int32} {M_row : Nat → Int32} {M_foldSet : Nat → Int32} {M_foldEdges : Nat → Int64} {M_foldNeeds : Nat → Int32} {M_foldYards : Nat → Int32} {M_least : Nat → Int32} {M_ways : Nat → Int32} {M_price : Nat → Int32} {M_rowBy : Nat → Int32} {M_columnBy : Nat → Int32} {M_rowOf : Nat → Int32} {M_wayBack : Nat → Int32} {M_slack : Nat → Int32} {M_isUsed : Nat → Int32} {M_lifted : Nat → Int32} {M_freed : Nat → Int32} {M_path : Nat → Int32} {p1 : Int64} {p3 : Int64} {Q : Int32 → ((Nat → Int32) × (Nat → Int32) × (Nat → Int32) × (Nat → Int32) × (Nat → Int32) × (Nat → Int32) × (Nat → Int32) × (Nat → Int32) × (Nat → Int32)) → Prop} (h : wp_X11_carried p1 p3 M_wide M_high M_price M_rowBy M_columnBy M_rowOf M_wayBack M_slack M_isUsed M_lifted M_freed Q) :
    MetI yX11_carried cX11_carried 11 (some .int) rm_X11_carried D [(cyI, .int), (cyJ, .long), (cyZ, .boolean)] [.ref a_M, .long p1, .long p3] (W_Model cyI cyJ cyZ a_M a_M_square a_M_want a_M_text a_M_read a_M_row a_M_foldSet a_M_foldEdges a_M_foldNeeds a_M_foldYards a_M_least a_M_ways a_M_price a_M_rowBy a_M_columnBy a_M_rowOf a_M_wayBack a_M_slack a_M_isUsed a_M_lifted a_M_freed a_M_path M_wide M_high M_hedges M_hurdles M_wants M_rest M_frozen M_bytes M_position M_tokenAt M_token M_digits M_number M_faultAt M_readMany M_readWide M_readHigh M_nights M_why M_folds M_square M_want M_text M_read M_row M_foldSet M_foldEdges M_foldNeeds M_foldYards M_least M_ways M_price M_rowBy M_columnBy M_rowOf M_wayBack M_slack M_isUsed M_lifted M_freed M_path) (fun u : (Nat → Int32) × (Nat → Int32) × (Nat → Int32) × (Nat → Int32) × (Nat → Int32) × (Nat → Int32) × (Nat → Int32) × (Nat → Int32) × (Nat → Int32) => (W_Model cyI cyJ cyZ a_M a_M_square a_M_want a_M_text a_M_read a_M_row a_M_foldSet a_M_foldEdges a_M_foldNeeds a_M_foldYards a_M_least a_M_ways a_M_price a_M_rowBy a_M_columnBy a_M_rowOf a_M_wayBack a_M_slack a_M_isUsed a_M_lifted a_M_freed a_M_path M_wide M_high M_hedges M_hurdles M_wants M_rest M_frozen M_bytes M_position M_tokenAt M_token M_digits M_number M_faultAt M_readMany M_readWide M_readHigh M_nights M_why M_folds M_square M_want M_text M_read M_row M_foldSet M_foldEdges M_foldNeeds M_foldYards M_least M_ways u.1 u.2.1 u.2.2.1 u.2.2.2.1 u.2.2.2.2.1 u.2.2.2.2.2.1 u.2.2.2.2.2.2.1 u.2.2.2.2.2.2.2.1 u.2.2.2.2.2.2.2.2 M_path)) (fun v u => Q v u) := by
  unfold wp_X11_carried at h
  refine metI_of (by decide) (Nat.le_of_ble_eq_true rfl) (fun x cx0 hR0 => ?_)
  have cx : Cx x cX11_carried 11 RX11 rm_X11_carried D [(cyI, .int), (cyJ, .long), (cyZ, .boolean)] := cx0
  have hR : ∀ (v : Int32) (u : (Nat → Int32) × (Nat → Int32) × (Nat → Int32) × (Nat → Int32) × (Nat → Int32) × (Nat → Int32) × (Nat → Int32) × (Nat → Int32) × (Nat → Int32)) (pc : Nat) (lv : List (Nat × Value)), decode cX11_carried pc = .ok (.ireturn, 1) → Q v u → J x 0 0 11 (W_Model cyI cyJ cyZ a_M a_M_square a_M_want a_M_text a_M_read a_M_row a_M_foldSet a_M_foldEdges a_M_foldNeeds a_M_foldYards a_M_least a_M_ways a_M_price a_M_rowBy a_M_columnBy a_M_rowOf a_M_wayBack a_M_slack a_M_isUsed a_M_lifted a_M_freed a_M_path M_wide M_high M_hedges M_hurdles M_wants M_rest M_frozen M_bytes M_position M_tokenAt M_token M_digits M_number M_faultAt M_readMany M_readWide M_readHigh M_nights M_why M_folds M_square M_want M_text M_read M_row M_foldSet M_foldEdges M_foldNeeds M_foldYards M_least M_ways u.1 u.2.1 u.2.2.1 u.2.2.2.1 u.2.2.2.2.1 u.2.2.2.2.2.1 u.2.2.2.2.2.2.1 u.2.2.2.2.2.2.2.1 u.2.2.2.2.2.2.2.2 M_path) lv pc [.int v] := (fun v u pc lv d hq => hR0 v u pc lv d hq)
  show J x 0 0 11 (W_Model cyI cyJ cyZ a_M a_M_square a_M_want a_M_text a_M_read a_M_row a_M_foldSet a_M_foldEdges a_M_foldNeeds a_M_foldYards a_M_least a_M_ways a_M_price a_M_rowBy a_M_columnBy a_M_rowOf a_M_wayBack a_M_slack a_M_isUsed a_M_lifted a_M_freed a_M_path M_wide M_high M_hedges M_hurdles M_wants M_rest M_frozen M_bytes M_position M_tokenAt M_token M_digits M_number M_faultAt M_readMany M_readWide M_readHigh M_nights M_why M_folds M_square M_want M_text M_read M_row M_foldSet M_foldEdges M_foldNeeds M_foldYards M_least M_ways M_price M_rowBy M_columnBy M_rowOf M_wayBack M_slack M_isUsed M_lifted M_freed M_path) [(0, .ref a_M), (1, .long p1), (3, .long p3)] 0 []
  refine j_iconst cx (v := 0) (by decide) dX11_carried_0 (pn := 1) rfl ?_
  refine j_istore cx [(5, .int 0), (0, .ref a_M), (1, .long p1), (3, .long p3)] (by decide) rfl dX11_carried_1 (pn := 3) rfl ?_
  refine j_iconst cx (v := 0) (by decide) dX11_carried_3 (pn := 4) rfl ?_
  refine j_istore cx [(6, .int 0), (5, .int 0), (0, .ref a_M), (1, .long p1), (3, .long p3)] (by decide) rfl dX11_carried_4 (pn := 6) rfl ?_
  refine j_iconst cx (v := 0) (by decide) dX11_carried_6 (pn := 7) rfl ?_
  refine j_istore cx [(7, .int 0), (6, .int 0), (5, .int 0), (0, .ref a_M), (1, .long p1), (3, .long p3)] (by decide) rfl dX11_carried_7 (pn := 9) rfl ?_
  refine j_sub [3, 4, 5, 2, 1, 0] [(0, .ref a_M), (1, .long p1), (3, .long p3), (5, .int 0), (6, .int 0), (7, .int 0)] rfl ?_
  exact J_X11_carried_9 cx hR h
theorem dX11_moved_0 : decode cX11_moved 0 = .ok (.iload_n 1, 1) := by decide +kernel
theorem dX11_moved_1 : decode cX11_moved 1 = .ok (.iconst 0, 1) := by decide +kernel
theorem dX11_moved_2 : decode cX11_moved 2 = .ok (.aload_n 0, 1) := by decide +kernel
theorem dX11_moved_3 : decode cX11_moved 3 = .ok (.getfield 198, 3) := by decide +kernel
theorem dX11_moved_6 : decode cX11_moved 6 = .ok (.iconst 1, 1) := by decide +kernel
theorem dX11_moved_7 : decode cX11_moved 7 = .ok (.isub, 1) := by decide +kernel
theorem dX11_moved_8 : decode cX11_moved 8 = .ok (.invokestatic 90, 3) := by decide +kernel
theorem dX11_moved_11 : decode cX11_moved 11 = .ok (.ifCond .ne 6, 3) := by decide +kernel
theorem dX11_moved_14 : decode cX11_moved 14 = .ok (.bipush (-2), 2) := by decide +kernel
theorem dX11_moved_16 : decode cX11_moved 16 = .ok (.ireturn, 1) := by decide +kernel
theorem dX11_moved_17 : decode cX11_moved 17 = .ok (.iload_n 2, 1) := by decide +kernel
theorem dX11_moved_18 : decode cX11_moved 18 = .ok (.iconst 0, 1) := by decide +kernel
theorem dX11_moved_19 : decode cX11_moved 19 = .ok (.iconst 1, 1) := by decide +kernel
theorem dX11_moved_20 : decode cX11_moved 20 = .ok (.invokestatic 90, 3) := by decide +kernel
theorem dX11_moved_23 : decode cX11_moved 23 = .ok (.ifCond .ne 6, 3) := by decide +kernel
theorem dX11_moved_26 : decode cX11_moved 26 = .ok (.bipush (-3), 2) := by decide +kernel
theorem dX11_moved_28 : decode cX11_moved 28 = .ok (.ireturn, 1) := by decide +kernel
theorem dX11_moved_29 : decode cX11_moved 29 = .ok (.aload_n 0, 1) := by decide +kernel
theorem dX11_moved_30 : decode cX11_moved 30 = .ok (.aload_n 0, 1) := by decide +kernel
theorem dX11_moved_31 : decode cX11_moved 31 = .ok (.getfield 32, 3) := by decide +kernel
theorem dX11_moved_34 : decode cX11_moved 34 = .ok (.iload_n 1, 1) := by decide +kernel
theorem dX11_moved_35 : decode cX11_moved 35 = .ok (.iaload, 1) := by decide +kernel
theorem dX11_moved_36 : decode cX11_moved 36 = .ok (.invokevirtual 237, 3) := by decide +kernel
theorem dX11_moved_39 : decode cX11_moved 39 = .ok (.ifCond .eq 22, 3) := by decide +kernel
theorem dX11_moved_42 : decode cX11_moved 42 = .ok (.iload_n 1, 1) := by decide +kernel
theorem dX11_moved_43 : decode cX11_moved 43 = .ok (.ifCond .le 20, 3) := by decide +kernel
theorem dX11_moved_46 : decode cX11_moved 46 = .ok (.aload_n 0, 1) := by decide +kernel
theorem dX11_moved_47 : decode cX11_moved 47 = .ok (.aload_n 0, 1) := by decide +kernel
theorem dX11_moved_48 : decode cX11_moved 48 = .ok (.getfield 32, 3) := by decide +kernel
theorem dX11_moved_51 : decode cX11_moved 51 = .ok (.iload_n 1, 1) := by decide +kernel
theorem dX11_moved_52 : decode cX11_moved 52 = .ok (.iconst 1, 1) := by decide +kernel
theorem dX11_moved_53 : decode cX11_moved 53 = .ok (.isub, 1) := by decide +kernel
theorem dX11_moved_54 : decode cX11_moved 54 = .ok (.iaload, 1) := by decide +kernel
theorem dX11_moved_55 : decode cX11_moved 55 = .ok (.invokevirtual 237, 3) := by decide +kernel
theorem dX11_moved_58 : decode cX11_moved 58 = .ok (.ifCond .ne 5, 3) := by decide +kernel
theorem dX11_moved_61 : decode cX11_moved 61 = .ok (.iconst (-1), 1) := by decide +kernel
theorem dX11_moved_62 : decode cX11_moved 62 = .ok (.ireturn, 1) := by decide +kernel
theorem dX11_moved_63 : decode cX11_moved 63 = .ok (.aload_n 0, 1) := by decide +kernel
theorem dX11_moved_64 : decode cX11_moved 64 = .ok (.aload_n 0, 1) := by decide +kernel
theorem dX11_moved_65 : decode cX11_moved 65 = .ok (.getfield 32, 3) := by decide +kernel
theorem dX11_moved_68 : decode cX11_moved 68 = .ok (.iload_n 1, 1) := by decide +kernel
theorem dX11_moved_69 : decode cX11_moved 69 = .ok (.iaload, 1) := by decide +kernel
theorem dX11_moved_70 : decode cX11_moved 70 = .ok (.invokevirtual 240, 3) := by decide +kernel
theorem dX11_moved_73 : decode cX11_moved 73 = .ok (.lstore_n 3, 1) := by decide +kernel
theorem dX11_moved_74 : decode cX11_moved 74 = .ok (.iload_n 1, 1) := by decide +kernel
theorem dX11_moved_75 : decode cX11_moved 75 = .ok (.ifCond .ne 7, 3) := by decide +kernel
theorem dX11_moved_78 : decode cX11_moved 78 = .ok (.lconst 0, 1) := by decide +kernel
theorem dX11_moved_79 : decode cX11_moved 79 = .ok (.goto 15, 3) := by decide +kernel
theorem dX11_moved_82 : decode cX11_moved 82 = .ok (.aload_n 0, 1) := by decide +kernel
theorem dX11_moved_83 : decode cX11_moved 83 = .ok (.aload_n 0, 1) := by decide +kernel
theorem dX11_moved_84 : decode cX11_moved 84 = .ok (.getfield 32, 3) := by decide +kernel
theorem dX11_moved_87 : decode cX11_moved 87 = .ok (.iload_n 1, 1) := by decide +kernel
theorem dX11_moved_88 : decode cX11_moved 88 = .ok (.iconst 1, 1) := by decide +kernel
theorem dX11_moved_89 : decode cX11_moved 89 = .ok (.isub, 1) := by decide +kernel
theorem dX11_moved_90 : decode cX11_moved 90 = .ok (.iaload, 1) := by decide +kernel
theorem dX11_moved_91 : decode cX11_moved 91 = .ok (.invokevirtual 240, 3) := by decide +kernel
theorem dX11_moved_94 : decode cX11_moved 94 = .ok (.lstore 5, 2) := by decide +kernel
theorem dX11_moved_96 : decode cX11_moved 96 = .ok (.iload_n 2, 1) := by decide +kernel
theorem dX11_moved_97 : decode cX11_moved 97 = .ok (.ifCond .ne 17, 3) := by decide +kernel
theorem dX11_moved_100 : decode cX11_moved 100 = .ok (.lload_n 3, 1) := by decide +kernel
theorem dX11_moved_101 : decode cX11_moved 101 = .ok (.lload 5, 2) := by decide +kernel
theorem dX11_moved_103 : decode cX11_moved 103 = .ok (.ldc2_w 123, 3) := by decide +kernel
theorem dX11_moved_106 : decode cX11_moved 106 = .ok (.lxor, 1) := by decide +kernel
theorem dX11_moved_107 : decode cX11_moved 107 = .ok (.land, 1) := by decide +kernel
theorem dX11_moved_108 : decode cX11_moved 108 = .ok (.invokestatic 244, 3) := by decide +kernel
theorem dX11_moved_111 : decode cX11_moved 111 = .ok (.goto 10, 3) := by decide +kernel
theorem dX11_moved_114 : decode cX11_moved 114 = .ok (.aload_n 0, 1) := by decide +kernel
theorem dX11_moved_115 : decode cX11_moved 115 = .ok (.lload_n 3, 1) := by decide +kernel
theorem dX11_moved_116 : decode cX11_moved 116 = .ok (.lload 5, 2) := by decide +kernel
theorem dX11_moved_118 : decode cX11_moved 118 = .ok (.invokevirtual 280, 3) := by decide +kernel
theorem dX11_moved_121 : decode cX11_moved 121 = .ok (.ireturn, 1) := by decide +kernel
abbrev rm_X11_moved : Room := { frames := 4, cells := 0, slots := 0, locals := 94 }
theorem hd_X11_moved : yX11_moved.cls ≠ "java/lang/invoke/MethodHandle" ∧ yX11_moved.cls ≠ "java/lang/invoke/VarHandle" ∧ (parseMethodDescriptor yX11_moved.desc).map (fun d => d.parameters.length) = some 2 := by decide +kernel
def bk_X11_moved_94 (Q : Int32 → ((Nat → Int32) × (Nat → Int32) × (Nat → Int32) × (Nat → Int32) × (Nat → Int32) × (Nat → Int32) × (Nat → Int32) × (Nat → Int32) × (Nat → Int32)) → Prop) (p2 : Int32) (xl3 : Int64) (M_wide : Int32) (M_high : Int32) (M_price : Nat → Int32) (M_rowBy : Nat → Int32) (M_columnBy : Nat → Int32) (M_rowOf : Nat → Int32) (M_wayBack : Nat → Int32) (M_slack : Nat → Int32) (M_isUsed : Nat → Int32) (M_lifted : Nat → Int32) (M_freed : Nat → Int32) (s0 : Int64) : Prop :=
((¬ p2 = 0 → wp_X11_carried xl3 s0 M_wide M_high M_price M_rowBy M_columnBy M_rowOf M_wayBack M_slack M_isUsed M_lifted M_freed (fun (r12 : Int32) (u13 : (Nat → Int32) × (Nat → Int32) × (Nat → Int32) × (Nat → Int32) × (Nat → Int32) × (Nat → Int32) × (Nat → Int32) × (Nat → Int32) × (Nat → Int32)) => Q r12 (u13.1, u13.2.1, u13.2.2.1, u13.2.2.2.1, u13.2.2.2.2.1, u13.2.2.2.2.2.1, u13.2.2.2.2.2.2.1, u13.2.2.2.2.2.2.2.1, u13.2.2.2.2.2.2.2.2))) ∧
(p2 = 0 → wp_X11_bits (xl3 &&& (s0 ^^^ (-1))) (fun (r14 : Int32) => Q r14 (M_price, M_rowBy, M_columnBy, M_rowOf, M_wayBack, M_slack, M_isUsed, M_lifted, M_freed))))
def bk_X11_moved_63 (Q : Int32 → ((Nat → Int32) × (Nat → Int32) × (Nat → Int32) × (Nat → Int32) × (Nat → Int32) × (Nat → Int32) × (Nat → Int32) × (Nat → Int32) × (Nat → Int32)) → Prop) (p1 : Int32) (p2 : Int32) (M_wide : Int32) (M_high : Int32) (M_hedges : Int64) (M_square : Nat → Int32) (M_row : Nat → Int32) (M_price : Nat → Int32) (M_rowBy : Nat → Int32) (M_columnBy : Nat → Int32) (M_rowOf : Nat → Int32) (M_wayBack : Nat → Int32) (M_slack : Nat → Int32) (M_isUsed : Nat → Int32) (M_lifted : Nat → Int32) (M_freed : Nat → Int32) : Prop :=
vp_in p1 20 ∧ wp_X11_edgesOf (M_row p1.toNatClampNeg) M_wide M_high M_hedges M_square (fun (r8 : Int64) => ((¬ p1 = 0 → vp_in (p1 - 1) 20 ∧ wp_X11_edgesOf (M_row (p1 - 1).toNatClampNeg) M_wide M_high M_hedges M_square (fun (r10 : Int64) => bk_X11_moved_94 Q p2 r8 M_wide M_high M_price M_rowBy M_columnBy M_rowOf M_wayBack M_slack M_isUsed M_lifted M_freed r10)) ∧
(p1 = 0 → bk_X11_moved_94 Q p2 r8 M_wide M_high M_price M_rowBy M_columnBy M_rowOf M_wayBack M_slack M_isUsed M_lifted M_freed 0)))
def wp_X11_moved (p1 : Int32) (p2 : Int32) (M_wide : Int32) (M_high : Int32) (M_hedges : Int64) (M_nights : Int32) (M_square : Nat → Int32) (M_row : Nat → Int32) (M_price : Nat → Int32) (M_rowBy : Nat → Int32) (M_columnBy : Nat → Int32) (M_rowOf : Nat → Int32) (M_wayBack : Nat → Int32) (M_slack : Nat → Int32) (M_isUsed : Nat → Int32) (M_lifted : Nat → Int32) (M_freed : Nat → Int32) (Q : Int32 → ((Nat → Int32) × (Nat → Int32) × (Nat → Int32) × (Nat → Int32) × (Nat → Int32) × (Nat → Int32) × (Nat → Int32) × (Nat → Int32) × (Nat → Int32)) → Prop) : Prop :=
wp_X11_in p1 0 (M_nights - 1) (fun (r1 : Int32) => ((¬ r1 = 0 → wp_X11_in p2 0 1 (fun (r3 : Int32) => ((¬ r3 = 0 → vp_in p1 20 ∧ wp_X11_isFold (M_row p1.toNatClampNeg) M_wide M_high M_square (fun (r5 : Int32) => ((r5 = 0 → Q (-1) (M_price, M_rowBy, M_columnBy, M_rowOf, M_wayBack, M_slack, M_isUsed, M_lifted, M_freed)) ∧
(¬ r5 = 0 → ((p1 ≤ 0 → bk_X11_moved_63 Q p1 p2 M_wide M_high M_hedges M_square M_row M_price M_rowBy M_columnBy M_rowOf M_wayBack M_slack M_isUsed M_lifted M_freed) ∧
(¬ p1 ≤ 0 → vp_in (p1 - 1) 20 ∧ wp_X11_isFold (M_row (p1 - 1).toNatClampNeg) M_wide M_high M_square (fun (r15 : Int32) => ((¬ r15 = 0 → bk_X11_moved_63 Q p1 p2 M_wide M_high M_hedges M_square M_row M_price M_rowBy M_columnBy M_rowOf M_wayBack M_slack M_isUsed M_lifted M_freed) ∧
(r15 = 0 → Q (-1) (M_price, M_rowBy, M_columnBy, M_rowOf, M_wayBack, M_slack, M_isUsed, M_lifted, M_freed)))))))))) ∧
(r3 = 0 → Q (-3) (M_price, M_rowBy, M_columnBy, M_rowOf, M_wayBack, M_slack, M_isUsed, M_lifted, M_freed))))) ∧
(r1 = 0 → Q (-2) (M_price, M_rowBy, M_columnBy, M_rowOf, M_wayBack, M_slack, M_isUsed, M_lifted, M_freed))))
set_option maxHeartbeats 4000000 in
set_option maxRecDepth 100000 in
theorem J_X11_moved_94 {x : CX} {D : DG} {cyI cyJ cyZ : ClassId} {a_M a_M_square a_M_want a_M_text a_M_read a_M_row a_M_foldSet a_M_foldEdges a_M_foldNeeds a_M_foldYards a_M_least a_M_ways a_M_price a_M_rowBy a_M_columnBy a_M_rowOf a_M_wayBack a_M_slack a_M_isUsed a_M_lifted a_M_freed a_M_path : Nat} {M_wide : Int32} {M_high : Int32} {M_hedges : Int64} {M_hurdles : Int32} {M_wants : Int32} {M_rest : Int32} {M_frozen : Int32} {M_bytes : Int32} {M_position : Int32} {M_tokenAt : Int32} {M_token : Int64} {M_digits : Int32} {M_number : Int32} {M_faultAt : Int32} {M_readMany : Int32} {M_readWide : Int32} {M_readHigh : Int32} {M_nights : Int32} {M_why : Int32} {M_folds : Int32} {M_square : Nat → Int32} {M_want : Nat → Int32} {M_text : Nat → Int32} {M_read : Nat → Int32} {M_row : Nat → Int32} {M_foldSet : Nat → Int32} {M_foldEdges : Nat → Int64} {M_foldNeeds : Nat → Int32} {M_foldYards : Nat → Int32} {M_least : Nat → Int32} {M_ways : Nat → Int32} {M_price : Nat → Int32} {M_rowBy : Nat → Int32} {M_columnBy : Nat → Int32} {M_rowOf : Nat → Int32} {M_wayBack : Nat → Int32} {M_slack : Nat → Int32} {M_isUsed : Nat → Int32} {M_lifted : Nat → Int32} {M_freed : Nat → Int32} {M_path : Nat → Int32} {p2 : Int32} {xl3 : Int64} {s0 : Int64} {Q : Int32 → ((Nat → Int32) × (Nat → Int32) × (Nat → Int32) × (Nat → Int32) × (Nat → Int32) × (Nat → Int32) × (Nat → Int32) × (Nat → Int32) × (Nat → Int32)) → Prop} (cx : Cx x cX11_moved 7 RX11 rm_X11_moved D [(cyI, .int), (cyJ, .long), (cyZ, .boolean)]) (hR : ∀ (v : Int32) (u : (Nat → Int32) × (Nat → Int32) × (Nat → Int32) × (Nat → Int32) × (Nat → Int32) × (Nat → Int32) × (Nat → Int32) × (Nat → Int32) × (Nat → Int32)) (pc : Nat) (lv : List (Nat × Value)), decode cX11_moved pc = .ok (.ireturn, 1) → Q v u → J x 0 0 7 (W_Model cyI cyJ cyZ a_M a_M_square a_M_want a_M_text a_M_read a_M_row a_M_foldSet a_M_foldEdges a_M_foldNeeds a_M_foldYards a_M_least a_M_ways a_M_price a_M_rowBy a_M_columnBy a_M_rowOf a_M_wayBack a_M_slack a_M_isUsed a_M_lifted a_M_freed a_M_path M_wide M_high M_hedges M_hurdles M_wants M_rest M_frozen M_bytes M_position M_tokenAt M_token M_digits M_number M_faultAt M_readMany M_readWide M_readHigh M_nights M_why M_folds M_square M_want M_text M_read M_row M_foldSet M_foldEdges M_foldNeeds M_foldYards M_least M_ways u.1 u.2.1 u.2.2.1 u.2.2.2.1 u.2.2.2.2.1 u.2.2.2.2.2.1 u.2.2.2.2.2.2.1 u.2.2.2.2.2.2.2.1 u.2.2.2.2.2.2.2.2 M_path) lv pc [.int v]) (h : bk_X11_moved_94 Q  p2 xl3 M_wide M_high M_price M_rowBy M_columnBy M_rowOf M_wayBack M_slack M_isUsed M_lifted M_freed s0) :
    J x 0 0 7 (W_Model cyI cyJ cyZ a_M a_M_square a_M_want a_M_text a_M_read a_M_row a_M_foldSet a_M_foldEdges a_M_foldNeeds a_M_foldYards a_M_least a_M_ways a_M_price a_M_rowBy a_M_columnBy a_M_rowOf a_M_wayBack a_M_slack a_M_isUsed a_M_lifted a_M_freed a_M_path M_wide M_high M_hedges M_hurdles M_wants M_rest M_frozen M_bytes M_position M_tokenAt M_token M_digits M_number M_faultAt M_readMany M_readWide M_readHigh M_nights M_why M_folds M_square M_want M_text M_read M_row M_foldSet M_foldEdges M_foldNeeds M_foldYards M_least M_ways M_price M_rowBy M_columnBy M_rowOf M_wayBack M_slack M_isUsed M_lifted M_freed M_path) [(0, .ref a_M), (2, .int p2), (3, .long xl3)] 94 [.long s0] := by
  unfold bk_X11_moved_94 at h
  refine j_lstore cx [(5, .long s0), (0, .ref a_M), (2, .int p2), (3, .long xl3)] (by decide) rfl dX11_moved_94 (pn := 96) rfl ?_
  refine j_iload_n cx 2 rfl rfl dX11_moved_96 (pn := 97) rfl ?_
  refine j_if_ne cx 114 dX11_moved_97 (pn := 100) rfl rfl (fun c11 => ?_) (fun c11 => ?_)
  · have h := h.1 c11
    refine j_aload_n cx 1 rfl rfl dX11_moved_114 (pn := 115) rfl ?_
    refine j_lload_n cx 3 rfl rfl dX11_moved_115 (pn := 116) rfl ?_
    refine j_lload cx 0 rfl dX11_moved_116 (pn := 118) rfl ?_
    refine j_callvI0 cx q_inst_X11_carried q_sel_X11_carried (b := a_M) (As := [.long xl3, .long s0]) (rest := []) (c_X11_carried h) ⟨q_code_X11_carried, q_ml_X11_280, q_init_X11, hd_X11_carried, ⟨Nat.le_of_ble_eq_true rfl, Nat.le_of_ble_eq_true rfl⟩, Nat.le_of_ble_eq_true rfl, Nat.le_of_ble_eq_true rfl⟩ (q0 := 0) rfl rfl rfl rfl (Nat.le_of_ble_eq_true rfl) dX11_moved_118 (pn := 121) rfl (fun r12 u13 h => ?_)
    show J x 0 0 7 (W_Model cyI cyJ cyZ a_M a_M_square a_M_want a_M_text a_M_read a_M_row a_M_foldSet a_M_foldEdges a_M_foldNeeds a_M_foldYards a_M_least a_M_ways a_M_price a_M_rowBy a_M_columnBy a_M_rowOf a_M_wayBack a_M_slack a_M_isUsed a_M_lifted a_M_freed a_M_path M_wide M_high M_hedges M_hurdles M_wants M_rest M_frozen M_bytes M_position M_tokenAt M_token M_digits M_number M_faultAt M_readMany M_readWide M_readHigh M_nights M_why M_folds M_square M_want M_text M_read M_row M_foldSet M_foldEdges M_foldNeeds M_foldYards M_least M_ways u13.1 u13.2.1 u13.2.2.1 u13.2.2.2.1 u13.2.2.2.2.1 u13.2.2.2.2.2.1 u13.2.2.2.2.2.2.1 u13.2.2.2.2.2.2.2.1 u13.2.2.2.2.2.2.2.2 M_path) [(5, .long s0), (0, .ref a_M), (2, .int p2), (3, .long xl3)] 121 [.int r12]
    exact hR r12 (u13.1, u13.2.1, u13.2.2.1, u13.2.2.2.1, u13.2.2.2.2.1, u13.2.2.2.2.2.1, u13.2.2.2.2.2.2.1, u13.2.2.2.2.2.2.2.1, u13.2.2.2.2.2.2.2.2) 121 _ dX11_moved_121 h
  · have h := h.2 c11
    refine j_lload_n cx 3 rfl rfl dX11_moved_100 (pn := 101) rfl ?_
    refine j_lload cx 0 rfl dX11_moved_101 (pn := 103) rfl ?_
    refine j_ldc2 cx q_cl_X11_123 dX11_moved_103 (pn := 106) rfl ?_
    refine j_lxor cx dX11_moved_106 (pn := 107) rfl ?_
    refine j_land cx dX11_moved_107 (pn := 108) rfl ?_
    refine j_calleI cx q_stat_X11_bits (As := [.long (xl3 &&& (s0 ^^^ (-1)))]) (rest := []) (c_X11_bits h) ⟨q_code_X11_bits, q_ml_X11_244, q_init_X11, hd_X11_bits, ⟨Nat.le_of_ble_eq_true rfl, Nat.le_of_ble_eq_true rfl⟩, Nat.le_of_ble_eq_true rfl, Nat.le_of_ble_eq_true rfl⟩ rfl rfl (Nat.le_of_ble_eq_true rfl) dX11_moved_108 (pn := 111) rfl (fun r14 h => ?_)
    show J x 0 0 7 (W_Model cyI cyJ cyZ a_M a_M_square a_M_want a_M_text a_M_read a_M_row a_M_foldSet a_M_foldEdges a_M_foldNeeds a_M_foldYards a_M_least a_M_ways a_M_price a_M_rowBy a_M_columnBy a_M_rowOf a_M_wayBack a_M_slack a_M_isUsed a_M_lifted a_M_freed a_M_path M_wide M_high M_hedges M_hurdles M_wants M_rest M_frozen M_bytes M_position M_tokenAt M_token M_digits M_number M_faultAt M_readMany M_readWide M_readHigh M_nights M_why M_folds M_square M_want M_text M_read M_row M_foldSet M_foldEdges M_foldNeeds M_foldYards M_least M_ways M_price M_rowBy M_columnBy M_rowOf M_wayBack M_slack M_isUsed M_lifted M_freed M_path) [(5, .long s0), (0, .ref a_M), (2, .int p2), (3, .long xl3)] 111 [.int r14]
    refine j_goto cx 121 dX11_moved_111 rfl ?_
    exact hR r14 (M_price, M_rowBy, M_columnBy, M_rowOf, M_wayBack, M_slack, M_isUsed, M_lifted, M_freed) 121 _ dX11_moved_121 h
set_option maxHeartbeats 4000000 in
set_option maxRecDepth 100000 in
theorem J_X11_moved_63 {x : CX} {D : DG} {cyI cyJ cyZ : ClassId} {a_M a_M_square a_M_want a_M_text a_M_read a_M_row a_M_foldSet a_M_foldEdges a_M_foldNeeds a_M_foldYards a_M_least a_M_ways a_M_price a_M_rowBy a_M_columnBy a_M_rowOf a_M_wayBack a_M_slack a_M_isUsed a_M_lifted a_M_freed a_M_path : Nat} {M_wide : Int32} {M_high : Int32} {M_hedges : Int64} {M_hurdles : Int32} {M_wants : Int32} {M_rest : Int32} {M_frozen : Int32} {M_bytes : Int32} {M_position : Int32} {M_tokenAt : Int32} {M_token : Int64} {M_digits : Int32} {M_number : Int32} {M_faultAt : Int32} {M_readMany : Int32} {M_readWide : Int32} {M_readHigh : Int32} {M_nights : Int32} {M_why : Int32} {M_folds : Int32} {M_square : Nat → Int32} {M_want : Nat → Int32} {M_text : Nat → Int32} {M_read : Nat → Int32} {M_row : Nat → Int32} {M_foldSet : Nat → Int32} {M_foldEdges : Nat → Int64} {M_foldNeeds : Nat → Int32} {M_foldYards : Nat → Int32} {M_least : Nat → Int32} {M_ways : Nat → Int32} {M_price : Nat → Int32} {M_rowBy : Nat → Int32} {M_columnBy : Nat → Int32} {M_rowOf : Nat → Int32} {M_wayBack : Nat → Int32} {M_slack : Nat → Int32} {M_isUsed : Nat → Int32} {M_lifted : Nat → Int32} {M_freed : Nat → Int32} {M_path : Nat → Int32} {p1 : Int32} {p2 : Int32} {Q : Int32 → ((Nat → Int32) × (Nat → Int32) × (Nat → Int32) × (Nat → Int32) × (Nat → Int32) × (Nat → Int32) × (Nat → Int32) × (Nat → Int32) × (Nat → Int32)) → Prop} (cx : Cx x cX11_moved 7 RX11 rm_X11_moved D [(cyI, .int), (cyJ, .long), (cyZ, .boolean)]) (hR : ∀ (v : Int32) (u : (Nat → Int32) × (Nat → Int32) × (Nat → Int32) × (Nat → Int32) × (Nat → Int32) × (Nat → Int32) × (Nat → Int32) × (Nat → Int32) × (Nat → Int32)) (pc : Nat) (lv : List (Nat × Value)), decode cX11_moved pc = .ok (.ireturn, 1) → Q v u → J x 0 0 7 (W_Model cyI cyJ cyZ a_M a_M_square a_M_want a_M_text a_M_read a_M_row a_M_foldSet a_M_foldEdges a_M_foldNeeds a_M_foldYards a_M_least a_M_ways a_M_price a_M_rowBy a_M_columnBy a_M_rowOf a_M_wayBack a_M_slack a_M_isUsed a_M_lifted a_M_freed a_M_path M_wide M_high M_hedges M_hurdles M_wants M_rest M_frozen M_bytes M_position M_tokenAt M_token M_digits M_number M_faultAt M_readMany M_readWide M_readHigh M_nights M_why M_folds M_square M_want M_text M_read M_row M_foldSet M_foldEdges M_foldNeeds M_foldYards M_least M_ways u.1 u.2.1 u.2.2.1 u.2.2.2.1 u.2.2.2.2.1 u.2.2.2.2.2.1 u.2.2.2.2.2.2.1 u.2.2.2.2.2.2.2.1 u.2.2.2.2.2.2.2.2 M_path) lv pc [.int v]) (h : bk_X11_moved_63 Q  p1 p2 M_wide M_high M_hedges M_square M_row M_price M_rowBy M_columnBy M_rowOf M_wayBack M_slack M_isUsed M_lifted M_freed) :
    J x 0 0 7 (W_Model cyI cyJ cyZ a_M a_M_square a_M_want a_M_text a_M_read a_M_row a_M_foldSet a_M_foldEdges a_M_foldNeeds a_M_foldYards a_M_least a_M_ways a_M_price a_M_rowBy a_M_columnBy a_M_rowOf a_M_wayBack a_M_slack a_M_isUsed a_M_lifted a_M_freed a_M_path M_wide M_high M_hedges M_hurdles M_wants M_rest M_frozen M_bytes M_position M_tokenAt M_token M_digits M_number M_faultAt M_readMany M_readWide M_readHigh M_nights M_why M_folds M_square M_want M_text M_read M_row M_foldSet M_foldEdges M_foldNeeds M_foldYards M_least M_ways M_price M_rowBy M_columnBy M_rowOf M_wayBack M_slack M_isUsed M_lifted M_freed M_path) [(0, .ref a_M), (1, .int p1), (2, .int p2)] 63 [] := by
  unfold bk_X11_moved_63 at h
  refine j_aload_n cx 0 rfl rfl dX11_moved_63 (pn := 64) rfl ?_
  refine j_aload_n cx 0 rfl rfl dX11_moved_64 (pn := 65) rfl ?_
  refine j_get cx inGX11 0 rfl rfl 22 (by decide) q_fl_X11_32 rfl rfl dX11_moved_65 (pn := 68) rfl ?_
  refine j_iload_n cx 1 rfl rfl dX11_moved_68 (pn := 69) rfl ?_
  refine j_iald cx 5 0 rfl rfl h.1 dX11_moved_69 (pn := 70) rfl ?_
  have h := h.2
  refine j_callvL0 cx q_inst_X11_edgesOf q_sel_X11_edgesOf (b := a_M) (As := [.int (M_row p1.toNatClampNeg)]) (rest := []) (c_X11_edgesOf h) ⟨q_code_X11_edgesOf, q_ml_X11_240, q_init_X11, hd_X11_edgesOf, ⟨Nat.le_of_ble_eq_true rfl, Nat.le_of_ble_eq_true rfl⟩, Nat.le_of_ble_eq_true rfl, Nat.le_of_ble_eq_true rfl⟩ (q0 := 0) rfl rfl rfl rfl (Nat.le_of_ble_eq_true rfl) dX11_moved_70 (pn := 73) rfl (fun r8 _ h => ?_)
  show J x 0 0 7 (W_Model cyI cyJ cyZ a_M a_M_square a_M_want a_M_text a_M_read a_M_row a_M_foldSet a_M_foldEdges a_M_foldNeeds a_M_foldYards a_M_least a_M_ways a_M_price a_M_rowBy a_M_columnBy a_M_rowOf a_M_wayBack a_M_slack a_M_isUsed a_M_lifted a_M_freed a_M_path M_wide M_high M_hedges M_hurdles M_wants M_rest M_frozen M_bytes M_position M_tokenAt M_token M_digits M_number M_faultAt M_readMany M_readWide M_readHigh M_nights M_why M_folds M_square M_want M_text M_read M_row M_foldSet M_foldEdges M_foldNeeds M_foldYards M_least M_ways M_price M_rowBy M_columnBy M_rowOf M_wayBack M_slack M_isUsed M_lifted M_freed M_path) [(0, .ref a_M), (1, .int p1), (2, .int p2)] 73 [.long r8]
  refine j_lstore_n cx rfl [(3, .long r8), (0, .ref a_M), (1, .int p1), (2, .int p2)] (by decide) rfl dX11_moved_73 (pn := 74) rfl ?_
  refine j_iload_n cx 2 rfl rfl dX11_moved_74 (pn := 75) rfl ?_
  refine j_if_ne cx 82 dX11_moved_75 (pn := 78) rfl rfl (fun c9 => ?_) (fun c9 => ?_)
  · have h := h.1 c9
    refine j_aload_n cx 1 rfl rfl dX11_moved_82 (pn := 83) rfl ?_
    refine j_aload_n cx 1 rfl rfl dX11_moved_83 (pn := 84) rfl ?_
    refine j_get cx inGX11 0 rfl rfl 22 (by decide) q_fl_X11_32 rfl rfl dX11_moved_84 (pn := 87) rfl ?_
    refine j_iload_n cx 2 rfl rfl dX11_moved_87 (pn := 88) rfl ?_
    refine j_iconst cx (v := 1) (by decide) dX11_moved_88 (pn := 89) rfl ?_
    refine j_isub cx dX11_moved_89 (pn := 90) rfl ?_
    refine j_iald cx 5 0 rfl rfl h.1 dX11_moved_90 (pn := 91) rfl ?_
    have h := h.2
    refine j_callvL0 cx q_inst_X11_edgesOf q_sel_X11_edgesOf (b := a_M) (As := [.int (M_row (p1 - 1).toNatClampNeg)]) (rest := []) (c_X11_edgesOf h) ⟨q_code_X11_edgesOf, q_ml_X11_240, q_init_X11, hd_X11_edgesOf, ⟨Nat.le_of_ble_eq_true rfl, Nat.le_of_ble_eq_true rfl⟩, Nat.le_of_ble_eq_true rfl, Nat.le_of_ble_eq_true rfl⟩ (q0 := 0) rfl rfl rfl rfl (Nat.le_of_ble_eq_true rfl) dX11_moved_91 (pn := 94) rfl (fun r10 _ h => ?_)
    show J x 0 0 7 (W_Model cyI cyJ cyZ a_M a_M_square a_M_want a_M_text a_M_read a_M_row a_M_foldSet a_M_foldEdges a_M_foldNeeds a_M_foldYards a_M_least a_M_ways a_M_price a_M_rowBy a_M_columnBy a_M_rowOf a_M_wayBack a_M_slack a_M_isUsed a_M_lifted a_M_freed a_M_path M_wide M_high M_hedges M_hurdles M_wants M_rest M_frozen M_bytes M_position M_tokenAt M_token M_digits M_number M_faultAt M_readMany M_readWide M_readHigh M_nights M_why M_folds M_square M_want M_text M_read M_row M_foldSet M_foldEdges M_foldNeeds M_foldYards M_least M_ways M_price M_rowBy M_columnBy M_rowOf M_wayBack M_slack M_isUsed M_lifted M_freed M_path) [(3, .long r8), (0, .ref a_M), (1, .int p1), (2, .int p2)] 94 [.long r10]
    refine j_sub [1, 3, 0] [(0, .ref a_M), (2, .int p2), (3, .long r8)] rfl ?_
    exact J_X11_moved_94 cx hR h
  · have h := h.2 c9
    refine j_lconst cx (v := 0) (by decide) dX11_moved_78 (pn := 79) rfl ?_
    refine j_goto cx 94 dX11_moved_79 rfl ?_
    refine j_sub [1, 3, 0] [(0, .ref a_M), (2, .int p2), (3, .long r8)] rfl ?_
    exact J_X11_moved_94 cx hR h
set_option maxHeartbeats 4000000 in
set_option maxRecDepth 100000 in
theorem c_X11_moved {D : DG} {cyI cyJ cyZ : ClassId} {a_M a_M_square a_M_want a_M_text a_M_read a_M_row a_M_foldSet a_M_foldEdges a_M_foldNeeds a_M_foldYards a_M_least a_M_ways a_M_price a_M_rowBy a_M_columnBy a_M_rowOf a_M_wayBack a_M_slack a_M_isUsed a_M_lifted a_M_freed a_M_path : Nat} {M_wide : Int32} {M_high : Int32} {M_hedges : Int64} {M_hurdles : Int32} {M_wants : Int32} {M_rest : Int32} {M_frozen : Int32} {M_bytes : Int32} {M_position : Int32} {M_tokenAt : Int32} {M_token : Int64} {M_digits : Int32} {M_number : Int32} {M_faultAt : Int32} {M_readMany : Int32} {M_readWide : Int32} {M_readHigh : Int32} {M_nights : Int32} {M_why : Int32} {M_folds : Int32} {M_square : Nat → Int32} {M_want : Nat → Int32} {M_text : Nat → Int32} {M_read : Nat → Int32} {M_row : Nat → Int32} {M_foldSet : Nat → Int32} {M_foldEdges : Nat → Int64} {M_foldNeeds : Nat → Int32} {M_foldYards : Nat → Int32} {M_least : Nat → Int32} {M_ways : Nat → Int32} {M_price : Nat → Int32} {M_rowBy : Nat → Int32} {M_columnBy : Nat → Int32} {M_rowOf : Nat → Int32} {M_wayBack : Nat → Int32} {M_slack : Nat → Int32} {M_isUsed : Nat → Int32} {M_lifted : Nat → Int32} {M_freed : Nat → Int32} {M_path : Nat → Int32} {p1 : Int32} {p2 : Int32} {Q : Int32 → ((Nat → Int32) × (Nat → Int32) × (Nat → Int32) × (Nat → Int32) × (Nat → Int32) × (Nat → Int32) × (Nat → Int32) × (Nat → Int32) × (Nat → Int32)) → Prop} (h : wp_X11_moved p1 p2 M_wide M_high M_hedges M_nights M_square M_row M_price M_rowBy M_columnBy M_rowOf M_wayBack M_slack M_isUsed M_lifted M_freed Q) :
    MetI yX11_moved cX11_moved 7 (some .int) rm_X11_moved D [(cyI, .int), (cyJ, .long), (cyZ, .boolean)] [.ref a_M, .int p1, .int p2] (W_Model cyI cyJ cyZ a_M a_M_square a_M_want a_M_text a_M_read a_M_row a_M_foldSet a_M_foldEdges a_M_foldNeeds a_M_foldYards a_M_least a_M_ways a_M_price a_M_rowBy a_M_columnBy a_M_rowOf a_M_wayBack a_M_slack a_M_isUsed a_M_lifted a_M_freed a_M_path M_wide M_high M_hedges M_hurdles M_wants M_rest M_frozen M_bytes M_position M_tokenAt M_token M_digits M_number M_faultAt M_readMany M_readWide M_readHigh M_nights M_why M_folds M_square M_want M_text M_read M_row M_foldSet M_foldEdges M_foldNeeds M_foldYards M_least M_ways M_price M_rowBy M_columnBy M_rowOf M_wayBack M_slack M_isUsed M_lifted M_freed M_path) (fun u : (Nat → Int32) × (Nat → Int32) × (Nat → Int32) × (Nat → Int32) × (Nat → Int32) × (Nat → Int32) × (Nat → Int32) × (Nat → Int32) × (Nat → Int32) => (W_Model cyI cyJ cyZ a_M a_M_square a_M_want a_M_text a_M_read a_M_row a_M_foldSet a_M_foldEdges a_M_foldNeeds a_M_foldYards a_M_least a_M_ways a_M_price a_M_rowBy a_M_columnBy a_M_rowOf a_M_wayBack a_M_slack a_M_isUsed a_M_lifted a_M_freed a_M_path M_wide M_high M_hedges M_hurdles M_wants M_rest M_frozen M_bytes M_position M_tokenAt M_token M_digits M_number M_faultAt M_readMany M_readWide M_readHigh M_nights M_why M_folds M_square M_want M_text M_read M_row M_foldSet M_foldEdges M_foldNeeds M_foldYards M_least M_ways u.1 u.2.1 u.2.2.1 u.2.2.2.1 u.2.2.2.2.1 u.2.2.2.2.2.1 u.2.2.2.2.2.2.1 u.2.2.2.2.2.2.2.1 u.2.2.2.2.2.2.2.2 M_path)) (fun v u => Q v u) := by
  unfold wp_X11_moved at h
  refine metI_of (by decide) (Nat.le_of_ble_eq_true rfl) (fun x cx0 hR0 => ?_)
  have cx : Cx x cX11_moved 7 RX11 rm_X11_moved D [(cyI, .int), (cyJ, .long), (cyZ, .boolean)] := cx0
  have hR : ∀ (v : Int32) (u : (Nat → Int32) × (Nat → Int32) × (Nat → Int32) × (Nat → Int32) × (Nat → Int32) × (Nat → Int32) × (Nat → Int32) × (Nat → Int32) × (Nat → Int32)) (pc : Nat) (lv : List (Nat × Value)), decode cX11_moved pc = .ok (.ireturn, 1) → Q v u → J x 0 0 7 (W_Model cyI cyJ cyZ a_M a_M_square a_M_want a_M_text a_M_read a_M_row a_M_foldSet a_M_foldEdges a_M_foldNeeds a_M_foldYards a_M_least a_M_ways a_M_price a_M_rowBy a_M_columnBy a_M_rowOf a_M_wayBack a_M_slack a_M_isUsed a_M_lifted a_M_freed a_M_path M_wide M_high M_hedges M_hurdles M_wants M_rest M_frozen M_bytes M_position M_tokenAt M_token M_digits M_number M_faultAt M_readMany M_readWide M_readHigh M_nights M_why M_folds M_square M_want M_text M_read M_row M_foldSet M_foldEdges M_foldNeeds M_foldYards M_least M_ways u.1 u.2.1 u.2.2.1 u.2.2.2.1 u.2.2.2.2.1 u.2.2.2.2.2.1 u.2.2.2.2.2.2.1 u.2.2.2.2.2.2.2.1 u.2.2.2.2.2.2.2.2 M_path) lv pc [.int v] := (fun v u pc lv d hq => hR0 v u pc lv d hq)
  show J x 0 0 7 (W_Model cyI cyJ cyZ a_M a_M_square a_M_want a_M_text a_M_read a_M_row a_M_foldSet a_M_foldEdges a_M_foldNeeds a_M_foldYards a_M_least a_M_ways a_M_price a_M_rowBy a_M_columnBy a_M_rowOf a_M_wayBack a_M_slack a_M_isUsed a_M_lifted a_M_freed a_M_path M_wide M_high M_hedges M_hurdles M_wants M_rest M_frozen M_bytes M_position M_tokenAt M_token M_digits M_number M_faultAt M_readMany M_readWide M_readHigh M_nights M_why M_folds M_square M_want M_text M_read M_row M_foldSet M_foldEdges M_foldNeeds M_foldYards M_least M_ways M_price M_rowBy M_columnBy M_rowOf M_wayBack M_slack M_isUsed M_lifted M_freed M_path) [(0, .ref a_M), (1, .int p1), (2, .int p2)] 0 []
  refine j_iload_n cx 1 rfl rfl dX11_moved_0 (pn := 1) rfl ?_
  refine j_iconst cx (v := 0) (by decide) dX11_moved_1 (pn := 2) rfl ?_
  refine j_aload_n cx 0 rfl rfl dX11_moved_2 (pn := 3) rfl ?_
  refine j_get cx inGX11 0 rfl rfl 21 (by decide) q_fl_X11_198 rfl rfl dX11_moved_3 (pn := 6) rfl ?_
  refine j_iconst cx (v := 1) (by decide) dX11_moved_6 (pn := 7) rfl ?_
  refine j_isub cx dX11_moved_7 (pn := 8) rfl ?_
  refine j_calleI cx q_stat_X11_in (As := [.int p1, .int 0, .int (M_nights - 1)]) (rest := []) (c_X11_in h) ⟨q_code_X11_in, q_ml_X11_90, q_init_X11, hd_X11_in, ⟨Nat.le_of_ble_eq_true rfl, Nat.le_of_ble_eq_true rfl⟩, Nat.le_of_ble_eq_true rfl, Nat.le_of_ble_eq_true rfl⟩ rfl rfl (Nat.le_of_ble_eq_true rfl) dX11_moved_8 (pn := 11) rfl (fun r1 h => ?_)
  show J x 0 0 7 (W_Model cyI cyJ cyZ a_M a_M_square a_M_want a_M_text a_M_read a_M_row a_M_foldSet a_M_foldEdges a_M_foldNeeds a_M_foldYards a_M_least a_M_ways a_M_price a_M_rowBy a_M_columnBy a_M_rowOf a_M_wayBack a_M_slack a_M_isUsed a_M_lifted a_M_freed a_M_path M_wide M_high M_hedges M_hurdles M_wants M_rest M_frozen M_bytes M_position M_tokenAt M_token M_digits M_number M_faultAt M_readMany M_readWide M_readHigh M_nights M_why M_folds M_square M_want M_text M_read M_row M_foldSet M_foldEdges M_foldNeeds M_foldYards M_least M_ways M_price M_rowBy M_columnBy M_rowOf M_wayBack M_slack M_isUsed M_lifted M_freed M_path) [(0, .ref a_M), (1, .int p1), (2, .int p2)] 11 [.int r1]
  refine j_if_ne cx 17 dX11_moved_11 (pn := 14) rfl rfl (fun c2 => ?_) (fun c2 => ?_)
  · have h := h.1 c2
    refine j_iload_n cx 2 rfl rfl dX11_moved_17 (pn := 18) rfl ?_
    refine j_iconst cx (v := 0) (by decide) dX11_moved_18 (pn := 19) rfl ?_
    refine j_iconst cx (v := 1) (by decide) dX11_moved_19 (pn := 20) rfl ?_
    refine j_calleI cx q_stat_X11_in (As := [.int p2, .int 0, .int 1]) (rest := []) (c_X11_in h) ⟨q_code_X11_in, q_ml_X11_90, q_init_X11, hd_X11_in, ⟨Nat.le_of_ble_eq_true rfl, Nat.le_of_ble_eq_true rfl⟩, Nat.le_of_ble_eq_true rfl, Nat.le_of_ble_eq_true rfl⟩ rfl rfl (Nat.le_of_ble_eq_true rfl) dX11_moved_20 (pn := 23) rfl (fun r3 h => ?_)
    show J x 0 0 7 (W_Model cyI cyJ cyZ a_M a_M_square a_M_want a_M_text a_M_read a_M_row a_M_foldSet a_M_foldEdges a_M_foldNeeds a_M_foldYards a_M_least a_M_ways a_M_price a_M_rowBy a_M_columnBy a_M_rowOf a_M_wayBack a_M_slack a_M_isUsed a_M_lifted a_M_freed a_M_path M_wide M_high M_hedges M_hurdles M_wants M_rest M_frozen M_bytes M_position M_tokenAt M_token M_digits M_number M_faultAt M_readMany M_readWide M_readHigh M_nights M_why M_folds M_square M_want M_text M_read M_row M_foldSet M_foldEdges M_foldNeeds M_foldYards M_least M_ways M_price M_rowBy M_columnBy M_rowOf M_wayBack M_slack M_isUsed M_lifted M_freed M_path) [(0, .ref a_M), (1, .int p1), (2, .int p2)] 23 [.int r3]
    refine j_if_ne cx 29 dX11_moved_23 (pn := 26) rfl rfl (fun c4 => ?_) (fun c4 => ?_)
    · have h := h.1 c4
      refine j_aload_n cx 0 rfl rfl dX11_moved_29 (pn := 30) rfl ?_
      refine j_aload_n cx 0 rfl rfl dX11_moved_30 (pn := 31) rfl ?_
      refine j_get cx inGX11 0 rfl rfl 22 (by decide) q_fl_X11_32 rfl rfl dX11_moved_31 (pn := 34) rfl ?_
      refine j_iload_n cx 1 rfl rfl dX11_moved_34 (pn := 35) rfl ?_
      refine j_iald cx 5 0 rfl rfl h.1 dX11_moved_35 (pn := 36) rfl ?_
      have h := h.2
      refine j_callvI0 cx q_inst_X11_isFold q_sel_X11_isFold (b := a_M) (As := [.int (M_row p1.toNatClampNeg)]) (rest := []) (c_X11_isFold h) ⟨q_code_X11_isFold, q_ml_X11_237, q_init_X11, hd_X11_isFold, ⟨Nat.le_of_ble_eq_true rfl, Nat.le_of_ble_eq_true rfl⟩, Nat.le_of_ble_eq_true rfl, Nat.le_of_ble_eq_true rfl⟩ (q0 := 0) rfl rfl rfl rfl (Nat.le_of_ble_eq_true rfl) dX11_moved_36 (pn := 39) rfl (fun r5 _ h => ?_)
      show J x 0 0 7 (W_Model cyI cyJ cyZ a_M a_M_square a_M_want a_M_text a_M_read a_M_row a_M_foldSet a_M_foldEdges a_M_foldNeeds a_M_foldYards a_M_least a_M_ways a_M_price a_M_rowBy a_M_columnBy a_M_rowOf a_M_wayBack a_M_slack a_M_isUsed a_M_lifted a_M_freed a_M_path M_wide M_high M_hedges M_hurdles M_wants M_rest M_frozen M_bytes M_position M_tokenAt M_token M_digits M_number M_faultAt M_readMany M_readWide M_readHigh M_nights M_why M_folds M_square M_want M_text M_read M_row M_foldSet M_foldEdges M_foldNeeds M_foldYards M_least M_ways M_price M_rowBy M_columnBy M_rowOf M_wayBack M_slack M_isUsed M_lifted M_freed M_path) [(0, .ref a_M), (1, .int p1), (2, .int p2)] 39 [.int r5]
      refine j_if_eq cx 61 dX11_moved_39 (pn := 42) rfl rfl (fun c6 => ?_) (fun c6 => ?_)
      · have h := h.1 c6
        refine j_iconst cx (v := (-1)) (by decide) dX11_moved_61 (pn := 62) rfl ?_
        exact hR (-1) (M_price, M_rowBy, M_columnBy, M_rowOf, M_wayBack, M_slack, M_isUsed, M_lifted, M_freed) 62 _ dX11_moved_62 h
      · have h := h.2 c6
        refine j_iload_n cx 1 rfl rfl dX11_moved_42 (pn := 43) rfl ?_
        refine j_if_le cx 63 dX11_moved_43 (pn := 46) rfl rfl (fun c7 => ?_) (fun c7 => ?_)
        · have h := h.1 c7
          exact J_X11_moved_63 cx hR h
        · have h := h.2 c7
          refine j_aload_n cx 0 rfl rfl dX11_moved_46 (pn := 47) rfl ?_
          refine j_aload_n cx 0 rfl rfl dX11_moved_47 (pn := 48) rfl ?_
          refine j_get cx inGX11 0 rfl rfl 22 (by decide) q_fl_X11_32 rfl rfl dX11_moved_48 (pn := 51) rfl ?_
          refine j_iload_n cx 1 rfl rfl dX11_moved_51 (pn := 52) rfl ?_
          refine j_iconst cx (v := 1) (by decide) dX11_moved_52 (pn := 53) rfl ?_
          refine j_isub cx dX11_moved_53 (pn := 54) rfl ?_
          refine j_iald cx 5 0 rfl rfl h.1 dX11_moved_54 (pn := 55) rfl ?_
          have h := h.2
          refine j_callvI0 cx q_inst_X11_isFold q_sel_X11_isFold (b := a_M) (As := [.int (M_row (p1 - 1).toNatClampNeg)]) (rest := []) (c_X11_isFold h) ⟨q_code_X11_isFold, q_ml_X11_237, q_init_X11, hd_X11_isFold, ⟨Nat.le_of_ble_eq_true rfl, Nat.le_of_ble_eq_true rfl⟩, Nat.le_of_ble_eq_true rfl, Nat.le_of_ble_eq_true rfl⟩ (q0 := 0) rfl rfl rfl rfl (Nat.le_of_ble_eq_true rfl) dX11_moved_55 (pn := 58) rfl (fun r15 _ h => ?_)
          show J x 0 0 7 (W_Model cyI cyJ cyZ a_M a_M_square a_M_want a_M_text a_M_read a_M_row a_M_foldSet a_M_foldEdges a_M_foldNeeds a_M_foldYards a_M_least a_M_ways a_M_price a_M_rowBy a_M_columnBy a_M_rowOf a_M_wayBack a_M_slack a_M_isUsed a_M_lifted a_M_freed a_M_path M_wide M_high M_hedges M_hurdles M_wants M_rest M_frozen M_bytes M_position M_tokenAt M_token M_digits M_number M_faultAt M_readMany M_readWide M_readHigh M_nights M_why M_folds M_square M_want M_text M_read M_row M_foldSet M_foldEdges M_foldNeeds M_foldYards M_least M_ways M_price M_rowBy M_columnBy M_rowOf M_wayBack M_slack M_isUsed M_lifted M_freed M_path) [(0, .ref a_M), (1, .int p1), (2, .int p2)] 58 [.int r15]
          refine j_if_ne cx 63 dX11_moved_58 (pn := 61) rfl rfl (fun c16 => ?_) (fun c16 => ?_)
          · have h := h.1 c16
            exact J_X11_moved_63 cx hR h
          · have h := h.2 c16
            refine j_iconst cx (v := (-1)) (by decide) dX11_moved_61 (pn := 62) rfl ?_
            exact hR (-1) (M_price, M_rowBy, M_columnBy, M_rowOf, M_wayBack, M_slack, M_isUsed, M_lifted, M_freed) 62 _ dX11_moved_62 h
    · have h := h.2 c4
      refine j_bipush cx (v := (-3)) (by decide) dX11_moved_26 (pn := 28) rfl ?_
      exact hR (-3) (M_price, M_rowBy, M_columnBy, M_rowOf, M_wayBack, M_slack, M_isUsed, M_lifted, M_freed) 28 _ dX11_moved_28 h
  · have h := h.2 c2
    refine j_bipush cx (v := (-2)) (by decide) dX11_moved_14 (pn := 16) rfl ?_
    exact hR (-2) (M_price, M_rowBy, M_columnBy, M_rowOf, M_wayBack, M_slack, M_isUsed, M_lifted, M_freed) 16 _ dX11_moved_16 h
theorem dX11_findFolds_0 : decode cX11_findFolds 0 = .ok (.aload_n 0, 1) := by decide +kernel
theorem dX11_findFolds_1 : decode cX11_findFolds 1 = .ok (.iconst 0, 1) := by decide +kernel
theorem dX11_findFolds_2 : decode cX11_findFolds 2 = .ok (.putfield 284, 3) := by decide +kernel
theorem dX11_findFolds_5 : decode cX11_findFolds 5 = .ok (.iconst 1, 1) := by decide +kernel
theorem dX11_findFolds_6 : decode cX11_findFolds 6 = .ok (.istore_n 1, 1) := by decide +kernel
theorem dX11_findFolds_7 : decode cX11_findFolds 7 = .ok (.iload_n 1, 1) := by decide +kernel
theorem dX11_findFolds_8 : decode cX11_findFolds 8 = .ok (.iconst 1, 1) := by decide +kernel
theorem dX11_findFolds_9 : decode cX11_findFolds 9 = .ok (.aload_n 0, 1) := by decide +kernel
theorem dX11_findFolds_10 : decode cX11_findFolds 10 = .ok (.invokevirtual 86, 3) := by decide +kernel
theorem dX11_findFolds_13 : decode cX11_findFolds 13 = .ok (.ishl, 1) := by decide +kernel
theorem dX11_findFolds_14 : decode cX11_findFolds 14 = .ok (.if_icmp .ge 86, 3) := by decide +kernel
theorem dX11_findFolds_17 : decode cX11_findFolds 17 = .ok (.aload_n 0, 1) := by decide +kernel
theorem dX11_findFolds_18 : decode cX11_findFolds 18 = .ok (.iload_n 1, 1) := by decide +kernel
theorem dX11_findFolds_19 : decode cX11_findFolds 19 = .ok (.invokevirtual 237, 3) := by decide +kernel
theorem dX11_findFolds_22 : decode cX11_findFolds 22 = .ok (.ifCond .eq 72, 3) := by decide +kernel
theorem dX11_findFolds_25 : decode cX11_findFolds 25 = .ok (.aload_n 0, 1) := by decide +kernel
theorem dX11_findFolds_26 : decode cX11_findFolds 26 = .ok (.getfield 35, 3) := by decide +kernel
theorem dX11_findFolds_29 : decode cX11_findFolds 29 = .ok (.aload_n 0, 1) := by decide +kernel
theorem dX11_findFolds_30 : decode cX11_findFolds 30 = .ok (.getfield 284, 3) := by decide +kernel
theorem dX11_findFolds_33 : decode cX11_findFolds 33 = .ok (.iload_n 1, 1) := by decide +kernel
theorem dX11_findFolds_34 : decode cX11_findFolds 34 = .ok (.iastore, 1) := by decide +kernel
theorem dX11_findFolds_35 : decode cX11_findFolds 35 = .ok (.aload_n 0, 1) := by decide +kernel
theorem dX11_findFolds_36 : decode cX11_findFolds 36 = .ok (.getfield 38, 3) := by decide +kernel
theorem dX11_findFolds_39 : decode cX11_findFolds 39 = .ok (.aload_n 0, 1) := by decide +kernel
theorem dX11_findFolds_40 : decode cX11_findFolds 40 = .ok (.getfield 284, 3) := by decide +kernel
theorem dX11_findFolds_43 : decode cX11_findFolds 43 = .ok (.aload_n 0, 1) := by decide +kernel
theorem dX11_findFolds_44 : decode cX11_findFolds 44 = .ok (.iload_n 1, 1) := by decide +kernel
theorem dX11_findFolds_45 : decode cX11_findFolds 45 = .ok (.invokevirtual 240, 3) := by decide +kernel
theorem dX11_findFolds_48 : decode cX11_findFolds 48 = .ok (.lastore, 1) := by decide +kernel
theorem dX11_findFolds_49 : decode cX11_findFolds 49 = .ok (.aload_n 0, 1) := by decide +kernel
theorem dX11_findFolds_50 : decode cX11_findFolds 50 = .ok (.getfield 42, 3) := by decide +kernel
theorem dX11_findFolds_53 : decode cX11_findFolds 53 = .ok (.aload_n 0, 1) := by decide +kernel
theorem dX11_findFolds_54 : decode cX11_findFolds 54 = .ok (.getfield 284, 3) := by decide +kernel
theorem dX11_findFolds_57 : decode cX11_findFolds 57 = .ok (.aload_n 0, 1) := by decide +kernel
theorem dX11_findFolds_58 : decode cX11_findFolds 58 = .ok (.getfield 38, 3) := by decide +kernel
theorem dX11_findFolds_61 : decode cX11_findFolds 61 = .ok (.aload_n 0, 1) := by decide +kernel
theorem dX11_findFolds_62 : decode cX11_findFolds 62 = .ok (.getfield 284, 3) := by decide +kernel
theorem dX11_findFolds_65 : decode cX11_findFolds 65 = .ok (.laload, 1) := by decide +kernel
theorem dX11_findFolds_66 : decode cX11_findFolds 66 = .ok (.invokestatic 244, 3) := by decide +kernel
theorem dX11_findFolds_69 : decode cX11_findFolds 69 = .ok (.iastore, 1) := by decide +kernel
theorem dX11_findFolds_70 : decode cX11_findFolds 70 = .ok (.aload_n 0, 1) := by decide +kernel
theorem dX11_findFolds_71 : decode cX11_findFolds 71 = .ok (.getfield 45, 3) := by decide +kernel
theorem dX11_findFolds_74 : decode cX11_findFolds 74 = .ok (.aload_n 0, 1) := by decide +kernel
theorem dX11_findFolds_75 : decode cX11_findFolds 75 = .ok (.getfield 284, 3) := by decide +kernel
theorem dX11_findFolds_78 : decode cX11_findFolds 78 = .ok (.aload_n 0, 1) := by decide +kernel
theorem dX11_findFolds_79 : decode cX11_findFolds 79 = .ok (.iload_n 1, 1) := by decide +kernel
theorem dX11_findFolds_80 : decode cX11_findFolds 80 = .ok (.invokevirtual 248, 3) := by decide +kernel
theorem dX11_findFolds_83 : decode cX11_findFolds 83 = .ok (.iastore, 1) := by decide +kernel
theorem dX11_findFolds_84 : decode cX11_findFolds 84 = .ok (.aload_n 0, 1) := by decide +kernel
theorem dX11_findFolds_85 : decode cX11_findFolds 85 = .ok (.dup, 1) := by decide +kernel
theorem dX11_findFolds_86 : decode cX11_findFolds 86 = .ok (.getfield 284, 3) := by decide +kernel
theorem dX11_findFolds_89 : decode cX11_findFolds 89 = .ok (.iconst 1, 1) := by decide +kernel
theorem dX11_findFolds_90 : decode cX11_findFolds 90 = .ok (.iadd, 1) := by decide +kernel
theorem dX11_findFolds_91 : decode cX11_findFolds 91 = .ok (.putfield 284, 3) := by decide +kernel
theorem dX11_findFolds_94 : decode cX11_findFolds 94 = .ok (.iinc 1 1, 3) := by decide +kernel
theorem dX11_findFolds_97 : decode cX11_findFolds 97 = .ok (.goto (-90), 3) := by decide +kernel
theorem dX11_findFolds_100 : decode cX11_findFolds 100 = .ok (.return_, 1) := by decide +kernel
abbrev rm_X11_findFolds : Room := { frames := 4, cells := 0, slots := 0, locals := 94 }
theorem hd_X11_findFolds : yX11_findFolds.cls ≠ "java/lang/invoke/MethodHandle" ∧ yX11_findFolds.cls ≠ "java/lang/invoke/VarHandle" ∧ (parseMethodDescriptor yX11_findFolds.desc).map (fun d => d.parameters.length) = some 0 := by decide +kernel
def bk_X11_findFolds_94 (Q : (Int32 × (Nat → Int32) × (Nat → Int64) × (Nat → Int32) × (Nat → Int32)) → Prop) (B7 : Int32 → (Nat → Int32) → (Nat → Int64) → (Nat → Int32) → (Nat → Int32) → Int32 → Prop) (x1 : Int32) (M_folds : Int32) (M_foldSet : Nat → Int32) (M_foldEdges : Nat → Int64) (M_foldNeeds : Nat → Int32) (M_foldYards : Nat → Int32) : Prop :=
∀ y5 : Int32, y5 = (x1 + 1) →
B7 M_folds M_foldSet M_foldEdges M_foldNeeds M_foldYards y5
def bd_X11_findFolds_7 (Q : (Int32 × (Nat → Int32) × (Nat → Int64) × (Nat → Int32) × (Nat → Int32)) → Prop) (B7 : Int32 → (Nat → Int32) → (Nat → Int64) → (Nat → Int32) → (Nat → Int32) → Int32 → Prop) (M_wide : Int32) (M_high : Int32) (M_hedges : Int64) (M_square : Nat → Int32) (M_folds : Int32) (M_foldSet : Nat → Int32) (M_foldEdges : Nat → Int64) (M_foldNeeds : Nat → Int32) (M_foldYards : Nat → Int32) (x1 : Int32) : Prop :=
wp_X11_squares M_wide M_high (fun (r1 : Int32) => (((1 <<< (r1 &&& 31)) ≤ x1 → Q (M_folds, M_foldSet, M_foldEdges, M_foldNeeds, M_foldYards)) ∧
(¬ (1 <<< (r1 &&& 31)) ≤ x1 → wp_X11_isFold x1 M_wide M_high M_square (fun (r3 : Int32) => ((r3 = 0 → bk_X11_findFolds_94 Q B7 x1 M_folds M_foldSet M_foldEdges M_foldNeeds M_foldYards) ∧
(¬ r3 = 0 → vp_in M_folds 280 ∧ (∀ f6 : Nat → Int32, f6 = (upd M_foldSet M_folds.toNatClampNeg x1) →
wp_X11_edgesOf x1 M_wide M_high M_hedges M_square (fun (r7 : Int64) => vp_in M_folds 280 ∧ (∀ f8 : Nat → Int64, f8 = (vp_updL M_foldEdges M_folds.toNatClampNeg r7) →
vp_in M_folds 280 ∧ wp_X11_bits (f8 M_folds.toNatClampNeg) (fun (r9 : Int32) => vp_in M_folds 280 ∧ (∀ f10 : Nat → Int32, f10 = (upd M_foldNeeds M_folds.toNatClampNeg r9) →
wp_X11_yardsOf x1 M_wide M_high M_square (fun (r11 : Int32) => vp_in M_folds 280 ∧ (∀ f12 : Nat → Int32, f12 = (upd M_foldYards M_folds.toNatClampNeg r11) →
∀ y13 : Int32, y13 = (M_folds + 1) →
bk_X11_findFolds_94 Q B7 x1 y13 f6 f8 f10 f12)))))))))))))
def lp_X11_findFolds_7 (Q : (Int32 × (Nat → Int32) × (Nat → Int64) × (Nat → Int32) × (Nat → Int32)) → Prop) (M_wide : Int32) (M_high : Int32) (M_hedges : Int64) (M_square : Nat → Int32) (M_folds : Int32) (M_foldSet : Nat → Int32) (M_foldEdges : Nat → Int64) (M_foldNeeds : Nat → Int32) (M_foldYards : Nat → Int32) (x1 : Int32) : Prop :=
∃ I : Nat → Int32 → (Nat → Int32) → (Nat → Int64) → (Nat → Int32) → (Nat → Int32) → Int32 → Prop, (∃ n, I n M_folds M_foldSet M_foldEdges M_foldNeeds M_foldYards x1) ∧ ∀ n M_folds M_foldSet M_foldEdges M_foldNeeds M_foldYards x1, I n M_folds M_foldSet M_foldEdges M_foldNeeds M_foldYards x1 → bd_X11_findFolds_7 Q  (fun M_folds' M_foldSet' M_foldEdges' M_foldNeeds' M_foldYards' x1' => ∃ n', n' < n ∧ I n' M_folds' M_foldSet' M_foldEdges' M_foldNeeds' M_foldYards' x1') M_wide M_high M_hedges M_square M_folds M_foldSet M_foldEdges M_foldNeeds M_foldYards x1
def wp_X11_findFolds (M_wide : Int32) (M_high : Int32) (M_hedges : Int64) (M_square : Nat → Int32) (M_foldSet : Nat → Int32) (M_foldEdges : Nat → Int64) (M_foldNeeds : Nat → Int32) (M_foldYards : Nat → Int32) (Q : (Int32 × (Nat → Int32) × (Nat → Int64) × (Nat → Int32) × (Nat → Int32)) → Prop) : Prop :=
lp_X11_findFolds_7 Q M_wide M_high M_hedges M_square 0 M_foldSet M_foldEdges M_foldNeeds M_foldYards 1
set_option maxHeartbeats 4000000 in
set_option maxRecDepth 100000 in
theorem J_X11_findFolds_94 {x : CX} {D : DG} {cyI cyJ cyZ : ClassId} {a_M a_M_square a_M_want a_M_text a_M_read a_M_row a_M_foldSet a_M_foldEdges a_M_foldNeeds a_M_foldYards a_M_least a_M_ways a_M_price a_M_rowBy a_M_columnBy a_M_rowOf a_M_wayBack a_M_slack a_M_isUsed a_M_lifted a_M_freed a_M_path : Nat} {M_wide : Int32} {M_high : Int32} {M_hedges : Int64} {M_hurdles : Int32} {M_wants : Int32} {M_rest : Int32} {M_frozen : Int32} {M_bytes : Int32} {M_position : Int32} {M_tokenAt : Int32} {M_token : Int64} {M_digits : Int32} {M_number : Int32} {M_faultAt : Int32} {M_readMany : Int32} {M_readWide : Int32} {M_readHigh : Int32} {M_nights : Int32} {M_why : Int32} {M_folds : Int32} {M_square : Nat → Int32} {M_want : Nat → Int32} {M_text : Nat → Int32} {M_read : Nat → Int32} {M_row : Nat → Int32} {M_foldSet : Nat → Int32} {M_foldEdges : Nat → Int64} {M_foldNeeds : Nat → Int32} {M_foldYards : Nat → Int32} {M_least : Nat → Int32} {M_ways : Nat → Int32} {M_price : Nat → Int32} {M_rowBy : Nat → Int32} {M_columnBy : Nat → Int32} {M_rowOf : Nat → Int32} {M_wayBack : Nat → Int32} {M_slack : Nat → Int32} {M_isUsed : Nat → Int32} {M_lifted : Nat → Int32} {M_freed : Nat → Int32} {M_path : Nat → Int32} {x1 : Int32} {Q : (Int32 × (Nat → Int32) × (Nat → Int64) × (Nat → Int32) × (Nat → Int32)) → Prop} {B7 : Int32 → (Nat → Int32) → (Nat → Int64) → (Nat → Int32) → (Nat → Int32) → Int32 → Prop} (cx : Cx x cX11_findFolds 2 RX11 rm_X11_findFolds D [(cyI, .int), (cyJ, .long), (cyZ, .boolean)]) (hR : ∀ (u : Int32 × (Nat → Int32) × (Nat → Int64) × (Nat → Int32) × (Nat → Int32)) (pc : Nat) (lv : List (Nat × Value)), decode cX11_findFolds pc = .ok (.return_, 1) → Q u → J x 0 0 2 (W_Model cyI cyJ cyZ a_M a_M_square a_M_want a_M_text a_M_read a_M_row a_M_foldSet a_M_foldEdges a_M_foldNeeds a_M_foldYards a_M_least a_M_ways a_M_price a_M_rowBy a_M_columnBy a_M_rowOf a_M_wayBack a_M_slack a_M_isUsed a_M_lifted a_M_freed a_M_path M_wide M_high M_hedges M_hurdles M_wants M_rest M_frozen M_bytes M_position M_tokenAt M_token M_digits M_number M_faultAt M_readMany M_readWide M_readHigh M_nights M_why u.1 M_square M_want M_text M_read M_row u.2.1 u.2.2.1 u.2.2.2.1 u.2.2.2.2 M_least M_ways M_price M_rowBy M_columnBy M_rowOf M_wayBack M_slack M_isUsed M_lifted M_freed M_path) lv pc []) (hB7 : ∀ (M_folds : Int32) (M_foldSet : Nat → Int32) (M_foldEdges : Nat → Int64) (M_foldNeeds : Nat → Int32) (M_foldYards : Nat → Int32) (x1 : Int32), B7 M_folds M_foldSet M_foldEdges M_foldNeeds M_foldYards x1 → J x 0 0 2 (W_Model cyI cyJ cyZ a_M a_M_square a_M_want a_M_text a_M_read a_M_row a_M_foldSet a_M_foldEdges a_M_foldNeeds a_M_foldYards a_M_least a_M_ways a_M_price a_M_rowBy a_M_columnBy a_M_rowOf a_M_wayBack a_M_slack a_M_isUsed a_M_lifted a_M_freed a_M_path M_wide M_high M_hedges M_hurdles M_wants M_rest M_frozen M_bytes M_position M_tokenAt M_token M_digits M_number M_faultAt M_readMany M_readWide M_readHigh M_nights M_why M_folds M_square M_want M_text M_read M_row M_foldSet M_foldEdges M_foldNeeds M_foldYards M_least M_ways M_price M_rowBy M_columnBy M_rowOf M_wayBack M_slack M_isUsed M_lifted M_freed M_path) [(0, .ref a_M), (1, .int x1)] 7 []) (h : bk_X11_findFolds_94 Q B7 x1 M_folds M_foldSet M_foldEdges M_foldNeeds M_foldYards) :
    J x 0 0 2 (W_Model cyI cyJ cyZ a_M a_M_square a_M_want a_M_text a_M_read a_M_row a_M_foldSet a_M_foldEdges a_M_foldNeeds a_M_foldYards a_M_least a_M_ways a_M_price a_M_rowBy a_M_columnBy a_M_rowOf a_M_wayBack a_M_slack a_M_isUsed a_M_lifted a_M_freed a_M_path M_wide M_high M_hedges M_hurdles M_wants M_rest M_frozen M_bytes M_position M_tokenAt M_token M_digits M_number M_faultAt M_readMany M_readWide M_readHigh M_nights M_why M_folds M_square M_want M_text M_read M_row M_foldSet M_foldEdges M_foldNeeds M_foldYards M_least M_ways M_price M_rowBy M_columnBy M_rowOf M_wayBack M_slack M_isUsed M_lifted M_freed M_path) [(0, .ref a_M), (1, .int x1)] 94 [] := by
  unfold bk_X11_findFolds_94 at h
  obtain ⟨y5, ey5⟩ : ∃ z : Int32, z = x1 + 1 := ⟨_, rfl⟩
  have h := h y5 ey5
  refine j_iinc cx 1 rfl (cst := 1) (by decide) ey5 [(1, .int y5), (0, .ref a_M)] (by decide) rfl dX11_findFolds_94 (pn := 97) rfl ?_
  refine j_goto cx 7 dX11_findFolds_97 rfl ?_
  refine j_sub [1, 0] [(0, .ref a_M), (1, .int y5)] rfl ?_
  exact hB7 _ _ _ _ _ _ h
set_option maxHeartbeats 4000000 in
set_option maxRecDepth 100000 in
theorem B_X11_findFolds_7 {x : CX} {D : DG} {cyI cyJ cyZ : ClassId} {a_M a_M_square a_M_want a_M_text a_M_read a_M_row a_M_foldSet a_M_foldEdges a_M_foldNeeds a_M_foldYards a_M_least a_M_ways a_M_price a_M_rowBy a_M_columnBy a_M_rowOf a_M_wayBack a_M_slack a_M_isUsed a_M_lifted a_M_freed a_M_path : Nat} {M_wide : Int32} {M_high : Int32} {M_hedges : Int64} {M_hurdles : Int32} {M_wants : Int32} {M_rest : Int32} {M_frozen : Int32} {M_bytes : Int32} {M_position : Int32} {M_tokenAt : Int32} {M_token : Int64} {M_digits : Int32} {M_number : Int32} {M_faultAt : Int32} {M_readMany : Int32} {M_readWide : Int32} {M_readHigh : Int32} {M_nights : Int32} {M_why : Int32} {M_folds : Int32} {M_square : Nat → Int32} {M_want : Nat → Int32} {M_text : Nat → Int32} {M_read : Nat → Int32} {M_row : Nat → Int32} {M_foldSet : Nat → Int32} {M_foldEdges : Nat → Int64} {M_foldNeeds : Nat → Int32} {M_foldYards : Nat → Int32} {M_least : Nat → Int32} {M_ways : Nat → Int32} {M_price : Nat → Int32} {M_rowBy : Nat → Int32} {M_columnBy : Nat → Int32} {M_rowOf : Nat → Int32} {M_wayBack : Nat → Int32} {M_slack : Nat → Int32} {M_isUsed : Nat → Int32} {M_lifted : Nat → Int32} {M_freed : Nat → Int32} {M_path : Nat → Int32} {x1 : Int32} {Q : (Int32 × (Nat → Int32) × (Nat → Int64) × (Nat → Int32) × (Nat → Int32)) → Prop} {B7 : Int32 → (Nat → Int32) → (Nat → Int64) → (Nat → Int32) → (Nat → Int32) → Int32 → Prop} (cx : Cx x cX11_findFolds 2 RX11 rm_X11_findFolds D [(cyI, .int), (cyJ, .long), (cyZ, .boolean)]) (hR : ∀ (u : Int32 × (Nat → Int32) × (Nat → Int64) × (Nat → Int32) × (Nat → Int32)) (pc : Nat) (lv : List (Nat × Value)), decode cX11_findFolds pc = .ok (.return_, 1) → Q u → J x 0 0 2 (W_Model cyI cyJ cyZ a_M a_M_square a_M_want a_M_text a_M_read a_M_row a_M_foldSet a_M_foldEdges a_M_foldNeeds a_M_foldYards a_M_least a_M_ways a_M_price a_M_rowBy a_M_columnBy a_M_rowOf a_M_wayBack a_M_slack a_M_isUsed a_M_lifted a_M_freed a_M_path M_wide M_high M_hedges M_hurdles M_wants M_rest M_frozen M_bytes M_position M_tokenAt M_token M_digits M_number M_faultAt M_readMany M_readWide M_readHigh M_nights M_why u.1 M_square M_want M_text M_read M_row u.2.1 u.2.2.1 u.2.2.2.1 u.2.2.2.2 M_least M_ways M_price M_rowBy M_columnBy M_rowOf M_wayBack M_slack M_isUsed M_lifted M_freed M_path) lv pc []) (hB7 : ∀ (M_folds : Int32) (M_foldSet : Nat → Int32) (M_foldEdges : Nat → Int64) (M_foldNeeds : Nat → Int32) (M_foldYards : Nat → Int32) (x1 : Int32), B7 M_folds M_foldSet M_foldEdges M_foldNeeds M_foldYards x1 → J x 0 0 2 (W_Model cyI cyJ cyZ a_M a_M_square a_M_want a_M_text a_M_read a_M_row a_M_foldSet a_M_foldEdges a_M_foldNeeds a_M_foldYards a_M_least a_M_ways a_M_price a_M_rowBy a_M_columnBy a_M_rowOf a_M_wayBack a_M_slack a_M_isUsed a_M_lifted a_M_freed a_M_path M_wide M_high M_hedges M_hurdles M_wants M_rest M_frozen M_bytes M_position M_tokenAt M_token M_digits M_number M_faultAt M_readMany M_readWide M_readHigh M_nights M_why M_folds M_square M_want M_text M_read M_row M_foldSet M_foldEdges M_foldNeeds M_foldYards M_least M_ways M_price M_rowBy M_columnBy M_rowOf M_wayBack M_slack M_isUsed M_lifted M_freed M_path) [(0, .ref a_M), (1, .int x1)] 7 []) (h : bd_X11_findFolds_7 Q B7 M_wide M_high M_hedges M_square M_folds M_foldSet M_foldEdges M_foldNeeds M_foldYards x1) :
    J x 0 0 2 (W_Model cyI cyJ cyZ a_M a_M_square a_M_want a_M_text a_M_read a_M_row a_M_foldSet a_M_foldEdges a_M_foldNeeds a_M_foldYards a_M_least a_M_ways a_M_price a_M_rowBy a_M_columnBy a_M_rowOf a_M_wayBack a_M_slack a_M_isUsed a_M_lifted a_M_freed a_M_path M_wide M_high M_hedges M_hurdles M_wants M_rest M_frozen M_bytes M_position M_tokenAt M_token M_digits M_number M_faultAt M_readMany M_readWide M_readHigh M_nights M_why M_folds M_square M_want M_text M_read M_row M_foldSet M_foldEdges M_foldNeeds M_foldYards M_least M_ways M_price M_rowBy M_columnBy M_rowOf M_wayBack M_slack M_isUsed M_lifted M_freed M_path) [(0, .ref a_M), (1, .int x1)] 7 [] := by
  unfold bd_X11_findFolds_7 at h
  refine j_iload_n cx 1 rfl rfl dX11_findFolds_7 (pn := 8) rfl ?_
  refine j_iconst cx (v := 1) (by decide) dX11_findFolds_8 (pn := 9) rfl ?_
  refine j_aload_n cx 0 rfl rfl dX11_findFolds_9 (pn := 10) rfl ?_
  refine j_callvI0 cx q_inst_X11_squares q_sel_X11_squares (b := a_M) (As := []) (rest := [.int 1, .int x1]) (c_X11_squares h) ⟨q_code_X11_squares, q_ml_X11_86, q_init_X11, hd_X11_squares, ⟨Nat.le_of_ble_eq_true rfl, Nat.le_of_ble_eq_true rfl⟩, Nat.le_of_ble_eq_true rfl, Nat.le_of_ble_eq_true rfl⟩ (q0 := 0) rfl rfl rfl rfl (Nat.le_of_ble_eq_true rfl) dX11_findFolds_10 (pn := 13) rfl (fun r1 _ h => ?_)
  show J x 0 0 2 (W_Model cyI cyJ cyZ a_M a_M_square a_M_want a_M_text a_M_read a_M_row a_M_foldSet a_M_foldEdges a_M_foldNeeds a_M_foldYards a_M_least a_M_ways a_M_price a_M_rowBy a_M_columnBy a_M_rowOf a_M_wayBack a_M_slack a_M_isUsed a_M_lifted a_M_freed a_M_path M_wide M_high M_hedges M_hurdles M_wants M_rest M_frozen M_bytes M_position M_tokenAt M_token M_digits M_number M_faultAt M_readMany M_readWide M_readHigh M_nights M_why M_folds M_square M_want M_text M_read M_row M_foldSet M_foldEdges M_foldNeeds M_foldYards M_least M_ways M_price M_rowBy M_columnBy M_rowOf M_wayBack M_slack M_isUsed M_lifted M_freed M_path) [(0, .ref a_M), (1, .int x1)] 13 [.int r1, .int 1, .int x1]
  refine j_ishl cx dX11_findFolds_13 (pn := 14) rfl ?_
  refine j_icmp_ge cx 100 dX11_findFolds_14 (pn := 17) rfl rfl (fun c2 => ?_) (fun c2 => ?_)
  · have h := h.1 c2
    exact hR (M_folds, M_foldSet, M_foldEdges, M_foldNeeds, M_foldYards) 100 _ dX11_findFolds_100 h
  · have h := h.2 c2
    refine j_aload_n cx 0 rfl rfl dX11_findFolds_17 (pn := 18) rfl ?_
    refine j_iload_n cx 1 rfl rfl dX11_findFolds_18 (pn := 19) rfl ?_
    refine j_callvI0 cx q_inst_X11_isFold q_sel_X11_isFold (b := a_M) (As := [.int x1]) (rest := []) (c_X11_isFold h) ⟨q_code_X11_isFold, q_ml_X11_237, q_init_X11, hd_X11_isFold, ⟨Nat.le_of_ble_eq_true rfl, Nat.le_of_ble_eq_true rfl⟩, Nat.le_of_ble_eq_true rfl, Nat.le_of_ble_eq_true rfl⟩ (q0 := 0) rfl rfl rfl rfl (Nat.le_of_ble_eq_true rfl) dX11_findFolds_19 (pn := 22) rfl (fun r3 _ h => ?_)
    show J x 0 0 2 (W_Model cyI cyJ cyZ a_M a_M_square a_M_want a_M_text a_M_read a_M_row a_M_foldSet a_M_foldEdges a_M_foldNeeds a_M_foldYards a_M_least a_M_ways a_M_price a_M_rowBy a_M_columnBy a_M_rowOf a_M_wayBack a_M_slack a_M_isUsed a_M_lifted a_M_freed a_M_path M_wide M_high M_hedges M_hurdles M_wants M_rest M_frozen M_bytes M_position M_tokenAt M_token M_digits M_number M_faultAt M_readMany M_readWide M_readHigh M_nights M_why M_folds M_square M_want M_text M_read M_row M_foldSet M_foldEdges M_foldNeeds M_foldYards M_least M_ways M_price M_rowBy M_columnBy M_rowOf M_wayBack M_slack M_isUsed M_lifted M_freed M_path) [(0, .ref a_M), (1, .int x1)] 22 [.int r3]
    refine j_if_eq cx 94 dX11_findFolds_22 (pn := 25) rfl rfl (fun c4 => ?_) (fun c4 => ?_)
    · have h := h.1 c4
      exact J_X11_findFolds_94 cx hR hB7 h
    · have h := h.2 c4
      refine j_aload_n cx 0 rfl rfl dX11_findFolds_25 (pn := 26) rfl ?_
      refine j_get cx inGX11 0 rfl rfl 25 (by decide) q_fl_X11_35 rfl rfl dX11_findFolds_26 (pn := 29) rfl ?_
      refine j_aload_n cx 0 rfl rfl dX11_findFolds_29 (pn := 30) rfl ?_
      refine j_get cx inGX11 0 rfl rfl 24 (by decide) q_fl_X11_284 rfl rfl dX11_findFolds_30 (pn := 33) rfl ?_
      refine j_iload_n cx 1 rfl rfl dX11_findFolds_33 (pn := 34) rfl ?_
      have hin := h.1
      obtain ⟨f6, ef6⟩ : ∃ z, z = upd M_foldSet M_folds.toNatClampNeg x1 := ⟨_, rfl⟩
      have h := h.2 f6 ef6
      refine j_iast cx 6 0 rfl rfl hin (W_Model cyI cyJ cyZ a_M a_M_square a_M_want a_M_text a_M_read a_M_row a_M_foldSet a_M_foldEdges a_M_foldNeeds a_M_foldYards a_M_least a_M_ways a_M_price a_M_rowBy a_M_columnBy a_M_rowOf a_M_wayBack a_M_slack a_M_isUsed a_M_lifted a_M_freed a_M_path M_wide M_high M_hedges M_hurdles M_wants M_rest M_frozen M_bytes M_position M_tokenAt M_token M_digits M_number M_faultAt M_readMany M_readWide M_readHigh M_nights M_why M_folds M_square M_want M_text M_read M_row f6 M_foldEdges M_foldNeeds M_foldYards M_least M_ways M_price M_rowBy M_columnBy M_rowOf M_wayBack M_slack M_isUsed M_lifted M_freed M_path) (by subst ef6; rfl) dX11_findFolds_34 (pn := 35) rfl ?_
      refine j_aload_n cx 0 rfl rfl dX11_findFolds_35 (pn := 36) rfl ?_
      refine j_get cx inGX11 0 rfl rfl 26 (by decide) q_fl_X11_38 rfl rfl dX11_findFolds_36 (pn := 39) rfl ?_
      refine j_aload_n cx 0 rfl rfl dX11_findFolds_39 (pn := 40) rfl ?_
      refine j_get cx inGX11 0 rfl rfl 24 (by decide) q_fl_X11_284 rfl rfl dX11_findFolds_40 (pn := 43) rfl ?_
      refine j_aload_n cx 0 rfl rfl dX11_findFolds_43 (pn := 44) rfl ?_
      refine j_iload_n cx 1 rfl rfl dX11_findFolds_44 (pn := 45) rfl ?_
      refine j_callvL0 cx q_inst_X11_edgesOf q_sel_X11_edgesOf (b := a_M) (As := [.int x1]) (rest := [.int M_folds, .ref a_M_foldEdges]) (c_X11_edgesOf h) ⟨q_code_X11_edgesOf, q_ml_X11_240, q_init_X11, hd_X11_edgesOf, ⟨Nat.le_of_ble_eq_true rfl, Nat.le_of_ble_eq_true rfl⟩, Nat.le_of_ble_eq_true rfl, Nat.le_of_ble_eq_true rfl⟩ (q0 := 0) rfl rfl rfl rfl (Nat.le_of_ble_eq_true rfl) dX11_findFolds_45 (pn := 48) rfl (fun r7 _ h => ?_)
      show J x 0 0 2 (W_Model cyI cyJ cyZ a_M a_M_square a_M_want a_M_text a_M_read a_M_row a_M_foldSet a_M_foldEdges a_M_foldNeeds a_M_foldYards a_M_least a_M_ways a_M_price a_M_rowBy a_M_columnBy a_M_rowOf a_M_wayBack a_M_slack a_M_isUsed a_M_lifted a_M_freed a_M_path M_wide M_high M_hedges M_hurdles M_wants M_rest M_frozen M_bytes M_position M_tokenAt M_token M_digits M_number M_faultAt M_readMany M_readWide M_readHigh M_nights M_why M_folds M_square M_want M_text M_read M_row f6 M_foldEdges M_foldNeeds M_foldYards M_least M_ways M_price M_rowBy M_columnBy M_rowOf M_wayBack M_slack M_isUsed M_lifted M_freed M_path) [(0, .ref a_M), (1, .int x1)] 48 [.long r7, .int M_folds, .ref a_M_foldEdges]
      have hin := h.1
      obtain ⟨f8, ef8⟩ : ∃ z, z = vp_updL M_foldEdges M_folds.toNatClampNeg r7 := ⟨_, rfl⟩
      have h := h.2 f8 ef8
      refine j_last cx 7 1 rfl rfl hin (W_Model cyI cyJ cyZ a_M a_M_square a_M_want a_M_text a_M_read a_M_row a_M_foldSet a_M_foldEdges a_M_foldNeeds a_M_foldYards a_M_least a_M_ways a_M_price a_M_rowBy a_M_columnBy a_M_rowOf a_M_wayBack a_M_slack a_M_isUsed a_M_lifted a_M_freed a_M_path M_wide M_high M_hedges M_hurdles M_wants M_rest M_frozen M_bytes M_position M_tokenAt M_token M_digits M_number M_faultAt M_readMany M_readWide M_readHigh M_nights M_why M_folds M_square M_want M_text M_read M_row f6 f8 M_foldNeeds M_foldYards M_least M_ways M_price M_rowBy M_columnBy M_rowOf M_wayBack M_slack M_isUsed M_lifted M_freed M_path) (by subst ef8; rfl) dX11_findFolds_48 (pn := 49) rfl ?_
      refine j_aload_n cx 0 rfl rfl dX11_findFolds_49 (pn := 50) rfl ?_
      refine j_get cx inGX11 0 rfl rfl 27 (by decide) q_fl_X11_42 rfl rfl dX11_findFolds_50 (pn := 53) rfl ?_
      refine j_aload_n cx 0 rfl rfl dX11_findFolds_53 (pn := 54) rfl ?_
      refine j_get cx inGX11 0 rfl rfl 24 (by decide) q_fl_X11_284 rfl rfl dX11_findFolds_54 (pn := 57) rfl ?_
      refine j_aload_n cx 0 rfl rfl dX11_findFolds_57 (pn := 58) rfl ?_
      refine j_get cx inGX11 0 rfl rfl 26 (by decide) q_fl_X11_38 rfl rfl dX11_findFolds_58 (pn := 61) rfl ?_
      refine j_aload_n cx 0 rfl rfl dX11_findFolds_61 (pn := 62) rfl ?_
      refine j_get cx inGX11 0 rfl rfl 24 (by decide) q_fl_X11_284 rfl rfl dX11_findFolds_62 (pn := 65) rfl ?_
      refine j_lald cx 7 1 rfl rfl h.1 dX11_findFolds_65 (pn := 66) rfl ?_
      have h := h.2
      refine j_calleI cx q_stat_X11_bits (As := [.long (f8 M_folds.toNatClampNeg)]) (rest := [.int M_folds, .ref a_M_foldNeeds]) (c_X11_bits h) ⟨q_code_X11_bits, q_ml_X11_244, q_init_X11, hd_X11_bits, ⟨Nat.le_of_ble_eq_true rfl, Nat.le_of_ble_eq_true rfl⟩, Nat.le_of_ble_eq_true rfl, Nat.le_of_ble_eq_true rfl⟩ rfl rfl (Nat.le_of_ble_eq_true rfl) dX11_findFolds_66 (pn := 69) rfl (fun r9 h => ?_)
      show J x 0 0 2 (W_Model cyI cyJ cyZ a_M a_M_square a_M_want a_M_text a_M_read a_M_row a_M_foldSet a_M_foldEdges a_M_foldNeeds a_M_foldYards a_M_least a_M_ways a_M_price a_M_rowBy a_M_columnBy a_M_rowOf a_M_wayBack a_M_slack a_M_isUsed a_M_lifted a_M_freed a_M_path M_wide M_high M_hedges M_hurdles M_wants M_rest M_frozen M_bytes M_position M_tokenAt M_token M_digits M_number M_faultAt M_readMany M_readWide M_readHigh M_nights M_why M_folds M_square M_want M_text M_read M_row f6 f8 M_foldNeeds M_foldYards M_least M_ways M_price M_rowBy M_columnBy M_rowOf M_wayBack M_slack M_isUsed M_lifted M_freed M_path) [(0, .ref a_M), (1, .int x1)] 69 [.int r9, .int M_folds, .ref a_M_foldNeeds]
      have hin := h.1
      obtain ⟨f10, ef10⟩ : ∃ z, z = upd M_foldNeeds M_folds.toNatClampNeg r9 := ⟨_, rfl⟩
      have h := h.2 f10 ef10
      refine j_iast cx 8 0 rfl rfl hin (W_Model cyI cyJ cyZ a_M a_M_square a_M_want a_M_text a_M_read a_M_row a_M_foldSet a_M_foldEdges a_M_foldNeeds a_M_foldYards a_M_least a_M_ways a_M_price a_M_rowBy a_M_columnBy a_M_rowOf a_M_wayBack a_M_slack a_M_isUsed a_M_lifted a_M_freed a_M_path M_wide M_high M_hedges M_hurdles M_wants M_rest M_frozen M_bytes M_position M_tokenAt M_token M_digits M_number M_faultAt M_readMany M_readWide M_readHigh M_nights M_why M_folds M_square M_want M_text M_read M_row f6 f8 f10 M_foldYards M_least M_ways M_price M_rowBy M_columnBy M_rowOf M_wayBack M_slack M_isUsed M_lifted M_freed M_path) (by subst ef10; rfl) dX11_findFolds_69 (pn := 70) rfl ?_
      refine j_aload_n cx 0 rfl rfl dX11_findFolds_70 (pn := 71) rfl ?_
      refine j_get cx inGX11 0 rfl rfl 28 (by decide) q_fl_X11_45 rfl rfl dX11_findFolds_71 (pn := 74) rfl ?_
      refine j_aload_n cx 0 rfl rfl dX11_findFolds_74 (pn := 75) rfl ?_
      refine j_get cx inGX11 0 rfl rfl 24 (by decide) q_fl_X11_284 rfl rfl dX11_findFolds_75 (pn := 78) rfl ?_
      refine j_aload_n cx 0 rfl rfl dX11_findFolds_78 (pn := 79) rfl ?_
      refine j_iload_n cx 1 rfl rfl dX11_findFolds_79 (pn := 80) rfl ?_
      refine j_callvI0 cx q_inst_X11_yardsOf q_sel_X11_yardsOf (b := a_M) (As := [.int x1]) (rest := [.int M_folds, .ref a_M_foldYards]) (c_X11_yardsOf h) ⟨q_code_X11_yardsOf, q_ml_X11_248, q_init_X11, hd_X11_yardsOf, ⟨Nat.le_of_ble_eq_true rfl, Nat.le_of_ble_eq_true rfl⟩, Nat.le_of_ble_eq_true rfl, Nat.le_of_ble_eq_true rfl⟩ (q0 := 0) rfl rfl rfl rfl (Nat.le_of_ble_eq_true rfl) dX11_findFolds_80 (pn := 83) rfl (fun r11 _ h => ?_)
      show J x 0 0 2 (W_Model cyI cyJ cyZ a_M a_M_square a_M_want a_M_text a_M_read a_M_row a_M_foldSet a_M_foldEdges a_M_foldNeeds a_M_foldYards a_M_least a_M_ways a_M_price a_M_rowBy a_M_columnBy a_M_rowOf a_M_wayBack a_M_slack a_M_isUsed a_M_lifted a_M_freed a_M_path M_wide M_high M_hedges M_hurdles M_wants M_rest M_frozen M_bytes M_position M_tokenAt M_token M_digits M_number M_faultAt M_readMany M_readWide M_readHigh M_nights M_why M_folds M_square M_want M_text M_read M_row f6 f8 f10 M_foldYards M_least M_ways M_price M_rowBy M_columnBy M_rowOf M_wayBack M_slack M_isUsed M_lifted M_freed M_path) [(0, .ref a_M), (1, .int x1)] 83 [.int r11, .int M_folds, .ref a_M_foldYards]
      have hin := h.1
      obtain ⟨f12, ef12⟩ : ∃ z, z = upd M_foldYards M_folds.toNatClampNeg r11 := ⟨_, rfl⟩
      have h := h.2 f12 ef12
      refine j_iast cx 9 0 rfl rfl hin (W_Model cyI cyJ cyZ a_M a_M_square a_M_want a_M_text a_M_read a_M_row a_M_foldSet a_M_foldEdges a_M_foldNeeds a_M_foldYards a_M_least a_M_ways a_M_price a_M_rowBy a_M_columnBy a_M_rowOf a_M_wayBack a_M_slack a_M_isUsed a_M_lifted a_M_freed a_M_path M_wide M_high M_hedges M_hurdles M_wants M_rest M_frozen M_bytes M_position M_tokenAt M_token M_digits M_number M_faultAt M_readMany M_readWide M_readHigh M_nights M_why M_folds M_square M_want M_text M_read M_row f6 f8 f10 f12 M_least M_ways M_price M_rowBy M_columnBy M_rowOf M_wayBack M_slack M_isUsed M_lifted M_freed M_path) (by subst ef12; rfl) dX11_findFolds_83 (pn := 84) rfl ?_
      refine j_aload_n cx 0 rfl rfl dX11_findFolds_84 (pn := 85) rfl ?_
      refine j_dup cx rfl dX11_findFolds_85 (pn := 86) rfl ?_
      refine j_get cx inGX11 0 rfl rfl 24 (by decide) q_fl_X11_284 rfl rfl dX11_findFolds_86 (pn := 89) rfl ?_
      refine j_iconst cx (v := 1) (by decide) dX11_findFolds_89 (pn := 90) rfl ?_
      refine j_iadd cx dX11_findFolds_90 (pn := 91) rfl ?_
      refine j_topi (fun y13 ey13 => ?_)
      have h := h y13 ey13
      refine j_put cx tyX11 tyX11_ok nmX11 inGX11 0 rfl rfl 24 (by decide) q_fl_X11_284 rfl rfl rfl rfl rfl (Nat.le_of_ble_eq_true rfl) (W_Model cyI cyJ cyZ a_M a_M_square a_M_want a_M_text a_M_read a_M_row a_M_foldSet a_M_foldEdges a_M_foldNeeds a_M_foldYards a_M_least a_M_ways a_M_price a_M_rowBy a_M_columnBy a_M_rowOf a_M_wayBack a_M_slack a_M_isUsed a_M_lifted a_M_freed a_M_path M_wide M_high M_hedges M_hurdles M_wants M_rest M_frozen M_bytes M_position M_tokenAt M_token M_digits M_number M_faultAt M_readMany M_readWide M_readHigh M_nights M_why y13 M_square M_want M_text M_read M_row f6 f8 f10 f12 M_least M_ways M_price M_rowBy M_columnBy M_rowOf M_wayBack M_slack M_isUsed M_lifted M_freed M_path) rfl dX11_findFolds_91 (pn := 94) rfl ?_
      exact J_X11_findFolds_94 cx hR hB7 h
set_option maxHeartbeats 4000000 in
set_option maxRecDepth 100000 in
theorem J_X11_findFolds_7 {x : CX} {D : DG} {cyI cyJ cyZ : ClassId} {a_M a_M_square a_M_want a_M_text a_M_read a_M_row a_M_foldSet a_M_foldEdges a_M_foldNeeds a_M_foldYards a_M_least a_M_ways a_M_price a_M_rowBy a_M_columnBy a_M_rowOf a_M_wayBack a_M_slack a_M_isUsed a_M_lifted a_M_freed a_M_path : Nat} {M_wide : Int32} {M_high : Int32} {M_hedges : Int64} {M_hurdles : Int32} {M_wants : Int32} {M_rest : Int32} {M_frozen : Int32} {M_bytes : Int32} {M_position : Int32} {M_tokenAt : Int32} {M_token : Int64} {M_digits : Int32} {M_number : Int32} {M_faultAt : Int32} {M_readMany : Int32} {M_readWide : Int32} {M_readHigh : Int32} {M_nights : Int32} {M_why : Int32} {M_folds : Int32} {M_square : Nat → Int32} {M_want : Nat → Int32} {M_text : Nat → Int32} {M_read : Nat → Int32} {M_row : Nat → Int32} {M_foldSet : Nat → Int32} {M_foldEdges : Nat → Int64} {M_foldNeeds : Nat → Int32} {M_foldYards : Nat → Int32} {M_least : Nat → Int32} {M_ways : Nat → Int32} {M_price : Nat → Int32} {M_rowBy : Nat → Int32} {M_columnBy : Nat → Int32} {M_rowOf : Nat → Int32} {M_wayBack : Nat → Int32} {M_slack : Nat → Int32} {M_isUsed : Nat → Int32} {M_lifted : Nat → Int32} {M_freed : Nat → Int32} {M_path : Nat → Int32} {x1 : Int32} {Q : (Int32 × (Nat → Int32) × (Nat → Int64) × (Nat → Int32) × (Nat → Int32)) → Prop} (cx : Cx x cX11_findFolds 2 RX11 rm_X11_findFolds D [(cyI, .int), (cyJ, .long), (cyZ, .boolean)]) (hR : ∀ (u : Int32 × (Nat → Int32) × (Nat → Int64) × (Nat → Int32) × (Nat → Int32)) (pc : Nat) (lv : List (Nat × Value)), decode cX11_findFolds pc = .ok (.return_, 1) → Q u → J x 0 0 2 (W_Model cyI cyJ cyZ a_M a_M_square a_M_want a_M_text a_M_read a_M_row a_M_foldSet a_M_foldEdges a_M_foldNeeds a_M_foldYards a_M_least a_M_ways a_M_price a_M_rowBy a_M_columnBy a_M_rowOf a_M_wayBack a_M_slack a_M_isUsed a_M_lifted a_M_freed a_M_path M_wide M_high M_hedges M_hurdles M_wants M_rest M_frozen M_bytes M_position M_tokenAt M_token M_digits M_number M_faultAt M_readMany M_readWide M_readHigh M_nights M_why u.1 M_square M_want M_text M_read M_row u.2.1 u.2.2.1 u.2.2.2.1 u.2.2.2.2 M_least M_ways M_price M_rowBy M_columnBy M_rowOf M_wayBack M_slack M_isUsed M_lifted M_freed M_path) lv pc []) (h : lp_X11_findFolds_7 Q  M_wide M_high M_hedges M_square M_folds M_foldSet M_foldEdges M_foldNeeds M_foldYards x1) :
    J x 0 0 2 (W_Model cyI cyJ cyZ a_M a_M_square a_M_want a_M_text a_M_read a_M_row a_M_foldSet a_M_foldEdges a_M_foldNeeds a_M_foldYards a_M_least a_M_ways a_M_price a_M_rowBy a_M_columnBy a_M_rowOf a_M_wayBack a_M_slack a_M_isUsed a_M_lifted a_M_freed a_M_path M_wide M_high M_hedges M_hurdles M_wants M_rest M_frozen M_bytes M_position M_tokenAt M_token M_digits M_number M_faultAt M_readMany M_readWide M_readHigh M_nights M_why M_folds M_square M_want M_text M_read M_row M_foldSet M_foldEdges M_foldNeeds M_foldYards M_least M_ways M_price M_rowBy M_columnBy M_rowOf M_wayBack M_slack M_isUsed M_lifted M_freed M_path) [(0, .ref a_M), (1, .int x1)] 7 [] := by
  obtain ⟨I, ⟨n, h0⟩, hb⟩ := h
  revert M_folds M_foldSet M_foldEdges M_foldNeeds M_foldYards x1
  induction n using Nat.strongRecOn with
  | _ n ih =>
    intro M_folds M_foldSet M_foldEdges M_foldNeeds M_foldYards x1 h0
    exact B_X11_findFolds_7 cx hR (fun _ _ _ _ _ _ hz => by obtain ⟨n2, hlt, hI⟩ := hz; exact ih n2 hlt hI) (hb n M_folds M_foldSet M_foldEdges M_foldNeeds M_foldYards x1 h0)
set_option maxHeartbeats 4000000 in
set_option maxRecDepth 100000 in
theorem c_X11_findFolds {D : DG} {cyI cyJ cyZ : ClassId} {a_M a_M_square a_M_want a_M_text a_M_read a_M_row a_M_foldSet a_M_foldEdges a_M_foldNeeds a_M_foldYards a_M_least a_M_ways a_M_price a_M_rowBy a_M_columnBy a_M_rowOf a_M_wayBack a_M_slack a_M_isUsed a_M_lifted a_M_freed a_M_path : Nat} {M_wide : Int32} {M_high : Int32} {M_hedges : Int64} {M_hurdles : Int32} {M_wants : Int32} {M_rest : Int32} {M_frozen : Int32} {M_bytes : Int32} {M_position : Int32} {M_tokenAt : Int32} {M_token : Int64} {M_digits : Int32} {M_number : Int32} {M_faultAt : Int32} {M_readMany : Int32} {M_readWide : Int32} {M_readHigh : Int32} {M_nights : Int32} {M_why : Int32} {M_folds : Int32} {M_square : Nat → Int32} {M_want : Nat → Int32} {M_text : Nat → Int32} {M_read : Nat → Int32} {M_row : Nat → Int32} {M_foldSet : Nat → Int32} {M_foldEdges : Nat → Int64} {M_foldNeeds : Nat → Int32} {M_foldYards : Nat → Int32} {M_least : Nat → Int32} {M_ways : Nat → Int32} {M_price : Nat → Int32} {M_rowBy : Nat → Int32} {M_columnBy : Nat → Int32} {M_rowOf : Nat → Int32} {M_wayBack : Nat → Int32} {M_slack : Nat → Int32} {M_isUsed : Nat → Int32} {M_lifted : Nat → Int32} {M_freed : Nat → Int32} {M_path : Nat → Int32} {Q : (Int32 × (Nat → Int32) × (Nat → Int64) × (Nat → Int32) × (Nat → Int32)) → Prop} (h : wp_X11_findFolds M_wide M_high M_hedges M_square M_foldSet M_foldEdges M_foldNeeds M_foldYards Q) :
    MetV yX11_findFolds cX11_findFolds 2 (none) rm_X11_findFolds D [(cyI, .int), (cyJ, .long), (cyZ, .boolean)] [.ref a_M] (W_Model cyI cyJ cyZ a_M a_M_square a_M_want a_M_text a_M_read a_M_row a_M_foldSet a_M_foldEdges a_M_foldNeeds a_M_foldYards a_M_least a_M_ways a_M_price a_M_rowBy a_M_columnBy a_M_rowOf a_M_wayBack a_M_slack a_M_isUsed a_M_lifted a_M_freed a_M_path M_wide M_high M_hedges M_hurdles M_wants M_rest M_frozen M_bytes M_position M_tokenAt M_token M_digits M_number M_faultAt M_readMany M_readWide M_readHigh M_nights M_why M_folds M_square M_want M_text M_read M_row M_foldSet M_foldEdges M_foldNeeds M_foldYards M_least M_ways M_price M_rowBy M_columnBy M_rowOf M_wayBack M_slack M_isUsed M_lifted M_freed M_path) (fun u : Int32 × (Nat → Int32) × (Nat → Int64) × (Nat → Int32) × (Nat → Int32) => (W_Model cyI cyJ cyZ a_M a_M_square a_M_want a_M_text a_M_read a_M_row a_M_foldSet a_M_foldEdges a_M_foldNeeds a_M_foldYards a_M_least a_M_ways a_M_price a_M_rowBy a_M_columnBy a_M_rowOf a_M_wayBack a_M_slack a_M_isUsed a_M_lifted a_M_freed a_M_path M_wide M_high M_hedges M_hurdles M_wants M_rest M_frozen M_bytes M_position M_tokenAt M_token M_digits M_number M_faultAt M_readMany M_readWide M_readHigh M_nights M_why u.1 M_square M_want M_text M_read M_row u.2.1 u.2.2.1 u.2.2.2.1 u.2.2.2.2 M_least M_ways M_price M_rowBy M_columnBy M_rowOf M_wayBack M_slack M_isUsed M_lifted M_freed M_path)) (fun u => Q u) := by
  unfold wp_X11_findFolds at h
  refine metV_of (by decide) (Nat.le_of_ble_eq_true rfl) (fun x cx0 hR0 => ?_)
  have cx : Cx x cX11_findFolds 2 RX11 rm_X11_findFolds D [(cyI, .int), (cyJ, .long), (cyZ, .boolean)] := cx0
  have hR : ∀ (u : Int32 × (Nat → Int32) × (Nat → Int64) × (Nat → Int32) × (Nat → Int32)) (pc : Nat) (lv : List (Nat × Value)), decode cX11_findFolds pc = .ok (.return_, 1) → Q u → J x 0 0 2 (W_Model cyI cyJ cyZ a_M a_M_square a_M_want a_M_text a_M_read a_M_row a_M_foldSet a_M_foldEdges a_M_foldNeeds a_M_foldYards a_M_least a_M_ways a_M_price a_M_rowBy a_M_columnBy a_M_rowOf a_M_wayBack a_M_slack a_M_isUsed a_M_lifted a_M_freed a_M_path M_wide M_high M_hedges M_hurdles M_wants M_rest M_frozen M_bytes M_position M_tokenAt M_token M_digits M_number M_faultAt M_readMany M_readWide M_readHigh M_nights M_why u.1 M_square M_want M_text M_read M_row u.2.1 u.2.2.1 u.2.2.2.1 u.2.2.2.2 M_least M_ways M_price M_rowBy M_columnBy M_rowOf M_wayBack M_slack M_isUsed M_lifted M_freed M_path) lv pc [] := (fun u pc lv d hq => hR0 u pc lv d hq)
  show J x 0 0 2 (W_Model cyI cyJ cyZ a_M a_M_square a_M_want a_M_text a_M_read a_M_row a_M_foldSet a_M_foldEdges a_M_foldNeeds a_M_foldYards a_M_least a_M_ways a_M_price a_M_rowBy a_M_columnBy a_M_rowOf a_M_wayBack a_M_slack a_M_isUsed a_M_lifted a_M_freed a_M_path M_wide M_high M_hedges M_hurdles M_wants M_rest M_frozen M_bytes M_position M_tokenAt M_token M_digits M_number M_faultAt M_readMany M_readWide M_readHigh M_nights M_why M_folds M_square M_want M_text M_read M_row M_foldSet M_foldEdges M_foldNeeds M_foldYards M_least M_ways M_price M_rowBy M_columnBy M_rowOf M_wayBack M_slack M_isUsed M_lifted M_freed M_path) [(0, .ref a_M)] 0 []
  refine j_aload_n cx 0 rfl rfl dX11_findFolds_0 (pn := 1) rfl ?_
  refine j_iconst cx (v := 0) (by decide) dX11_findFolds_1 (pn := 2) rfl ?_
  refine j_put cx tyX11 tyX11_ok nmX11 inGX11 0 rfl rfl 24 (by decide) q_fl_X11_284 rfl rfl rfl rfl rfl (Nat.le_of_ble_eq_true rfl) (W_Model cyI cyJ cyZ a_M a_M_square a_M_want a_M_text a_M_read a_M_row a_M_foldSet a_M_foldEdges a_M_foldNeeds a_M_foldYards a_M_least a_M_ways a_M_price a_M_rowBy a_M_columnBy a_M_rowOf a_M_wayBack a_M_slack a_M_isUsed a_M_lifted a_M_freed a_M_path M_wide M_high M_hedges M_hurdles M_wants M_rest M_frozen M_bytes M_position M_tokenAt M_token M_digits M_number M_faultAt M_readMany M_readWide M_readHigh M_nights M_why 0 M_square M_want M_text M_read M_row M_foldSet M_foldEdges M_foldNeeds M_foldYards M_least M_ways M_price M_rowBy M_columnBy M_rowOf M_wayBack M_slack M_isUsed M_lifted M_freed M_path) rfl dX11_findFolds_2 (pn := 5) rfl ?_
  refine j_iconst cx (v := 1) (by decide) dX11_findFolds_5 (pn := 6) rfl ?_
  refine j_istore_n cx rfl [(1, .int 1), (0, .ref a_M)] (by decide) rfl dX11_findFolds_6 (pn := 7) rfl ?_
  refine j_sub [1, 0] [(0, .ref a_M), (1, .int 1)] rfl ?_
  exact J_X11_findFolds_7 cx hR h
