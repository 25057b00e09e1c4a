theorem dX6_kindOf_0 : decode cX6_kindOf 0 = .ok (.iload_n 0, 1) := by decide +kernel
theorem dX6_kindOf_1 : decode cX6_kindOf 1 = .ok (.bipush 97, 2) := by decide +kernel
theorem dX6_kindOf_3 : decode cX6_kindOf 3 = .ok (.if_icmp .lt 11, 3) := by decide +kernel
theorem dX6_kindOf_6 : decode cX6_kindOf 6 = .ok (.iload_n 0, 1) := by decide +kernel
theorem dX6_kindOf_7 : decode cX6_kindOf 7 = .ok (.bipush 122, 2) := by decide +kernel
theorem dX6_kindOf_9 : decode cX6_kindOf 9 = .ok (.if_icmp .gt 5, 3) := by decide +kernel
theorem dX6_kindOf_12 : decode cX6_kindOf 12 = .ok (.iconst 1, 1) := by decide +kernel
theorem dX6_kindOf_13 : decode cX6_kindOf 13 = .ok (.ireturn, 1) := by decide +kernel
theorem dX6_kindOf_14 : decode cX6_kindOf 14 = .ok (.iload_n 0, 1) := by decide +kernel
theorem dX6_kindOf_15 : decode cX6_kindOf 15 = .ok (.bipush 48, 2) := by decide +kernel
theorem dX6_kindOf_17 : decode cX6_kindOf 17 = .ok (.if_icmp .lt 13, 3) := by decide +kernel
theorem dX6_kindOf_20 : decode cX6_kindOf 20 = .ok (.iload_n 0, 1) := by decide +kernel
theorem dX6_kindOf_21 : decode cX6_kindOf 21 = .ok (.bipush 57, 2) := by decide +kernel
theorem dX6_kindOf_23 : decode cX6_kindOf 23 = .ok (.if_icmp .gt 7, 3) := by decide +kernel
theorem dX6_kindOf_26 : decode cX6_kindOf 26 = .ok (.iconst 2, 1) := by decide +kernel
theorem dX6_kindOf_27 : decode cX6_kindOf 27 = .ok (.goto 4, 3) := by decide +kernel
theorem dX6_kindOf_30 : decode cX6_kindOf 30 = .ok (.iconst 3, 1) := by decide +kernel
theorem dX6_kindOf_31 : decode cX6_kindOf 31 = .ok (.ireturn, 1) := by decide +kernel
abbrev rm_X6_kindOf : Room := { frames := 0, cells := 0, slots := 0, locals := 0 }
theorem hd_X6_kindOf : yX6_kindOf.cls ≠ "java/lang/invoke/MethodHandle" ∧ yX6_kindOf.cls ≠ "java/lang/invoke/VarHandle" ∧ (parseMethodDescriptor yX6_kindOf.desc).map (fun d => d.parameters.length) = some 1 := by decide +kernel
def bk_X6_kindOf_14 (Q : Int32 → Prop) (p0 : Int32) : Prop :=
((p0 < 48 → Q 3) ∧
(¬ p0 < 48 → ((57 < p0 → Q 3) ∧
(¬ 57 < p0 → Q 2))))
def wp_X6_kindOf (p0 : Int32) (Q : Int32 → Prop) : Prop :=
((p0 < 97 → bk_X6_kindOf_14 Q p0) ∧
(¬ p0 < 97 → ((122 < p0 → bk_X6_kindOf_14 Q p0) ∧
(¬ 122 < p0 → Q 1))))
set_option maxHeartbeats 4000000 in
set_option maxRecDepth 100000 in
theorem J_X6_kindOf_14 {x : CX} {D : va_G} {cyI cyJ cyZ : ClassId} {p0 : Int32} {Q : Int32 → Prop} (cx : Cx x cX6_kindOf 1 RX6 rm_X6_kindOf D [(cyI, .int), (cyJ, .long), (cyZ, .boolean)]) (hR : ∀ (v : Int32) (pc : Nat) (lv : List (Nat × Value)), decode cX6_kindOf pc = .ok (.ireturn, 1) → Q v → J x 0 0 1 ([] : va_W) lv pc [.int v]) (h : bk_X6_kindOf_14 Q  p0) :
    J x 0 0 1 ([] : va_W) [(0, .int p0)] 14 [] := by
  unfold bk_X6_kindOf_14 at h
  refine j_iload_n cx 0 rfl rfl dX6_kindOf_14 (pn := 15) rfl ?_
  refine j_bipush cx (v := 48) (by decide) dX6_kindOf_15 (pn := 17) rfl ?_
  refine j_icmp_lt cx 30 dX6_kindOf_17 (pn := 20) rfl rfl (fun c2 => ?_) (fun c2 => ?_)
  · have h := h.1 c2
    refine j_iconst cx (v := 3) (by decide) dX6_kindOf_30 (pn := 31) rfl ?_
    exact hR 3 31 _ dX6_kindOf_31 h
  · have h := h.2 c2
    refine j_iload_n cx 0 rfl rfl dX6_kindOf_20 (pn := 21) rfl ?_
    refine j_bipush cx (v := 57) (by decide) dX6_kindOf_21 (pn := 23) rfl ?_
    refine j_icmp_gt cx 30 dX6_kindOf_23 (pn := 26) rfl rfl (fun c3 => ?_) (fun c3 => ?_)
    · have h := h.1 c3
      refine j_iconst cx (v := 3) (by decide) dX6_kindOf_30 (pn := 31) rfl ?_
      exact hR 3 31 _ dX6_kindOf_31 h
    · have h := h.2 c3
      refine j_iconst cx (v := 2) (by decide) dX6_kindOf_26 (pn := 27) rfl ?_
      refine j_goto cx 31 dX6_kindOf_27 rfl ?_
      exact hR 2 31 _ dX6_kindOf_31 h
set_option maxHeartbeats 4000000 in
set_option maxRecDepth 100000 in
theorem c_X6_kindOf {D : va_G} {cyI cyJ cyZ : ClassId} {p0 : Int32} {Q : Int32 → Prop} (h : wp_X6_kindOf p0 Q) :
    MetI yX6_kindOf cX6_kindOf 1 (some .int) rm_X6_kindOf D [(cyI, .int), (cyJ, .long), (cyZ, .boolean)] [.int p0] ([] : va_W) (fun _ : Unit => ([] : va_W)) (fun v _ => Q v ) := by
  unfold wp_X6_kindOf at h
  refine metI_of (by decide) (Nat.le_of_ble_eq_true rfl) (fun x cx0 hR0 => ?_)
  have cx : Cx x cX6_kindOf 1 RX6 rm_X6_kindOf D [(cyI, .int), (cyJ, .long), (cyZ, .boolean)] := cx0
  have hR : ∀ (v : Int32) (pc : Nat) (lv : List (Nat × Value)), decode cX6_kindOf pc = .ok (.ireturn, 1) → Q v → J x 0 0 1 ([] : va_W) lv pc [.int v] := (fun v pc lv d hq => hR0 v () pc lv d hq)
  show J x 0 0 1 ([] : va_W) [(0, .int p0)] 0 []
  refine j_iload_n cx 0 rfl rfl dX6_kindOf_0 (pn := 1) rfl ?_
  refine j_bipush cx (v := 97) (by decide) dX6_kindOf_1 (pn := 3) rfl ?_
  refine j_icmp_lt cx 14 dX6_kindOf_3 (pn := 6) rfl rfl (fun c1 => ?_) (fun c1 => ?_)
  · have h := h.1 c1
    exact J_X6_kindOf_14 cx hR h
  · have h := h.2 c1
    refine j_iload_n cx 0 rfl rfl dX6_kindOf_6 (pn := 7) rfl ?_
    refine j_bipush cx (v := 122) (by decide) dX6_kindOf_7 (pn := 9) rfl ?_
    refine j_icmp_gt cx 14 dX6_kindOf_9 (pn := 12) rfl rfl (fun c4 => ?_) (fun c4 => ?_)
    · have h := h.1 c4
      exact J_X6_kindOf_14 cx hR h
    · have h := h.2 c4
      refine j_iconst cx (v := 1) (by decide) dX6_kindOf_12 (pn := 13) rfl ?_
      exact hR 1 13 _ dX6_kindOf_13 h
theorem dX6_nextToken_0 : decode cX6_nextToken 0 = .ok (.aload_n 0, 1) := by decide +kernel
theorem dX6_nextToken_1 : decode cX6_nextToken 1 = .ok (.getfield 35, 3) := by decide +kernel
theorem dX6_nextToken_4 : decode cX6_nextToken 4 = .ok (.aload_n 0, 1) := by decide +kernel
theorem dX6_nextToken_5 : decode cX6_nextToken 5 = .ok (.getfield 24, 3) := by decide +kernel
theorem dX6_nextToken_8 : decode cX6_nextToken 8 = .ok (.getfield 95, 3) := by decide +kernel
theorem dX6_nextToken_11 : decode cX6_nextToken 11 = .ok (.if_icmp .ge 33, 3) := by decide +kernel
theorem dX6_nextToken_14 : decode cX6_nextToken 14 = .ok (.aload_n 0, 1) := by decide +kernel
theorem dX6_nextToken_15 : decode cX6_nextToken 15 = .ok (.getfield 24, 3) := by decide +kernel
theorem dX6_nextToken_18 : decode cX6_nextToken 18 = .ok (.getfield 58, 3) := by decide +kernel
theorem dX6_nextToken_21 : decode cX6_nextToken 21 = .ok (.aload_n 0, 1) := by decide +kernel
theorem dX6_nextToken_22 : decode cX6_nextToken 22 = .ok (.getfield 35, 3) := by decide +kernel
theorem dX6_nextToken_25 : decode cX6_nextToken 25 = .ok (.iaload, 1) := by decide +kernel
theorem dX6_nextToken_26 : decode cX6_nextToken 26 = .ok (.bipush 32, 2) := by decide +kernel
theorem dX6_nextToken_28 : decode cX6_nextToken 28 = .ok (.if_icmp .ne 16, 3) := by decide +kernel
theorem dX6_nextToken_31 : decode cX6_nextToken 31 = .ok (.aload_n 0, 1) := by decide +kernel
theorem dX6_nextToken_32 : decode cX6_nextToken 32 = .ok (.dup, 1) := by decide +kernel
theorem dX6_nextToken_33 : decode cX6_nextToken 33 = .ok (.getfield 35, 3) := by decide +kernel
theorem dX6_nextToken_36 : decode cX6_nextToken 36 = .ok (.iconst 1, 1) := by decide +kernel
theorem dX6_nextToken_37 : decode cX6_nextToken 37 = .ok (.iadd, 1) := by decide +kernel
theorem dX6_nextToken_38 : decode cX6_nextToken 38 = .ok (.putfield 35, 3) := by decide +kernel
theorem dX6_nextToken_41 : decode cX6_nextToken 41 = .ok (.goto (-41), 3) := by decide +kernel
theorem dX6_nextToken_44 : decode cX6_nextToken 44 = .ok (.aload_n 0, 1) := by decide +kernel
theorem dX6_nextToken_45 : decode cX6_nextToken 45 = .ok (.aload_n 0, 1) := by decide +kernel
theorem dX6_nextToken_46 : decode cX6_nextToken 46 = .ok (.getfield 35, 3) := by decide +kernel
theorem dX6_nextToken_49 : decode cX6_nextToken 49 = .ok (.putfield 45, 3) := by decide +kernel
theorem dX6_nextToken_52 : decode cX6_nextToken 52 = .ok (.aload_n 0, 1) := by decide +kernel
theorem dX6_nextToken_53 : decode cX6_nextToken 53 = .ok (.getfield 35, 3) := by decide +kernel
theorem dX6_nextToken_56 : decode cX6_nextToken 56 = .ok (.aload_n 0, 1) := by decide +kernel
theorem dX6_nextToken_57 : decode cX6_nextToken 57 = .ok (.getfield 24, 3) := by decide +kernel
theorem dX6_nextToken_60 : decode cX6_nextToken 60 = .ok (.getfield 95, 3) := by decide +kernel
theorem dX6_nextToken_63 : decode cX6_nextToken 63 = .ok (.if_icmp .lt 9, 3) := by decide +kernel
theorem dX6_nextToken_66 : decode cX6_nextToken 66 = .ok (.aload_n 0, 1) := by decide +kernel
theorem dX6_nextToken_67 : decode cX6_nextToken 67 = .ok (.iconst 0, 1) := by decide +kernel
theorem dX6_nextToken_68 : decode cX6_nextToken 68 = .ok (.putfield 51, 3) := by decide +kernel
theorem dX6_nextToken_71 : decode cX6_nextToken 71 = .ok (.return_, 1) := by decide +kernel
theorem dX6_nextToken_72 : decode cX6_nextToken 72 = .ok (.aload_n 0, 1) := by decide +kernel
theorem dX6_nextToken_73 : decode cX6_nextToken 73 = .ok (.aload_n 0, 1) := by decide +kernel
theorem dX6_nextToken_74 : decode cX6_nextToken 74 = .ok (.getfield 24, 3) := by decide +kernel
theorem dX6_nextToken_77 : decode cX6_nextToken 77 = .ok (.getfield 58, 3) := by decide +kernel
theorem dX6_nextToken_80 : decode cX6_nextToken 80 = .ok (.aload_n 0, 1) := by decide +kernel
theorem dX6_nextToken_81 : decode cX6_nextToken 81 = .ok (.getfield 35, 3) := by decide +kernel
theorem dX6_nextToken_84 : decode cX6_nextToken 84 = .ok (.iaload, 1) := by decide +kernel
theorem dX6_nextToken_85 : decode cX6_nextToken 85 = .ok (.invokestatic 98, 3) := by decide +kernel
theorem dX6_nextToken_88 : decode cX6_nextToken 88 = .ok (.putfield 51, 3) := by decide +kernel
theorem dX6_nextToken_91 : decode cX6_nextToken 91 = .ok (.aload_n 0, 1) := by decide +kernel
theorem dX6_nextToken_92 : decode cX6_nextToken 92 = .ok (.dup, 1) := by decide +kernel
theorem dX6_nextToken_93 : decode cX6_nextToken 93 = .ok (.getfield 35, 3) := by decide +kernel
theorem dX6_nextToken_96 : decode cX6_nextToken 96 = .ok (.iconst 1, 1) := by decide +kernel
theorem dX6_nextToken_97 : decode cX6_nextToken 97 = .ok (.iadd, 1) := by decide +kernel
theorem dX6_nextToken_98 : decode cX6_nextToken 98 = .ok (.putfield 35, 3) := by decide +kernel
theorem dX6_nextToken_101 : decode cX6_nextToken 101 = .ok (.aload_n 0, 1) := by decide +kernel
theorem dX6_nextToken_102 : decode cX6_nextToken 102 = .ok (.getfield 51, 3) := by decide +kernel
theorem dX6_nextToken_105 : decode cX6_nextToken 105 = .ok (.iconst 3, 1) := by decide +kernel
theorem dX6_nextToken_106 : decode cX6_nextToken 106 = .ok (.if_icmp .eq 52, 3) := by decide +kernel
theorem dX6_nextToken_109 : decode cX6_nextToken 109 = .ok (.aload_n 0, 1) := by decide +kernel
theorem dX6_nextToken_110 : decode cX6_nextToken 110 = .ok (.getfield 35, 3) := by decide +kernel
theorem dX6_nextToken_113 : decode cX6_nextToken 113 = .ok (.aload_n 0, 1) := by decide +kernel
theorem dX6_nextToken_114 : decode cX6_nextToken 114 = .ok (.getfield 24, 3) := by decide +kernel
theorem dX6_nextToken_117 : decode cX6_nextToken 117 = .ok (.getfield 95, 3) := by decide +kernel
theorem dX6_nextToken_120 : decode cX6_nextToken 120 = .ok (.if_icmp .ge 38, 3) := by decide +kernel
theorem dX6_nextToken_123 : decode cX6_nextToken 123 = .ok (.aload_n 0, 1) := by decide +kernel
theorem dX6_nextToken_124 : decode cX6_nextToken 124 = .ok (.getfield 24, 3) := by decide +kernel
theorem dX6_nextToken_127 : decode cX6_nextToken 127 = .ok (.getfield 58, 3) := by decide +kernel
theorem dX6_nextToken_130 : decode cX6_nextToken 130 = .ok (.aload_n 0, 1) := by decide +kernel
theorem dX6_nextToken_131 : decode cX6_nextToken 131 = .ok (.getfield 35, 3) := by decide +kernel
theorem dX6_nextToken_134 : decode cX6_nextToken 134 = .ok (.iaload, 1) := by decide +kernel
theorem dX6_nextToken_135 : decode cX6_nextToken 135 = .ok (.invokestatic 98, 3) := by decide +kernel
theorem dX6_nextToken_138 : decode cX6_nextToken 138 = .ok (.aload_n 0, 1) := by decide +kernel
theorem dX6_nextToken_139 : decode cX6_nextToken 139 = .ok (.getfield 51, 3) := by decide +kernel
theorem dX6_nextToken_142 : decode cX6_nextToken 142 = .ok (.if_icmp .ne 16, 3) := by decide +kernel
theorem dX6_nextToken_145 : decode cX6_nextToken 145 = .ok (.aload_n 0, 1) := by decide +kernel
theorem dX6_nextToken_146 : decode cX6_nextToken 146 = .ok (.dup, 1) := by decide +kernel
theorem dX6_nextToken_147 : decode cX6_nextToken 147 = .ok (.getfield 35, 3) := by decide +kernel
theorem dX6_nextToken_150 : decode cX6_nextToken 150 = .ok (.iconst 1, 1) := by decide +kernel
theorem dX6_nextToken_151 : decode cX6_nextToken 151 = .ok (.iadd, 1) := by decide +kernel
theorem dX6_nextToken_152 : decode cX6_nextToken 152 = .ok (.putfield 35, 3) := by decide +kernel
theorem dX6_nextToken_155 : decode cX6_nextToken 155 = .ok (.goto (-54), 3) := by decide +kernel
theorem dX6_nextToken_158 : decode cX6_nextToken 158 = .ok (.return_, 1) := by decide +kernel
abbrev rm_X6_nextToken : Room := { frames := 1, cells := 0, slots := 0, locals := 20 }
theorem hd_X6_nextToken : yX6_nextToken.cls ≠ "java/lang/invoke/MethodHandle" ∧ yX6_nextToken.cls ≠ "java/lang/invoke/VarHandle" ∧ (parseMethodDescriptor yX6_nextToken.desc).map (fun d => d.parameters.length) = some 0 := by decide +kernel
def bd_X6_nextToken_101 (Q : Int32 × Int32 × Int32 → Prop) (B101 : Int32 → Prop) (r_start : Int32) (r_kind : Int32) (t_length : Int32) (t_bytes : Nat → Int32) (r_stop : Int32) : Prop :=
((r_kind = 3 → Q (r_start, r_stop, r_kind)) ∧
(¬ r_kind = 3 → ((t_length ≤ r_stop → Q (r_start, r_stop, r_kind)) ∧
(¬ t_length ≤ r_stop → vp_in r_stop 200 ∧ wp_X6_kindOf (t_bytes r_stop.toNatClampNeg) (fun (r7 : Int32) => ((¬ r7 = r_kind → Q (r_start, r_stop, r_kind)) ∧
(r7 = r_kind → ∀ y9 : Int32, y9 = (r_stop + 1) →
B101 y9)))))))
def lp_X6_nextToken_101 (Q : Int32 × Int32 × Int32 → Prop) (r_start : Int32) (r_kind : Int32) (t_length : Int32) (t_bytes : Nat → Int32) (r_stop : Int32) : Prop :=
∃ I : Nat → Int32 → Prop, (∃ n, I n r_stop) ∧ ∀ n r_stop, I n r_stop → bd_X6_nextToken_101 Q  (fun r_stop' => ∃ n', n' < n ∧ I n' r_stop') r_start r_kind t_length t_bytes r_stop
def bk_X6_nextToken_44 (Q : Int32 × Int32 × Int32 → Prop) (r_stop : Int32) (t_length : Int32) (t_bytes : Nat → Int32) : Prop :=
((r_stop < t_length → vp_in r_stop 200 ∧ wp_X6_kindOf (t_bytes r_stop.toNatClampNeg) (fun (r3 : Int32) => ∀ y4 : Int32, y4 = (r_stop + 1) →
lp_X6_nextToken_101 Q r_stop r3 t_length t_bytes y4)) ∧
(¬ r_stop < t_length → Q (r_stop, r_stop, 0)))
def bd_X6_nextToken_0 (Q : Int32 × Int32 × Int32 → Prop) (B0 : Int32 → Prop) (t_length : Int32) (t_bytes : Nat → Int32) (r_stop : Int32) : Prop :=
((t_length ≤ r_stop → bk_X6_nextToken_44 Q r_stop t_length t_bytes) ∧
(¬ t_length ≤ r_stop → vp_in r_stop 200 ∧ ((¬ (t_bytes r_stop.toNatClampNeg) = 32 → bk_X6_nextToken_44 Q r_stop t_length t_bytes) ∧
((t_bytes r_stop.toNatClampNeg) = 32 → ∀ y11 : Int32, y11 = (r_stop + 1) →
B0 y11))))
def lp_X6_nextToken_0 (Q : Int32 × Int32 × Int32 → Prop) (t_length : Int32) (t_bytes : Nat → Int32) (r_stop : Int32) : Prop :=
∃ I : Nat → Int32 → Prop, (∃ n, I n r_stop) ∧ ∀ n r_stop, I n r_stop → bd_X6_nextToken_0 Q  (fun r_stop' => ∃ n', n' < n ∧ I n' r_stop') t_length t_bytes r_stop
def wp_X6_nextToken (r_stop : Int32) (t_length : Int32) (t_bytes : Nat → Int32) (Q : Int32 × Int32 × Int32 → Prop) : Prop :=
lp_X6_nextToken_0 Q t_length t_bytes r_stop
set_option maxHeartbeats 4000000 in
set_option maxRecDepth 100000 in
theorem B_X6_nextToken_101 {x : CX} {D : va_G} {cyI cyJ cyZ : ClassId} {a_r a_r_verbs a_r_firsts a_r_seconds a_r_thirds a_t a_t_bytes : Nat} {r_lines : Int32} {r_columns : Int32} {r_rows : Int32} {r_start : Int32} {r_stop : Int32} {r_kind : Int32} {r_verbs : Nat → Int32} {r_firsts : Nat → Int32} {r_seconds : Nat → Int32} {r_thirds : Nat → Int32} {t_length : Int32} {t_bytes : Nat → Int32} {Q : Int32 × Int32 × Int32 → Prop} {B101 : Int32 → Prop} (cx : Cx x cX6_nextToken 1 RX6 rm_X6_nextToken D [(cyI, .int), (cyJ, .long), (cyZ, .boolean)]) (hR : ∀ (u : Int32 × Int32 × Int32) (pc : Nat) (lv : List (Nat × Value)), decode cX6_nextToken pc = .ok (.return_, 1) → Q u → J x 0 0 1 (W_Reader cyI cyJ cyZ a_r a_r_verbs a_r_firsts a_r_seconds a_r_thirds a_t a_t_bytes r_lines r_columns r_rows u.1 u.2.1 u.2.2 r_verbs r_firsts r_seconds r_thirds t_length t_bytes) lv pc []) (hB101 : ∀ (r_stop : Int32), B101 r_stop → J x 0 0 1 (W_Reader cyI cyJ cyZ a_r a_r_verbs a_r_firsts a_r_seconds a_r_thirds a_t a_t_bytes r_lines r_columns r_rows r_start r_stop r_kind r_verbs r_firsts r_seconds r_thirds t_length t_bytes) [(0, .ref a_r)] 101 []) (h : bd_X6_nextToken_101 Q B101 r_start r_kind t_length t_bytes r_stop) :
    J x 0 0 1 (W_Reader cyI cyJ cyZ a_r a_r_verbs a_r_firsts a_r_seconds a_r_thirds a_t a_t_bytes r_lines r_columns r_rows r_start r_stop r_kind r_verbs r_firsts r_seconds r_thirds t_length t_bytes) [(0, .ref a_r)] 101 [] := by
  unfold bd_X6_nextToken_101 at h
  refine j_aload_n cx 0 rfl rfl dX6_nextToken_101 (pn := 102) rfl ?_
  refine j_get cx inGX6 0 rfl rfl 10 (by decide) q_fl_X6_51 rfl rfl dX6_nextToken_102 (pn := 105) rfl ?_
  refine j_iconst cx (v := 3) (by decide) dX6_nextToken_105 (pn := 106) rfl ?_
  refine j_icmp_eq cx 158 dX6_nextToken_106 (pn := 109) rfl rfl (fun c5 => ?_) (fun c5 => ?_)
  · have h := h.1 c5
    exact hR (r_start, r_stop, r_kind) 158 _ dX6_nextToken_158 h
  · have h := h.2 c5
    refine j_aload_n cx 0 rfl rfl dX6_nextToken_109 (pn := 110) rfl ?_
    refine j_get cx inGX6 0 rfl rfl 9 (by decide) q_fl_X6_35 rfl rfl dX6_nextToken_110 (pn := 113) rfl ?_
    refine j_aload_n cx 0 rfl rfl dX6_nextToken_113 (pn := 114) rfl ?_
    refine j_get cx inGX6 0 rfl rfl 0 (by decide) q_fl_X6_24 rfl rfl dX6_nextToken_114 (pn := 117) rfl ?_
    refine j_getN cx inGX8 5 rfl rfl 1 (by decide) q_fl_X6_95 rfl rfl dX6_nextToken_117 (pn := 120) rfl ?_
    refine j_icmp_ge cx 158 dX6_nextToken_120 (pn := 123) rfl rfl (fun c6 => ?_) (fun c6 => ?_)
    · have h := h.1 c6
      exact hR (r_start, r_stop, r_kind) 158 _ dX6_nextToken_158 h
    · have h := h.2 c6
      refine j_aload_n cx 0 rfl rfl dX6_nextToken_123 (pn := 124) rfl ?_
      refine j_get cx inGX6 0 rfl rfl 0 (by decide) q_fl_X6_24 rfl rfl dX6_nextToken_124 (pn := 127) rfl ?_
      refine j_getN cx inGX8 5 rfl rfl 0 (by decide) q_fl_X6_58 rfl rfl dX6_nextToken_127 (pn := 130) rfl ?_
      refine j_aload_n cx 0 rfl rfl dX6_nextToken_130 (pn := 131) rfl ?_
      refine j_get cx inGX6 0 rfl rfl 9 (by decide) q_fl_X6_35 rfl rfl dX6_nextToken_131 (pn := 134) rfl ?_
      refine j_iald cx 6 0 rfl rfl h.1 dX6_nextToken_134 (pn := 135) rfl ?_
      have h := h.2
      refine j_calleI cx q_stat_X6_kindOf (As := [.int (t_bytes r_stop.toNatClampNeg)]) (rest := []) (c_X6_kindOf h) ⟨q_code_X6_kindOf, q_ml_X6_98, q_init_X6, hd_X6_kindOf, ⟨Nat.le_of_ble_eq_true rfl, Nat.le_of_ble_eq_true rfl⟩, Nat.le_of_ble_eq_true rfl, Nat.le_of_ble_eq_true rfl⟩ rfl rfl (Nat.le_of_ble_eq_true rfl) dX6_nextToken_135 (pn := 138) rfl (fun r7 h => ?_)
      show J x 0 0 1 (W_Reader cyI cyJ cyZ a_r a_r_verbs a_r_firsts a_r_seconds a_r_thirds a_t a_t_bytes r_lines r_columns r_rows r_start r_stop r_kind r_verbs r_firsts r_seconds r_thirds t_length t_bytes) [(0, .ref a_r)] 138 [.int r7]
      refine j_aload_n cx 0 rfl rfl dX6_nextToken_138 (pn := 139) rfl ?_
      refine j_get cx inGX6 0 rfl rfl 10 (by decide) q_fl_X6_51 rfl rfl dX6_nextToken_139 (pn := 142) rfl ?_
      refine j_icmp_ne cx 158 dX6_nextToken_142 (pn := 145) rfl rfl (fun c8 => ?_) (fun c8 => ?_)
      · have h := h.1 c8
        exact hR (r_start, r_stop, r_kind) 158 _ dX6_nextToken_158 h
      · have h := h.2 c8
        refine j_aload_n cx 0 rfl rfl dX6_nextToken_145 (pn := 146) rfl ?_
        refine j_dup cx rfl dX6_nextToken_146 (pn := 147) rfl ?_
        refine j_get cx inGX6 0 rfl rfl 9 (by decide) q_fl_X6_35 rfl rfl dX6_nextToken_147 (pn := 150) rfl ?_
        refine j_iconst cx (v := 1) (by decide) dX6_nextToken_150 (pn := 151) rfl ?_
        refine j_iadd cx dX6_nextToken_151 (pn := 152) rfl ?_
        refine j_topi (fun y9 ey9 => ?_)
        have h := h y9 ey9
        refine j_put cx tyX6 tyX6_ok nmX6 inGX6 0 rfl rfl 9 (by decide) q_fl_X6_35 rfl rfl rfl rfl rfl (Nat.le_of_ble_eq_true rfl) (W_Reader cyI cyJ cyZ a_r a_r_verbs a_r_firsts a_r_seconds a_r_thirds a_t a_t_bytes r_lines r_columns r_rows r_start y9 r_kind r_verbs r_firsts r_seconds r_thirds t_length t_bytes) rfl dX6_nextToken_152 (pn := 155) rfl ?_
        refine j_goto cx 101 dX6_nextToken_155 rfl ?_
        exact hB101 _ h
set_option maxHeartbeats 4000000 in
set_option maxRecDepth 100000 in
theorem J_X6_nextToken_101 {x : CX} {D : va_G} {cyI cyJ cyZ : ClassId} {a_r a_r_verbs a_r_firsts a_r_seconds a_r_thirds a_t a_t_bytes : Nat} {r_lines : Int32} {r_columns : Int32} {r_rows : Int32} {r_start : Int32} {r_stop : Int32} {r_kind : Int32} {r_verbs : Nat → Int32} {r_firsts : Nat → Int32} {r_seconds : Nat → Int32} {r_thirds : Nat → Int32} {t_length : Int32} {t_bytes : Nat → Int32} {Q : Int32 × Int32 × Int32 → Prop} (cx : Cx x cX6_nextToken 1 RX6 rm_X6_nextToken D [(cyI, .int), (cyJ, .long), (cyZ, .boolean)]) (hR : ∀ (u : Int32 × Int32 × Int32) (pc : Nat) (lv : List (Nat × Value)), decode cX6_nextToken pc = .ok (.return_, 1) → Q u → J x 0 0 1 (W_Reader cyI cyJ cyZ a_r a_r_verbs a_r_firsts a_r_seconds a_r_thirds a_t a_t_bytes r_lines r_columns r_rows u.1 u.2.1 u.2.2 r_verbs r_firsts r_seconds r_thirds t_length t_bytes) lv pc []) (h : lp_X6_nextToken_101 Q  r_start r_kind t_length t_bytes r_stop) :
    J x 0 0 1 (W_Reader cyI cyJ cyZ a_r a_r_verbs a_r_firsts a_r_seconds a_r_thirds a_t a_t_bytes r_lines r_columns r_rows r_start r_stop r_kind r_verbs r_firsts r_seconds r_thirds t_length t_bytes) [(0, .ref a_r)] 101 [] := by
  obtain ⟨I, ⟨n, h0⟩, hb⟩ := h
  revert r_stop
  induction n using Nat.strongRecOn with
  | _ n ih =>
    intro r_stop h0
    exact B_X6_nextToken_101 cx hR (fun _ hz => by obtain ⟨n2, hlt, hI⟩ := hz; exact ih n2 hlt hI) (hb n r_stop h0)
set_option maxHeartbeats 4000000 in
set_option maxRecDepth 100000 in
theorem J_X6_nextToken_44 {x : CX} {D : va_G} {cyI cyJ cyZ : ClassId} {a_r a_r_verbs a_r_firsts a_r_seconds a_r_thirds a_t a_t_bytes : Nat} {r_lines : Int32} {r_columns : Int32} {r_rows : Int32} {r_start : Int32} {r_stop : Int32} {r_kind : Int32} {r_verbs : Nat → Int32} {r_firsts : Nat → Int32} {r_seconds : Nat → Int32} {r_thirds : Nat → Int32} {t_length : Int32} {t_bytes : Nat → Int32} {Q : Int32 × Int32 × Int32 → Prop} (cx : Cx x cX6_nextToken 1 RX6 rm_X6_nextToken D [(cyI, .int), (cyJ, .long), (cyZ, .boolean)]) (hR : ∀ (u : Int32 × Int32 × Int32) (pc : Nat) (lv : List (Nat × Value)), decode cX6_nextToken pc = .ok (.return_, 1) → Q u → J x 0 0 1 (W_Reader cyI cyJ cyZ a_r a_r_verbs a_r_firsts a_r_seconds a_r_thirds a_t a_t_bytes r_lines r_columns r_rows u.1 u.2.1 u.2.2 r_verbs r_firsts r_seconds r_thirds t_length t_bytes) lv pc []) (h : bk_X6_nextToken_44 Q  r_stop t_length t_bytes) :
    J x 0 0 1 (W_Reader cyI cyJ cyZ a_r a_r_verbs a_r_firsts a_r_seconds a_r_thirds a_t a_t_bytes r_lines r_columns r_rows r_start r_stop r_kind r_verbs r_firsts r_seconds r_thirds t_length t_bytes) [(0, .ref a_r)] 44 [] := by
  unfold bk_X6_nextToken_44 at h
  refine j_aload_n cx 0 rfl rfl dX6_nextToken_44 (pn := 45) rfl ?_
  refine j_aload_n cx 0 rfl rfl dX6_nextToken_45 (pn := 46) rfl ?_
  refine j_get cx inGX6 0 rfl rfl 9 (by decide) q_fl_X6_35 rfl rfl dX6_nextToken_46 (pn := 49) rfl ?_
  refine j_put cx tyX6 tyX6_ok nmX6 inGX6 0 rfl rfl 8 (by decide) q_fl_X6_45 rfl rfl rfl rfl rfl (Nat.le_of_ble_eq_true rfl) (W_Reader cyI cyJ cyZ a_r a_r_verbs a_r_firsts a_r_seconds a_r_thirds a_t a_t_bytes r_lines r_columns r_rows r_stop r_stop r_kind r_verbs r_firsts r_seconds r_thirds t_length t_bytes) rfl dX6_nextToken_49 (pn := 52) rfl ?_
  refine j_aload_n cx 0 rfl rfl dX6_nextToken_52 (pn := 53) rfl ?_
  refine j_get cx inGX6 0 rfl rfl 9 (by decide) q_fl_X6_35 rfl rfl dX6_nextToken_53 (pn := 56) rfl ?_
  refine j_aload_n cx 0 rfl rfl dX6_nextToken_56 (pn := 57) rfl ?_
  refine j_get cx inGX6 0 rfl rfl 0 (by decide) q_fl_X6_24 rfl rfl dX6_nextToken_57 (pn := 60) rfl ?_
  refine j_getN cx inGX8 5 rfl rfl 1 (by decide) q_fl_X6_95 rfl rfl dX6_nextToken_60 (pn := 63) rfl ?_
  refine j_icmp_lt cx 72 dX6_nextToken_63 (pn := 66) rfl rfl (fun c2 => ?_) (fun c2 => ?_)
  · have h := h.1 c2
    refine j_aload_n cx 0 rfl rfl dX6_nextToken_72 (pn := 73) rfl ?_
    refine j_aload_n cx 0 rfl rfl dX6_nextToken_73 (pn := 74) rfl ?_
    refine j_get cx inGX6 0 rfl rfl 0 (by decide) q_fl_X6_24 rfl rfl dX6_nextToken_74 (pn := 77) rfl ?_
    refine j_getN cx inGX8 5 rfl rfl 0 (by decide) q_fl_X6_58 rfl rfl dX6_nextToken_77 (pn := 80) rfl ?_
    refine j_aload_n cx 0 rfl rfl dX6_nextToken_80 (pn := 81) rfl ?_
    refine j_get cx inGX6 0 rfl rfl 9 (by decide) q_fl_X6_35 rfl rfl dX6_nextToken_81 (pn := 84) rfl ?_
    refine j_iald cx 6 0 rfl rfl h.1 dX6_nextToken_84 (pn := 85) rfl ?_
    have h := h.2
    refine j_calleI cx q_stat_X6_kindOf (As := [.int (t_bytes r_stop.toNatClampNeg)]) (rest := [.ref a_r]) (c_X6_kindOf h) ⟨q_code_X6_kindOf, q_ml_X6_98, q_init_X6, hd_X6_kindOf, ⟨Nat.le_of_ble_eq_true rfl, Nat.le_of_ble_eq_true rfl⟩, Nat.le_of_ble_eq_true rfl, Nat.le_of_ble_eq_true rfl⟩ rfl rfl (Nat.le_of_ble_eq_true rfl) dX6_nextToken_85 (pn := 88) rfl (fun r3 h => ?_)
    show J x 0 0 1 (W_Reader cyI cyJ cyZ a_r a_r_verbs a_r_firsts a_r_seconds a_r_thirds a_t a_t_bytes r_lines r_columns r_rows r_stop r_stop r_kind r_verbs r_firsts r_seconds r_thirds t_length t_bytes) [(0, .ref a_r)] 88 [.int r3, .ref a_r]
    refine j_put cx tyX6 tyX6_ok nmX6 inGX6 0 rfl rfl 10 (by decide) q_fl_X6_51 rfl rfl rfl rfl rfl (Nat.le_of_ble_eq_true rfl) (W_Reader cyI cyJ cyZ a_r a_r_verbs a_r_firsts a_r_seconds a_r_thirds a_t a_t_bytes r_lines r_columns r_rows r_stop r_stop r3 r_verbs r_firsts r_seconds r_thirds t_length t_bytes) rfl dX6_nextToken_88 (pn := 91) rfl ?_
    refine j_aload_n cx 0 rfl rfl dX6_nextToken_91 (pn := 92) rfl ?_
    refine j_dup cx rfl dX6_nextToken_92 (pn := 93) rfl ?_
    refine j_get cx inGX6 0 rfl rfl 9 (by decide) q_fl_X6_35 rfl rfl dX6_nextToken_93 (pn := 96) rfl ?_
    refine j_iconst cx (v := 1) (by decide) dX6_nextToken_96 (pn := 97) rfl ?_
    refine j_iadd cx dX6_nextToken_97 (pn := 98) rfl ?_
    refine j_topi (fun y4 ey4 => ?_)
    have h := h y4 ey4
    refine j_put cx tyX6 tyX6_ok nmX6 inGX6 0 rfl rfl 9 (by decide) q_fl_X6_35 rfl rfl rfl rfl rfl (Nat.le_of_ble_eq_true rfl) (W_Reader cyI cyJ cyZ a_r a_r_verbs a_r_firsts a_r_seconds a_r_thirds a_t a_t_bytes r_lines r_columns r_rows r_stop y4 r3 r_verbs r_firsts r_seconds r_thirds t_length t_bytes) rfl dX6_nextToken_98 (pn := 101) rfl ?_
    exact J_X6_nextToken_101 cx hR h
  · have h := h.2 c2
    refine j_aload_n cx 0 rfl rfl dX6_nextToken_66 (pn := 67) rfl ?_
    refine j_iconst cx (v := 0) (by decide) dX6_nextToken_67 (pn := 68) rfl ?_
    refine j_put cx tyX6 tyX6_ok nmX6 inGX6 0 rfl rfl 10 (by decide) q_fl_X6_51 rfl rfl rfl rfl rfl (Nat.le_of_ble_eq_true rfl) (W_Reader cyI cyJ cyZ a_r a_r_verbs a_r_firsts a_r_seconds a_r_thirds a_t a_t_bytes r_lines r_columns r_rows r_stop r_stop 0 r_verbs r_firsts r_seconds r_thirds t_length t_bytes) rfl dX6_nextToken_68 (pn := 71) rfl ?_
    exact hR (r_stop, r_stop, 0) 71 _ dX6_nextToken_71 h
set_option maxHeartbeats 4000000 in
set_option maxRecDepth 100000 in
theorem B_X6_nextToken_0 {x : CX} {D : va_G} {cyI cyJ cyZ : ClassId} {a_r a_r_verbs a_r_firsts a_r_seconds a_r_thirds a_t a_t_bytes : Nat} {r_lines : Int32} {r_columns : Int32} {r_rows : Int32} {r_start : Int32} {r_stop : Int32} {r_kind : Int32} {r_verbs : Nat → Int32} {r_firsts : Nat → Int32} {r_seconds : Nat → Int32} {r_thirds : Nat → Int32} {t_length : Int32} {t_bytes : Nat → Int32} {Q : Int32 × Int32 × Int32 → Prop} {B0 : Int32 → Prop} (cx : Cx x cX6_nextToken 1 RX6 rm_X6_nextToken D [(cyI, .int), (cyJ, .long), (cyZ, .boolean)]) (hR : ∀ (u : Int32 × Int32 × Int32) (pc : Nat) (lv : List (Nat × Value)), decode cX6_nextToken pc = .ok (.return_, 1) → Q u → J x 0 0 1 (W_Reader cyI cyJ cyZ a_r a_r_verbs a_r_firsts a_r_seconds a_r_thirds a_t a_t_bytes r_lines r_columns r_rows u.1 u.2.1 u.2.2 r_verbs r_firsts r_seconds r_thirds t_length t_bytes) lv pc []) (hB0 : ∀ (r_stop : Int32), B0 r_stop → J x 0 0 1 (W_Reader cyI cyJ cyZ a_r a_r_verbs a_r_firsts a_r_seconds a_r_thirds a_t a_t_bytes r_lines r_columns r_rows r_start r_stop r_kind r_verbs r_firsts r_seconds r_thirds t_length t_bytes) [(0, .ref a_r)] 0 []) (h : bd_X6_nextToken_0 Q B0 t_length t_bytes r_stop) :
    J x 0 0 1 (W_Reader cyI cyJ cyZ a_r a_r_verbs a_r_firsts a_r_seconds a_r_thirds a_t a_t_bytes r_lines r_columns r_rows r_start r_stop r_kind r_verbs r_firsts r_seconds r_thirds t_length t_bytes) [(0, .ref a_r)] 0 [] := by
  unfold bd_X6_nextToken_0 at h
  refine j_aload_n cx 0 rfl rfl dX6_nextToken_0 (pn := 1) rfl ?_
  refine j_get cx inGX6 0 rfl rfl 9 (by decide) q_fl_X6_35 rfl rfl dX6_nextToken_1 (pn := 4) rfl ?_
  refine j_aload_n cx 0 rfl rfl dX6_nextToken_4 (pn := 5) rfl ?_
  refine j_get cx inGX6 0 rfl rfl 0 (by decide) q_fl_X6_24 rfl rfl dX6_nextToken_5 (pn := 8) rfl ?_
  refine j_getN cx inGX8 5 rfl rfl 1 (by decide) q_fl_X6_95 rfl rfl dX6_nextToken_8 (pn := 11) rfl ?_
  refine j_icmp_ge cx 44 dX6_nextToken_11 (pn := 14) rfl rfl (fun c1 => ?_) (fun c1 => ?_)
  · have h := h.1 c1
    exact J_X6_nextToken_44 cx hR h
  · have h := h.2 c1
    refine j_aload_n cx 0 rfl rfl dX6_nextToken_14 (pn := 15) rfl ?_
    refine j_get cx inGX6 0 rfl rfl 0 (by decide) q_fl_X6_24 rfl rfl dX6_nextToken_15 (pn := 18) rfl ?_
    refine j_getN cx inGX8 5 rfl rfl 0 (by decide) q_fl_X6_58 rfl rfl dX6_nextToken_18 (pn := 21) rfl ?_
    refine j_aload_n cx 0 rfl rfl dX6_nextToken_21 (pn := 22) rfl ?_
    refine j_get cx inGX6 0 rfl rfl 9 (by decide) q_fl_X6_35 rfl rfl dX6_nextToken_22 (pn := 25) rfl ?_
    refine j_iald cx 6 0 rfl rfl h.1 dX6_nextToken_25 (pn := 26) rfl ?_
    have h := h.2
    refine j_bipush cx (v := 32) (by decide) dX6_nextToken_26 (pn := 28) rfl ?_
    refine j_icmp_ne cx 44 dX6_nextToken_28 (pn := 31) rfl rfl (fun c10 => ?_) (fun c10 => ?_)
    · have h := h.1 c10
      exact J_X6_nextToken_44 cx hR h
    · have h := h.2 c10
      refine j_aload_n cx 0 rfl rfl dX6_nextToken_31 (pn := 32) rfl ?_
      refine j_dup cx rfl dX6_nextToken_32 (pn := 33) rfl ?_
      refine j_get cx inGX6 0 rfl rfl 9 (by decide) q_fl_X6_35 rfl rfl dX6_nextToken_33 (pn := 36) rfl ?_
      refine j_iconst cx (v := 1) (by decide) dX6_nextToken_36 (pn := 37) rfl ?_
      refine j_iadd cx dX6_nextToken_37 (pn := 38) rfl ?_
      refine j_topi (fun y11 ey11 => ?_)
      have h := h y11 ey11
      refine j_put cx tyX6 tyX6_ok nmX6 inGX6 0 rfl rfl 9 (by decide) q_fl_X6_35 rfl rfl rfl rfl rfl (Nat.le_of_ble_eq_true rfl) (W_Reader cyI cyJ cyZ a_r a_r_verbs a_r_firsts a_r_seconds a_r_thirds a_t a_t_bytes r_lines r_columns r_rows r_start y11 r_kind r_verbs r_firsts r_seconds r_thirds t_length t_bytes) rfl dX6_nextToken_38 (pn := 41) rfl ?_
      refine j_goto cx 0 dX6_nextToken_41 rfl ?_
      exact hB0 _ h
set_option maxHeartbeats 4000000 in
set_option maxRecDepth 100000 in
theorem J_X6_nextToken_0 {x : CX} {D : va_G} {cyI cyJ cyZ : ClassId} {a_r a_r_verbs a_r_firsts a_r_seconds a_r_thirds a_t a_t_bytes : Nat} {r_lines : Int32} {r_columns : Int32} {r_rows : Int32} {r_start : Int32} {r_stop : Int32} {r_kind : Int32} {r_verbs : Nat → Int32} {r_firsts : Nat → Int32} {r_seconds : Nat → Int32} {r_thirds : Nat → Int32} {t_length : Int32} {t_bytes : Nat → Int32} {Q : Int32 × Int32 × Int32 → Prop} (cx : Cx x cX6_nextToken 1 RX6 rm_X6_nextToken D [(cyI, .int), (cyJ, .long), (cyZ, .boolean)]) (hR : ∀ (u : Int32 × Int32 × Int32) (pc : Nat) (lv : List (Nat × Value)), decode cX6_nextToken pc = .ok (.return_, 1) → Q u → J x 0 0 1 (W_Reader cyI cyJ cyZ a_r a_r_verbs a_r_firsts a_r_seconds a_r_thirds a_t a_t_bytes r_lines r_columns r_rows u.1 u.2.1 u.2.2 r_verbs r_firsts r_seconds r_thirds t_length t_bytes) lv pc []) (h : lp_X6_nextToken_0 Q  t_length t_bytes r_stop) :
    J x 0 0 1 (W_Reader cyI cyJ cyZ a_r a_r_verbs a_r_firsts a_r_seconds a_r_thirds a_t a_t_bytes r_lines r_columns r_rows r_start r_stop r_kind r_verbs r_firsts r_seconds r_thirds t_length t_bytes) [(0, .ref a_r)] 0 [] := by
  obtain ⟨I, ⟨n, h0⟩, hb⟩ := h
  revert r_stop
  induction n using Nat.strongRecOn with
  | _ n ih =>
    intro r_stop h0
    exact B_X6_nextToken_0 cx hR (fun _ hz => by obtain ⟨n2, hlt, hI⟩ := hz; exact ih n2 hlt hI) (hb n r_stop h0)
set_option maxHeartbeats 4000000 in
set_option maxRecDepth 100000 in
theorem c_X6_nextToken {D : va_G} {cyI cyJ cyZ : ClassId} {a_r a_r_verbs a_r_firsts a_r_seconds a_r_thirds a_t a_t_bytes : Nat} {r_lines : Int32} {r_columns : Int32} {r_rows : Int32} {r_start : Int32} {r_stop : Int32} {r_kind : Int32} {r_verbs : Nat → Int32} {r_firsts : Nat → Int32} {r_seconds : Nat → Int32} {r_thirds : Nat → Int32} {t_length : Int32} {t_bytes : Nat → Int32} {Q : Int32 × Int32 × Int32 → Prop} (h : wp_X6_nextToken r_stop t_length t_bytes Q) :
    MetV yX6_nextToken cX6_nextToken 1 (none) rm_X6_nextToken D [(cyI, .int), (cyJ, .long), (cyZ, .boolean)] [.ref a_r] (W_Reader cyI cyJ cyZ a_r a_r_verbs a_r_firsts a_r_seconds a_r_thirds a_t a_t_bytes r_lines r_columns r_rows r_start r_stop r_kind r_verbs r_firsts r_seconds r_thirds t_length t_bytes) (fun u : Int32 × Int32 × Int32 => (W_Reader cyI cyJ cyZ a_r a_r_verbs a_r_firsts a_r_seconds a_r_thirds a_t a_t_bytes r_lines r_columns r_rows u.1 u.2.1 u.2.2 r_verbs r_firsts r_seconds r_thirds t_length t_bytes)) (fun u => Q u) := by
  unfold wp_X6_nextToken at h
  refine metV_of (by decide) (Nat.le_of_ble_eq_true rfl) (fun x cx0 hR0 => ?_)
  have cx : Cx x cX6_nextToken 1 RX6 rm_X6_nextToken D [(cyI, .int), (cyJ, .long), (cyZ, .boolean)] := cx0
  have hR : ∀ (u : Int32 × Int32 × Int32) (pc : Nat) (lv : List (Nat × Value)), decode cX6_nextToken pc = .ok (.return_, 1) → Q u → J x 0 0 1 (W_Reader cyI cyJ cyZ a_r a_r_verbs a_r_firsts a_r_seconds a_r_thirds a_t a_t_bytes r_lines r_columns r_rows u.1 u.2.1 u.2.2 r_verbs r_firsts r_seconds r_thirds t_length t_bytes) lv pc [] := (fun u pc lv d hq => hR0 u pc lv d hq)
  show J x 0 0 1 (W_Reader cyI cyJ cyZ a_r a_r_verbs a_r_firsts a_r_seconds a_r_thirds a_t a_t_bytes r_lines r_columns r_rows r_start r_stop r_kind r_verbs r_firsts r_seconds r_thirds t_length t_bytes) [(0, .ref a_r)] 0 []
  exact J_X6_nextToken_0 cx hR h
theorem dX6_readNumber_0 : decode cX6_readNumber 0 = .ok (.aload_n 0, 1) := by decide +kernel
theorem dX6_readNumber_1 : decode cX6_readNumber 1 = .ok (.invokevirtual 48, 3) := by decide +kernel
theorem dX6_readNumber_4 : decode cX6_readNumber 4 = .ok (.aload_n 0, 1) := by decide +kernel
theorem dX6_readNumber_5 : decode cX6_readNumber 5 = .ok (.getfield 51, 3) := by decide +kernel
theorem dX6_readNumber_8 : decode cX6_readNumber 8 = .ok (.iconst 2, 1) := by decide +kernel
theorem dX6_readNumber_9 : decode cX6_readNumber 9 = .ok (.if_icmp .ne 16, 3) := by decide +kernel
theorem dX6_readNumber_12 : decode cX6_readNumber 12 = .ok (.aload_n 0, 1) := by decide +kernel
theorem dX6_readNumber_13 : decode cX6_readNumber 13 = .ok (.getfield 35, 3) := by decide +kernel
theorem dX6_readNumber_16 : decode cX6_readNumber 16 = .ok (.aload_n 0, 1) := by decide +kernel
theorem dX6_readNumber_17 : decode cX6_readNumber 17 = .ok (.getfield 45, 3) := by decide +kernel
theorem dX6_readNumber_20 : decode cX6_readNumber 20 = .ok (.isub, 1) := by decide +kernel
theorem dX6_readNumber_21 : decode cX6_readNumber 21 = .ok (.iconst 2, 1) := by decide +kernel
theorem dX6_readNumber_22 : decode cX6_readNumber 22 = .ok (.if_icmp .le 5, 3) := by decide +kernel
theorem dX6_readNumber_25 : decode cX6_readNumber 25 = .ok (.iconst (-1), 1) := by decide +kernel
theorem dX6_readNumber_26 : decode cX6_readNumber 26 = .ok (.ireturn, 1) := by decide +kernel
theorem dX6_readNumber_27 : decode cX6_readNumber 27 = .ok (.iconst 0, 1) := by decide +kernel
theorem dX6_readNumber_28 : decode cX6_readNumber 28 = .ok (.istore_n 3, 1) := by decide +kernel
theorem dX6_readNumber_29 : decode cX6_readNumber 29 = .ok (.aload_n 0, 1) := by decide +kernel
theorem dX6_readNumber_30 : decode cX6_readNumber 30 = .ok (.getfield 45, 3) := by decide +kernel
theorem dX6_readNumber_33 : decode cX6_readNumber 33 = .ok (.istore 4, 2) := by decide +kernel
theorem dX6_readNumber_35 : decode cX6_readNumber 35 = .ok (.iload 4, 2) := by decide +kernel
theorem dX6_readNumber_37 : decode cX6_readNumber 37 = .ok (.aload_n 0, 1) := by decide +kernel
theorem dX6_readNumber_38 : decode cX6_readNumber 38 = .ok (.getfield 35, 3) := by decide +kernel
theorem dX6_readNumber_41 : decode cX6_readNumber 41 = .ok (.if_icmp .ge 28, 3) := by decide +kernel
theorem dX6_readNumber_44 : decode cX6_readNumber 44 = .ok (.iload_n 3, 1) := by decide +kernel
theorem dX6_readNumber_45 : decode cX6_readNumber 45 = .ok (.bipush 10, 2) := by decide +kernel
theorem dX6_readNumber_47 : decode cX6_readNumber 47 = .ok (.imul, 1) := by decide +kernel
theorem dX6_readNumber_48 : decode cX6_readNumber 48 = .ok (.aload_n 0, 1) := by decide +kernel
theorem dX6_readNumber_49 : decode cX6_readNumber 49 = .ok (.getfield 24, 3) := by decide +kernel
theorem dX6_readNumber_52 : decode cX6_readNumber 52 = .ok (.getfield 58, 3) := by decide +kernel
theorem dX6_readNumber_55 : decode cX6_readNumber 55 = .ok (.iload 4, 2) := by decide +kernel
theorem dX6_readNumber_57 : decode cX6_readNumber 57 = .ok (.iaload, 1) := by decide +kernel
theorem dX6_readNumber_58 : decode cX6_readNumber 58 = .ok (.iadd, 1) := by decide +kernel
theorem dX6_readNumber_59 : decode cX6_readNumber 59 = .ok (.bipush 48, 2) := by decide +kernel
theorem dX6_readNumber_61 : decode cX6_readNumber 61 = .ok (.isub, 1) := by decide +kernel
theorem dX6_readNumber_62 : decode cX6_readNumber 62 = .ok (.istore_n 3, 1) := by decide +kernel
theorem dX6_readNumber_63 : decode cX6_readNumber 63 = .ok (.iinc 4 1, 3) := by decide +kernel
theorem dX6_readNumber_66 : decode cX6_readNumber 66 = .ok (.goto (-31), 3) := by decide +kernel
theorem dX6_readNumber_69 : decode cX6_readNumber 69 = .ok (.iload_n 3, 1) := by decide +kernel
theorem dX6_readNumber_70 : decode cX6_readNumber 70 = .ok (.iload_n 1, 1) := by decide +kernel
theorem dX6_readNumber_71 : decode cX6_readNumber 71 = .ok (.if_icmp .lt 8, 3) := by decide +kernel
theorem dX6_readNumber_74 : decode cX6_readNumber 74 = .ok (.iload_n 3, 1) := by decide +kernel
theorem dX6_readNumber_75 : decode cX6_readNumber 75 = .ok (.iload_n 2, 1) := by decide +kernel
theorem dX6_readNumber_76 : decode cX6_readNumber 76 = .ok (.if_icmp .le 7, 3) := by decide +kernel
theorem dX6_readNumber_79 : decode cX6_readNumber 79 = .ok (.iconst (-1), 1) := by decide +kernel
theorem dX6_readNumber_80 : decode cX6_readNumber 80 = .ok (.goto 4, 3) := by decide +kernel
theorem dX6_readNumber_83 : decode cX6_readNumber 83 = .ok (.iload_n 3, 1) := by decide +kernel
theorem dX6_readNumber_84 : decode cX6_readNumber 84 = .ok (.ireturn, 1) := by decide +kernel
abbrev rm_X6_readNumber : Room := { frames := 2, cells := 0, slots := 0, locals := 40 }
theorem hd_X6_readNumber : yX6_readNumber.cls ≠ "java/lang/invoke/MethodHandle" ∧ yX6_readNumber.cls ≠ "java/lang/invoke/VarHandle" ∧ (parseMethodDescriptor yX6_readNumber.desc).map (fun d => d.parameters.length) = some 2 := by decide +kernel
def bk_X6_readNumber_79 (Q : Int32 → Int32 × Int32 × Int32 → Prop) (r_start : Int32) (r_stop : Int32) (r_kind : Int32) : Prop :=
Q (-1) (r_start, r_stop, r_kind)
def bd_X6_readNumber_35 (Q : Int32 → Int32 × Int32 × Int32 → Prop) (B35 : Int32 → Int32 → Prop) (p1 : Int32) (p2 : Int32) (r_start : Int32) (r_stop : Int32) (r_kind : Int32) (t_bytes : Nat → Int32) (x3 : Int32) (x4 : Int32) : Prop :=
((r_stop ≤ x4 → ((x3 < p1 → bk_X6_readNumber_79 Q r_start r_stop r_kind) ∧
(¬ x3 < p1 → ((x3 ≤ p2 → Q x3 (r_start, r_stop, r_kind)) ∧
(¬ x3 ≤ p2 → bk_X6_readNumber_79 Q r_start r_stop r_kind))))) ∧
(¬ r_stop ≤ x4 → vp_in x4 200 ∧ (∀ y7 : Int32, y7 = (((x3 * 10) + (t_bytes x4.toNatClampNeg)) - 48) →
∀ y8 : Int32, y8 = (x4 + 1) →
B35 y7 y8)))
def lp_X6_readNumber_35 (Q : Int32 → Int32 × Int32 × Int32 → Prop) (p1 : Int32) (p2 : Int32) (r_start : Int32) (r_stop : Int32) (r_kind : Int32) (t_bytes : Nat → Int32) (x3 : Int32) (x4 : Int32) : Prop :=
∃ I : Nat → Int32 → Int32 → Prop, (∃ n, I n x3 x4) ∧ ∀ n x3 x4, I n x3 x4 → bd_X6_readNumber_35 Q  (fun x3' x4' => ∃ n', n' < n ∧ I n' x3' x4') p1 p2 r_start r_stop r_kind t_bytes x3 x4
def wp_X6_readNumber (p1 : Int32) (p2 : Int32) (r_stop : Int32) (t_length : Int32) (t_bytes : Nat → Int32) (Q : Int32 → Int32 × Int32 × Int32 → Prop) : Prop :=
wp_X6_nextToken r_stop t_length t_bytes (fun (u1 : Int32 × Int32 × Int32) => ((¬ u1.2.2 = 2 → Q (-1) (u1.1, u1.2.1, u1.2.2)) ∧
(u1.2.2 = 2 → (((u1.2.1 - u1.1) ≤ 2 → lp_X6_readNumber_35 Q p1 p2 u1.1 u1.2.1 u1.2.2 t_bytes 0 u1.1) ∧
(¬ (u1.2.1 - u1.1) ≤ 2 → Q (-1) (u1.1, u1.2.1, u1.2.2))))))
set_option maxHeartbeats 4000000 in
set_option maxRecDepth 100000 in
theorem J_X6_readNumber_79 {x : CX} {D : va_G} {cyI cyJ cyZ : ClassId} {a_r a_r_verbs a_r_firsts a_r_seconds a_r_thirds a_t a_t_bytes : Nat} {r_lines : Int32} {r_columns : Int32} {r_rows : Int32} {r_start : Int32} {r_stop : Int32} {r_kind : Int32} {r_verbs : Nat → Int32} {r_firsts : Nat → Int32} {r_seconds : Nat → Int32} {r_thirds : Nat → Int32} {t_length : Int32} {t_bytes : Nat → Int32} {Q : Int32 → Int32 × Int32 × Int32 → Prop} (cx : Cx x cX6_readNumber 5 RX6 rm_X6_readNumber D [(cyI, .int), (cyJ, .long), (cyZ, .boolean)]) (hR : ∀ (v : Int32) (u : Int32 × Int32 × Int32) (pc : Nat) (lv : List (Nat × Value)), decode cX6_readNumber pc = .ok (.ireturn, 1) → Q v u → J x 0 0 5 (W_Reader cyI cyJ cyZ a_r a_r_verbs a_r_firsts a_r_seconds a_r_thirds a_t a_t_bytes r_lines r_columns r_rows u.1 u.2.1 u.2.2 r_verbs r_firsts r_seconds r_thirds t_length t_bytes) lv pc [.int v]) (h : bk_X6_readNumber_79 Q  r_start r_stop r_kind) :
    J x 0 0 5 (W_Reader cyI cyJ cyZ a_r a_r_verbs a_r_firsts a_r_seconds a_r_thirds a_t a_t_bytes r_lines r_columns r_rows r_start r_stop r_kind r_verbs r_firsts r_seconds r_thirds t_length t_bytes) [] 79 [] := by
  unfold bk_X6_readNumber_79 at h
  refine j_iconst cx (v := (-1)) (by decide) dX6_readNumber_79 (pn := 80) rfl ?_
  refine j_goto cx 84 dX6_readNumber_80 rfl ?_
  exact hR (-1) (r_start, r_stop, r_kind) 84 _ dX6_readNumber_84 h
set_option maxHeartbeats 4000000 in
set_option maxRecDepth 100000 in
theorem B_X6_readNumber_35 {x : CX} {D : va_G} {cyI cyJ cyZ : ClassId} {a_r a_r_verbs a_r_firsts a_r_seconds a_r_thirds a_t a_t_bytes : Nat} {r_lines : Int32} {r_columns : Int32} {r_rows : Int32} {r_start : Int32} {r_stop : Int32} {r_kind : Int32} {r_verbs : Nat → Int32} {r_firsts : Nat → Int32} {r_seconds : Nat → Int32} {r_thirds : Nat → Int32} {t_length : Int32} {t_bytes : Nat → Int32} {p1 : Int32} {p2 : Int32} {x3 : Int32} {x4 : Int32} {Q : Int32 → Int32 × Int32 × Int32 → Prop} {B35 : Int32 → Int32 → Prop} (cx : Cx x cX6_readNumber 5 RX6 rm_X6_readNumber D [(cyI, .int), (cyJ, .long), (cyZ, .boolean)]) (hR : ∀ (v : Int32) (u : Int32 × Int32 × Int32) (pc : Nat) (lv : List (Nat × Value)), decode cX6_readNumber pc = .ok (.ireturn, 1) → Q v u → J x 0 0 5 (W_Reader cyI cyJ cyZ a_r a_r_verbs a_r_firsts a_r_seconds a_r_thirds a_t a_t_bytes r_lines r_columns r_rows u.1 u.2.1 u.2.2 r_verbs r_firsts r_seconds r_thirds t_length t_bytes) lv pc [.int v]) (hB35 : ∀ (x3 : Int32) (x4 : Int32), B35 x3 x4 → J x 0 0 5 (W_Reader cyI cyJ cyZ a_r a_r_verbs a_r_firsts a_r_seconds a_r_thirds a_t a_t_bytes r_lines r_columns r_rows r_start r_stop r_kind r_verbs r_firsts r_seconds r_thirds t_length t_bytes) [(0, .ref a_r), (1, .int p1), (2, .int p2), (3, .int x3), (4, .int x4)] 35 []) (h : bd_X6_readNumber_35 Q B35 p1 p2 r_start r_stop r_kind t_bytes x3 x4) :
    J x 0 0 5 (W_Reader cyI cyJ cyZ a_r a_r_verbs a_r_firsts a_r_seconds a_r_thirds a_t a_t_bytes r_lines r_columns r_rows r_start r_stop r_kind r_verbs r_firsts r_seconds r_thirds t_length t_bytes) [(0, .ref a_r), (1, .int p1), (2, .int p2), (3, .int x3), (4, .int x4)] 35 [] := by
  unfold bd_X6_readNumber_35 at h
  refine j_iload cx 4 rfl dX6_readNumber_35 (pn := 37) rfl ?_
  refine j_aload_n cx 0 rfl rfl dX6_readNumber_37 (pn := 38) rfl ?_
  refine j_get cx inGX6 0 rfl rfl 9 (by decide) q_fl_X6_35 rfl rfl dX6_readNumber_38 (pn := 41) rfl ?_
  refine j_icmp_ge cx 69 dX6_readNumber_41 (pn := 44) rfl rfl (fun c4 => ?_) (fun c4 => ?_)
  · have h := h.1 c4
    refine j_iload_n cx 3 rfl rfl dX6_readNumber_69 (pn := 70) rfl ?_
    refine j_iload_n cx 1 rfl rfl dX6_readNumber_70 (pn := 71) rfl ?_
    refine j_icmp_lt cx 79 dX6_readNumber_71 (pn := 74) rfl rfl (fun c5 => ?_) (fun c5 => ?_)
    · have h := h.1 c5
      refine j_sub [] [] rfl ?_
      exact J_X6_readNumber_79 cx hR h
    · have h := h.2 c5
      refine j_iload_n cx 3 rfl rfl dX6_readNumber_74 (pn := 75) rfl ?_
      refine j_iload_n cx 2 rfl rfl dX6_readNumber_75 (pn := 76) rfl ?_
      refine j_icmp_le cx 83 dX6_readNumber_76 (pn := 79) rfl rfl (fun c6 => ?_) (fun c6 => ?_)
      · have h := h.1 c6
        refine j_iload_n cx 3 rfl rfl dX6_readNumber_83 (pn := 84) rfl ?_
        exact hR x3 (r_start, r_stop, r_kind) 84 _ dX6_readNumber_84 h
      · have h := h.2 c6
        refine j_sub [] [] rfl ?_
        exact J_X6_readNumber_79 cx hR h
  · have h := h.2 c4
    refine j_iload_n cx 3 rfl rfl dX6_readNumber_44 (pn := 45) rfl ?_
    refine j_bipush cx (v := 10) (by decide) dX6_readNumber_45 (pn := 47) rfl ?_
    refine j_imul cx dX6_readNumber_47 (pn := 48) rfl ?_
    refine j_aload_n cx 0 rfl rfl dX6_readNumber_48 (pn := 49) rfl ?_
    refine j_get cx inGX6 0 rfl rfl 0 (by decide) q_fl_X6_24 rfl rfl dX6_readNumber_49 (pn := 52) rfl ?_
    refine j_getN cx inGX8 5 rfl rfl 0 (by decide) q_fl_X6_58 rfl rfl dX6_readNumber_52 (pn := 55) rfl ?_
    refine j_iload cx 4 rfl dX6_readNumber_55 (pn := 57) rfl ?_
    refine j_iald cx 6 0 rfl rfl h.1 dX6_readNumber_57 (pn := 58) rfl ?_
    have h := h.2
    refine j_iadd cx dX6_readNumber_58 (pn := 59) rfl ?_
    refine j_bipush cx (v := 48) (by decide) dX6_readNumber_59 (pn := 61) rfl ?_
    refine j_isub cx dX6_readNumber_61 (pn := 62) rfl ?_
    refine j_topi (fun y7 ey7 => ?_)
    have h := h y7 ey7
    refine j_istore_n cx rfl [(3, .int y7), (0, .ref a_r), (1, .int p1), (2, .int p2), (4, .int x4)] (by decide) rfl dX6_readNumber_62 (pn := 63) rfl ?_
    obtain ⟨y8, ey8⟩ : ∃ z : Int32, z = x4 + 1 := ⟨_, rfl⟩
    have h := h y8 ey8
    refine j_iinc cx 4 rfl (cst := 1) (by decide) ey8 [(4, .int y8), (3, .int y7), (0, .ref a_r), (1, .int p1), (2, .int p2)] (by decide) rfl dX6_readNumber_63 (pn := 66) rfl ?_
    refine j_goto cx 35 dX6_readNumber_66 rfl ?_
    refine j_sub [2, 3, 4, 1, 0] [(0, .ref a_r), (1, .int p1), (2, .int p2), (3, .int y7), (4, .int y8)] rfl ?_
    exact hB35 _ _ h
set_option maxHeartbeats 4000000 in
set_option maxRecDepth 100000 in
theorem J_X6_readNumber_35 {x : CX} {D : va_G} {cyI cyJ cyZ : ClassId} {a_r a_r_verbs a_r_firsts a_r_seconds a_r_thirds a_t a_t_bytes : Nat} {r_lines : Int32} {r_columns : Int32} {r_rows : Int32} {r_start : Int32} {r_stop : Int32} {r_kind : Int32} {r_verbs : Nat → Int32} {r_firsts : Nat → Int32} {r_seconds : Nat → Int32} {r_thirds : Nat → Int32} {t_length : Int32} {t_bytes : Nat → Int32} {p1 : Int32} {p2 : Int32} {x3 : Int32} {x4 : Int32} {Q : Int32 → Int32 × Int32 × Int32 → Prop} (cx : Cx x cX6_readNumber 5 RX6 rm_X6_readNumber D [(cyI, .int), (cyJ, .long), (cyZ, .boolean)]) (hR : ∀ (v : Int32) (u : Int32 × Int32 × Int32) (pc : Nat) (lv : List (Nat × Value)), decode cX6_readNumber pc = .ok (.ireturn, 1) → Q v u → J x 0 0 5 (W_Reader cyI cyJ cyZ a_r a_r_verbs a_r_firsts a_r_seconds a_r_thirds a_t a_t_bytes r_lines r_columns r_rows u.1 u.2.1 u.2.2 r_verbs r_firsts r_seconds r_thirds t_length t_bytes) lv pc [.int v]) (h : lp_X6_readNumber_35 Q  p1 p2 r_start r_stop r_kind t_bytes x3 x4) :
    J x 0 0 5 (W_Reader cyI cyJ cyZ a_r a_r_verbs a_r_firsts a_r_seconds a_r_thirds a_t a_t_bytes r_lines r_columns r_rows r_start r_stop r_kind r_verbs r_firsts r_seconds r_thirds t_length t_bytes) [(0, .ref a_r), (1, .int p1), (2, .int p2), (3, .int x3), (4, .int x4)] 35 [] := by
  obtain ⟨I, ⟨n, h0⟩, hb⟩ := h
  revert x3 x4
  induction n using Nat.strongRecOn with
  | _ n ih =>
    intro x3 x4 h0
    exact B_X6_readNumber_35 cx hR (fun _ _ hz => by obtain ⟨n2, hlt, hI⟩ := hz; exact ih n2 hlt hI) (hb n x3 x4 h0)
set_option maxHeartbeats 4000000 in
set_option maxRecDepth 100000 in
theorem c_X6_readNumber {D : va_G} {cyI cyJ cyZ : ClassId} {a_r a_r_verbs a_r_firsts a_r_seconds a_r_thirds a_t a_t_bytes : Nat} {r_lines : Int32} {r_columns : Int32} {r_rows : Int32} {r_start : Int32} {r_stop : Int32} {r_kind : Int32} {r_verbs : Nat → Int32} {r_firsts : Nat → Int32} {r_seconds : Nat → Int32} {r_thirds : Nat → Int32} {t_length : Int32} {t_bytes : Nat → Int32} {p1 : Int32} {p2 : Int32} {Q : Int32 → Int32 × Int32 × Int32 → Prop} (h : wp_X6_readNumber p1 p2 r_stop t_length t_bytes Q) :
    MetI yX6_readNumber cX6_readNumber 5 (some .int) rm_X6_readNumber D [(cyI, .int), (cyJ, .long), (cyZ, .boolean)] [.ref a_r, .int p1, .int p2] (W_Reader cyI cyJ cyZ a_r a_r_verbs a_r_firsts a_r_seconds a_r_thirds a_t a_t_bytes r_lines r_columns r_rows r_start r_stop r_kind r_verbs r_firsts r_seconds r_thirds t_length t_bytes) (fun u : Int32 × Int32 × Int32 => (W_Reader cyI cyJ cyZ a_r a_r_verbs a_r_firsts a_r_seconds a_r_thirds a_t a_t_bytes r_lines r_columns r_rows u.1 u.2.1 u.2.2 r_verbs r_firsts r_seconds r_thirds t_length t_bytes)) (fun v u => Q v u) := by
  unfold wp_X6_readNumber at h
  refine metI_of (by decide) (Nat.le_of_ble_eq_true rfl) (fun x cx0 hR0 => ?_)
  have cx : Cx x cX6_readNumber 5 RX6 rm_X6_readNumber D [(cyI, .int), (cyJ, .long), (cyZ, .boolean)] := cx0
  have hR : ∀ (v : Int32) (u : Int32 × Int32 × Int32) (pc : Nat) (lv : List (Nat × Value)), decode cX6_readNumber pc = .ok (.ireturn, 1) → Q v u → J x 0 0 5 (W_Reader cyI cyJ cyZ a_r a_r_verbs a_r_firsts a_r_seconds a_r_thirds a_t a_t_bytes r_lines r_columns r_rows u.1 u.2.1 u.2.2 r_verbs r_firsts r_seconds r_thirds t_length t_bytes) lv pc [.int v] := (fun v u pc lv d hq => hR0 v u pc lv d hq)
  show J x 0 0 5 (W_Reader cyI cyJ cyZ a_r a_r_verbs a_r_firsts a_r_seconds a_r_thirds a_t a_t_bytes r_lines r_columns r_rows r_start r_stop r_kind r_verbs r_firsts r_seconds r_thirds t_length t_bytes) [(0, .ref a_r), (1, .int p1), (2, .int p2)] 0 []
  refine j_aload_n cx 0 rfl rfl dX6_readNumber_0 (pn := 1) rfl ?_
  refine j_callvV0 cx q_inst_X6_nextToken q_sel_X6_nextToken (b := a_r) (As := []) (rest := []) (c_X6_nextToken h) ⟨q_code_X6_nextToken, q_ml_X6_48, q_init_X6, hd_X6_nextToken, ⟨Nat.le_of_ble_eq_true rfl, Nat.le_of_ble_eq_true rfl⟩, Nat.le_of_ble_eq_true rfl, Nat.le_of_ble_eq_true rfl⟩ (q0 := 0) rfl rfl rfl rfl (Nat.le_of_ble_eq_true rfl) dX6_readNumber_1 (pn := 4) rfl (fun u1 h => ?_)
  show J x 0 0 5 (W_Reader cyI cyJ cyZ a_r a_r_verbs a_r_firsts a_r_seconds a_r_thirds a_t a_t_bytes r_lines r_columns r_rows u1.1 u1.2.1 u1.2.2 r_verbs r_firsts r_seconds r_thirds t_length t_bytes) [(0, .ref a_r), (1, .int p1), (2, .int p2)] 4 []
  refine j_aload_n cx 0 rfl rfl dX6_readNumber_4 (pn := 5) rfl ?_
  refine j_get cx inGX6 0 rfl rfl 10 (by decide) q_fl_X6_51 rfl rfl dX6_readNumber_5 (pn := 8) rfl ?_
  refine j_iconst cx (v := 2) (by decide) dX6_readNumber_8 (pn := 9) rfl ?_
  refine j_icmp_ne cx 25 dX6_readNumber_9 (pn := 12) rfl rfl (fun c2 => ?_) (fun c2 => ?_)
  · have h := h.1 c2
    refine j_iconst cx (v := (-1)) (by decide) dX6_readNumber_25 (pn := 26) rfl ?_
    exact hR (-1) (u1.1, u1.2.1, u1.2.2) 26 _ dX6_readNumber_26 h
  · have h := h.2 c2
    refine j_aload_n cx 0 rfl rfl dX6_readNumber_12 (pn := 13) rfl ?_
    refine j_get cx inGX6 0 rfl rfl 9 (by decide) q_fl_X6_35 rfl rfl dX6_readNumber_13 (pn := 16) rfl ?_
    refine j_aload_n cx 0 rfl rfl dX6_readNumber_16 (pn := 17) rfl ?_
    refine j_get cx inGX6 0 rfl rfl 8 (by decide) q_fl_X6_45 rfl rfl dX6_readNumber_17 (pn := 20) rfl ?_
    refine j_isub cx dX6_readNumber_20 (pn := 21) rfl ?_
    refine j_iconst cx (v := 2) (by decide) dX6_readNumber_21 (pn := 22) rfl ?_
    refine j_icmp_le cx 27 dX6_readNumber_22 (pn := 25) rfl rfl (fun c3 => ?_) (fun c3 => ?_)
    · have h := h.1 c3
      refine j_iconst cx (v := 0) (by decide) dX6_readNumber_27 (pn := 28) rfl ?_
      refine j_istore_n cx rfl [(3, .int 0), (0, .ref a_r), (1, .int p1), (2, .int p2)] (by decide) rfl dX6_readNumber_28 (pn := 29) rfl ?_
      refine j_aload_n cx 1 rfl rfl dX6_readNumber_29 (pn := 30) rfl ?_
      refine j_get cx inGX6 0 rfl rfl 8 (by decide) q_fl_X6_45 rfl rfl dX6_readNumber_30 (pn := 33) rfl ?_
      refine j_istore cx [(4, .int u1.1), (3, .int 0), (0, .ref a_r), (1, .int p1), (2, .int p2)] (by decide) rfl dX6_readNumber_33 (pn := 35) rfl ?_
      refine j_sub [2, 3, 4, 1, 0] [(0, .ref a_r), (1, .int p1), (2, .int p2), (3, .int 0), (4, .int u1.1)] rfl ?_
      exact J_X6_readNumber_35 cx hR h
    · have h := h.2 c3
      refine j_iconst cx (v := (-1)) (by decide) dX6_readNumber_25 (pn := 26) rfl ?_
      exact hR (-1) (u1.1, u1.2.1, u1.2.2) 26 _ dX6_readNumber_26 h
theorem dX6_keep_0 : decode cX6_keep 0 = .ok (.iload_n 1, 1) := by decide +kernel
theorem dX6_keep_1 : decode cX6_keep 1 = .ok (.ifCond .lt 13, 3) := by decide +kernel
theorem dX6_keep_4 : decode cX6_keep 4 = .ok (.iload_n 1, 1) := by decide +kernel
theorem dX6_keep_5 : decode cX6_keep 5 = .ok (.aload_n 0, 1) := by decide +kernel
theorem dX6_keep_6 : decode cX6_keep 6 = .ok (.arraylength, 1) := by decide +kernel
theorem dX6_keep_7 : decode cX6_keep 7 = .ok (.if_icmp .ge 7, 3) := by decide +kernel
theorem dX6_keep_10 : decode cX6_keep 10 = .ok (.aload_n 0, 1) := by decide +kernel
theorem dX6_keep_11 : decode cX6_keep 11 = .ok (.iload_n 1, 1) := by decide +kernel
theorem dX6_keep_12 : decode cX6_keep 12 = .ok (.iload_n 2, 1) := by decide +kernel
theorem dX6_keep_13 : decode cX6_keep 13 = .ok (.iastore, 1) := by decide +kernel
theorem dX6_keep_14 : decode cX6_keep 14 = .ok (.iload_n 2, 1) := by decide +kernel
theorem dX6_keep_15 : decode cX6_keep 15 = .ok (.iconst (-1), 1) := by decide +kernel
theorem dX6_keep_16 : decode cX6_keep 16 = .ok (.if_icmp .eq 7, 3) := by decide +kernel
theorem dX6_keep_19 : decode cX6_keep 19 = .ok (.iconst 1, 1) := by decide +kernel
theorem dX6_keep_20 : decode cX6_keep 20 = .ok (.goto 4, 3) := by decide +kernel
theorem dX6_keep_23 : decode cX6_keep 23 = .ok (.iconst 0, 1) := by decide +kernel
theorem dX6_keep_24 : decode cX6_keep 24 = .ok (.ireturn, 1) := by decide +kernel
abbrev rm_X6_keep : Room := { frames := 0, cells := 0, slots := 0, locals := 0 }
theorem hd_X6_keep : yX6_keep.cls ≠ "java/lang/invoke/MethodHandle" ∧ yX6_keep.cls ≠ "java/lang/invoke/VarHandle" ∧ (parseMethodDescriptor yX6_keep.desc).map (fun d => d.parameters.length) = some 3 := by decide +kernel
def bk_X6_keep_14 (Q : Int32 → ((Nat → Int32)) → Prop) (p2 : Int32) (arr : Nat → Int32) : Prop :=
((p2 = (-1) → Q 0 arr) ∧
(¬ p2 = (-1) → Q 1 arr))
def wp_X6_keep (n_arr : Nat) (p1 : Int32) (p2 : Int32) (arr : Nat → Int32) (Q : Int32 → ((Nat → Int32)) → Prop) : Prop :=
((p1 < 0 → bk_X6_keep_14 Q p2 arr) ∧
(¬ p1 < 0 → (((Int32.ofNat n_arr) ≤ p1 → bk_X6_keep_14 Q p2 arr) ∧
(¬ (Int32.ofNat n_arr) ≤ p1 → vp_in p1 n_arr ∧ (∀ f4 : Nat → Int32, f4 = (upd arr p1.toNatClampNeg p2) →
bk_X6_keep_14 Q p2 f4)))))
set_option maxHeartbeats 4000000 in
set_option maxRecDepth 100000 in
theorem J_X6_keep_14 {x : CX} {D : va_G} {cyI cyJ cyZ : ClassId} {n_arr : Nat} {a_arr : Nat} {arr : Nat → Int32} {p2 : Int32} {Q : Int32 → ((Nat → Int32)) → Prop} (cx : Cx x cX6_keep 3 RX6 rm_X6_keep D [(cyI, .int), (cyJ, .long), (cyZ, .boolean)]) (hR : ∀ (v : Int32) (u : (Nat → Int32)) (pc : Nat) (lv : List (Nat × Value)), decode cX6_keep pc = .ok (.ireturn, 1) → (v = 0 ∨ v = 1) → Q v u → J x 0 0 3 (W_Arr cyI cyJ cyZ n_arr a_arr u) lv pc [.int v]) (h : bk_X6_keep_14 Q  p2 arr) :
    J x 0 0 3 (W_Arr cyI cyJ cyZ n_arr a_arr arr) [(2, .int p2)] 14 [] := by
  unfold bk_X6_keep_14 at h
  refine j_iload_n cx 0 rfl rfl dX6_keep_14 (pn := 15) rfl ?_
  refine j_iconst cx (v := (-1)) (by decide) dX6_keep_15 (pn := 16) rfl ?_
  refine j_icmp_eq cx 23 dX6_keep_16 (pn := 19) rfl rfl (fun c2 => ?_) (fun c2 => ?_)
  · have h := h.1 c2
    refine j_iconst cx (v := 0) (by decide) dX6_keep_23 (pn := 24) rfl ?_
    exact hR 0 arr 24 _ dX6_keep_24 (Or.inl rfl) h
  · have h := h.2 c2
    refine j_iconst cx (v := 1) (by decide) dX6_keep_19 (pn := 20) rfl ?_
    refine j_goto cx 24 dX6_keep_20 rfl ?_
    exact hR 1 arr 24 _ dX6_keep_24 (Or.inr rfl) h
set_option maxHeartbeats 4000000 in
set_option maxRecDepth 100000 in
theorem c_X6_keep {D : va_G} {cyI cyJ cyZ : ClassId} {n_arr : Nat} {a_arr : Nat} {arr : Nat → Int32} {p1 : Int32} {p2 : Int32} {Q : Int32 → ((Nat → Int32)) → Prop} (h : wp_X6_keep n_arr p1 p2 arr Q) :
    MetI yX6_keep cX6_keep 3 (some .boolean) rm_X6_keep D [(cyI, .int), (cyJ, .long), (cyZ, .boolean)] [.ref a_arr, .int p1, .int p2] (W_Arr cyI cyJ cyZ n_arr a_arr arr) (fun u : (Nat → Int32) => (W_Arr cyI cyJ cyZ n_arr a_arr u)) (fun v u => Q v u) := by
  unfold wp_X6_keep at h
  refine metZ_of (by decide) (Nat.le_of_ble_eq_true rfl) (fun x cx0 hR0 => ?_)
  have cx : Cx x cX6_keep 3 RX6 rm_X6_keep D [(cyI, .int), (cyJ, .long), (cyZ, .boolean)] := cx0
  have hR : ∀ (v : Int32) (u : (Nat → Int32)) (pc : Nat) (lv : List (Nat × Value)), decode cX6_keep pc = .ok (.ireturn, 1) → (v = 0 ∨ v = 1) → Q v u → J x 0 0 3 (W_Arr cyI cyJ cyZ n_arr a_arr u) lv pc [.int v] := (fun v u pc lv d hz hq => hR0 v u pc lv d hz hq)
  show J x 0 0 3 (W_Arr cyI cyJ cyZ n_arr a_arr arr) [(0, .ref a_arr), (1, .int p1), (2, .int p2)] 0 []
  refine j_iload_n cx 1 rfl rfl dX6_keep_0 (pn := 1) rfl ?_
  refine j_if_lt cx 14 dX6_keep_1 (pn := 4) rfl rfl (fun c1 => ?_) (fun c1 => ?_)
  · have h := h.1 c1
    refine j_sub [2] [(2, .int p2)] rfl ?_
    exact J_X6_keep_14 cx hR h
  · have h := h.2 c1
    refine j_iload_n cx 1 rfl rfl dX6_keep_4 (pn := 5) rfl ?_
    refine j_aload_n cx 0 rfl rfl dX6_keep_5 (pn := 6) rfl ?_
    refine j_alen cx (v := Int32.ofNat n_arr) 0 0 rfl rfl rfl dX6_keep_6 (pn := 7) rfl ?_
    refine j_icmp_ge cx 14 dX6_keep_7 (pn := 10) rfl rfl (fun c3 => ?_) (fun c3 => ?_)
    · have h := h.1 c3
      refine j_sub [2] [(2, .int p2)] rfl ?_
      exact J_X6_keep_14 cx hR h
    · have h := h.2 c3
      refine j_aload_n cx 0 rfl rfl dX6_keep_10 (pn := 11) rfl ?_
      refine j_iload_n cx 1 rfl rfl dX6_keep_11 (pn := 12) rfl ?_
      refine j_iload_n cx 2 rfl rfl dX6_keep_12 (pn := 13) rfl ?_
      have hin := h.1
      obtain ⟨f4, ef4⟩ : ∃ z, z = upd arr p1.toNatClampNeg p2 := ⟨_, rfl⟩
      have h := h.2 f4 ef4
      refine j_iast cx 0 0 rfl rfl hin (W_Arr cyI cyJ cyZ n_arr a_arr f4) (by subst ef4; rfl) dX6_keep_13 (pn := 14) rfl ?_
      refine j_sub [2] [(2, .int p2)] rfl ?_
      exact J_X6_keep_14 cx hR h
theorem dX6_readSize_0 : decode cX6_readSize 0 = .ok (.aload_n 0, 1) := by decide +kernel
theorem dX6_readSize_1 : decode cX6_readSize 1 = .ok (.iconst 1, 1) := by decide +kernel
theorem dX6_readSize_2 : decode cX6_readSize 2 = .ok (.bipush 10, 2) := by decide +kernel
theorem dX6_readSize_4 : decode cX6_readSize 4 = .ok (.invokevirtual 73, 3) := by decide +kernel
theorem dX6_readSize_7 : decode cX6_readSize 7 = .ok (.istore_n 2, 1) := by decide +kernel
theorem dX6_readSize_8 : decode cX6_readSize 8 = .ok (.iload_n 2, 1) := by decide +kernel
theorem dX6_readSize_9 : decode cX6_readSize 9 = .ok (.iconst 1, 1) := by decide +kernel
theorem dX6_readSize_10 : decode cX6_readSize 10 = .ok (.if_icmp .ge 5, 3) := by decide +kernel
theorem dX6_readSize_13 : decode cX6_readSize 13 = .ok (.iconst 0, 1) := by decide +kernel
theorem dX6_readSize_14 : decode cX6_readSize 14 = .ok (.ireturn, 1) := by decide +kernel
theorem dX6_readSize_15 : decode cX6_readSize 15 = .ok (.aload_n 0, 1) := by decide +kernel
theorem dX6_readSize_16 : decode cX6_readSize 16 = .ok (.iconst 1, 1) := by decide +kernel
theorem dX6_readSize_17 : decode cX6_readSize 17 = .ok (.bipush 10, 2) := by decide +kernel
theorem dX6_readSize_19 : decode cX6_readSize 19 = .ok (.iload_n 2, 1) := by decide +kernel
theorem dX6_readSize_20 : decode cX6_readSize 20 = .ok (.idiv, 1) := by decide +kernel
theorem dX6_readSize_21 : decode cX6_readSize 21 = .ok (.invokevirtual 73, 3) := by decide +kernel
theorem dX6_readSize_24 : decode cX6_readSize 24 = .ok (.istore_n 3, 1) := by decide +kernel
theorem dX6_readSize_25 : decode cX6_readSize 25 = .ok (.iload_n 3, 1) := by decide +kernel
theorem dX6_readSize_26 : decode cX6_readSize 26 = .ok (.iconst 1, 1) := by decide +kernel
theorem dX6_readSize_27 : decode cX6_readSize 27 = .ok (.if_icmp .ge 5, 3) := by decide +kernel
theorem dX6_readSize_30 : decode cX6_readSize 30 = .ok (.iconst 0, 1) := by decide +kernel
theorem dX6_readSize_31 : decode cX6_readSize 31 = .ok (.ireturn, 1) := by decide +kernel
theorem dX6_readSize_32 : decode cX6_readSize 32 = .ok (.aload_n 0, 1) := by decide +kernel
theorem dX6_readSize_33 : decode cX6_readSize 33 = .ok (.iload_n 2, 1) := by decide +kernel
theorem dX6_readSize_34 : decode cX6_readSize 34 = .ok (.putfield 28, 3) := by decide +kernel
theorem dX6_readSize_37 : decode cX6_readSize 37 = .ok (.aload_n 0, 1) := by decide +kernel
theorem dX6_readSize_38 : decode cX6_readSize 38 = .ok (.iload_n 3, 1) := by decide +kernel
theorem dX6_readSize_39 : decode cX6_readSize 39 = .ok (.putfield 32, 3) := by decide +kernel
theorem dX6_readSize_42 : decode cX6_readSize 42 = .ok (.aload_n 0, 1) := by decide +kernel
theorem dX6_readSize_43 : decode cX6_readSize 43 = .ok (.getfield 15, 3) := by decide +kernel
theorem dX6_readSize_46 : decode cX6_readSize 46 = .ok (.iload_n 1, 1) := by decide +kernel
theorem dX6_readSize_47 : decode cX6_readSize 47 = .ok (.iload_n 2, 1) := by decide +kernel
theorem dX6_readSize_48 : decode cX6_readSize 48 = .ok (.invokestatic 77, 3) := by decide +kernel
theorem dX6_readSize_51 : decode cX6_readSize 51 = .ok (.ifCond .eq 19, 3) := by decide +kernel
theorem dX6_readSize_54 : decode cX6_readSize 54 = .ok (.aload_n 0, 1) := by decide +kernel
theorem dX6_readSize_55 : decode cX6_readSize 55 = .ok (.getfield 18, 3) := by decide +kernel
theorem dX6_readSize_58 : decode cX6_readSize 58 = .ok (.iload_n 1, 1) := by decide +kernel
theorem dX6_readSize_59 : decode cX6_readSize 59 = .ok (.iload_n 3, 1) := by decide +kernel
theorem dX6_readSize_60 : decode cX6_readSize 60 = .ok (.invokestatic 77, 3) := by decide +kernel
theorem dX6_readSize_63 : decode cX6_readSize 63 = .ok (.ifCond .eq 7, 3) := by decide +kernel
theorem dX6_readSize_66 : decode cX6_readSize 66 = .ok (.iconst 1, 1) := by decide +kernel
theorem dX6_readSize_67 : decode cX6_readSize 67 = .ok (.goto 4, 3) := by decide +kernel
theorem dX6_readSize_70 : decode cX6_readSize 70 = .ok (.iconst 0, 1) := by decide +kernel
theorem dX6_readSize_71 : decode cX6_readSize 71 = .ok (.ireturn, 1) := by decide +kernel
abbrev rm_X6_readSize : Room := { frames := 3, cells := 0, slots := 0, locals := 64 }
theorem hd_X6_readSize : yX6_readSize.cls ≠ "java/lang/invoke/MethodHandle" ∧ yX6_readSize.cls ≠ "java/lang/invoke/VarHandle" ∧ (parseMethodDescriptor yX6_readSize.desc).map (fun d => d.parameters.length) = some 1 := by decide +kernel
def wp_X6_readSize (p1 : Int32) (r_columns : Int32) (r_rows : Int32) (r_stop : Int32) (r_firsts : Nat → Int32) (r_seconds : Nat → Int32) (t_length : Int32) (t_bytes : Nat → Int32) (Q : Int32 → (Int32 × Int32 × Int32 × Int32 × Int32 × (Nat → Int32) × (Nat → Int32)) → Prop) : Prop :=
wp_X6_readNumber 1 10 r_stop t_length t_bytes (fun (r1 : Int32) (u2 : Int32 × Int32 × Int32) => ((1 ≤ r1 → ¬ r1 = 0 ∧ wp_X6_readNumber 1 (10 / r1) u2.2.1 t_length t_bytes (fun (r4 : Int32) (u5 : Int32 × Int32 × Int32) => ((1 ≤ r4 → wp_X6_keep 10 p1 r1 r_firsts (fun (r7 : Int32) (u8 : (Nat → Int32)) => ((r7 = 0 → Q 0 (r1, r4, u5.1, u5.2.1, u5.2.2, u8, r_seconds)) ∧
(¬ r7 = 0 → wp_X6_keep 10 p1 r4 r_seconds (fun (r10 : Int32) (u11 : (Nat → Int32)) => ((r10 = 0 → Q 0 (r1, r4, u5.1, u5.2.1, u5.2.2, u8, u11)) ∧
(¬ r10 = 0 → Q 1 (r1, r4, u5.1, u5.2.1, u5.2.2, u8, u11)))))))) ∧
(¬ 1 ≤ r4 → Q 0 (r_columns, r_rows, u5.1, u5.2.1, u5.2.2, r_firsts, r_seconds))))) ∧
(¬ 1 ≤ r1 → Q 0 (r_columns, r_rows, u2.1, u2.2.1, u2.2.2, r_firsts, r_seconds))))
set_option maxHeartbeats 4000000 in
set_option maxRecDepth 100000 in
theorem c_X6_readSize {D : va_G} {cyI cyJ cyZ : ClassId} {a_r a_r_verbs a_r_firsts a_r_seconds a_r_thirds a_t a_t_bytes : Nat} {r_lines : Int32} {r_columns : Int32} {r_rows : Int32} {r_start : Int32} {r_stop : Int32} {r_kind : Int32} {r_verbs : Nat → Int32} {r_firsts : Nat → Int32} {r_seconds : Nat → Int32} {r_thirds : Nat → Int32} {t_length : Int32} {t_bytes : Nat → Int32} {p1 : Int32} {Q : Int32 → (Int32 × Int32 × Int32 × Int32 × Int32 × (Nat → Int32) × (Nat → Int32)) → Prop} (h : wp_X6_readSize p1 r_columns r_rows r_stop r_firsts r_seconds t_length t_bytes Q) :
    MetI yX6_readSize cX6_readSize 4 (some .boolean) rm_X6_readSize D [(cyI, .int), (cyJ, .long), (cyZ, .boolean)] [.ref a_r, .int p1] (W_Reader cyI cyJ cyZ a_r a_r_verbs a_r_firsts a_r_seconds a_r_thirds a_t a_t_bytes r_lines r_columns r_rows r_start r_stop r_kind r_verbs r_firsts r_seconds r_thirds t_length t_bytes) (fun u : Int32 × Int32 × Int32 × Int32 × Int32 × (Nat → Int32) × (Nat → Int32) => (W_Reader cyI cyJ cyZ a_r a_r_verbs a_r_firsts a_r_seconds a_r_thirds a_t a_t_bytes r_lines u.1 u.2.1 u.2.2.1 u.2.2.2.1 u.2.2.2.2.1 r_verbs u.2.2.2.2.2.1 u.2.2.2.2.2.2 r_thirds t_length t_bytes)) (fun v u => Q v u) := by
  unfold wp_X6_readSize at h
  refine metZ_of (by decide) (Nat.le_of_ble_eq_true rfl) (fun x cx0 hR0 => ?_)
  have cx : Cx x cX6_readSize 4 RX6 rm_X6_readSize D [(cyI, .int), (cyJ, .long), (cyZ, .boolean)] := cx0
  have hR : ∀ (v : Int32) (u : Int32 × Int32 × Int32 × Int32 × Int32 × (Nat → Int32) × (Nat → Int32)) (pc : Nat) (lv : List (Nat × Value)), decode cX6_readSize pc = .ok (.ireturn, 1) → (v = 0 ∨ v = 1) → Q v u → J x 0 0 4 (W_Reader cyI cyJ cyZ a_r a_r_verbs a_r_firsts a_r_seconds a_r_thirds a_t a_t_bytes r_lines u.1 u.2.1 u.2.2.1 u.2.2.2.1 u.2.2.2.2.1 r_verbs u.2.2.2.2.2.1 u.2.2.2.2.2.2 r_thirds t_length t_bytes) lv pc [.int v] := (fun v u pc lv d hz hq => hR0 v u pc lv d hz hq)
  show J x 0 0 4 (W_Reader cyI cyJ cyZ a_r a_r_verbs a_r_firsts a_r_seconds a_r_thirds a_t a_t_bytes r_lines r_columns r_rows r_start r_stop r_kind r_verbs r_firsts r_seconds r_thirds t_length t_bytes) [(0, .ref a_r), (1, .int p1)] 0 []
  refine j_aload_n cx 0 rfl rfl dX6_readSize_0 (pn := 1) rfl ?_
  refine j_iconst cx (v := 1) (by decide) dX6_readSize_1 (pn := 2) rfl ?_
  refine j_bipush cx (v := 10) (by decide) dX6_readSize_2 (pn := 4) rfl ?_
  refine j_callvI0 cx q_inst_X6_readNumber q_sel_X6_readNumber (b := a_r) (As := [.int 1, .int 10]) (rest := []) (c_X6_readNumber h) ⟨q_code_X6_readNumber, q_ml_X6_73, q_init_X6, hd_X6_readNumber, ⟨Nat.le_of_ble_eq_true rfl, Nat.le_of_ble_eq_true rfl⟩, Nat.le_of_ble_eq_true rfl, Nat.le_of_ble_eq_true rfl⟩ (q0 := 0) rfl rfl rfl rfl (Nat.le_of_ble_eq_true rfl) dX6_readSize_4 (pn := 7) rfl (fun r1 u2 h => ?_)
  show J x 0 0 4 (W_Reader cyI cyJ cyZ a_r a_r_verbs a_r_firsts a_r_seconds a_r_thirds a_t a_t_bytes r_lines r_columns r_rows u2.1 u2.2.1 u2.2.2 r_verbs r_firsts r_seconds r_thirds t_length t_bytes) [(0, .ref a_r), (1, .int p1)] 7 [.int r1]
  refine j_istore_n cx rfl [(2, .int r1), (0, .ref a_r), (1, .int p1)] (by decide) rfl dX6_readSize_7 (pn := 8) rfl ?_
  refine j_iload_n cx 0 rfl rfl dX6_readSize_8 (pn := 9) rfl ?_
  refine j_iconst cx (v := 1) (by decide) dX6_readSize_9 (pn := 10) rfl ?_
  refine j_icmp_ge cx 15 dX6_readSize_10 (pn := 13) rfl rfl (fun c3 => ?_) (fun c3 => ?_)
  · have h := h.1 c3
    refine j_aload_n cx 1 rfl rfl dX6_readSize_15 (pn := 16) rfl ?_
    refine j_iconst cx (v := 1) (by decide) dX6_readSize_16 (pn := 17) rfl ?_
    refine j_bipush cx (v := 10) (by decide) dX6_readSize_17 (pn := 19) rfl ?_
    refine j_iload_n cx 0 rfl rfl dX6_readSize_19 (pn := 20) rfl ?_
    refine j_idiv cx h.1 dX6_readSize_20 (pn := 21) rfl ?_
    have h := h.2
    refine j_callvI0 cx q_inst_X6_readNumber q_sel_X6_readNumber (b := a_r) (As := [.int 1, .int (10 / r1)]) (rest := []) (c_X6_readNumber h) ⟨q_code_X6_readNumber, q_ml_X6_73, q_init_X6, hd_X6_readNumber, ⟨Nat.le_of_ble_eq_true rfl, Nat.le_of_ble_eq_true rfl⟩, Nat.le_of_ble_eq_true rfl, Nat.le_of_ble_eq_true rfl⟩ (q0 := 0) rfl rfl rfl rfl (Nat.le_of_ble_eq_true rfl) dX6_readSize_21 (pn := 24) rfl (fun r4 u5 h => ?_)
    show J x 0 0 4 (W_Reader cyI cyJ cyZ a_r a_r_verbs a_r_firsts a_r_seconds a_r_thirds a_t a_t_bytes r_lines r_columns r_rows u5.1 u5.2.1 u5.2.2 r_verbs r_firsts r_seconds r_thirds t_length t_bytes) [(2, .int r1), (0, .ref a_r), (1, .int p1)] 24 [.int r4]
    refine j_istore_n cx rfl [(3, .int r4), (2, .int r1), (0, .ref a_r), (1, .int p1)] (by decide) rfl dX6_readSize_24 (pn := 25) rfl ?_
    refine j_iload_n cx 0 rfl rfl dX6_readSize_25 (pn := 26) rfl ?_
    refine j_iconst cx (v := 1) (by decide) dX6_readSize_26 (pn := 27) rfl ?_
    refine j_icmp_ge cx 32 dX6_readSize_27 (pn := 30) rfl rfl (fun c6 => ?_) (fun c6 => ?_)
    · have h := h.1 c6
      refine j_aload_n cx 2 rfl rfl dX6_readSize_32 (pn := 33) rfl ?_
      refine j_iload_n cx 1 rfl rfl dX6_readSize_33 (pn := 34) rfl ?_
      refine j_put cx tyX6 tyX6_ok nmX6 inGX6 0 rfl rfl 6 (by decide) q_fl_X6_28 rfl rfl rfl rfl rfl (Nat.le_of_ble_eq_true rfl) (W_Reader cyI cyJ cyZ a_r a_r_verbs a_r_firsts a_r_seconds a_r_thirds a_t a_t_bytes r_lines r1 r_rows u5.1 u5.2.1 u5.2.2 r_verbs r_firsts r_seconds r_thirds t_length t_bytes) rfl dX6_readSize_34 (pn := 37) rfl ?_
      refine j_aload_n cx 2 rfl rfl dX6_readSize_37 (pn := 38) rfl ?_
      refine j_iload_n cx 0 rfl rfl dX6_readSize_38 (pn := 39) rfl ?_
      refine j_put cx tyX6 tyX6_ok nmX6 inGX6 0 rfl rfl 7 (by decide) q_fl_X6_32 rfl rfl rfl rfl rfl (Nat.le_of_ble_eq_true rfl) (W_Reader cyI cyJ cyZ a_r a_r_verbs a_r_firsts a_r_seconds a_r_thirds a_t a_t_bytes r_lines r1 r4 u5.1 u5.2.1 u5.2.2 r_verbs r_firsts r_seconds r_thirds t_length t_bytes) rfl dX6_readSize_39 (pn := 42) rfl ?_
      refine j_aload_n cx 2 rfl rfl dX6_readSize_42 (pn := 43) rfl ?_
      refine j_get cx inGX6 0 rfl rfl 2 (by decide) q_fl_X6_15 rfl rfl dX6_readSize_43 (pn := 46) rfl ?_
      refine j_iload_n cx 3 rfl rfl dX6_readSize_46 (pn := 47) rfl ?_
      refine j_iload_n cx 1 rfl rfl dX6_readSize_47 (pn := 48) rfl ?_
      refine j_callsI cx q_stat_X6_keep (As := [.ref a_r_firsts, .int p1, .int r1]) (rest := []) (W_Arr cyI cyJ cyZ 10 a_r_firsts r_firsts) [(a_r, .inr (6, [.ref a_t, .ref a_r_verbs, .ref a_r_firsts, .ref a_r_seconds, .ref a_r_thirds, .int r_lines, .int r1, .int r4, .int u5.1, .int u5.2.1, .int u5.2.2])), (a_r_verbs, .inl (cyI, 10, .inl r_verbs)), (a_r_seconds, .inl (cyI, 10, .inl r_seconds)), (a_r_thirds, .inl (cyI, 10, .inl r_thirds)), (a_t, .inr (8, [.ref a_t_bytes, .int t_length])), (a_t_bytes, .inl (cyI, 200, .inl t_bytes))] (c_X6_keep h) ⟨q_code_X6_keep, q_ml_X6_77, q_init_X6, hd_X6_keep, ⟨Nat.le_of_ble_eq_true rfl, Nat.le_of_ble_eq_true rfl⟩, Nat.le_of_ble_eq_true rfl, Nat.le_of_ble_eq_true rfl⟩ rfl [2] [0, 1, 3, 4, 5, 6] [0, 1, 6, 2, 3, 4, 5] rfl rfl rfl rfl rfl (by decide) (fun u : (Nat → Int32) => (W_Reader cyI cyJ cyZ a_r a_r_verbs a_r_firsts a_r_seconds a_r_thirds a_t a_t_bytes r_lines r1 r4 u5.1 u5.2.1 u5.2.2 r_verbs u r_seconds r_thirds t_length t_bytes)) (fun _ => rfl) (fun _ => rfl) rfl rfl (Nat.le_of_ble_eq_true rfl) dX6_readSize_48 (pn := 51) rfl (fun r7 u8 h => ?_)
      show J x 0 0 4 (W_Reader cyI cyJ cyZ a_r a_r_verbs a_r_firsts a_r_seconds a_r_thirds a_t a_t_bytes r_lines r1 r4 u5.1 u5.2.1 u5.2.2 r_verbs u8 r_seconds r_thirds t_length t_bytes) [(3, .int r4), (2, .int r1), (0, .ref a_r), (1, .int p1)] 51 [.int r7]
      refine j_if_eq cx 70 dX6_readSize_51 (pn := 54) rfl rfl (fun c9 => ?_) (fun c9 => ?_)
      · have h := h.1 c9
        refine j_iconst cx (v := 0) (by decide) dX6_readSize_70 (pn := 71) rfl ?_
        exact hR 0 (r1, r4, u5.1, u5.2.1, u5.2.2, u8, r_seconds) 71 _ dX6_readSize_71 (Or.inl rfl) h
      · have h := h.2 c9
        refine j_aload_n cx 2 rfl rfl dX6_readSize_54 (pn := 55) rfl ?_
        refine j_get cx inGX6 0 rfl rfl 3 (by decide) q_fl_X6_18 rfl rfl dX6_readSize_55 (pn := 58) rfl ?_
        refine j_iload_n cx 3 rfl rfl dX6_readSize_58 (pn := 59) rfl ?_
        refine j_iload_n cx 0 rfl rfl dX6_readSize_59 (pn := 60) rfl ?_
        refine j_callsI cx q_stat_X6_keep (As := [.ref a_r_seconds, .int p1, .int r4]) (rest := []) (W_Arr cyI cyJ cyZ 10 a_r_seconds r_seconds) [(a_r, .inr (6, [.ref a_t, .ref a_r_verbs, .ref a_r_firsts, .ref a_r_seconds, .ref a_r_thirds, .int r_lines, .int r1, .int r4, .int u5.1, .int u5.2.1, .int u5.2.2])), (a_r_verbs, .inl (cyI, 10, .inl r_verbs)), (a_r_firsts, .inl (cyI, 10, .inl u8)), (a_r_thirds, .inl (cyI, 10, .inl r_thirds)), (a_t, .inr (8, [.ref a_t_bytes, .int t_length])), (a_t_bytes, .inl (cyI, 200, .inl t_bytes))] (c_X6_keep h) ⟨q_code_X6_keep, q_ml_X6_77, q_init_X6, hd_X6_keep, ⟨Nat.le_of_ble_eq_true rfl, Nat.le_of_ble_eq_true rfl⟩, Nat.le_of_ble_eq_true rfl, Nat.le_of_ble_eq_true rfl⟩ rfl [3] [0, 1, 2, 4, 5, 6] [0, 1, 2, 6, 3, 4, 5] rfl rfl rfl rfl rfl (by decide) (fun u : (Nat → Int32) => (W_Reader cyI cyJ cyZ a_r a_r_verbs a_r_firsts a_r_seconds a_r_thirds a_t a_t_bytes r_lines r1 r4 u5.1 u5.2.1 u5.2.2 r_verbs u8 u r_thirds t_length t_bytes)) (fun _ => rfl) (fun _ => rfl) rfl rfl (Nat.le_of_ble_eq_true rfl) dX6_readSize_60 (pn := 63) rfl (fun r10 u11 h => ?_)
        show J x 0 0 4 (W_Reader cyI cyJ cyZ a_r a_r_verbs a_r_firsts a_r_seconds a_r_thirds a_t a_t_bytes r_lines r1 r4 u5.1 u5.2.1 u5.2.2 r_verbs u8 u11 r_thirds t_length t_bytes) [(3, .int r4), (2, .int r1), (0, .ref a_r), (1, .int p1)] 63 [.int r10]
        refine j_if_eq cx 70 dX6_readSize_63 (pn := 66) rfl rfl (fun c12 => ?_) (fun c12 => ?_)
        · have h := h.1 c12
          refine j_iconst cx (v := 0) (by decide) dX6_readSize_70 (pn := 71) rfl ?_
          exact hR 0 (r1, r4, u5.1, u5.2.1, u5.2.2, u8, u11) 71 _ dX6_readSize_71 (Or.inl rfl) h
        · have h := h.2 c12
          refine j_iconst cx (v := 1) (by decide) dX6_readSize_66 (pn := 67) rfl ?_
          refine j_goto cx 71 dX6_readSize_67 rfl ?_
          exact hR 1 (r1, r4, u5.1, u5.2.1, u5.2.2, u8, u11) 71 _ dX6_readSize_71 (Or.inr rfl) h
    · have h := h.2 c6
      refine j_iconst cx (v := 0) (by decide) dX6_readSize_30 (pn := 31) rfl ?_
      exact hR 0 (r_columns, r_rows, u5.1, u5.2.1, u5.2.2, r_firsts, r_seconds) 31 _ dX6_readSize_31 (Or.inl rfl) h
  · have h := h.2 c3
    refine j_iconst cx (v := 0) (by decide) dX6_readSize_13 (pn := 14) rfl ?_
    exact hR 0 (r_columns, r_rows, u2.1, u2.2.1, u2.2.2, r_firsts, r_seconds) 14 _ dX6_readSize_14 (Or.inl rfl) h
theorem dX6_readPlace_0 : decode cX6_readPlace 0 = .ok (.aload_n 0, 1) := by decide +kernel
theorem dX6_readPlace_1 : decode cX6_readPlace 1 = .ok (.getfield 15, 3) := by decide +kernel
theorem dX6_readPlace_4 : decode cX6_readPlace 4 = .ok (.iload_n 1, 1) := by decide +kernel
theorem dX6_readPlace_5 : decode cX6_readPlace 5 = .ok (.aload_n 0, 1) := by decide +kernel
theorem dX6_readPlace_6 : decode cX6_readPlace 6 = .ok (.iconst 0, 1) := by decide +kernel
theorem dX6_readPlace_7 : decode cX6_readPlace 7 = .ok (.aload_n 0, 1) := by decide +kernel
theorem dX6_readPlace_8 : decode cX6_readPlace 8 = .ok (.getfield 28, 3) := by decide +kernel
theorem dX6_readPlace_11 : decode cX6_readPlace 11 = .ok (.iconst 1, 1) := by decide +kernel
theorem dX6_readPlace_12 : decode cX6_readPlace 12 = .ok (.isub, 1) := by decide +kernel
theorem dX6_readPlace_13 : decode cX6_readPlace 13 = .ok (.invokevirtual 73, 3) := by decide +kernel
theorem dX6_readPlace_16 : decode cX6_readPlace 16 = .ok (.invokestatic 77, 3) := by decide +kernel
theorem dX6_readPlace_19 : decode cX6_readPlace 19 = .ok (.ifCond .eq 29, 3) := by decide +kernel
theorem dX6_readPlace_22 : decode cX6_readPlace 22 = .ok (.aload_n 0, 1) := by decide +kernel
theorem dX6_readPlace_23 : decode cX6_readPlace 23 = .ok (.getfield 18, 3) := by decide +kernel
theorem dX6_readPlace_26 : decode cX6_readPlace 26 = .ok (.iload_n 1, 1) := by decide +kernel
theorem dX6_readPlace_27 : decode cX6_readPlace 27 = .ok (.aload_n 0, 1) := by decide +kernel
theorem dX6_readPlace_28 : decode cX6_readPlace 28 = .ok (.iconst 0, 1) := by decide +kernel
theorem dX6_readPlace_29 : decode cX6_readPlace 29 = .ok (.aload_n 0, 1) := by decide +kernel
theorem dX6_readPlace_30 : decode cX6_readPlace 30 = .ok (.getfield 32, 3) := by decide +kernel
theorem dX6_readPlace_33 : decode cX6_readPlace 33 = .ok (.iconst 1, 1) := by decide +kernel
theorem dX6_readPlace_34 : decode cX6_readPlace 34 = .ok (.isub, 1) := by decide +kernel
theorem dX6_readPlace_35 : decode cX6_readPlace 35 = .ok (.invokevirtual 73, 3) := by decide +kernel
theorem dX6_readPlace_38 : decode cX6_readPlace 38 = .ok (.invokestatic 77, 3) := by decide +kernel
theorem dX6_readPlace_41 : decode cX6_readPlace 41 = .ok (.ifCond .eq 7, 3) := by decide +kernel
theorem dX6_readPlace_44 : decode cX6_readPlace 44 = .ok (.iconst 1, 1) := by decide +kernel
theorem dX6_readPlace_45 : decode cX6_readPlace 45 = .ok (.goto 4, 3) := by decide +kernel
theorem dX6_readPlace_48 : decode cX6_readPlace 48 = .ok (.iconst 0, 1) := by decide +kernel
theorem dX6_readPlace_49 : decode cX6_readPlace 49 = .ok (.ireturn, 1) := by decide +kernel
abbrev rm_X6_readPlace : Room := { frames := 3, cells := 0, slots := 0, locals := 64 }
theorem hd_X6_readPlace : yX6_readPlace.cls ≠ "java/lang/invoke/MethodHandle" ∧ yX6_readPlace.cls ≠ "java/lang/invoke/VarHandle" ∧ (parseMethodDescriptor yX6_readPlace.desc).map (fun d => d.parameters.length) = some 1 := by decide +kernel
def wp_X6_readPlace (p1 : Int32) (r_columns : Int32) (r_rows : Int32) (r_stop : Int32) (r_firsts : Nat → Int32) (r_seconds : Nat → Int32) (t_length : Int32) (t_bytes : Nat → Int32) (Q : Int32 → (Int32 × Int32 × Int32 × (Nat → Int32) × (Nat → Int32)) → Prop) : Prop :=
wp_X6_readNumber 0 (r_columns - 1) r_stop t_length t_bytes (fun (r1 : Int32) (u2 : Int32 × Int32 × Int32) => wp_X6_keep 10 p1 r1 r_firsts (fun (r3 : Int32) (u4 : (Nat → Int32)) => ((r3 = 0 → Q 0 (u2.1, u2.2.1, u2.2.2, u4, r_seconds)) ∧
(¬ r3 = 0 → wp_X6_readNumber 0 (r_rows - 1) u2.2.1 t_length t_bytes (fun (r6 : Int32) (u7 : Int32 × Int32 × Int32) => wp_X6_keep 10 p1 r6 r_seconds (fun (r8 : Int32) (u9 : (Nat → Int32)) => ((r8 = 0 → Q 0 (u7.1, u7.2.1, u7.2.2, u4, u9)) ∧
(¬ r8 = 0 → Q 1 (u7.1, u7.2.1, u7.2.2, u4, u9)))))))))
set_option maxHeartbeats 4000000 in
set_option maxRecDepth 100000 in
theorem c_X6_readPlace {D : va_G} {cyI cyJ cyZ : ClassId} {a_r a_r_verbs a_r_firsts a_r_seconds a_r_thirds a_t a_t_bytes : Nat} {r_lines : Int32} {r_columns : Int32} {r_rows : Int32} {r_start : Int32} {r_stop : Int32} {r_kind : Int32} {r_verbs : Nat → Int32} {r_firsts : Nat → Int32} {r_seconds : Nat → Int32} {r_thirds : Nat → Int32} {t_length : Int32} {t_bytes : Nat → Int32} {p1 : Int32} {Q : Int32 → (Int32 × Int32 × Int32 × (Nat → Int32) × (Nat → Int32)) → Prop} (h : wp_X6_readPlace p1 r_columns r_rows r_stop r_firsts r_seconds t_length t_bytes Q) :
    MetI yX6_readPlace cX6_readPlace 2 (some .boolean) rm_X6_readPlace D [(cyI, .int), (cyJ, .long), (cyZ, .boolean)] [.ref a_r, .int p1] (W_Reader cyI cyJ cyZ a_r a_r_verbs a_r_firsts a_r_seconds a_r_thirds a_t a_t_bytes r_lines r_columns r_rows r_start r_stop r_kind r_verbs r_firsts r_seconds r_thirds t_length t_bytes) (fun u : Int32 × Int32 × Int32 × (Nat → Int32) × (Nat → Int32) => (W_Reader cyI cyJ cyZ a_r a_r_verbs a_r_firsts a_r_seconds a_r_thirds a_t a_t_bytes r_lines r_columns r_rows u.1 u.2.1 u.2.2.1 r_verbs u.2.2.2.1 u.2.2.2.2 r_thirds t_length t_bytes)) (fun v u => Q v u) := by
  unfold wp_X6_readPlace at h
  refine metZ_of (by decide) (Nat.le_of_ble_eq_true rfl) (fun x cx0 hR0 => ?_)
  have cx : Cx x cX6_readPlace 2 RX6 rm_X6_readPlace D [(cyI, .int), (cyJ, .long), (cyZ, .boolean)] := cx0
  have hR : ∀ (v : Int32) (u : Int32 × Int32 × Int32 × (Nat → Int32) × (Nat → Int32)) (pc : Nat) (lv : List (Nat × Value)), decode cX6_readPlace pc = .ok (.ireturn, 1) → (v = 0 ∨ v = 1) → Q v u → J x 0 0 2 (W_Reader cyI cyJ cyZ a_r a_r_verbs a_r_firsts a_r_seconds a_r_thirds a_t a_t_bytes r_lines r_columns r_rows u.1 u.2.1 u.2.2.1 r_verbs u.2.2.2.1 u.2.2.2.2 r_thirds t_length t_bytes) lv pc [.int v] := (fun v u pc lv d hz hq => hR0 v u pc lv d hz hq)
  show J x 0 0 2 (W_Reader cyI cyJ cyZ a_r a_r_verbs a_r_firsts a_r_seconds a_r_thirds a_t a_t_bytes r_lines r_columns r_rows r_start r_stop r_kind r_verbs r_firsts r_seconds r_thirds t_length t_bytes) [(0, .ref a_r), (1, .int p1)] 0 []
  refine j_aload_n cx 0 rfl rfl dX6_readPlace_0 (pn := 1) rfl ?_
  refine j_get cx inGX6 0 rfl rfl 2 (by decide) q_fl_X6_15 rfl rfl dX6_readPlace_1 (pn := 4) rfl ?_
  refine j_iload_n cx 1 rfl rfl dX6_readPlace_4 (pn := 5) rfl ?_
  refine j_aload_n cx 0 rfl rfl dX6_readPlace_5 (pn := 6) rfl ?_
  refine j_iconst cx (v := 0) (by decide) dX6_readPlace_6 (pn := 7) rfl ?_
  refine j_aload_n cx 0 rfl rfl dX6_readPlace_7 (pn := 8) rfl ?_
  refine j_get cx inGX6 0 rfl rfl 6 (by decide) q_fl_X6_28 rfl rfl dX6_readPlace_8 (pn := 11) rfl ?_
  refine j_iconst cx (v := 1) (by decide) dX6_readPlace_11 (pn := 12) rfl ?_
  refine j_isub cx dX6_readPlace_12 (pn := 13) rfl ?_
  refine j_callvI0 cx q_inst_X6_readNumber q_sel_X6_readNumber (b := a_r) (As := [.int 0, .int (r_columns - 1)]) (rest := [.int p1, .ref a_r_firsts]) (c_X6_readNumber h) ⟨q_code_X6_readNumber, q_ml_X6_73, q_init_X6, hd_X6_readNumber, ⟨Nat.le_of_ble_eq_true rfl, Nat.le_of_ble_eq_true rfl⟩, Nat.le_of_ble_eq_true rfl, Nat.le_of_ble_eq_true rfl⟩ (q0 := 0) rfl rfl rfl rfl (Nat.le_of_ble_eq_true rfl) dX6_readPlace_13 (pn := 16) rfl (fun r1 u2 h => ?_)
  show J x 0 0 2 (W_Reader cyI cyJ cyZ a_r a_r_verbs a_r_firsts a_r_seconds a_r_thirds a_t a_t_bytes r_lines r_columns r_rows u2.1 u2.2.1 u2.2.2 r_verbs r_firsts r_seconds r_thirds t_length t_bytes) [(0, .ref a_r), (1, .int p1)] 16 [.int r1, .int p1, .ref a_r_firsts]
  refine j_callsI cx q_stat_X6_keep (As := [.ref a_r_firsts, .int p1, .int r1]) (rest := []) (W_Arr cyI cyJ cyZ 10 a_r_firsts r_firsts) [(a_r, .inr (6, [.ref a_t, .ref a_r_verbs, .ref a_r_firsts, .ref a_r_seconds, .ref a_r_thirds, .int r_lines, .int r_columns, .int r_rows, .int u2.1, .int u2.2.1, .int u2.2.2])), (a_r_verbs, .inl (cyI, 10, .inl r_verbs)), (a_r_seconds, .inl (cyI, 10, .inl r_seconds)), (a_r_thirds, .inl (cyI, 10, .inl r_thirds)), (a_t, .inr (8, [.ref a_t_bytes, .int t_length])), (a_t_bytes, .inl (cyI, 200, .inl t_bytes))] (c_X6_keep h) ⟨q_code_X6_keep, q_ml_X6_77, q_init_X6, hd_X6_keep, ⟨Nat.le_of_ble_eq_true rfl, Nat.le_of_ble_eq_true rfl⟩, Nat.le_of_ble_eq_true rfl, Nat.le_of_ble_eq_true rfl⟩ rfl [2] [0, 1, 3, 4, 5, 6] [0, 1, 6, 2, 3, 4, 5] rfl rfl rfl rfl rfl (by decide) (fun u : (Nat → Int32) => (W_Reader cyI cyJ cyZ a_r a_r_verbs a_r_firsts a_r_seconds a_r_thirds a_t a_t_bytes r_lines r_columns r_rows u2.1 u2.2.1 u2.2.2 r_verbs u r_seconds r_thirds t_length t_bytes)) (fun _ => rfl) (fun _ => rfl) rfl rfl (Nat.le_of_ble_eq_true rfl) dX6_readPlace_16 (pn := 19) rfl (fun r3 u4 h => ?_)
  show J x 0 0 2 (W_Reader cyI cyJ cyZ a_r a_r_verbs a_r_firsts a_r_seconds a_r_thirds a_t a_t_bytes r_lines r_columns r_rows u2.1 u2.2.1 u2.2.2 r_verbs u4 r_seconds r_thirds t_length t_bytes) [(0, .ref a_r), (1, .int p1)] 19 [.int r3]
  refine j_if_eq cx 48 dX6_readPlace_19 (pn := 22) rfl rfl (fun c5 => ?_) (fun c5 => ?_)
  · have h := h.1 c5
    refine j_iconst cx (v := 0) (by decide) dX6_readPlace_48 (pn := 49) rfl ?_
    exact hR 0 (u2.1, u2.2.1, u2.2.2, u4, r_seconds) 49 _ dX6_readPlace_49 (Or.inl rfl) h
  · have h := h.2 c5
    refine j_aload_n cx 0 rfl rfl dX6_readPlace_22 (pn := 23) rfl ?_
    refine j_get cx inGX6 0 rfl rfl 3 (by decide) q_fl_X6_18 rfl rfl dX6_readPlace_23 (pn := 26) rfl ?_
    refine j_iload_n cx 1 rfl rfl dX6_readPlace_26 (pn := 27) rfl ?_
    refine j_aload_n cx 0 rfl rfl dX6_readPlace_27 (pn := 28) rfl ?_
    refine j_iconst cx (v := 0) (by decide) dX6_readPlace_28 (pn := 29) rfl ?_
    refine j_aload_n cx 0 rfl rfl dX6_readPlace_29 (pn := 30) rfl ?_
    refine j_get cx inGX6 0 rfl rfl 7 (by decide) q_fl_X6_32 rfl rfl dX6_readPlace_30 (pn := 33) rfl ?_
    refine j_iconst cx (v := 1) (by decide) dX6_readPlace_33 (pn := 34) rfl ?_
    refine j_isub cx dX6_readPlace_34 (pn := 35) rfl ?_
    refine j_callvI0 cx q_inst_X6_readNumber q_sel_X6_readNumber (b := a_r) (As := [.int 0, .int (r_rows - 1)]) (rest := [.int p1, .ref a_r_seconds]) (c_X6_readNumber h) ⟨q_code_X6_readNumber, q_ml_X6_73, q_init_X6, hd_X6_readNumber, ⟨Nat.le_of_ble_eq_true rfl, Nat.le_of_ble_eq_true rfl⟩, Nat.le_of_ble_eq_true rfl, Nat.le_of_ble_eq_true rfl⟩ (q0 := 0) rfl rfl rfl rfl (Nat.le_of_ble_eq_true rfl) dX6_readPlace_35 (pn := 38) rfl (fun r6 u7 h => ?_)
    show J x 0 0 2 (W_Reader cyI cyJ cyZ a_r a_r_verbs a_r_firsts a_r_seconds a_r_thirds a_t a_t_bytes r_lines r_columns r_rows u7.1 u7.2.1 u7.2.2 r_verbs u4 r_seconds r_thirds t_length t_bytes) [(0, .ref a_r), (1, .int p1)] 38 [.int r6, .int p1, .ref a_r_seconds]
    refine j_callsI cx q_stat_X6_keep (As := [.ref a_r_seconds, .int p1, .int r6]) (rest := []) (W_Arr cyI cyJ cyZ 10 a_r_seconds r_seconds) [(a_r, .inr (6, [.ref a_t, .ref a_r_verbs, .ref a_r_firsts, .ref a_r_seconds, .ref a_r_thirds, .int r_lines, .int r_columns, .int r_rows, .int u7.1, .int u7.2.1, .int u7.2.2])), (a_r_verbs, .inl (cyI, 10, .inl r_verbs)), (a_r_firsts, .inl (cyI, 10, .inl u4)), (a_r_thirds, .inl (cyI, 10, .inl r_thirds)), (a_t, .inr (8, [.ref a_t_bytes, .int t_length])), (a_t_bytes, .inl (cyI, 200, .inl t_bytes))] (c_X6_keep h) ⟨q_code_X6_keep, q_ml_X6_77, q_init_X6, hd_X6_keep, ⟨Nat.le_of_ble_eq_true rfl, Nat.le_of_ble_eq_true rfl⟩, Nat.le_of_ble_eq_true rfl, Nat.le_of_ble_eq_true rfl⟩ rfl [3] [0, 1, 2, 4, 5, 6] [0, 1, 2, 6, 3, 4, 5] rfl rfl rfl rfl rfl (by decide) (fun u : (Nat → Int32) => (W_Reader cyI cyJ cyZ a_r a_r_verbs a_r_firsts a_r_seconds a_r_thirds a_t a_t_bytes r_lines r_columns r_rows u7.1 u7.2.1 u7.2.2 r_verbs u4 u r_thirds t_length t_bytes)) (fun _ => rfl) (fun _ => rfl) rfl rfl (Nat.le_of_ble_eq_true rfl) dX6_readPlace_38 (pn := 41) rfl (fun r8 u9 h => ?_)
    show J x 0 0 2 (W_Reader cyI cyJ cyZ a_r a_r_verbs a_r_firsts a_r_seconds a_r_thirds a_t a_t_bytes r_lines r_columns r_rows u7.1 u7.2.1 u7.2.2 r_verbs u4 u9 r_thirds t_length t_bytes) [(0, .ref a_r), (1, .int p1)] 41 [.int r8]
    refine j_if_eq cx 48 dX6_readPlace_41 (pn := 44) rfl rfl (fun c10 => ?_) (fun c10 => ?_)
    · have h := h.1 c10
      refine j_iconst cx (v := 0) (by decide) dX6_readPlace_48 (pn := 49) rfl ?_
      exact hR 0 (u7.1, u7.2.1, u7.2.2, u4, u9) 49 _ dX6_readPlace_49 (Or.inl rfl) h
    · have h := h.2 c10
      refine j_iconst cx (v := 1) (by decide) dX6_readPlace_44 (pn := 45) rfl ?_
      refine j_goto cx 49 dX6_readPlace_45 rfl ?_
      exact hR 1 (u7.1, u7.2.1, u7.2.2, u4, u9) 49 _ dX6_readPlace_49 (Or.inr rfl) h
theorem dX6_endsLine_0 : decode cX6_endsLine 0 = .ok (.aload_n 0, 1) := by decide +kernel
theorem dX6_endsLine_1 : decode cX6_endsLine 1 = .ok (.getfield 51, 3) := by decide +kernel
theorem dX6_endsLine_4 : decode cX6_endsLine 4 = .ok (.iconst 3, 1) := by decide +kernel
theorem dX6_endsLine_5 : decode cX6_endsLine 5 = .ok (.if_icmp .ne 24, 3) := by decide +kernel
theorem dX6_endsLine_8 : decode cX6_endsLine 8 = .ok (.aload_n 0, 1) := by decide +kernel
theorem dX6_endsLine_9 : decode cX6_endsLine 9 = .ok (.getfield 24, 3) := by decide +kernel
theorem dX6_endsLine_12 : decode cX6_endsLine 12 = .ok (.getfield 58, 3) := by decide +kernel
theorem dX6_endsLine_15 : decode cX6_endsLine 15 = .ok (.aload_n 0, 1) := by decide +kernel
theorem dX6_endsLine_16 : decode cX6_endsLine 16 = .ok (.getfield 45, 3) := by decide +kernel
theorem dX6_endsLine_19 : decode cX6_endsLine 19 = .ok (.iaload, 1) := by decide +kernel
theorem dX6_endsLine_20 : decode cX6_endsLine 20 = .ok (.bipush 59, 2) := by decide +kernel
theorem dX6_endsLine_22 : decode cX6_endsLine 22 = .ok (.if_icmp .ne 7, 3) := by decide +kernel
theorem dX6_endsLine_25 : decode cX6_endsLine 25 = .ok (.iconst 1, 1) := by decide +kernel
theorem dX6_endsLine_26 : decode cX6_endsLine 26 = .ok (.goto 4, 3) := by decide +kernel
theorem dX6_endsLine_29 : decode cX6_endsLine 29 = .ok (.iconst 0, 1) := by decide +kernel
theorem dX6_endsLine_30 : decode cX6_endsLine 30 = .ok (.ireturn, 1) := by decide +kernel
abbrev rm_X6_endsLine : Room := { frames := 0, cells := 0, slots := 0, locals := 0 }
theorem hd_X6_endsLine : yX6_endsLine.cls ≠ "java/lang/invoke/MethodHandle" ∧ yX6_endsLine.cls ≠ "java/lang/invoke/VarHandle" ∧ (parseMethodDescriptor yX6_endsLine.desc).map (fun d => d.parameters.length) = some 0 := by decide +kernel
def wp_X6_endsLine (r_start : Int32) (r_kind : Int32) (t_bytes : Nat → Int32) (Q : Int32 → Prop) : Prop :=
((¬ r_kind = 3 → Q 0) ∧
(r_kind = 3 → vp_in r_start 200 ∧ ((¬ (t_bytes r_start.toNatClampNeg) = 59 → Q 0) ∧
((t_bytes r_start.toNatClampNeg) = 59 → Q 1))))
set_option maxHeartbeats 4000000 in
set_option maxRecDepth 100000 in
theorem c_X6_endsLine {D : va_G} {cyI cyJ cyZ : ClassId} {a_r a_r_verbs a_r_firsts a_r_seconds a_r_thirds a_t a_t_bytes : Nat} {r_lines : Int32} {r_columns : Int32} {r_rows : Int32} {r_start : Int32} {r_stop : Int32} {r_kind : Int32} {r_verbs : Nat → Int32} {r_firsts : Nat → Int32} {r_seconds : Nat → Int32} {r_thirds : Nat → Int32} {t_length : Int32} {t_bytes : Nat → Int32} {Q : Int32 → Prop} (h : wp_X6_endsLine r_start r_kind t_bytes Q) :
    MetI yX6_endsLine cX6_endsLine 1 (some .boolean) rm_X6_endsLine D [(cyI, .int), (cyJ, .long), (cyZ, .boolean)] [.ref a_r] (W_Reader cyI cyJ cyZ a_r a_r_verbs a_r_firsts a_r_seconds a_r_thirds a_t a_t_bytes r_lines r_columns r_rows r_start r_stop r_kind r_verbs r_firsts r_seconds r_thirds t_length t_bytes) (fun _ : Unit => (W_Reader cyI cyJ cyZ a_r a_r_verbs a_r_firsts a_r_seconds a_r_thirds a_t a_t_bytes r_lines r_columns r_rows r_start r_stop r_kind r_verbs r_firsts r_seconds r_thirds t_length t_bytes)) (fun v _ => Q v ) := by
  unfold wp_X6_endsLine at h
  refine metZ_of (by decide) (Nat.le_of_ble_eq_true rfl) (fun x cx0 hR0 => ?_)
  have cx : Cx x cX6_endsLine 1 RX6 rm_X6_endsLine D [(cyI, .int), (cyJ, .long), (cyZ, .boolean)] := cx0
  have hR : ∀ (v : Int32) (pc : Nat) (lv : List (Nat × Value)), decode cX6_endsLine pc = .ok (.ireturn, 1) → (v = 0 ∨ v = 1) → Q v → J x 0 0 1 (W_Reader cyI cyJ cyZ a_r a_r_verbs a_r_firsts a_r_seconds a_r_thirds a_t a_t_bytes r_lines r_columns r_rows r_start r_stop r_kind r_verbs r_firsts r_seconds r_thirds t_length t_bytes) lv pc [.int v] := (fun v pc lv d hz hq => hR0 v () pc lv d hz hq)
  show J x 0 0 1 (W_Reader cyI cyJ cyZ a_r a_r_verbs a_r_firsts a_r_seconds a_r_thirds a_t a_t_bytes r_lines r_columns r_rows r_start r_stop r_kind r_verbs r_firsts r_seconds r_thirds t_length t_bytes) [(0, .ref a_r)] 0 []
  refine j_aload_n cx 0 rfl rfl dX6_endsLine_0 (pn := 1) rfl ?_
  refine j_get cx inGX6 0 rfl rfl 10 (by decide) q_fl_X6_51 rfl rfl dX6_endsLine_1 (pn := 4) rfl ?_
  refine j_iconst cx (v := 3) (by decide) dX6_endsLine_4 (pn := 5) rfl ?_
  refine j_icmp_ne cx 29 dX6_endsLine_5 (pn := 8) rfl rfl (fun c1 => ?_) (fun c1 => ?_)
  · have h := h.1 c1
    refine j_iconst cx (v := 0) (by decide) dX6_endsLine_29 (pn := 30) rfl ?_
    exact hR 0 30 _ dX6_endsLine_30 (Or.inl rfl) h
  · have h := h.2 c1
    refine j_aload_n cx 0 rfl rfl dX6_endsLine_8 (pn := 9) rfl ?_
    refine j_get cx inGX6 0 rfl rfl 0 (by decide) q_fl_X6_24 rfl rfl dX6_endsLine_9 (pn := 12) rfl ?_
    refine j_getN cx inGX8 5 rfl rfl 0 (by decide) q_fl_X6_58 rfl rfl dX6_endsLine_12 (pn := 15) rfl ?_
    refine j_aload_n cx 0 rfl rfl dX6_endsLine_15 (pn := 16) rfl ?_
    refine j_get cx inGX6 0 rfl rfl 8 (by decide) q_fl_X6_45 rfl rfl dX6_endsLine_16 (pn := 19) rfl ?_
    refine j_iald cx 6 0 rfl rfl h.1 dX6_endsLine_19 (pn := 20) rfl ?_
    have h := h.2
    refine j_bipush cx (v := 59) (by decide) dX6_endsLine_20 (pn := 22) rfl ?_
    refine j_icmp_ne cx 29 dX6_endsLine_22 (pn := 25) rfl rfl (fun c2 => ?_) (fun c2 => ?_)
    · have h := h.1 c2
      refine j_iconst cx (v := 0) (by decide) dX6_endsLine_29 (pn := 30) rfl ?_
      exact hR 0 30 _ dX6_endsLine_30 (Or.inl rfl) h
    · have h := h.2 c2
      refine j_iconst cx (v := 1) (by decide) dX6_endsLine_25 (pn := 26) rfl ?_
      refine j_goto cx 30 dX6_endsLine_26 rfl ?_
      exact hR 1 30 _ dX6_endsLine_30 (Or.inr rfl) h
