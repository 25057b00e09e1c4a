theorem dX6_kindOf_0 : decode cX6_kindOf 0 = .ok (.iload_n 0, 1) := by decide +kernel
theorem dX6_kindOf_1 : decode cX6_kindOf 1 = .ok (.bipush 97, 2) := by decide +kernel
theorem dX6_kindOf_3 : decode cX6_kindOf 3 = .ok (.if_icmp .lt 11, 3) := by decide +kernel
theorem dX6_kindOf_6 : decode cX6_kindOf 6 = .ok (.iload_n 0, 1) := by decide +kernel
theorem dX6_kindOf_7 : decode cX6_kindOf 7 = .ok (.bipush 122, 2) := by decide +kernel
theorem dX6_kindOf_9 : decode cX6_kindOf 9 = .ok (.if_icmp .gt 5, 3) := by decide +kernel
theorem dX6_kindOf_12 : decode cX6_kindOf 12 = .ok (.iconst 1, 1) := by decide +kernel
theorem dX6_kindOf_13 : decode cX6_kindOf 13 = .ok (.ireturn, 1) := by decide +kernel
theorem dX6_kindOf_14 : decode cX6_kindOf 14 = .ok (.iload_n 0, 1) := by decide +kernel
theorem dX6_kindOf_15 : decode cX6_kindOf 15 = .ok (.bipush 48, 2) := by decide +kernel
theorem dX6_kindOf_17 : decode cX6_kindOf 17 = .ok (.if_icmp .lt 13, 3) := by decide +kernel
theorem dX6_kindOf_20 : decode cX6_kindOf 20 = .ok (.iload_n 0, 1) := by decide +kernel
theorem dX6_kindOf_21 : decode cX6_kindOf 21 = .ok (.bipush 57, 2) := by decide +kernel
theorem dX6_kindOf_23 : decode cX6_kindOf 23 = .ok (.if_icmp .gt 7, 3) := by decide +kernel
theorem dX6_kindOf_26 : decode cX6_kindOf 26 = .ok (.iconst 2, 1) := by decide +kernel
theorem dX6_kindOf_27 : decode cX6_kindOf 27 = .ok (.goto 4, 3) := by decide +kernel
theorem dX6_kindOf_30 : decode cX6_kindOf 30 = .ok (.iconst 3, 1) := by decide +kernel
theorem dX6_kindOf_31 : decode cX6_kindOf 31 = .ok (.ireturn, 1) := by decide +kernel
abbrev rm_X6_kindOf : Room := { frames := 0, cells := 0, slots := 0, locals := 0 }
theorem hd_X6_kindOf : yX6_kindOf.cls ≠ "java/lang/invoke/MethodHandle" ∧ yX6_kindOf.cls ≠ "java/lang/invoke/VarHandle" ∧ (parseMethodDescriptor yX6_kindOf.desc).map (fun d => d.parameters.length) = some 1 := by decide +kernel
def bk_X6_kindOf_14 (Q : Int32 → Prop) (p0 : Int32) : Prop :=
((p0 < 48 → Q 3) ∧
(¬ p0 < 48 → ((57 < p0 → Q 3) ∧
(¬ 57 < p0 → Q 2))))
def wp_X6_kindOf (p0 : Int32) (Q : Int32 → Prop) : Prop :=
((p0 < 97 → bk_X6_kindOf_14 Q p0) ∧
(¬ p0 < 97 → ((122 < p0 → bk_X6_kindOf_14 Q p0) ∧
(¬ 122 < p0 → Q 1))))
set_option maxHeartbeats 4000000 in
set_option maxRecDepth 100000 in
theorem J_X6_kindOf_14 {x : CX} {D : DG} {cyI cyJ cyZ : ClassId} {p0 : Int32} {Q : Int32 → Prop} (cx : Cx x cX6_kindOf 1 RX6 rm_X6_kindOf D [(cyI, .int), (cyJ, .long), (cyZ, .boolean)]) (hR : ∀ (v : Int32) (pc : Nat) (lv : List (Nat × Value)), decode cX6_kindOf pc = .ok (.ireturn, 1) → Q v → J x 0 0 1 ([] : va_W) lv pc [.int v]) (h : bk_X6_kindOf_14 Q  p0) :
    J x 0 0 1 ([] : va_W) [(0, .int p0)] 14 [] := by
  unfold bk_X6_kindOf_14 at h
  refine j_iload_n cx 0 rfl rfl dX6_kindOf_14 (pn := 15) rfl ?_
  refine j_bipush cx (v := 48) (by decide) dX6_kindOf_15 (pn := 17) rfl ?_
  refine j_icmp_lt cx 30 dX6_kindOf_17 (pn := 20) rfl rfl (fun c2 => ?_) (fun c2 => ?_)
  · have h := h.1 c2
    refine j_iconst cx (v := 3) (by decide) dX6_kindOf_30 (pn := 31) rfl ?_
    exact hR 3 31 _ dX6_kindOf_31 h
  · have h := h.2 c2
    refine j_iload_n cx 0 rfl rfl dX6_kindOf_20 (pn := 21) rfl ?_
    refine j_bipush cx (v := 57) (by decide) dX6_kindOf_21 (pn := 23) rfl ?_
    refine j_icmp_gt cx 30 dX6_kindOf_23 (pn := 26) rfl rfl (fun c3 => ?_) (fun c3 => ?_)
    · have h := h.1 c3
      refine j_iconst cx (v := 3) (by decide) dX6_kindOf_30 (pn := 31) rfl ?_
      exact hR 3 31 _ dX6_kindOf_31 h
    · have h := h.2 c3
      refine j_iconst cx (v := 2) (by decide) dX6_kindOf_26 (pn := 27) rfl ?_
      refine j_goto cx 31 dX6_kindOf_27 rfl ?_
      exact hR 2 31 _ dX6_kindOf_31 h
set_option maxHeartbeats 4000000 in
set_option maxRecDepth 100000 in
theorem c_X6_kindOf {D : DG} {cyI cyJ cyZ : ClassId} {p0 : Int32} {Q : Int32 → Prop} (h : wp_X6_kindOf p0 Q) :
    MetI yX6_kindOf cX6_kindOf 1 (some .int) rm_X6_kindOf D [(cyI, .int), (cyJ, .long), (cyZ, .boolean)] [.int p0] ([] : va_W) (fun _ : Unit => ([] : va_W)) (fun v _ => Q v ) := by
  unfold wp_X6_kindOf at h
  refine metI_of (by decide) (Nat.le_of_ble_eq_true rfl) (fun x cx0 hR0 => ?_)
  have cx : Cx x cX6_kindOf 1 RX6 rm_X6_kindOf D [(cyI, .int), (cyJ, .long), (cyZ, .boolean)] := cx0
  have hR : ∀ (v : Int32) (pc : Nat) (lv : List (Nat × Value)), decode cX6_kindOf pc = .ok (.ireturn, 1) → Q v → J x 0 0 1 ([] : va_W) lv pc [.int v] := (fun v pc lv d hq => hR0 v () pc lv d hq)
  show J x 0 0 1 ([] : va_W) [(0, .int p0)] 0 []
  refine j_iload_n cx 0 rfl rfl dX6_kindOf_0 (pn := 1) rfl ?_
  refine j_bipush cx (v := 97) (by decide) dX6_kindOf_1 (pn := 3) rfl ?_
  refine j_icmp_lt cx 14 dX6_kindOf_3 (pn := 6) rfl rfl (fun c1 => ?_) (fun c1 => ?_)
  · have h := h.1 c1
    exact J_X6_kindOf_14 cx hR h
  · have h := h.2 c1
    refine j_iload_n cx 0 rfl rfl dX6_kindOf_6 (pn := 7) rfl ?_
    refine j_bipush cx (v := 122) (by decide) dX6_kindOf_7 (pn := 9) rfl ?_
    refine j_icmp_gt cx 14 dX6_kindOf_9 (pn := 12) rfl rfl (fun c4 => ?_) (fun c4 => ?_)
    · have h := h.1 c4
      exact J_X6_kindOf_14 cx hR h
    · have h := h.2 c4
      refine j_iconst cx (v := 1) (by decide) dX6_kindOf_12 (pn := 13) rfl ?_
      exact hR 1 13 _ dX6_kindOf_13 h
theorem dX6_nextToken_0 : decode cX6_nextToken 0 = .ok (.aload_n 0, 1) := by decide +kernel
theorem dX6_nextToken_1 : decode cX6_nextToken 1 = .ok (.getfield 35, 3) := by decide +kernel
theorem dX6_nextToken_4 : decode cX6_nextToken 4 = .ok (.aload_n 0, 1) := by decide +kernel
theorem dX6_nextToken_5 : decode cX6_nextToken 5 = .ok (.getfield 24, 3) := by decide +kernel
theorem dX6_nextToken_8 : decode cX6_nextToken 8 = .ok (.getfield 95, 3) := by decide +kernel
theorem dX6_nextToken_11 : decode cX6_nextToken 11 = .ok (.if_icmp .ge 33, 3) := by decide +kernel
theorem dX6_nextToken_14 : decode cX6_nextToken 14 = .ok (.aload_n 0, 1) := by decide +kernel
theorem dX6_nextToken_15 : decode cX6_nextToken 15 = .ok (.getfield 24, 3) := by decide +kernel
theorem dX6_nextToken_18 : decode cX6_nextToken 18 = .ok (.getfield 58, 3) := by decide +kernel
theorem dX6_nextToken_21 : decode cX6_nextToken 21 = .ok (.aload_n 0, 1) := by decide +kernel
theorem dX6_nextToken_22 : decode cX6_nextToken 22 = .ok (.getfield 35, 3) := by decide +kernel
theorem dX6_nextToken_25 : decode cX6_nextToken 25 = .ok (.iaload, 1) := by decide +kernel
theorem dX6_nextToken_26 : decode cX6_nextToken 26 = .ok (.bipush 32, 2) := by decide +kernel
theorem dX6_nextToken_28 : decode cX6_nextToken 28 = .ok (.if_icmp .ne 16, 3) := by decide +kernel
theorem dX6_nextToken_31 : decode cX6_nextToken 31 = .ok (.aload_n 0, 1) := by decide +kernel
theorem dX6_nextToken_32 : decode cX6_nextToken 32 = .ok (.dup, 1) := by decide +kernel
theorem dX6_nextToken_33 : decode cX6_nextToken 33 = .ok (.getfield 35, 3) := by decide +kernel
theorem dX6_nextToken_36 : decode cX6_nextToken 36 = .ok (.iconst 1, 1) := by decide +kernel
theorem dX6_nextToken_37 : decode cX6_nextToken 37 = .ok (.iadd, 1) := by decide +kernel
theorem dX6_nextToken_38 : decode cX6_nextToken 38 = .ok (.putfield 35, 3) := by decide +kernel
theorem dX6_nextToken_41 : decode cX6_nextToken 41 = .ok (.goto (-41), 3) := by decide +kernel
theorem dX6_nextToken_44 : decode cX6_nextToken 44 = .ok (.aload_n 0, 1) := by decide +kernel
theorem dX6_nextToken_45 : decode cX6_nextToken 45 = .ok (.aload_n 0, 1) := by decide +kernel
theorem dX6_nextToken_46 : decode cX6_nextToken 46 = .ok (.getfield 35, 3) := by decide +kernel
theorem dX6_nextToken_49 : decode cX6_nextToken 49 = .ok (.putfield 45, 3) := by decide +kernel
theorem dX6_nextToken_52 : decode cX6_nextToken 52 = .ok (.aload_n 0, 1) := by decide +kernel
theorem dX6_nextToken_53 : decode cX6_nextToken 53 = .ok (.getfield 35, 3) := by decide +kernel
theorem dX6_nextToken_56 : decode cX6_nextToken 56 = .ok (.aload_n 0, 1) := by decide +kernel
theorem dX6_nextToken_57 : decode cX6_nextToken 57 = .ok (.getfield 24, 3) := by decide +kernel
theorem dX6_nextToken_60 : decode cX6_nextToken 60 = .ok (.getfield 95, 3) := by decide +kernel
theorem dX6_nextToken_63 : decode cX6_nextToken 63 = .ok (.if_icmp .lt 9, 3) := by decide +kernel
theorem dX6_nextToken_66 : decode cX6_nextToken 66 = .ok (.aload_n 0, 1) := by decide +kernel
theorem dX6_nextToken_67 : decode cX6_nextToken 67 = .ok (.iconst 0, 1) := by decide +kernel
theorem dX6_nextToken_68 : decode cX6_nextToken 68 = .ok (.putfield 51, 3) := by decide +kernel
theorem dX6_nextToken_71 : decode cX6_nextToken 71 = .ok (.return_, 1) := by decide +kernel
theorem dX6_nextToken_72 : decode cX6_nextToken 72 = .ok (.aload_n 0, 1) := by decide +kernel
theorem dX6_nextToken_73 : decode cX6_nextToken 73 = .ok (.aload_n 0, 1) := by decide +kernel
theorem dX6_nextToken_74 : decode cX6_nextToken 74 = .ok (.getfield 24, 3) := by decide +kernel
theorem dX6_nextToken_77 : decode cX6_nextToken 77 = .ok (.getfield 58, 3) := by decide +kernel
theorem dX6_nextToken_80 : decode cX6_nextToken 80 = .ok (.aload_n 0, 1) := by decide +kernel
theorem dX6_nextToken_81 : decode cX6_nextToken 81 = .ok (.getfield 35, 3) := by decide +kernel
theorem dX6_nextToken_84 : decode cX6_nextToken 84 = .ok (.iaload, 1) := by decide +kernel
theorem dX6_nextToken_85 : decode cX6_nextToken 85 = .ok (.invokestatic 98, 3) := by decide +kernel
theorem dX6_nextToken_88 : decode cX6_nextToken 88 = .ok (.putfield 51, 3) := by decide +kernel
theorem dX6_nextToken_91 : decode cX6_nextToken 91 = .ok (.aload_n 0, 1) := by decide +kernel
theorem dX6_nextToken_92 : decode cX6_nextToken 92 = .ok (.dup, 1) := by decide +kernel
theorem dX6_nextToken_93 : decode cX6_nextToken 93 = .ok (.getfield 35, 3) := by decide +kernel
theorem dX6_nextToken_96 : decode cX6_nextToken 96 = .ok (.iconst 1, 1) := by decide +kernel
theorem dX6_nextToken_97 : decode cX6_nextToken 97 = .ok (.iadd, 1) := by decide +kernel
theorem dX6_nextToken_98 : decode cX6_nextToken 98 = .ok (.putfield 35, 3) := by decide +kernel
theorem dX6_nextToken_101 : decode cX6_nextToken 101 = .ok (.aload_n 0, 1) := by decide +kernel
theorem dX6_nextToken_102 : decode cX6_nextToken 102 = .ok (.getfield 51, 3) := by decide +kernel
theorem dX6_nextToken_105 : decode cX6_nextToken 105 = .ok (.iconst 3, 1) := by decide +kernel
theorem dX6_nextToken_106 : decode cX6_nextToken 106 = .ok (.if_icmp .eq 52, 3) := by decide +kernel
theorem dX6_nextToken_109 : decode cX6_nextToken 109 = .ok (.aload_n 0, 1) := by decide +kernel
theorem dX6_nextToken_110 : decode cX6_nextToken 110 = .ok (.getfield 35, 3) := by decide +kernel
theorem dX6_nextToken_113 : decode cX6_nextToken 113 = .ok (.aload_n 0, 1) := by decide +kernel
theorem dX6_nextToken_114 : decode cX6_nextToken 114 = .ok (.getfield 24, 3) := by decide +kernel
theorem dX6_nextToken_117 : decode cX6_nextToken 117 = .ok (.getfield 95, 3) := by decide +kernel
theorem dX6_nextToken_120 : decode cX6_nextToken 120 = .ok (.if_icmp .ge 38, 3) := by decide +kernel
theorem dX6_nextToken_123 : decode cX6_nextToken 123 = .ok (.aload_n 0, 1) := by decide +kernel
theorem dX6_nextToken_124 : decode cX6_nextToken 124 = .ok (.getfield 24, 3) := by decide +kernel
theorem dX6_nextToken_127 : decode cX6_nextToken 127 = .ok (.getfield 58, 3) := by decide +kernel
theorem dX6_nextToken_130 : decode cX6_nextToken 130 = .ok (.aload_n 0, 1) := by decide +kernel
theorem dX6_nextToken_131 : decode cX6_nextToken 131 = .ok (.getfield 35, 3) := by decide +kernel
theorem dX6_nextToken_134 : decode cX6_nextToken 134 = .ok (.iaload, 1) := by decide +kernel
theorem dX6_nextToken_135 : decode cX6_nextToken 135 = .ok (.invokestatic 98, 3) := by decide +kernel
theorem dX6_nextToken_138 : decode cX6_nextToken 138 = .ok (.aload_n 0, 1) := by decide +kernel
theorem dX6_nextToken_139 : decode cX6_nextToken 139 = .ok (.getfield 51, 3) := by decide +kernel
theorem dX6_nextToken_142 : decode cX6_nextToken 142 = .ok (.if_icmp .ne 16, 3) := by decide +kernel
theorem dX6_nextToken_145 : decode cX6_nextToken 145 = .ok (.aload_n 0, 1) := by decide +kernel
theorem dX6_nextToken_146 : decode cX6_nextToken 146 = .ok (.dup, 1) := by decide +kernel
theorem dX6_nextToken_147 : decode cX6_nextToken 147 = .ok (.getfield 35, 3) := by decide +kernel
theorem dX6_nextToken_150 : decode cX6_nextToken 150 = .ok (.iconst 1, 1) := by decide +kernel
theorem dX6_nextToken_151 : decode cX6_nextToken 151 = .ok (.iadd, 1) := by decide +kernel
theorem dX6_nextToken_152 : decode cX6_nextToken 152 = .ok (.putfield 35, 3) := by decide +kernel
theorem dX6_nextToken_155 : decode cX6_nextToken 155 = .ok (.goto (-54), 3) := by decide +kernel
theorem dX6_nextToken_158 : decode cX6_nextToken 158 = .ok (.return_, 1) := by decide +kernel
abbrev rm_X6_nextToken : Room := { frames := 1, cells := 0, slots := 0, locals := 20 }
theorem hd_X6_nextToken : yX6_nextToken.cls ≠ "java/lang/invoke/MethodHandle" ∧ yX6_nextToken.cls ≠ "java/lang/invoke/VarHandle" ∧ (parseMethodDescriptor yX6_nextToken.desc).map (fun d => d.parameters.length) = some 0 := by decide +kernel
def bd_X6_nextToken_101 (Q : Int32 × Int32 × Int32 → Prop) (B101 : Int32 → Prop) (r_start : Int32) (r_kind : Int32) (t_length : Int32) (t_bytes : Nat → Int32) (r_stop : Int32) : Prop :=
((r_kind = 3 → Q (r_start, r_stop, r_kind)) ∧
(¬ r_kind = 3 → ((t_length ≤ r_stop → Q (r_start, r_stop, r_kind)) ∧
(¬ t_length ≤ r_stop → vp_in r_stop 200 ∧ wp_X6_kindOf (t_bytes r_stop.toNatClampNeg) (fun (r7 : Int32) => ((¬ r7 = r_kind → Q (r_start, r_stop, r_kind)) ∧
(r7 = r_kind → ∀ y9 : Int32, y9 = (r_stop + 1) →
B101 y9)))))))
def lp_X6_nextToken_101 (Q : Int32 × Int32 × Int32 → Prop) (r_start : Int32) (r_kind : Int32) (t_length : Int32) (t_bytes : Nat → Int32) (r_stop : Int32) : Prop :=
∃ I : Nat → Int32 → Prop, (∃ n, I n r_stop) ∧ ∀ n r_stop, I n r_stop → bd_X6_nextToken_101 Q  (fun r_stop' => ∃ n', n' < n ∧ I n' r_stop') r_start r_kind t_length t_bytes r_stop
def bk_X6_nextToken_44 (Q : Int32 × Int32 × Int32 → Prop) (r_stop : Int32) (t_length : Int32) (t_bytes : Nat → Int32) : Prop :=
((r_stop < t_length → vp_in r_stop 200 ∧ wp_X6_kindOf (t_bytes r_stop.toNatClampNeg) (fun (r3 : Int32) => ∀ y4 : Int32, y4 = (r_stop + 1) →
lp_X6_nextToken_101 Q r_stop r3 t_length t_bytes y4)) ∧
(¬ r_stop < t_length → Q (r_stop, r_stop, 0)))
def bd_X6_nextToken_0 (Q : Int32 × Int32 × Int32 → Prop) (B0 : Int32 → Prop) (t_length : Int32) (t_bytes : Nat → Int32) (r_stop : Int32) : Prop :=
((t_length ≤ r_stop → bk_X6_nextToken_44 Q r_stop t_length t_bytes) ∧
(¬ t_length ≤ r_stop → vp_in r_stop 200 ∧ ((¬ (t_bytes r_stop.toNatClampNeg) = 32 → bk_X6_nextToken_44 Q r_stop t_length t_bytes) ∧
((t_bytes r_stop.toNatClampNeg) = 32 → ∀ y11 : Int32, y11 = (r_stop + 1) →
B0 y11))))
def lp_X6_nextToken_0 (Q : Int32 × Int32 × Int32 → Prop) (t_length : Int32) (t_bytes : Nat → Int32) (r_stop : Int32) : Prop :=
∃ I : Nat → Int32 → Prop, (∃ n, I n r_stop) ∧ ∀ n r_stop, I n r_stop → bd_X6_nextToken_0 Q  (fun r_stop' => ∃ n', n' < n ∧ I n' r_stop') t_length t_bytes r_stop
def wp_X6_nextToken (r_stop : Int32) (t_length : Int32) (t_bytes : Nat → Int32) (Q : Int32 × Int32 × Int32 → Prop) : Prop :=
lp_X6_nextToken_0 Q t_length t_bytes r_stop
set_option maxHeartbeats 4000000 in
set_option maxRecDepth 100000 in
theorem B_X6_nextToken_101 {x : CX} {D : DG} {cyI cyJ cyZ : ClassId} {a_r a_r_verbs a_r_firsts a_r_seconds a_r_thirds a_t a_t_bytes : Nat} {r_lines : Int32} {r_columns : Int32} {r_rows : Int32} {r_start : Int32} {r_stop : Int32} {r_kind : Int32} {r_verbs : Nat → Int32} {r_firsts : Nat → Int32} {r_seconds : Nat → Int32} {r_thirds : Nat → Int32} {t_length : Int32} {t_bytes : Nat → Int32} {Q : Int32 × Int32 × Int32 → Prop} {B101 : Int32 → Prop} (cx : Cx x cX6_nextToken 1 RX6 rm_X6_nextToken D [(cyI, .int), (cyJ, .long), (cyZ, .boolean)]) (hR : ∀ (u : Int32 × Int32 × Int32) (pc : Nat) (lv : List (Nat × Value)), decode cX6_nextToken pc = .ok (.return_, 1) → Q u → J x 0 0 1 (W_Reader cyI cyJ cyZ a_r a_r_verbs a_r_firsts a_r_seconds a_r_thirds a_t a_t_bytes r_lines r_columns r_rows u.1 u.2.1 u.2.2 r_verbs r_firsts r_seconds r_thirds t_length t_bytes) lv pc []) (hB101 : ∀ (r_stop : Int32), B101 r_stop → J x 0 0 1 (W_Reader cyI cyJ cyZ a_r a_r_verbs a_r_firsts a_r_seconds a_r_thirds a_t a_t_bytes r_lines r_columns r_rows r_start r_stop r_kind r_verbs r_firsts r_seconds r_thirds t_length t_bytes) [(0, .ref a_r)] 101 []) (h : bd_X6_nextToken_101 Q B101 r_start r_kind t_length t_bytes r_stop) :
    J x 0 0 1 (W_Reader cyI cyJ cyZ a_r a_r_verbs a_r_firsts a_r_seconds a_r_thirds a_t a_t_bytes r_lines r_columns r_rows r_start r_stop r_kind r_verbs r_firsts r_seconds r_thirds t_length t_bytes) [(0, .ref a_r)] 101 [] := by
  unfold bd_X6_nextToken_101 at h
  refine j_aload_n cx 0 rfl rfl dX6_nextToken_101 (pn := 102) rfl ?_
  refine j_get cx inGX6 0 rfl rfl 10 (by decide) q_fl_X6_51 rfl rfl dX6_nextToken_102 (pn := 105) rfl ?_
  refine j_iconst cx (v := 3) (by decide) dX6_nextToken_105 (pn := 106) rfl ?_
  refine j_icmp_eq cx 158 dX6_nextToken_106 (pn := 109) rfl rfl (fun c5 => ?_) (fun c5 => ?_)
  · have h := h.1 c5
    exact hR (r_start, r_stop, r_kind) 158 _ dX6_nextToken_158 h
  · have h := h.2 c5
    refine j_aload_n cx 0 rfl rfl dX6_nextToken_109 (pn := 110) rfl ?_
    refine j_get cx inGX6 0 rfl rfl 9 (by decide) q_fl_X6_35 rfl rfl dX6_nextToken_110 (pn := 113) rfl ?_
    refine j_aload_n cx 0 rfl rfl dX6_nextToken_113 (pn := 114) rfl ?_
    refine j_get cx inGX6 0 rfl rfl 0 (by decide) q_fl_X6_24 rfl rfl dX6_nextToken_114 (pn := 117) rfl ?_
    refine j_getN cx inGX8 5 rfl rfl 1 (by decide) q_fl_X6_95 rfl rfl dX6_nextToken_117 (pn := 120) rfl ?_
    refine j_icmp_ge cx 158 dX6_nextToken_120 (pn := 123) rfl rfl (fun c6 => ?_) (fun c6 => ?_)
    · have h := h.1 c6
      exact hR (r_start, r_stop, r_kind) 158 _ dX6_nextToken_158 h
    · have h := h.2 c6
      refine j_aload_n cx 0 rfl rfl dX6_nextToken_123 (pn := 124) rfl ?_
      refine j_get cx inGX6 0 rfl rfl 0 (by decide) q_fl_X6_24 rfl rfl dX6_nextToken_124 (pn := 127) rfl ?_
      refine j_getN cx inGX8 5 rfl rfl 0 (by decide) q_fl_X6_58 rfl rfl dX6_nextToken_127 (pn := 130) rfl ?_
      refine j_aload_n cx 0 rfl rfl dX6_nextToken_130 (pn := 131) rfl ?_
      refine j_get cx inGX6 0 rfl rfl 9 (by decide) q_fl_X6_35 rfl rfl dX6_nextToken_131 (pn := 134) rfl ?_
      refine j_iald cx 6 0 rfl rfl h.1 dX6_nextToken_134 (pn := 135) rfl ?_
      have h := h.2
      refine j_calleI cx q_stat_X6_kindOf (As := [.int (t_bytes r_stop.toNatClampNeg)]) (rest := []) (c_X6_kindOf h) ⟨q_code_X6_kindOf, q_ml_X6_98, q_init_X6, hd_X6_kindOf, ⟨Nat.le_of_ble_eq_true rfl, Nat.le_of_ble_eq_true rfl⟩, Nat.le_of_ble_eq_true rfl, Nat.le_of_ble_eq_true rfl⟩ rfl rfl (Nat.le_of_ble_eq_true rfl) dX6_nextToken_135 (pn := 138) rfl (fun r7 h => ?_)
      show J x 0 0 1 (W_Reader cyI cyJ cyZ a_r a_r_verbs a_r_firsts a_r_seconds a_r_thirds a_t a_t_bytes r_lines r_columns r_rows r_start r_stop r_kind r_verbs r_firsts r_seconds r_thirds t_length t_bytes) [(0, .ref a_r)] 138 [.int r7]
      refine j_aload_n cx 0 rfl rfl dX6_nextToken_138 (pn := 139) rfl ?_
      refine j_get cx inGX6 0 rfl rfl 10 (by decide) q_fl_X6_51 rfl rfl dX6_nextToken_139 (pn := 142) rfl ?_
      refine j_icmp_ne cx 158 dX6_nextToken_142 (pn := 145) rfl rfl (fun c8 => ?_) (fun c8 => ?_)
      · have h := h.1 c8
        exact hR (r_start, r_stop, r_kind) 158 _ dX6_nextToken_158 h
      · have h := h.2 c8
        refine j_aload_n cx 0 rfl rfl dX6_nextToken_145 (pn := 146) rfl ?_
        refine j_dup cx rfl dX6_nextToken_146 (pn := 147) rfl ?_
        refine j_get cx inGX6 0 rfl rfl 9 (by decide) q_fl_X6_35 rfl rfl dX6_nextToken_147 (pn := 150) rfl ?_
        refine j_iconst cx (v := 1) (by decide) dX6_nextToken_150 (pn := 151) rfl ?_
        refine j_iadd cx dX6_nextToken_151 (pn := 152) rfl ?_
        refine j_topi (fun y9 ey9 => ?_)
        have h := h y9 ey9
        refine j_put cx tyX6 tyX6_ok nmX6 inGX6 0 rfl rfl 9 (by decide) q_fl_X6_35 rfl rfl rfl rfl rfl (Nat.le_of_ble_eq_true rfl) (W_Reader cyI cyJ cyZ a_r a_r_verbs a_r_firsts a_r_seconds a_r_thirds a_t a_t_bytes r_lines r_columns r_rows r_start y9 r_kind r_verbs r_firsts r_seconds r_thirds t_length t_bytes) rfl dX6_nextToken_152 (pn := 155) rfl ?_
        refine j_goto cx 101 dX6_nextToken_155 rfl ?_
        exact hB101 _ h
set_option maxHeartbeats 4000000 in
set_option maxRecDepth 100000 in
theorem J_X6_nextToken_101 {x : CX} {D : DG} {cyI cyJ cyZ : ClassId} {a_r a_r_verbs a_r_firsts a_r_seconds a_r_thirds a_t a_t_bytes : Nat} {r_lines : Int32} {r_columns : Int32} {r_rows : Int32} {r_start : Int32} {r_stop : Int32} {r_kind : Int32} {r_verbs : Nat → Int32} {r_firsts : Nat → Int32} {r_seconds : Nat → Int32} {r_thirds : Nat → Int32} {t_length : Int32} {t_bytes : Nat → Int32} {Q : Int32 × Int32 × Int32 → Prop} (cx : Cx x cX6_nextToken 1 RX6 rm_X6_nextToken D [(cyI, .int), (cyJ, .long), (cyZ, .boolean)]) (hR : ∀ (u : Int32 × Int32 × Int32) (pc : Nat) (lv : List (Nat × Value)), decode cX6_nextToken pc = .ok (.return_, 1) → Q u → J x 0 0 1 (W_Reader cyI cyJ cyZ a_r a_r_verbs a_r_firsts a_r_seconds a_r_thirds a_t a_t_bytes r_lines r_columns r_rows u.1 u.2.1 u.2.2 r_verbs r_firsts r_seconds r_thirds t_length t_bytes) lv pc []) (h : lp_X6_nextToken_101 Q  r_start r_kind t_length t_bytes r_stop) :
    J x 0 0 1 (W_Reader cyI cyJ cyZ a_r a_r_verbs a_r_firsts a_r_seconds a_r_thirds a_t a_t_bytes r_lines r_columns r_rows r_start r_stop r_kind r_verbs r_firsts r_seconds r_thirds t_length t_bytes) [(0, .ref a_r)] 101 [] := by
  obtain ⟨I, ⟨n, h0⟩, hb⟩ := h
  revert r_stop
  induction n using Nat.strongRecOn with
  | _ n ih =>
    intro r_stop h0
    exact B_X6_nextToken_101 cx hR (fun _ hz => by obtain ⟨n2, hlt, hI⟩ := hz; exact ih n2 hlt hI) (hb n r_stop h0)
set_option maxHeartbeats 4000000 in
set_option maxRecDepth 100000 in
theorem J_X6_nextToken_44 {x : CX} {D : DG} {cyI cyJ cyZ : ClassId} {a_r a_r_verbs a_r_firsts a_r_seconds a_r_thirds a_t a_t_bytes : Nat} {r_lines : Int32} {r_columns : Int32} {r_rows : Int32} {r_start : Int32} {r_stop : Int32} {r_kind : Int32} {r_verbs : Nat → Int32} {r_firsts : Nat → Int32} {r_seconds : Nat → Int32} {r_thirds : Nat → Int32} {t_length : Int32} {t_bytes : Nat → Int32} {Q : Int32 × Int32 × Int32 → Prop} (cx : Cx x cX6_nextToken 1 RX6 rm_X6_nextToken D [(cyI, .int), (cyJ, .long), (cyZ, .boolean)]) (hR : ∀ (u : Int32 × Int32 × Int32) (pc : Nat) (lv : List (Nat × Value)), decode cX6_nextToken pc = .ok (.return_, 1) → Q u → J x 0 0 1 (W_Reader cyI cyJ cyZ a_r a_r_verbs a_r_firsts a_r_seconds a_r_thirds a_t a_t_bytes r_lines r_columns r_rows u.1 u.2.1 u.2.2 r_verbs r_firsts r_seconds r_thirds t_length t_bytes) lv pc []) (h : bk_X6_nextToken_44 Q  r_stop t_length t_bytes) :
    J x 0 0 1 (W_Reader cyI cyJ cyZ a_r a_r_verbs a_r_firsts a_r_seconds a_r_thirds a_t a_t_bytes r_lines r_columns r_rows r_start r_stop r_kind r_verbs r_firsts r_seconds r_thirds t_length t_bytes) [(0, .ref a_r)] 44 [] := by
  unfold bk_X6_nextToken_44 at h
  refine j_aload_n cx 0 rfl rfl dX6_nextToken_44 (pn := 45) rfl ?_
  refine j_aload_n cx 0 rfl rfl dX6_nextToken_45 (pn := 46) rfl ?_
  refine j_get cx inGX6 0 rfl rfl 9 (by decide) q_fl_X6_35 rfl rfl dX6_nextToken_46 (pn := 49) rfl ?_
  refine j_put cx tyX6 tyX6_ok nmX6 inGX6 0 rfl rfl 8 (by decide) q_fl_X6_45 rfl rfl rfl rfl rfl (Nat.le_of_ble_eq_true rfl) (W_Reader cyI cyJ cyZ a_r a_r_verbs a_r_firsts a_r_seconds a_r_thirds a_t a_t_bytes r_lines r_columns r_rows r_stop r_stop r_kind r_verbs r_firsts r_seconds r_thirds t_length t_bytes) rfl dX6_nextToken_49 (pn := 52) rfl ?_
  refine j_aload_n cx 0 rfl rfl dX6_nextToken_52 (pn := 53) rfl ?_
  refine j_get cx inGX6 0 rfl rfl 9 (by decide) q_fl_X6_35 rfl rfl dX6_nextToken_53 (pn := 56) rfl ?_
  refine j_aload_n cx 0 rfl rfl dX6_nextToken_56 (pn := 57) rfl ?_
  refine j_get cx inGX6 0 rfl rfl 0 (by decide) q_fl_X6_24 rfl rfl dX6_nextToken_57 (pn := 60) rfl ?_
  refine j_getN cx inGX8 5 rfl rfl 1 (by decide) q_fl_X6_95 rfl rfl dX6_nextToken_60 (pn := 63) rfl ?_
  refine j_icmp_lt cx 72 dX6_nextToken_63 (pn := 66) rfl rfl (fun c2 => ?_) (fun c2 => ?_)
  · have h := h.1 c2
    refine j_aload_n cx 0 rfl rfl dX6_nextToken_72 (pn := 73) rfl ?_
    refine j_aload_n cx 0 rfl rfl dX6_nextToken_73 (pn := 74) rfl ?_
    refine j_get cx inGX6 0 rfl rfl 0 (by decide) q_fl_X6_24 rfl rfl dX6_nextToken_74 (pn := 77) rfl ?_
    refine j_getN cx inGX8 5 rfl rfl 0 (by decide) q_fl_X6_58 rfl rfl dX6_nextToken_77 (pn := 80) rfl ?_
    refine j_aload_n cx 0 rfl rfl dX6_nextToken_80 (pn := 81) rfl ?_
    refine j_get cx inGX6 0 rfl rfl 9 (by decide) q_fl_X6_35 rfl rfl dX6_nextToken_81 (pn := 84) rfl ?_
    refine j_iald cx 6 0 rfl rfl h.1 dX6_nextToken_84 (pn := 85) rfl ?_
    have h := h.2
    refine j_calleI cx q_stat_X6_kindOf (As := [.int (t_bytes r_stop.toNatClampNeg)]) (rest := [.ref a_r]) (c_X6_kindOf h) ⟨q_code_X6_kindOf, q_ml_X6_98, q_init_X6, hd_X6_kindOf, ⟨Nat.le_of_ble_eq_true rfl, Nat.le_of_ble_eq_true rfl⟩, Nat.le_of_ble_eq_true rfl, Nat.le_of_ble_eq_true rfl⟩ rfl rfl (Nat.le_of_ble_eq_true rfl) dX6_nextToken_85 (pn := 88) rfl (fun r3 h => ?_)
    show J x 0 0 1 (W_Reader cyI cyJ cyZ a_r a_r_verbs a_r_firsts a_r_seconds a_r_thirds a_t a_t_bytes r_lines r_columns r_rows r_stop r_stop r_kind r_verbs r_firsts r_seconds r_thirds t_length t_bytes) [(0, .ref a_r)] 88 [.int r3, .ref a_r]
    refine j_put cx tyX6 tyX6_ok nmX6 inGX6 0 rfl rfl 10 (by decide) q_fl_X6_51 rfl rfl rfl rfl rfl (Nat.le_of_ble_eq_true rfl) (W_Reader cyI cyJ cyZ a_r a_r_verbs a_r_firsts a_r_seconds a_r_thirds a_t a_t_bytes r_lines r_columns r_rows r_stop r_stop r3 r_verbs r_firsts r_seconds r_thirds t_length t_bytes) rfl dX6_nextToken_88 (pn := 91) rfl ?_
    refine j_aload_n cx 0 rfl rfl dX6_nextToken_91 (pn := 92) rfl ?_
    refine j_dup cx rfl dX6_nextToken_92 (pn := 93) rfl ?_
    refine j_get cx inGX6 0 rfl rfl 9 (by decide) q_fl_X6_35 rfl rfl dX6_nextToken_93 (pn := 96) rfl ?_
    refine j_iconst cx (v := 1) (by decide) dX6_nextToken_96 (pn := 97) rfl ?_
    refine j_iadd cx dX6_nextToken_97 (pn := 98) rfl ?_
    refine j_topi (fun y4 ey4 => ?_)
    have h := h y4 ey4
    refine j_put cx tyX6 tyX6_ok nmX6 inGX6 0 rfl rfl 9 (by decide) q_fl_X6_35 rfl rfl rfl rfl rfl (Nat.le_of_ble_eq_true rfl) (W_Reader cyI cyJ cyZ a_r a_r_verbs a_r_firsts a_r_seconds a_r_thirds a_t a_t_bytes r_lines r_columns r_rows r_stop y4 r3 r_verbs r_firsts r_seconds r_thirds t_length t_bytes) rfl dX6_nextToken_98 (pn := 101) rfl ?_
    exact J_X6_nextToken_101 cx hR h
  · have h := h.2 c2
    refine j_aload_n cx 0 rfl rfl dX6_nextToken_66 (pn := 67) rfl ?_
    refine j_iconst cx (v := 0) (by decide) dX6_nextToken_67 (pn := 68) rfl ?_
    refine j_put cx tyX6 tyX6_ok nmX6 inGX6 0 rfl rfl 10 (by decide) q_fl_X6_51 rfl rfl rfl rfl rfl (Nat.le_of_ble_eq_true rfl) (W_Reader cyI cyJ cyZ a_r a_r_verbs a_r_firsts a_r_seconds a_r_thirds a_t a_t_bytes r_lines r_columns r_rows r_stop r_stop 0 r_verbs r_firsts r_seconds r_thirds t_length t_bytes) rfl dX6_nextToken_68 (pn := 71) rfl ?_
    exact hR (r_stop, r_stop, 0) 71 _ dX6_nextToken_71 h
set_option maxHeartbeats 4000000 in
set_option maxRecDepth 100000 in
theorem B_X6_nextToken_0 {x : CX} {D : DG} {cyI cyJ cyZ : ClassId} {a_r a_r_verbs a_r_firsts a_r_seconds a_r_thirds a_t a_t_bytes : Nat} {r_lines : Int32} {r_columns : Int32} {r_rows : Int32} {r_start : Int32} {r_stop : Int32} {r_kind : Int32} {r_verbs : Nat → Int32} {r_firsts : Nat → Int32} {r_seconds : Nat → Int32} {r_thirds : Nat → Int32} {t_length : Int32} {t_bytes : Nat → Int32} {Q : Int32 × Int32 × Int32 → Prop} {B0 : Int32 → Prop} (cx : Cx x cX6_nextToken 1 RX6 rm_X6_nextToken D [(cyI, .int), (cyJ, .long), (cyZ, .boolean)]) (hR : ∀ (u : Int32 × Int32 × Int32) (pc : Nat) (lv : List (Nat × Value)), decode cX6_nextToken pc = .ok (.return_, 1) → Q u → J x 0 0 1 (W_Reader cyI cyJ cyZ a_r a_r_verbs a_r_firsts a_r_seconds a_r_thirds a_t a_t_bytes r_lines r_columns r_rows u.1 u.2.1 u.2.2 r_verbs r_firsts r_seconds r_thirds t_length t_bytes) lv pc []) (hB0 : ∀ (r_stop : Int32), B0 r_stop → J x 0 0 1 (W_Reader cyI cyJ cyZ a_r a_r_verbs a_r_firsts a_r_seconds a_r_thirds a_t a_t_bytes r_lines r_columns r_rows r_start r_stop r_kind r_verbs r_firsts r_seconds r_thirds t_length t_bytes) [(0, .ref a_r)] 0 []) (h : bd_X6_nextToken_0 Q B0 t_length t_bytes r_stop) :
    J x 0 0 1 (W_Reader cyI cyJ cyZ a_r a_r_verbs a_r_firsts a_r_seconds a_r_thirds a_t a_t_bytes r_lines r_columns r_rows r_start r_stop r_kind r_verbs r_firsts r_seconds r_thirds t_length t_bytes) [(0, .ref a_r)] 0 [] := by
  unfold bd_X6_nextToken_0 at h
  refine j_aload_n cx 0 rfl rfl dX6_nextToken_0 (pn := 1) rfl ?_
  refine j_get cx inGX6 0 rfl rfl 9 (by decide) q_fl_X6_35 rfl rfl dX6_nextToken_1 (pn := 4) rfl ?_
  refine j_aload_n cx 0 rfl rfl dX6_nextToken_4 (pn := 5) rfl ?_
  refine j_get cx inGX6 0 rfl rfl 0 (by decide) q_fl_X6_24 rfl rfl dX6_nextToken_5 (pn := 8) rfl ?_
  refine j_getN cx inGX8 5 rfl rfl 1 (by decide) q_fl_X6_95 rfl rfl dX6_nextToken_8 (pn := 11) rfl ?_
  refine j_icmp_ge cx 44 dX6_nextToken_11 (pn := 14) rfl rfl (fun c1 => ?_) (fun c1 => ?_)
  · have h := h.1 c1
    exact J_X6_nextToken_44 cx hR h
  · have h := h.2 c1
    refine j_aload_n cx 0 rfl rfl dX6_nextToken_14 (pn := 15) rfl ?_
    refine j_get cx inGX6 0 rfl rfl 0 (by decide) q_fl_X6_24 rfl rfl dX6_nextToken_15 (pn := 18) rfl ?_
    refine j_getN cx inGX8 5 rfl rfl 0 (by decide) q_fl_X6_58 rfl rfl dX6_nextToken_18 (pn := 21) rfl ?_
    refine j_aload_n cx 0 rfl rfl dX6_nextToken_21 (pn := 22) rfl ?_
    refine j_get cx inGX6 0 rfl rfl 9 (by decide) q_fl_X6_35 rfl rfl dX6_nextToken_22 (pn := 25) rfl ?_
    refine j_iald cx 6 0 rfl rfl h.1 dX6_nextToken_25 (pn := 26) rfl ?_
    have h := h.2
    refine j_bipush cx (v := 32) (by decide) dX6_nextToken_26 (pn := 28) rfl ?_
    refine j_icmp_ne cx 44 dX6_nextToken_28 (pn := 31) rfl rfl (fun c10 => ?_) (fun c10 => ?_)
    · have h := h.1 c10
      exact J_X6_nextToken_44 cx hR h
    · have h := h.2 c10
      refine j_aload_n cx 0 rfl rfl dX6_nextToken_31 (pn := 32) rfl ?_
      refine j_dup cx rfl dX6_nextToken_32 (pn := 33) rfl ?_
      refine j_get cx inGX6 0 rfl rfl 9 (by decide) q_fl_X6_35 rfl rfl dX6_nextToken_33 (pn := 36) rfl ?_
      refine j_iconst cx (v := 1) (by decide) dX6_nextToken_36 (pn := 37) rfl ?_
      refine j_iadd cx dX6_nextToken_37 (pn := 38) rfl ?_
      refine j_topi (fun y11 ey11 => ?_)
      have h := h y11 ey11
      refine j_put cx tyX6 tyX6_ok nmX6 inGX6 0 rfl rfl 9 (by decide) q_fl_X6_35 rfl rfl rfl rfl rfl (Nat.le_of_ble_eq_true rfl) (W_Reader cyI cyJ cyZ a_r a_r_verbs a_r_firsts a_r_seconds a_r_thirds a_t a_t_bytes r_lines r_columns r_rows r_start y11 r_kind r_verbs r_firsts r_seconds r_thirds t_length t_bytes) rfl dX6_nextToken_38 (pn := 41) rfl ?_
      refine j_goto cx 0 dX6_nextToken_41 rfl ?_
      exact hB0 _ h
set_option maxHeartbeats 4000000 in
set_option maxRecDepth 100000 in
theorem J_X6_nextToken_0 {x : CX} {D : DG} {cyI cyJ cyZ : ClassId} {a_r a_r_verbs a_r_firsts a_r_seconds a_r_thirds a_t a_t_bytes : Nat} {r_lines : Int32} {r_columns : Int32} {r_rows : Int32} {r_start : Int32} {r_stop : Int32} {r_kind : Int32} {r_verbs : Nat → Int32} {r_firsts : Nat → Int32} {r_seconds : Nat → Int32} {r_thirds : Nat → Int32} {t_length : Int32} {t_bytes : Nat → Int32} {Q : Int32 × Int32 × Int32 → Prop} (cx : Cx x cX6_nextToken 1 RX6 rm_X6_nextToken D [(cyI, .int), (cyJ, .long), (cyZ, .boolean)]) (hR : ∀ (u : Int32 × Int32 × Int32) (pc : Nat) (lv : List (Nat × Value)), decode cX6_nextToken pc = .ok (.return_, 1) → Q u → J x 0 0 1 (W_Reader cyI cyJ cyZ a_r a_r_verbs a_r_firsts a_r_seconds a_r_thirds a_t a_t_bytes r_lines r_columns r_rows u.1 u.2.1 u.2.2 r_verbs r_firsts r_seconds r_thirds t_length t_bytes) lv pc []) (h : lp_X6_nextToken_0 Q  t_length t_bytes r_stop) :
    J x 0 0 1 (W_Reader cyI cyJ cyZ a_r a_r_verbs a_r_firsts a_r_seconds a_r_thirds a_t a_t_bytes r_lines r_columns r_rows r_start r_stop r_kind r_verbs r_firsts r_seconds r_thirds t_length t_bytes) [(0, .ref a_r)] 0 [] := by
  obtain ⟨I, ⟨n, h0⟩, hb⟩ := h
  revert r_stop
  induction n using Nat.strongRecOn with
  | _ n ih =>
    intro r_stop h0
    exact B_X6_nextToken_0 cx hR (fun _ hz => by obtain ⟨n2, hlt, hI⟩ := hz; exact ih n2 hlt hI) (hb n r_stop h0)
set_option maxHeartbeats 4000000 in
set_option maxRecDepth 100000 in
theorem c_X6_nextToken {D : DG} {cyI cyJ cyZ : ClassId} {a_r a_r_verbs a_r_firsts a_r_seconds a_r_thirds a_t a_t_bytes : Nat} {r_lines : Int32} {r_columns : Int32} {r_rows : Int32} {r_start : Int32} {r_stop : Int32} {r_kind : Int32} {r_verbs : Nat → Int32} {r_firsts : Nat → Int32} {r_seconds : Nat → Int32} {r_thirds : Nat → Int32} {t_length : Int32} {t_bytes : Nat → Int32} {Q : Int32 × Int32 × Int32 → Prop} (h : wp_X6_nextToken r_stop t_length t_bytes Q) :
    MetV yX6_nextToken cX6_nextToken 1 (none) rm_X6_nextToken D [(cyI, .int), (cyJ, .long), (cyZ, .boolean)] [.ref a_r] (W_Reader cyI cyJ cyZ a_r a_r_verbs a_r_firsts a_r_seconds a_r_thirds a_t a_t_bytes r_lines r_columns r_rows r_start r_stop r_kind r_verbs r_firsts r_seconds r_thirds t_length t_bytes) (fun u : Int32 × Int32 × Int32 => (W_Reader cyI cyJ cyZ a_r a_r_verbs a_r_firsts a_r_seconds a_r_thirds a_t a_t_bytes r_lines r_columns r_rows u.1 u.2.1 u.2.2 r_verbs r_firsts r_seconds r_thirds t_length t_bytes)) (fun u => Q u) := by
  unfold wp_X6_nextToken at h
  refine metV_of (by decide) (Nat.le_of_ble_eq_true rfl) (fun x cx0 hR0 => ?_)
  have cx : Cx x cX6_nextToken 1 RX6 rm_X6_nextToken D [(cyI, .int), (cyJ, .long), (cyZ, .boolean)] := cx0
  have hR : ∀ (u : Int32 × Int32 × Int32) (pc : Nat) (lv : List (Nat × Value)), decode cX6_nextToken pc = .ok (.return_, 1) → Q u → J x 0 0 1 (W_Reader cyI cyJ cyZ a_r a_r_verbs a_r_firsts a_r_seconds a_r_thirds a_t a_t_bytes r_lines r_columns r_rows u.1 u.2.1 u.2.2 r_verbs r_firsts r_seconds r_thirds t_length t_bytes) lv pc [] := (fun u pc lv d hq => hR0 u pc lv d hq)
  show J x 0 0 1 (W_Reader cyI cyJ cyZ a_r a_r_verbs a_r_firsts a_r_seconds a_r_thirds a_t a_t_bytes r_lines r_columns r_rows r_start r_stop r_kind r_verbs r_firsts r_seconds r_thirds t_length t_bytes) [(0, .ref a_r)] 0 []
  exact J_X6_nextToken_0 cx hR h
theorem dX6_verbName_0 : decode cX6_verbName 0 = .ok (.iload_n 0, 1) := by decide +kernel
theorem dX6_verbName_1 : decode cX6_verbName 1 = .ok (.tableswitch 85 0 9 #[55, 58, 61, 64, 67, 70, 73, 76, 79, 82], 55) := by decide +kernel
theorem dX6_verbName_56 : decode cX6_verbName 56 = .ok (.ldc 110, 2) := by decide +kernel
theorem dX6_verbName_58 : decode cX6_verbName 58 = .ok (.areturn, 1) := by decide +kernel
theorem dX6_verbName_59 : decode cX6_verbName 59 = .ok (.ldc 112, 2) := by decide +kernel
theorem dX6_verbName_61 : decode cX6_verbName 61 = .ok (.areturn, 1) := by decide +kernel
theorem dX6_verbName_62 : decode cX6_verbName 62 = .ok (.ldc 114, 2) := by decide +kernel
theorem dX6_verbName_64 : decode cX6_verbName 64 = .ok (.areturn, 1) := by decide +kernel
theorem dX6_verbName_65 : decode cX6_verbName 65 = .ok (.ldc 116, 2) := by decide +kernel
theorem dX6_verbName_67 : decode cX6_verbName 67 = .ok (.areturn, 1) := by decide +kernel
theorem dX6_verbName_68 : decode cX6_verbName 68 = .ok (.ldc 118, 2) := by decide +kernel
theorem dX6_verbName_70 : decode cX6_verbName 70 = .ok (.areturn, 1) := by decide +kernel
theorem dX6_verbName_71 : decode cX6_verbName 71 = .ok (.ldc 120, 2) := by decide +kernel
theorem dX6_verbName_73 : decode cX6_verbName 73 = .ok (.areturn, 1) := by decide +kernel
theorem dX6_verbName_74 : decode cX6_verbName 74 = .ok (.ldc 122, 2) := by decide +kernel
theorem dX6_verbName_76 : decode cX6_verbName 76 = .ok (.areturn, 1) := by decide +kernel
theorem dX6_verbName_77 : decode cX6_verbName 77 = .ok (.ldc 124, 2) := by decide +kernel
theorem dX6_verbName_79 : decode cX6_verbName 79 = .ok (.areturn, 1) := by decide +kernel
theorem dX6_verbName_80 : decode cX6_verbName 80 = .ok (.ldc 126, 2) := by decide +kernel
theorem dX6_verbName_82 : decode cX6_verbName 82 = .ok (.areturn, 1) := by decide +kernel
theorem dX6_verbName_83 : decode cX6_verbName 83 = .ok (.ldc 128, 2) := by decide +kernel
theorem dX6_verbName_85 : decode cX6_verbName 85 = .ok (.areturn, 1) := by decide +kernel
theorem dX6_verbName_86 : decode cX6_verbName 86 = .ok (.ldc 130, 2) := by decide +kernel
theorem dX6_verbName_88 : decode cX6_verbName 88 = .ok (.areturn, 1) := by decide +kernel
abbrev rm_X6_verbName : Room := { frames := 0, cells := 0, slots := 0, locals := 0 }
theorem hd_X6_verbName : yX6_verbName.cls ≠ "java/lang/invoke/MethodHandle" ∧ yX6_verbName.cls ≠ "java/lang/invoke/VarHandle" ∧ (parseMethodDescriptor yX6_verbName.desc).map (fun d => d.parameters.length) = some 1 := by decide +kernel
def wp_X6_verbName (p0 : Int32) (Q : Nat → Prop) : Prop :=
((p0 = 0 → Q 0) ∧
(p0 = 1 → Q 1) ∧
(p0 = 2 → Q 2) ∧
(p0 = 3 → Q 3) ∧
(p0 = 4 → Q 4) ∧
(p0 = 5 → Q 5) ∧
(p0 = 6 → Q 6) ∧
(p0 = 7 → Q 7) ∧
(p0 = 8 → Q 8) ∧
(p0 = 9 → Q 9) ∧
((¬ p0 = 0 ∧ ¬ p0 = 1 ∧ ¬ p0 = 2 ∧ ¬ p0 = 3 ∧ ¬ p0 = 4 ∧ ¬ p0 = 5 ∧ ¬ p0 = 6 ∧ ¬ p0 = 7 ∧ ¬ p0 = 8 ∧ ¬ p0 = 9) → Q 10))
set_option maxHeartbeats 4000000 in
set_option maxRecDepth 100000 in
theorem c_X6_verbName {D : DG} {cyI cyJ cyZ : ClassId} {p0 : Int32} {Q : Nat → Prop} (h : wp_X6_verbName p0 Q) :
    MetS yX6_verbName cX6_verbName 1 (some (.object "java/lang/String")) rm_X6_verbName D [(cyI, .int), (cyJ, .long), (cyZ, .boolean)] [.int p0] Q := by
  unfold wp_X6_verbName at h
  refine metS_of ⟨_, rfl⟩ (by decide) (Nat.le_of_ble_eq_true rfl) (fun x cx0 hR0 => ?_)
  have cx : Cx x cX6_verbName 1 RX6 rm_X6_verbName D [(cyI, .int), (cyJ, .long), (cyZ, .boolean)] := cx0
  have hR : ∀ (v : Nat) (pc : Nat) (lv : List (Nat × Value)), decode cX6_verbName pc = .ok (.areturn, 1) → Q v → J x 0 0 1 ([] : va_W) lv pc [.ref (D.2.1 v)] := (fun v pc lv d hq => hR0 v  pc lv d hq)
  show J x 0 0 1 ([] : va_W) [(0, .int p0)] 0 []
  refine j_iload_n cx 0 rfl rfl dX6_verbName_0 (pn := 1) rfl ?_
  by_cases k0 : p0 = 0
  · refine j_tabIn cx 56 dX6_verbName_1 (by rw [k0]; decide) (by rw [k0]; decide) (off := 55) (by rw [k0]; rfl) rfl ?_
    have h := h.1 k0
    refine j_ldcS cx (i := 0) (by decide) rfl rfl dX6_verbName_56 (pn := 58) rfl ?_
    exact hR 0 58 _ dX6_verbName_58 h
  by_cases k1 : p0 = 1
  · refine j_tabIn cx 59 dX6_verbName_1 (by rw [k1]; decide) (by rw [k1]; decide) (off := 58) (by rw [k1]; rfl) rfl ?_
    have h := h.2.1 k1
    refine j_ldcS cx (i := 1) (by decide) rfl rfl dX6_verbName_59 (pn := 61) rfl ?_
    exact hR 1 61 _ dX6_verbName_61 h
  by_cases k2 : p0 = 2
  · refine j_tabIn cx 62 dX6_verbName_1 (by rw [k2]; decide) (by rw [k2]; decide) (off := 61) (by rw [k2]; rfl) rfl ?_
    have h := h.2.2.1 k2
    refine j_ldcS cx (i := 2) (by decide) rfl rfl dX6_verbName_62 (pn := 64) rfl ?_
    exact hR 2 64 _ dX6_verbName_64 h
  by_cases k3 : p0 = 3
  · refine j_tabIn cx 65 dX6_verbName_1 (by rw [k3]; decide) (by rw [k3]; decide) (off := 64) (by rw [k3]; rfl) rfl ?_
    have h := h.2.2.2.1 k3
    refine j_ldcS cx (i := 3) (by decide) rfl rfl dX6_verbName_65 (pn := 67) rfl ?_
    exact hR 3 67 _ dX6_verbName_67 h
  by_cases k4 : p0 = 4
  · refine j_tabIn cx 68 dX6_verbName_1 (by rw [k4]; decide) (by rw [k4]; decide) (off := 67) (by rw [k4]; rfl) rfl ?_
    have h := h.2.2.2.2.1 k4
    refine j_ldcS cx (i := 4) (by decide) rfl rfl dX6_verbName_68 (pn := 70) rfl ?_
    exact hR 4 70 _ dX6_verbName_70 h
  by_cases k5 : p0 = 5
  · refine j_tabIn cx 71 dX6_verbName_1 (by rw [k5]; decide) (by rw [k5]; decide) (off := 70) (by rw [k5]; rfl) rfl ?_
    have h := h.2.2.2.2.2.1 k5
    refine j_ldcS cx (i := 5) (by decide) rfl rfl dX6_verbName_71 (pn := 73) rfl ?_
    exact hR 5 73 _ dX6_verbName_73 h
  by_cases k6 : p0 = 6
  · refine j_tabIn cx 74 dX6_verbName_1 (by rw [k6]; decide) (by rw [k6]; decide) (off := 73) (by rw [k6]; rfl) rfl ?_
    have h := h.2.2.2.2.2.2.1 k6
    refine j_ldcS cx (i := 6) (by decide) rfl rfl dX6_verbName_74 (pn := 76) rfl ?_
    exact hR 6 76 _ dX6_verbName_76 h
  by_cases k7 : p0 = 7
  · refine j_tabIn cx 77 dX6_verbName_1 (by rw [k7]; decide) (by rw [k7]; decide) (off := 76) (by rw [k7]; rfl) rfl ?_
    have h := h.2.2.2.2.2.2.2.1 k7
    refine j_ldcS cx (i := 7) (by decide) rfl rfl dX6_verbName_77 (pn := 79) rfl ?_
    exact hR 7 79 _ dX6_verbName_79 h
  by_cases k8 : p0 = 8
  · refine j_tabIn cx 80 dX6_verbName_1 (by rw [k8]; decide) (by rw [k8]; decide) (off := 79) (by rw [k8]; rfl) rfl ?_
    have h := h.2.2.2.2.2.2.2.2.1 k8
    refine j_ldcS cx (i := 8) (by decide) rfl rfl dX6_verbName_80 (pn := 82) rfl ?_
    exact hR 8 82 _ dX6_verbName_82 h
  by_cases k9 : p0 = 9
  · refine j_tabIn cx 83 dX6_verbName_1 (by rw [k9]; decide) (by rw [k9]; decide) (off := 82) (by rw [k9]; rfl) rfl ?_
    have h := h.2.2.2.2.2.2.2.2.2.1 k9
    refine j_ldcS cx (i := 9) (by decide) rfl rfl dX6_verbName_83 (pn := 85) rfl ?_
    exact hR 9 85 _ dX6_verbName_85 h
  refine j_tabOut cx 86 dX6_verbName_1 (sw_out0_9 k0 k1 k2 k3 k4 k5 k6 k7 k8 k9) rfl ?_
  have h := h.2.2.2.2.2.2.2.2.2.2 ⟨k0, k1, k2, k3, k4, k5, k6, k7, k8, k9⟩
  refine j_ldcS cx (i := 10) (by decide) rfl rfl dX6_verbName_86 (pn := 88) rfl ?_
  exact hR 10 88 _ dX6_verbName_88 h
theorem dX6_tokenIs_0 : decode cX6_tokenIs 0 = .ok (.aload_n 0, 1) := by decide +kernel
theorem dX6_tokenIs_1 : decode cX6_tokenIs 1 = .ok (.getfield 51, 3) := by decide +kernel
theorem dX6_tokenIs_4 : decode cX6_tokenIs 4 = .ok (.iconst 1, 1) := by decide +kernel
theorem dX6_tokenIs_5 : decode cX6_tokenIs 5 = .ok (.if_icmp .ne 19, 3) := by decide +kernel
theorem dX6_tokenIs_8 : decode cX6_tokenIs 8 = .ok (.aload_n 0, 1) := by decide +kernel
theorem dX6_tokenIs_9 : decode cX6_tokenIs 9 = .ok (.getfield 35, 3) := by decide +kernel
theorem dX6_tokenIs_12 : decode cX6_tokenIs 12 = .ok (.aload_n 0, 1) := by decide +kernel
theorem dX6_tokenIs_13 : decode cX6_tokenIs 13 = .ok (.getfield 45, 3) := by decide +kernel
theorem dX6_tokenIs_16 : decode cX6_tokenIs 16 = .ok (.isub, 1) := by decide +kernel
theorem dX6_tokenIs_17 : decode cX6_tokenIs 17 = .ok (.aload_n 1, 1) := by decide +kernel
theorem dX6_tokenIs_18 : decode cX6_tokenIs 18 = .ok (.invokevirtual 102, 3) := by decide +kernel
theorem dX6_tokenIs_21 : decode cX6_tokenIs 21 = .ok (.if_icmp .eq 5, 3) := by decide +kernel
theorem dX6_tokenIs_24 : decode cX6_tokenIs 24 = .ok (.iconst 0, 1) := by decide +kernel
theorem dX6_tokenIs_25 : decode cX6_tokenIs 25 = .ok (.ireturn, 1) := by decide +kernel
theorem dX6_tokenIs_26 : decode cX6_tokenIs 26 = .ok (.iconst 0, 1) := by decide +kernel
theorem dX6_tokenIs_27 : decode cX6_tokenIs 27 = .ok (.istore_n 2, 1) := by decide +kernel
theorem dX6_tokenIs_28 : decode cX6_tokenIs 28 = .ok (.iload_n 2, 1) := by decide +kernel
theorem dX6_tokenIs_29 : decode cX6_tokenIs 29 = .ok (.aload_n 1, 1) := by decide +kernel
theorem dX6_tokenIs_30 : decode cX6_tokenIs 30 = .ok (.invokevirtual 102, 3) := by decide +kernel
theorem dX6_tokenIs_33 : decode cX6_tokenIs 33 = .ok (.if_icmp .ge 33, 3) := by decide +kernel
theorem dX6_tokenIs_36 : decode cX6_tokenIs 36 = .ok (.aload_n 0, 1) := by decide +kernel
theorem dX6_tokenIs_37 : decode cX6_tokenIs 37 = .ok (.getfield 24, 3) := by decide +kernel
theorem dX6_tokenIs_40 : decode cX6_tokenIs 40 = .ok (.getfield 58, 3) := by decide +kernel
theorem dX6_tokenIs_43 : decode cX6_tokenIs 43 = .ok (.aload_n 0, 1) := by decide +kernel
theorem dX6_tokenIs_44 : decode cX6_tokenIs 44 = .ok (.getfield 45, 3) := by decide +kernel
theorem dX6_tokenIs_47 : decode cX6_tokenIs 47 = .ok (.iload_n 2, 1) := by decide +kernel
theorem dX6_tokenIs_48 : decode cX6_tokenIs 48 = .ok (.iadd, 1) := by decide +kernel
theorem dX6_tokenIs_49 : decode cX6_tokenIs 49 = .ok (.iaload, 1) := by decide +kernel
theorem dX6_tokenIs_50 : decode cX6_tokenIs 50 = .ok (.aload_n 1, 1) := by decide +kernel
theorem dX6_tokenIs_51 : decode cX6_tokenIs 51 = .ok (.iload_n 2, 1) := by decide +kernel
theorem dX6_tokenIs_52 : decode cX6_tokenIs 52 = .ok (.invokevirtual 106, 3) := by decide +kernel
theorem dX6_tokenIs_55 : decode cX6_tokenIs 55 = .ok (.if_icmp .eq 5, 3) := by decide +kernel
theorem dX6_tokenIs_58 : decode cX6_tokenIs 58 = .ok (.iconst 0, 1) := by decide +kernel
theorem dX6_tokenIs_59 : decode cX6_tokenIs 59 = .ok (.ireturn, 1) := by decide +kernel
theorem dX6_tokenIs_60 : decode cX6_tokenIs 60 = .ok (.iinc 2 1, 3) := by decide +kernel
theorem dX6_tokenIs_63 : decode cX6_tokenIs 63 = .ok (.goto (-35), 3) := by decide +kernel
theorem dX6_tokenIs_66 : decode cX6_tokenIs 66 = .ok (.iconst 1, 1) := by decide +kernel
theorem dX6_tokenIs_67 : decode cX6_tokenIs 67 = .ok (.ireturn, 1) := by decide +kernel
abbrev rm_X6_tokenIs : Room := { frames := 4, cells := 0, slots := 0, locals := 85 }
theorem hd_X6_tokenIs : yX6_tokenIs.cls ≠ "java/lang/invoke/MethodHandle" ∧ yX6_tokenIs.cls ≠ "java/lang/invoke/VarHandle" ∧ (parseMethodDescriptor yX6_tokenIs.desc).map (fun d => d.parameters.length) = some 1 := by decide +kernel
def bd_X6_tokenIs_28 (Q : Int32 → Prop) (B28 : Int32 → Prop) (p1 : Nat) (r_start : Int32) (t_bytes : Nat → Int32) (x2 : Int32) : Prop :=
p1 < nS ∧ (((Int32.ofNat (lenS.getD p1 0)) ≤ x2 → Q 1) ∧
(¬ (Int32.ofNat (lenS.getD p1 0)) ≤ x2 → vp_in (r_start + x2) 200 ∧ (p1 < nS ∧ vp_in x2 (lenS.getD p1 0)) ∧ (((t_bytes (r_start + x2).toNatClampNeg) = (chS p1 x2.toNatClampNeg) → ∀ y8 : Int32, y8 = (x2 + 1) →
B28 y8) ∧
(¬ (t_bytes (r_start + x2).toNatClampNeg) = (chS p1 x2.toNatClampNeg) → Q 0))))
def lp_X6_tokenIs_28 (Q : Int32 → Prop) (p1 : Nat) (r_start : Int32) (t_bytes : Nat → Int32) (x2 : Int32) : Prop :=
∃ I : Nat → Int32 → Prop, (∃ n, I n x2) ∧ ∀ n x2, I n x2 → bd_X6_tokenIs_28 Q  (fun x2' => ∃ n', n' < n ∧ I n' x2') p1 r_start t_bytes x2
def wp_X6_tokenIs (p1 : Nat) (r_start : Int32) (r_stop : Int32) (r_kind : Int32) (t_bytes : Nat → Int32) (Q : Int32 → Prop) : Prop :=
((¬ r_kind = 1 → Q 0) ∧
(r_kind = 1 → p1 < nS ∧ (((r_stop - r_start) = (Int32.ofNat (lenS.getD p1 0)) → lp_X6_tokenIs_28 Q p1 r_start t_bytes 0) ∧
(¬ (r_stop - r_start) = (Int32.ofNat (lenS.getD p1 0)) → Q 0))))
set_option maxHeartbeats 4000000 in
set_option maxRecDepth 100000 in
theorem B_X6_tokenIs_28 {x : CX} {D : DG} {cyI cyJ cyZ : ClassId} {a_r a_r_verbs a_r_firsts a_r_seconds a_r_thirds a_t a_t_bytes : Nat} {r_lines : Int32} {r_columns : Int32} {r_rows : Int32} {r_start : Int32} {r_stop : Int32} {r_kind : Int32} {r_verbs : Nat → Int32} {r_firsts : Nat → Int32} {r_seconds : Nat → Int32} {r_thirds : Nat → Int32} {t_length : Int32} {t_bytes : Nat → Int32} {p1 : Nat} {x2 : Int32} {Q : Int32 → Prop} {B28 : Int32 → Prop} (cx : Cx x cX6_tokenIs 3 RX6 rm_X6_tokenIs D [(cyI, .int), (cyJ, .long), (cyZ, .boolean)]) (hR : ∀ (v : Int32) (pc : Nat) (lv : List (Nat × Value)), decode cX6_tokenIs pc = .ok (.ireturn, 1) → (v = 0 ∨ v = 1) → Q v → J x 0 0 3 (W_Reader cyI cyJ cyZ a_r a_r_verbs a_r_firsts a_r_seconds a_r_thirds a_t a_t_bytes r_lines r_columns r_rows r_start r_stop r_kind r_verbs r_firsts r_seconds r_thirds t_length t_bytes) lv pc [.int v]) (hB28 : ∀ (x2 : Int32), B28 x2 → J x 0 0 3 (W_Reader cyI cyJ cyZ a_r a_r_verbs a_r_firsts a_r_seconds a_r_thirds a_t a_t_bytes r_lines r_columns r_rows r_start r_stop r_kind r_verbs r_firsts r_seconds r_thirds t_length t_bytes) [(0, .ref a_r), (1, .ref (D.2.1 p1)), (2, .int x2)] 28 []) (h : bd_X6_tokenIs_28 Q B28 p1 r_start t_bytes x2) :
    J x 0 0 3 (W_Reader cyI cyJ cyZ a_r a_r_verbs a_r_firsts a_r_seconds a_r_thirds a_t a_t_bytes r_lines r_columns r_rows r_start r_stop r_kind r_verbs r_firsts r_seconds r_thirds t_length t_bytes) [(0, .ref a_r), (1, .ref (D.2.1 p1)), (2, .int x2)] 28 [] := by
  unfold bd_X6_tokenIs_28 at h
  refine j_iload_n cx 2 rfl rfl dX6_tokenIs_28 (pn := 29) rfl ?_
  refine j_aload_n cx 1 rfl rfl dX6_tokenIs_29 (pn := 30) rfl ?_
  refine j_callkI cx q_inst_J0_length_8abf5 q_sel_J0_length_8abf5 h.1 rfl (As := []) (rest := [.int x2]) (c_J0_length_8abf5 (Q := fun r => r = Int32.ofNat (lenS.getD p1 0)) h.1 rfl) ⟨q_code_J0_length_8abf5, q_ml_X6_102, q_init_J0, hd_J0_length_8abf5, ⟨Nat.le_of_ble_eq_true rfl, Nat.le_of_ble_eq_true rfl⟩, Nat.le_of_ble_eq_true rfl, Nat.le_of_ble_eq_true rfl⟩ rfl rfl (Nat.le_of_ble_eq_true rfl) dX6_tokenIs_30 (pn := 33) rfl (fun r4 hr4 => ?_)
  subst hr4
  have h := h.2
  show J x 0 0 3 (W_Reader cyI cyJ cyZ a_r a_r_verbs a_r_firsts a_r_seconds a_r_thirds a_t a_t_bytes r_lines r_columns r_rows r_start r_stop r_kind r_verbs r_firsts r_seconds r_thirds t_length t_bytes) [(0, .ref a_r), (1, .ref (D.2.1 p1)), (2, .int x2)] 33 [.int (Int32.ofNat (lenS.getD p1 0)), .int x2]
  refine j_icmp_ge cx 66 dX6_tokenIs_33 (pn := 36) rfl rfl (fun c5 => ?_) (fun c5 => ?_)
  · have h := h.1 c5
    refine j_iconst cx (v := 1) (by decide) dX6_tokenIs_66 (pn := 67) rfl ?_
    exact hR 1 67 _ dX6_tokenIs_67 (Or.inr rfl) h
  · have h := h.2 c5
    refine j_aload_n cx 0 rfl rfl dX6_tokenIs_36 (pn := 37) rfl ?_
    refine j_get cx inGX6 0 rfl rfl 0 (by decide) q_fl_X6_24 rfl rfl dX6_tokenIs_37 (pn := 40) rfl ?_
    refine j_getN cx inGX8 5 rfl rfl 0 (by decide) q_fl_X6_58 rfl rfl dX6_tokenIs_40 (pn := 43) rfl ?_
    refine j_aload_n cx 0 rfl rfl dX6_tokenIs_43 (pn := 44) rfl ?_
    refine j_get cx inGX6 0 rfl rfl 8 (by decide) q_fl_X6_45 rfl rfl dX6_tokenIs_44 (pn := 47) rfl ?_
    refine j_iload_n cx 2 rfl rfl dX6_tokenIs_47 (pn := 48) rfl ?_
    refine j_iadd cx dX6_tokenIs_48 (pn := 49) rfl ?_
    refine j_iald cx 6 0 rfl rfl h.1 dX6_tokenIs_49 (pn := 50) rfl ?_
    have h := h.2
    refine j_aload_n cx 1 rfl rfl dX6_tokenIs_50 (pn := 51) rfl ?_
    refine j_iload_n cx 2 rfl rfl dX6_tokenIs_51 (pn := 52) rfl ?_
    refine j_callkI cx q_inst_J0_charAt_5068e q_sel_J0_charAt_5068e h.1.1 rfl (As := [.int x2]) (rest := [.int (t_bytes (r_start + x2).toNatClampNeg)]) (c_J0_charAt_5068e (Q := fun r => r = chS p1 x2.toNatClampNeg) h.1.1 h.1.2 rfl) ⟨q_code_J0_charAt_5068e, q_ml_X6_106, q_init_J0, hd_J0_charAt_5068e, ⟨Nat.le_of_ble_eq_true rfl, Nat.le_of_ble_eq_true rfl⟩, Nat.le_of_ble_eq_true rfl, Nat.le_of_ble_eq_true rfl⟩ rfl rfl (Nat.le_of_ble_eq_true rfl) dX6_tokenIs_52 (pn := 55) rfl (fun r6 hr6 => ?_)
    subst hr6
    have h := h.2
    show J x 0 0 3 (W_Reader cyI cyJ cyZ a_r a_r_verbs a_r_firsts a_r_seconds a_r_thirds a_t a_t_bytes r_lines r_columns r_rows r_start r_stop r_kind r_verbs r_firsts r_seconds r_thirds t_length t_bytes) [(0, .ref a_r), (1, .ref (D.2.1 p1)), (2, .int x2)] 55 [.int (chS p1 x2.toNatClampNeg), .int (t_bytes (r_start + x2).toNatClampNeg)]
    refine j_icmp_eq cx 60 dX6_tokenIs_55 (pn := 58) rfl rfl (fun c7 => ?_) (fun c7 => ?_)
    · have h := h.1 c7
      obtain ⟨y8, ey8⟩ : ∃ z : Int32, z = x2 + 1 := ⟨_, rfl⟩
      have h := h y8 ey8
      refine j_iinc cx 2 rfl (cst := 1) (by decide) ey8 [(2, .int y8), (0, .ref a_r), (1, .ref (D.2.1 p1))] (by decide) rfl dX6_tokenIs_60 (pn := 63) rfl ?_
      refine j_goto cx 28 dX6_tokenIs_63 rfl ?_
      refine j_sub [1, 2, 0] [(0, .ref a_r), (1, .ref (D.2.1 p1)), (2, .int y8)] rfl ?_
      exact hB28 _ h
    · have h := h.2 c7
      refine j_iconst cx (v := 0) (by decide) dX6_tokenIs_58 (pn := 59) rfl ?_
      exact hR 0 59 _ dX6_tokenIs_59 (Or.inl rfl) h
set_option maxHeartbeats 4000000 in
set_option maxRecDepth 100000 in
theorem J_X6_tokenIs_28 {x : CX} {D : DG} {cyI cyJ cyZ : ClassId} {a_r a_r_verbs a_r_firsts a_r_seconds a_r_thirds a_t a_t_bytes : Nat} {r_lines : Int32} {r_columns : Int32} {r_rows : Int32} {r_start : Int32} {r_stop : Int32} {r_kind : Int32} {r_verbs : Nat → Int32} {r_firsts : Nat → Int32} {r_seconds : Nat → Int32} {r_thirds : Nat → Int32} {t_length : Int32} {t_bytes : Nat → Int32} {p1 : Nat} {x2 : Int32} {Q : Int32 → Prop} (cx : Cx x cX6_tokenIs 3 RX6 rm_X6_tokenIs D [(cyI, .int), (cyJ, .long), (cyZ, .boolean)]) (hR : ∀ (v : Int32) (pc : Nat) (lv : List (Nat × Value)), decode cX6_tokenIs pc = .ok (.ireturn, 1) → (v = 0 ∨ v = 1) → Q v → J x 0 0 3 (W_Reader cyI cyJ cyZ a_r a_r_verbs a_r_firsts a_r_seconds a_r_thirds a_t a_t_bytes r_lines r_columns r_rows r_start r_stop r_kind r_verbs r_firsts r_seconds r_thirds t_length t_bytes) lv pc [.int v]) (h : lp_X6_tokenIs_28 Q  p1 r_start t_bytes x2) :
    J x 0 0 3 (W_Reader cyI cyJ cyZ a_r a_r_verbs a_r_firsts a_r_seconds a_r_thirds a_t a_t_bytes r_lines r_columns r_rows r_start r_stop r_kind r_verbs r_firsts r_seconds r_thirds t_length t_bytes) [(0, .ref a_r), (1, .ref (D.2.1 p1)), (2, .int x2)] 28 [] := by
  obtain ⟨I, ⟨n, h0⟩, hb⟩ := h
  revert x2
  induction n using Nat.strongRecOn with
  | _ n ih =>
    intro x2 h0
    exact B_X6_tokenIs_28 cx hR (fun _ hz => by obtain ⟨n2, hlt, hI⟩ := hz; exact ih n2 hlt hI) (hb n x2 h0)
set_option maxHeartbeats 4000000 in
set_option maxRecDepth 100000 in
theorem c_X6_tokenIs {D : DG} {cyI cyJ cyZ : ClassId} {a_r a_r_verbs a_r_firsts a_r_seconds a_r_thirds a_t a_t_bytes : Nat} {r_lines : Int32} {r_columns : Int32} {r_rows : Int32} {r_start : Int32} {r_stop : Int32} {r_kind : Int32} {r_verbs : Nat → Int32} {r_firsts : Nat → Int32} {r_seconds : Nat → Int32} {r_thirds : Nat → Int32} {t_length : Int32} {t_bytes : Nat → Int32} {p1 : Nat} {Q : Int32 → Prop} (h : wp_X6_tokenIs p1 r_start r_stop r_kind t_bytes Q) :
    MetI yX6_tokenIs cX6_tokenIs 3 (some .boolean) rm_X6_tokenIs D [(cyI, .int), (cyJ, .long), (cyZ, .boolean)] [.ref a_r, .ref (D.2.1 p1)] (W_Reader cyI cyJ cyZ a_r a_r_verbs a_r_firsts a_r_seconds a_r_thirds a_t a_t_bytes r_lines r_columns r_rows r_start r_stop r_kind r_verbs r_firsts r_seconds r_thirds t_length t_bytes) (fun _ : Unit => (W_Reader cyI cyJ cyZ a_r a_r_verbs a_r_firsts a_r_seconds a_r_thirds a_t a_t_bytes r_lines r_columns r_rows r_start r_stop r_kind r_verbs r_firsts r_seconds r_thirds t_length t_bytes)) (fun v _ => Q v ) := by
  unfold wp_X6_tokenIs at h
  refine metZ_of (by decide) (Nat.le_of_ble_eq_true rfl) (fun x cx0 hR0 => ?_)
  have cx : Cx x cX6_tokenIs 3 RX6 rm_X6_tokenIs D [(cyI, .int), (cyJ, .long), (cyZ, .boolean)] := cx0
  have hR : ∀ (v : Int32) (pc : Nat) (lv : List (Nat × Value)), decode cX6_tokenIs pc = .ok (.ireturn, 1) → (v = 0 ∨ v = 1) → Q v → J x 0 0 3 (W_Reader cyI cyJ cyZ a_r a_r_verbs a_r_firsts a_r_seconds a_r_thirds a_t a_t_bytes r_lines r_columns r_rows r_start r_stop r_kind r_verbs r_firsts r_seconds r_thirds t_length t_bytes) lv pc [.int v] := (fun v pc lv d hz hq => hR0 v () pc lv d hz hq)
  show J x 0 0 3 (W_Reader cyI cyJ cyZ a_r a_r_verbs a_r_firsts a_r_seconds a_r_thirds a_t a_t_bytes r_lines r_columns r_rows r_start r_stop r_kind r_verbs r_firsts r_seconds r_thirds t_length t_bytes) [(0, .ref a_r), (1, .ref (D.2.1 p1))] 0 []
  refine j_aload_n cx 0 rfl rfl dX6_tokenIs_0 (pn := 1) rfl ?_
  refine j_get cx inGX6 0 rfl rfl 10 (by decide) q_fl_X6_51 rfl rfl dX6_tokenIs_1 (pn := 4) rfl ?_
  refine j_iconst cx (v := 1) (by decide) dX6_tokenIs_4 (pn := 5) rfl ?_
  refine j_icmp_ne cx 24 dX6_tokenIs_5 (pn := 8) rfl rfl (fun c1 => ?_) (fun c1 => ?_)
  · have h := h.1 c1
    refine j_iconst cx (v := 0) (by decide) dX6_tokenIs_24 (pn := 25) rfl ?_
    exact hR 0 25 _ dX6_tokenIs_25 (Or.inl rfl) h
  · have h := h.2 c1
    refine j_aload_n cx 0 rfl rfl dX6_tokenIs_8 (pn := 9) rfl ?_
    refine j_get cx inGX6 0 rfl rfl 9 (by decide) q_fl_X6_35 rfl rfl dX6_tokenIs_9 (pn := 12) rfl ?_
    refine j_aload_n cx 0 rfl rfl dX6_tokenIs_12 (pn := 13) rfl ?_
    refine j_get cx inGX6 0 rfl rfl 8 (by decide) q_fl_X6_45 rfl rfl dX6_tokenIs_13 (pn := 16) rfl ?_
    refine j_isub cx dX6_tokenIs_16 (pn := 17) rfl ?_
    refine j_aload_n cx 1 rfl rfl dX6_tokenIs_17 (pn := 18) rfl ?_
    refine j_callkI cx q_inst_J0_length_8abf5 q_sel_J0_length_8abf5 h.1 rfl (As := []) (rest := [.int (r_stop - r_start)]) (c_J0_length_8abf5 (Q := fun r => r = Int32.ofNat (lenS.getD p1 0)) h.1 rfl) ⟨q_code_J0_length_8abf5, q_ml_X6_102, q_init_J0, hd_J0_length_8abf5, ⟨Nat.le_of_ble_eq_true rfl, Nat.le_of_ble_eq_true rfl⟩, Nat.le_of_ble_eq_true rfl, Nat.le_of_ble_eq_true rfl⟩ rfl rfl (Nat.le_of_ble_eq_true rfl) dX6_tokenIs_18 (pn := 21) rfl (fun r2 hr2 => ?_)
    subst hr2
    have h := h.2
    show J x 0 0 3 (W_Reader cyI cyJ cyZ a_r a_r_verbs a_r_firsts a_r_seconds a_r_thirds a_t a_t_bytes r_lines r_columns r_rows r_start r_stop r_kind r_verbs r_firsts r_seconds r_thirds t_length t_bytes) [(0, .ref a_r), (1, .ref (D.2.1 p1))] 21 [.int (Int32.ofNat (lenS.getD p1 0)), .int (r_stop - r_start)]
    refine j_icmp_eq cx 26 dX6_tokenIs_21 (pn := 24) rfl rfl (fun c3 => ?_) (fun c3 => ?_)
    · have h := h.1 c3
      refine j_iconst cx (v := 0) (by decide) dX6_tokenIs_26 (pn := 27) rfl ?_
      refine j_istore_n cx rfl [(2, .int 0), (0, .ref a_r), (1, .ref (D.2.1 p1))] (by decide) rfl dX6_tokenIs_27 (pn := 28) rfl ?_
      refine j_sub [1, 2, 0] [(0, .ref a_r), (1, .ref (D.2.1 p1)), (2, .int 0)] rfl ?_
      exact J_X6_tokenIs_28 cx hR h
    · have h := h.2 c3
      refine j_iconst cx (v := 0) (by decide) dX6_tokenIs_24 (pn := 25) rfl ?_
      exact hR 0 25 _ dX6_tokenIs_25 (Or.inl rfl) h
theorem dX6_readVerb_0 : decode cX6_readVerb 0 = .ok (.aload_n 0, 1) := by decide +kernel
theorem dX6_readVerb_1 : decode cX6_readVerb 1 = .ok (.invokevirtual 48, 3) := by decide +kernel
theorem dX6_readVerb_4 : decode cX6_readVerb 4 = .ok (.iconst 0, 1) := by decide +kernel
theorem dX6_readVerb_5 : decode cX6_readVerb 5 = .ok (.istore_n 1, 1) := by decide +kernel
theorem dX6_readVerb_6 : decode cX6_readVerb 6 = .ok (.iload_n 1, 1) := by decide +kernel
theorem dX6_readVerb_7 : decode cX6_readVerb 7 = .ok (.bipush 11, 2) := by decide +kernel
theorem dX6_readVerb_9 : decode cX6_readVerb 9 = .ok (.if_icmp .ge 22, 3) := by decide +kernel
theorem dX6_readVerb_12 : decode cX6_readVerb 12 = .ok (.aload_n 0, 1) := by decide +kernel
theorem dX6_readVerb_13 : decode cX6_readVerb 13 = .ok (.iload_n 1, 1) := by decide +kernel
theorem dX6_readVerb_14 : decode cX6_readVerb 14 = .ok (.invokestatic 84, 3) := by decide +kernel
theorem dX6_readVerb_17 : decode cX6_readVerb 17 = .ok (.invokevirtual 88, 3) := by decide +kernel
theorem dX6_readVerb_20 : decode cX6_readVerb 20 = .ok (.ifCond .eq 5, 3) := by decide +kernel
theorem dX6_readVerb_23 : decode cX6_readVerb 23 = .ok (.iload_n 1, 1) := by decide +kernel
theorem dX6_readVerb_24 : decode cX6_readVerb 24 = .ok (.ireturn, 1) := by decide +kernel
theorem dX6_readVerb_25 : decode cX6_readVerb 25 = .ok (.iinc 1 1, 3) := by decide +kernel
theorem dX6_readVerb_28 : decode cX6_readVerb 28 = .ok (.goto (-22), 3) := by decide +kernel
theorem dX6_readVerb_31 : decode cX6_readVerb 31 = .ok (.iconst (-1), 1) := by decide +kernel
theorem dX6_readVerb_32 : decode cX6_readVerb 32 = .ok (.ireturn, 1) := by decide +kernel
abbrev rm_X6_readVerb : Room := { frames := 5, cells := 0, slots := 0, locals := 107 }
theorem hd_X6_readVerb : yX6_readVerb.cls ≠ "java/lang/invoke/MethodHandle" ∧ yX6_readVerb.cls ≠ "java/lang/invoke/VarHandle" ∧ (parseMethodDescriptor yX6_readVerb.desc).map (fun d => d.parameters.length) = some 0 := by decide +kernel
def bd_X6_readVerb_6 (Q : Int32 → Int32 × Int32 × Int32 → Prop) (B6 : Int32 → Prop) (r_start : Int32) (r_stop : Int32) (r_kind : Int32) (t_bytes : Nat → Int32) (x1 : Int32) : Prop :=
((11 ≤ x1 → Q (-1) (r_start, r_stop, r_kind)) ∧
(¬ 11 ≤ x1 → wp_X6_verbName x1 (fun (r3 : Nat) => wp_X6_tokenIs r3 r_start r_stop r_kind t_bytes (fun (r4 : Int32) => ((r4 = 0 → ∀ y6 : Int32, y6 = (x1 + 1) →
B6 y6) ∧
(¬ r4 = 0 → Q x1 (r_start, r_stop, r_kind)))))))
def lp_X6_readVerb_6 (Q : Int32 → Int32 × Int32 × Int32 → Prop) (r_start : Int32) (r_stop : Int32) (r_kind : Int32) (t_bytes : Nat → Int32) (x1 : Int32) : Prop :=
∃ I : Nat → Int32 → Prop, (∃ n, I n x1) ∧ ∀ n x1, I n x1 → bd_X6_readVerb_6 Q  (fun x1' => ∃ n', n' < n ∧ I n' x1') r_start r_stop r_kind t_bytes x1
def wp_X6_readVerb (r_stop : Int32) (t_length : Int32) (t_bytes : Nat → Int32) (Q : Int32 → Int32 × Int32 × Int32 → Prop) : Prop :=
wp_X6_nextToken r_stop t_length t_bytes (fun (u1 : Int32 × Int32 × Int32) => lp_X6_readVerb_6 Q u1.1 u1.2.1 u1.2.2 t_bytes 0)
set_option maxHeartbeats 4000000 in
set_option maxRecDepth 100000 in
theorem B_X6_readVerb_6 {x : CX} {D : DG} {cyI cyJ cyZ : ClassId} {a_r a_r_verbs a_r_firsts a_r_seconds a_r_thirds a_t a_t_bytes : Nat} {r_lines : Int32} {r_columns : Int32} {r_rows : Int32} {r_start : Int32} {r_stop : Int32} {r_kind : Int32} {r_verbs : Nat → Int32} {r_firsts : Nat → Int32} {r_seconds : Nat → Int32} {r_thirds : Nat → Int32} {t_length : Int32} {t_bytes : Nat → Int32} {x1 : Int32} {Q : Int32 → Int32 × Int32 × Int32 → Prop} {B6 : Int32 → Prop} (cx : Cx x cX6_readVerb 2 RX6 rm_X6_readVerb D [(cyI, .int), (cyJ, .long), (cyZ, .boolean)]) (hR : ∀ (v : Int32) (u : Int32 × Int32 × Int32) (pc : Nat) (lv : List (Nat × Value)), decode cX6_readVerb pc = .ok (.ireturn, 1) → Q v u → J x 0 0 2 (W_Reader cyI cyJ cyZ a_r a_r_verbs a_r_firsts a_r_seconds a_r_thirds a_t a_t_bytes r_lines r_columns r_rows u.1 u.2.1 u.2.2 r_verbs r_firsts r_seconds r_thirds t_length t_bytes) lv pc [.int v]) (hB6 : ∀ (x1 : Int32), B6 x1 → J x 0 0 2 (W_Reader cyI cyJ cyZ a_r a_r_verbs a_r_firsts a_r_seconds a_r_thirds a_t a_t_bytes r_lines r_columns r_rows r_start r_stop r_kind r_verbs r_firsts r_seconds r_thirds t_length t_bytes) [(0, .ref a_r), (1, .int x1)] 6 []) (h : bd_X6_readVerb_6 Q B6 r_start r_stop r_kind t_bytes x1) :
    J x 0 0 2 (W_Reader cyI cyJ cyZ a_r a_r_verbs a_r_firsts a_r_seconds a_r_thirds a_t a_t_bytes r_lines r_columns r_rows r_start r_stop r_kind r_verbs r_firsts r_seconds r_thirds t_length t_bytes) [(0, .ref a_r), (1, .int x1)] 6 [] := by
  unfold bd_X6_readVerb_6 at h
  refine j_iload_n cx 1 rfl rfl dX6_readVerb_6 (pn := 7) rfl ?_
  refine j_bipush cx (v := 11) (by decide) dX6_readVerb_7 (pn := 9) rfl ?_
  refine j_icmp_ge cx 31 dX6_readVerb_9 (pn := 12) rfl rfl (fun c2 => ?_) (fun c2 => ?_)
  · have h := h.1 c2
    refine j_iconst cx (v := (-1)) (by decide) dX6_readVerb_31 (pn := 32) rfl ?_
    exact hR (-1) (r_start, r_stop, r_kind) 32 _ dX6_readVerb_32 h
  · have h := h.2 c2
    refine j_aload_n cx 0 rfl rfl dX6_readVerb_12 (pn := 13) rfl ?_
    refine j_iload_n cx 1 rfl rfl dX6_readVerb_13 (pn := 14) rfl ?_
    refine j_calleS cx q_stat_X6_verbName (As := [.int x1]) (rest := [.ref a_r]) (c_X6_verbName h) ⟨q_code_X6_verbName, q_ml_X6_84, q_init_X6, hd_X6_verbName, ⟨Nat.le_of_ble_eq_true rfl, Nat.le_of_ble_eq_true rfl⟩, Nat.le_of_ble_eq_true rfl, Nat.le_of_ble_eq_true rfl⟩ rfl rfl (Nat.le_of_ble_eq_true rfl) dX6_readVerb_14 (pn := 17) rfl (fun r3 h => ?_)
    show J x 0 0 2 (W_Reader cyI cyJ cyZ a_r a_r_verbs a_r_firsts a_r_seconds a_r_thirds a_t a_t_bytes r_lines r_columns r_rows r_start r_stop r_kind r_verbs r_firsts r_seconds r_thirds t_length t_bytes) [(0, .ref a_r), (1, .int x1)] 17 [.ref (D.2.1 r3), .ref a_r]
    refine j_callvI0 cx q_inst_X6_tokenIs q_sel_X6_tokenIs (b := a_r) (As := [.ref (D.2.1 r3)]) (rest := []) (c_X6_tokenIs h) ⟨q_code_X6_tokenIs, q_ml_X6_88, q_init_X6, hd_X6_tokenIs, ⟨Nat.le_of_ble_eq_true rfl, Nat.le_of_ble_eq_true rfl⟩, Nat.le_of_ble_eq_true rfl, Nat.le_of_ble_eq_true rfl⟩ (q0 := 0) rfl rfl rfl rfl (Nat.le_of_ble_eq_true rfl) dX6_readVerb_17 (pn := 20) rfl (fun r4 _ h => ?_)
    show J x 0 0 2 (W_Reader cyI cyJ cyZ a_r a_r_verbs a_r_firsts a_r_seconds a_r_thirds a_t a_t_bytes r_lines r_columns r_rows r_start r_stop r_kind r_verbs r_firsts r_seconds r_thirds t_length t_bytes) [(0, .ref a_r), (1, .int x1)] 20 [.int r4]
    refine j_if_eq cx 25 dX6_readVerb_20 (pn := 23) rfl rfl (fun c5 => ?_) (fun c5 => ?_)
    · have h := h.1 c5
      obtain ⟨y6, ey6⟩ : ∃ z : Int32, z = x1 + 1 := ⟨_, rfl⟩
      have h := h y6 ey6
      refine j_iinc cx 1 rfl (cst := 1) (by decide) ey6 [(1, .int y6), (0, .ref a_r)] (by decide) rfl dX6_readVerb_25 (pn := 28) rfl ?_
      refine j_goto cx 6 dX6_readVerb_28 rfl ?_
      refine j_sub [1, 0] [(0, .ref a_r), (1, .int y6)] rfl ?_
      exact hB6 _ h
    · have h := h.2 c5
      refine j_iload_n cx 1 rfl rfl dX6_readVerb_23 (pn := 24) rfl ?_
      exact hR x1 (r_start, r_stop, r_kind) 24 _ dX6_readVerb_24 h
set_option maxHeartbeats 4000000 in
set_option maxRecDepth 100000 in
theorem J_X6_readVerb_6 {x : CX} {D : DG} {cyI cyJ cyZ : ClassId} {a_r a_r_verbs a_r_firsts a_r_seconds a_r_thirds a_t a_t_bytes : Nat} {r_lines : Int32} {r_columns : Int32} {r_rows : Int32} {r_start : Int32} {r_stop : Int32} {r_kind : Int32} {r_verbs : Nat → Int32} {r_firsts : Nat → Int32} {r_seconds : Nat → Int32} {r_thirds : Nat → Int32} {t_length : Int32} {t_bytes : Nat → Int32} {x1 : Int32} {Q : Int32 → Int32 × Int32 × Int32 → Prop} (cx : Cx x cX6_readVerb 2 RX6 rm_X6_readVerb D [(cyI, .int), (cyJ, .long), (cyZ, .boolean)]) (hR : ∀ (v : Int32) (u : Int32 × Int32 × Int32) (pc : Nat) (lv : List (Nat × Value)), decode cX6_readVerb pc = .ok (.ireturn, 1) → Q v u → J x 0 0 2 (W_Reader cyI cyJ cyZ a_r a_r_verbs a_r_firsts a_r_seconds a_r_thirds a_t a_t_bytes r_lines r_columns r_rows u.1 u.2.1 u.2.2 r_verbs r_firsts r_seconds r_thirds t_length t_bytes) lv pc [.int v]) (h : lp_X6_readVerb_6 Q  r_start r_stop r_kind t_bytes x1) :
    J x 0 0 2 (W_Reader cyI cyJ cyZ a_r a_r_verbs a_r_firsts a_r_seconds a_r_thirds a_t a_t_bytes r_lines r_columns r_rows r_start r_stop r_kind r_verbs r_firsts r_seconds r_thirds t_length t_bytes) [(0, .ref a_r), (1, .int x1)] 6 [] := by
  obtain ⟨I, ⟨n, h0⟩, hb⟩ := h
  revert x1
  induction n using Nat.strongRecOn with
  | _ n ih =>
    intro x1 h0
    exact B_X6_readVerb_6 cx hR (fun _ hz => by obtain ⟨n2, hlt, hI⟩ := hz; exact ih n2 hlt hI) (hb n x1 h0)
set_option maxHeartbeats 4000000 in
set_option maxRecDepth 100000 in
theorem c_X6_readVerb {D : DG} {cyI cyJ cyZ : ClassId} {a_r a_r_verbs a_r_firsts a_r_seconds a_r_thirds a_t a_t_bytes : Nat} {r_lines : Int32} {r_columns : Int32} {r_rows : Int32} {r_start : Int32} {r_stop : Int32} {r_kind : Int32} {r_verbs : Nat → Int32} {r_firsts : Nat → Int32} {r_seconds : Nat → Int32} {r_thirds : Nat → Int32} {t_length : Int32} {t_bytes : Nat → Int32} {Q : Int32 → Int32 × Int32 × Int32 → Prop} (h : wp_X6_readVerb r_stop t_length t_bytes Q) :
    MetI yX6_readVerb cX6_readVerb 2 (some .int) rm_X6_readVerb D [(cyI, .int), (cyJ, .long), (cyZ, .boolean)] [.ref a_r] (W_Reader cyI cyJ cyZ a_r a_r_verbs a_r_firsts a_r_seconds a_r_thirds a_t a_t_bytes r_lines r_columns r_rows r_start r_stop r_kind r_verbs r_firsts r_seconds r_thirds t_length t_bytes) (fun u : Int32 × Int32 × Int32 => (W_Reader cyI cyJ cyZ a_r a_r_verbs a_r_firsts a_r_seconds a_r_thirds a_t a_t_bytes r_lines r_columns r_rows u.1 u.2.1 u.2.2 r_verbs r_firsts r_seconds r_thirds t_length t_bytes)) (fun v u => Q v u) := by
  unfold wp_X6_readVerb at h
  refine metI_of (by decide) (Nat.le_of_ble_eq_true rfl) (fun x cx0 hR0 => ?_)
  have cx : Cx x cX6_readVerb 2 RX6 rm_X6_readVerb D [(cyI, .int), (cyJ, .long), (cyZ, .boolean)] := cx0
  have hR : ∀ (v : Int32) (u : Int32 × Int32 × Int32) (pc : Nat) (lv : List (Nat × Value)), decode cX6_readVerb pc = .ok (.ireturn, 1) → Q v u → J x 0 0 2 (W_Reader cyI cyJ cyZ a_r a_r_verbs a_r_firsts a_r_seconds a_r_thirds a_t a_t_bytes r_lines r_columns r_rows u.1 u.2.1 u.2.2 r_verbs r_firsts r_seconds r_thirds t_length t_bytes) lv pc [.int v] := (fun v u pc lv d hq => hR0 v u pc lv d hq)
  show J x 0 0 2 (W_Reader cyI cyJ cyZ a_r a_r_verbs a_r_firsts a_r_seconds a_r_thirds a_t a_t_bytes r_lines r_columns r_rows r_start r_stop r_kind r_verbs r_firsts r_seconds r_thirds t_length t_bytes) [(0, .ref a_r)] 0 []
  refine j_aload_n cx 0 rfl rfl dX6_readVerb_0 (pn := 1) rfl ?_
  refine j_callvV0 cx q_inst_X6_nextToken q_sel_X6_nextToken (b := a_r) (As := []) (rest := []) (c_X6_nextToken h) ⟨q_code_X6_nextToken, q_ml_X6_48, q_init_X6, hd_X6_nextToken, ⟨Nat.le_of_ble_eq_true rfl, Nat.le_of_ble_eq_true rfl⟩, Nat.le_of_ble_eq_true rfl, Nat.le_of_ble_eq_true rfl⟩ (q0 := 0) rfl rfl rfl rfl (Nat.le_of_ble_eq_true rfl) dX6_readVerb_1 (pn := 4) rfl (fun u1 h => ?_)
  show J x 0 0 2 (W_Reader cyI cyJ cyZ a_r a_r_verbs a_r_firsts a_r_seconds a_r_thirds a_t a_t_bytes r_lines r_columns r_rows u1.1 u1.2.1 u1.2.2 r_verbs r_firsts r_seconds r_thirds t_length t_bytes) [(0, .ref a_r)] 4 []
  refine j_iconst cx (v := 0) (by decide) dX6_readVerb_4 (pn := 5) rfl ?_
  refine j_istore_n cx rfl [(1, .int 0), (0, .ref a_r)] (by decide) rfl dX6_readVerb_5 (pn := 6) rfl ?_
  refine j_sub [1, 0] [(0, .ref a_r), (1, .int 0)] rfl ?_
  exact J_X6_readVerb_6 cx hR h
theorem dX6_readNumber_0 : decode cX6_readNumber 0 = .ok (.aload_n 0, 1) := by decide +kernel
theorem dX6_readNumber_1 : decode cX6_readNumber 1 = .ok (.invokevirtual 48, 3) := by decide +kernel
theorem dX6_readNumber_4 : decode cX6_readNumber 4 = .ok (.aload_n 0, 1) := by decide +kernel
theorem dX6_readNumber_5 : decode cX6_readNumber 5 = .ok (.getfield 51, 3) := by decide +kernel
theorem dX6_readNumber_8 : decode cX6_readNumber 8 = .ok (.iconst 2, 1) := by decide +kernel
theorem dX6_readNumber_9 : decode cX6_readNumber 9 = .ok (.if_icmp .ne 16, 3) := by decide +kernel
theorem dX6_readNumber_12 : decode cX6_readNumber 12 = .ok (.aload_n 0, 1) := by decide +kernel
theorem dX6_readNumber_13 : decode cX6_readNumber 13 = .ok (.getfield 35, 3) := by decide +kernel
theorem dX6_readNumber_16 : decode cX6_readNumber 16 = .ok (.aload_n 0, 1) := by decide +kernel
theorem dX6_readNumber_17 : decode cX6_readNumber 17 = .ok (.getfield 45, 3) := by decide +kernel
theorem dX6_readNumber_20 : decode cX6_readNumber 20 = .ok (.isub, 1) := by decide +kernel
theorem dX6_readNumber_21 : decode cX6_readNumber 21 = .ok (.iconst 2, 1) := by decide +kernel
theorem dX6_readNumber_22 : decode cX6_readNumber 22 = .ok (.if_icmp .le 5, 3) := by decide +kernel
theorem dX6_readNumber_25 : decode cX6_readNumber 25 = .ok (.iconst (-1), 1) := by decide +kernel
theorem dX6_readNumber_26 : decode cX6_readNumber 26 = .ok (.ireturn, 1) := by decide +kernel
theorem dX6_readNumber_27 : decode cX6_readNumber 27 = .ok (.iconst 0, 1) := by decide +kernel
theorem dX6_readNumber_28 : decode cX6_readNumber 28 = .ok (.istore_n 3, 1) := by decide +kernel
theorem dX6_readNumber_29 : decode cX6_readNumber 29 = .ok (.aload_n 0, 1) := by decide +kernel
theorem dX6_readNumber_30 : decode cX6_readNumber 30 = .ok (.getfield 45, 3) := by decide +kernel
theorem dX6_readNumber_33 : decode cX6_readNumber 33 = .ok (.istore 4, 2) := by decide +kernel
theorem dX6_readNumber_35 : decode cX6_readNumber 35 = .ok (.iload 4, 2) := by decide +kernel
theorem dX6_readNumber_37 : decode cX6_readNumber 37 = .ok (.aload_n 0, 1) := by decide +kernel
theorem dX6_readNumber_38 : decode cX6_readNumber 38 = .ok (.getfield 35, 3) := by decide +kernel
theorem dX6_readNumber_41 : decode cX6_readNumber 41 = .ok (.if_icmp .ge 28, 3) := by decide +kernel
theorem dX6_readNumber_44 : decode cX6_readNumber 44 = .ok (.iload_n 3, 1) := by decide +kernel
theorem dX6_readNumber_45 : decode cX6_readNumber 45 = .ok (.bipush 10, 2) := by decide +kernel
theorem dX6_readNumber_47 : decode cX6_readNumber 47 = .ok (.imul, 1) := by decide +kernel
theorem dX6_readNumber_48 : decode cX6_readNumber 48 = .ok (.aload_n 0, 1) := by decide +kernel
theorem dX6_readNumber_49 : decode cX6_readNumber 49 = .ok (.getfield 24, 3) := by decide +kernel
theorem dX6_readNumber_52 : decode cX6_readNumber 52 = .ok (.getfield 58, 3) := by decide +kernel
theorem dX6_readNumber_55 : decode cX6_readNumber 55 = .ok (.iload 4, 2) := by decide +kernel
theorem dX6_readNumber_57 : decode cX6_readNumber 57 = .ok (.iaload, 1) := by decide +kernel
theorem dX6_readNumber_58 : decode cX6_readNumber 58 = .ok (.iadd, 1) := by decide +kernel
theorem dX6_readNumber_59 : decode cX6_readNumber 59 = .ok (.bipush 48, 2) := by decide +kernel
theorem dX6_readNumber_61 : decode cX6_readNumber 61 = .ok (.isub, 1) := by decide +kernel
theorem dX6_readNumber_62 : decode cX6_readNumber 62 = .ok (.istore_n 3, 1) := by decide +kernel
theorem dX6_readNumber_63 : decode cX6_readNumber 63 = .ok (.iinc 4 1, 3) := by decide +kernel
theorem dX6_readNumber_66 : decode cX6_readNumber 66 = .ok (.goto (-31), 3) := by decide +kernel
theorem dX6_readNumber_69 : decode cX6_readNumber 69 = .ok (.iload_n 3, 1) := by decide +kernel
theorem dX6_readNumber_70 : decode cX6_readNumber 70 = .ok (.iload_n 1, 1) := by decide +kernel
theorem dX6_readNumber_71 : decode cX6_readNumber 71 = .ok (.if_icmp .lt 8, 3) := by decide +kernel
theorem dX6_readNumber_74 : decode cX6_readNumber 74 = .ok (.iload_n 3, 1) := by decide +kernel
theorem dX6_readNumber_75 : decode cX6_readNumber 75 = .ok (.iload_n 2, 1) := by decide +kernel
theorem dX6_readNumber_76 : decode cX6_readNumber 76 = .ok (.if_icmp .le 7, 3) := by decide +kernel
theorem dX6_readNumber_79 : decode cX6_readNumber 79 = .ok (.iconst (-1), 1) := by decide +kernel
theorem dX6_readNumber_80 : decode cX6_readNumber 80 = .ok (.goto 4, 3) := by decide +kernel
theorem dX6_readNumber_83 : decode cX6_readNumber 83 = .ok (.iload_n 3, 1) := by decide +kernel
theorem dX6_readNumber_84 : decode cX6_readNumber 84 = .ok (.ireturn, 1) := by decide +kernel
abbrev rm_X6_readNumber : Room := { frames := 2, cells := 0, slots := 0, locals := 40 }
theorem hd_X6_readNumber : yX6_readNumber.cls ≠ "java/lang/invoke/MethodHandle" ∧ yX6_readNumber.cls ≠ "java/lang/invoke/VarHandle" ∧ (parseMethodDescriptor yX6_readNumber.desc).map (fun d => d.parameters.length) = some 2 := by decide +kernel
def bk_X6_readNumber_79 (Q : Int32 → Int32 × Int32 × Int32 → Prop) (r_start : Int32) (r_stop : Int32) (r_kind : Int32) : Prop :=
Q (-1) (r_start, r_stop, r_kind)
def bd_X6_readNumber_35 (Q : Int32 → Int32 × Int32 × Int32 → Prop) (B35 : Int32 → Int32 → Prop) (p1 : Int32) (p2 : Int32) (r_start : Int32) (r_stop : Int32) (r_kind : Int32) (t_bytes : Nat → Int32) (x3 : Int32) (x4 : Int32) : Prop :=
((r_stop ≤ x4 → ((x3 < p1 → bk_X6_readNumber_79 Q r_start r_stop r_kind) ∧
(¬ x3 < p1 → ((x3 ≤ p2 → Q x3 (r_start, r_stop, r_kind)) ∧
(¬ x3 ≤ p2 → bk_X6_readNumber_79 Q r_start r_stop r_kind))))) ∧
(¬ r_stop ≤ x4 → vp_in x4 200 ∧ (∀ y7 : Int32, y7 = (((x3 * 10) + (t_bytes x4.toNatClampNeg)) - 48) →
∀ y8 : Int32, y8 = (x4 + 1) →
B35 y7 y8)))
def lp_X6_readNumber_35 (Q : Int32 → Int32 × Int32 × Int32 → Prop) (p1 : Int32) (p2 : Int32) (r_start : Int32) (r_stop : Int32) (r_kind : Int32) (t_bytes : Nat → Int32) (x3 : Int32) (x4 : Int32) : Prop :=
∃ I : Nat → Int32 → Int32 → Prop, (∃ n, I n x3 x4) ∧ ∀ n x3 x4, I n x3 x4 → bd_X6_readNumber_35 Q  (fun x3' x4' => ∃ n', n' < n ∧ I n' x3' x4') p1 p2 r_start r_stop r_kind t_bytes x3 x4
def wp_X6_readNumber (p1 : Int32) (p2 : Int32) (r_stop : Int32) (t_length : Int32) (t_bytes : Nat → Int32) (Q : Int32 → Int32 × Int32 × Int32 → Prop) : Prop :=
wp_X6_nextToken r_stop t_length t_bytes (fun (u1 : Int32 × Int32 × Int32) => ((¬ u1.2.2 = 2 → Q (-1) (u1.1, u1.2.1, u1.2.2)) ∧
(u1.2.2 = 2 → (((u1.2.1 - u1.1) ≤ 2 → lp_X6_readNumber_35 Q p1 p2 u1.1 u1.2.1 u1.2.2 t_bytes 0 u1.1) ∧
(¬ (u1.2.1 - u1.1) ≤ 2 → Q (-1) (u1.1, u1.2.1, u1.2.2))))))
set_option maxHeartbeats 4000000 in
set_option maxRecDepth 100000 in
theorem J_X6_readNumber_79 {x : CX} {D : DG} {cyI cyJ cyZ : ClassId} {a_r a_r_verbs a_r_firsts a_r_seconds a_r_thirds a_t a_t_bytes : Nat} {r_lines : Int32} {r_columns : Int32} {r_rows : Int32} {r_start : Int32} {r_stop : Int32} {r_kind : Int32} {r_verbs : Nat → Int32} {r_firsts : Nat → Int32} {r_seconds : Nat → Int32} {r_thirds : Nat → Int32} {t_length : Int32} {t_bytes : Nat → Int32} {Q : Int32 → Int32 × Int32 × Int32 → Prop} (cx : Cx x cX6_readNumber 5 RX6 rm_X6_readNumber D [(cyI, .int), (cyJ, .long), (cyZ, .boolean)]) (hR : ∀ (v : Int32) (u : Int32 × Int32 × Int32) (pc : Nat) (lv : List (Nat × Value)), decode cX6_readNumber pc = .ok (.ireturn, 1) → Q v u → J x 0 0 5 (W_Reader cyI cyJ cyZ a_r a_r_verbs a_r_firsts a_r_seconds a_r_thirds a_t a_t_bytes r_lines r_columns r_rows u.1 u.2.1 u.2.2 r_verbs r_firsts r_seconds r_thirds t_length t_bytes) lv pc [.int v]) (h : bk_X6_readNumber_79 Q  r_start r_stop r_kind) :
    J x 0 0 5 (W_Reader cyI cyJ cyZ a_r a_r_verbs a_r_firsts a_r_seconds a_r_thirds a_t a_t_bytes r_lines r_columns r_rows r_start r_stop r_kind r_verbs r_firsts r_seconds r_thirds t_length t_bytes) [] 79 [] := by
  unfold bk_X6_readNumber_79 at h
  refine j_iconst cx (v := (-1)) (by decide) dX6_readNumber_79 (pn := 80) rfl ?_
  refine j_goto cx 84 dX6_readNumber_80 rfl ?_
  exact hR (-1) (r_start, r_stop, r_kind) 84 _ dX6_readNumber_84 h
set_option maxHeartbeats 4000000 in
set_option maxRecDepth 100000 in
theorem B_X6_readNumber_35 {x : CX} {D : DG} {cyI cyJ cyZ : ClassId} {a_r a_r_verbs a_r_firsts a_r_seconds a_r_thirds a_t a_t_bytes : Nat} {r_lines : Int32} {r_columns : Int32} {r_rows : Int32} {r_start : Int32} {r_stop : Int32} {r_kind : Int32} {r_verbs : Nat → Int32} {r_firsts : Nat → Int32} {r_seconds : Nat → Int32} {r_thirds : Nat → Int32} {t_length : Int32} {t_bytes : Nat → Int32} {p1 : Int32} {p2 : Int32} {x3 : Int32} {x4 : Int32} {Q : Int32 → Int32 × Int32 × Int32 → Prop} {B35 : Int32 → Int32 → Prop} (cx : Cx x cX6_readNumber 5 RX6 rm_X6_readNumber D [(cyI, .int), (cyJ, .long), (cyZ, .boolean)]) (hR : ∀ (v : Int32) (u : Int32 × Int32 × Int32) (pc : Nat) (lv : List (Nat × Value)), decode cX6_readNumber pc = .ok (.ireturn, 1) → Q v u → J x 0 0 5 (W_Reader cyI cyJ cyZ a_r a_r_verbs a_r_firsts a_r_seconds a_r_thirds a_t a_t_bytes r_lines r_columns r_rows u.1 u.2.1 u.2.2 r_verbs r_firsts r_seconds r_thirds t_length t_bytes) lv pc [.int v]) (hB35 : ∀ (x3 : Int32) (x4 : Int32), B35 x3 x4 → J x 0 0 5 (W_Reader cyI cyJ cyZ a_r a_r_verbs a_r_firsts a_r_seconds a_r_thirds a_t a_t_bytes r_lines r_columns r_rows r_start r_stop r_kind r_verbs r_firsts r_seconds r_thirds t_length t_bytes) [(0, .ref a_r), (1, .int p1), (2, .int p2), (3, .int x3), (4, .int x4)] 35 []) (h : bd_X6_readNumber_35 Q B35 p1 p2 r_start r_stop r_kind t_bytes x3 x4) :
    J x 0 0 5 (W_Reader cyI cyJ cyZ a_r a_r_verbs a_r_firsts a_r_seconds a_r_thirds a_t a_t_bytes r_lines r_columns r_rows r_start r_stop r_kind r_verbs r_firsts r_seconds r_thirds t_length t_bytes) [(0, .ref a_r), (1, .int p1), (2, .int p2), (3, .int x3), (4, .int x4)] 35 [] := by
  unfold bd_X6_readNumber_35 at h
  refine j_iload cx 4 rfl dX6_readNumber_35 (pn := 37) rfl ?_
  refine j_aload_n cx 0 rfl rfl dX6_readNumber_37 (pn := 38) rfl ?_
  refine j_get cx inGX6 0 rfl rfl 9 (by decide) q_fl_X6_35 rfl rfl dX6_readNumber_38 (pn := 41) rfl ?_
  refine j_icmp_ge cx 69 dX6_readNumber_41 (pn := 44) rfl rfl (fun c4 => ?_) (fun c4 => ?_)
  · have h := h.1 c4
    refine j_iload_n cx 3 rfl rfl dX6_readNumber_69 (pn := 70) rfl ?_
    refine j_iload_n cx 1 rfl rfl dX6_readNumber_70 (pn := 71) rfl ?_
    refine j_icmp_lt cx 79 dX6_readNumber_71 (pn := 74) rfl rfl (fun c5 => ?_) (fun c5 => ?_)
    · have h := h.1 c5
      refine j_sub [] [] rfl ?_
      exact J_X6_readNumber_79 cx hR h
    · have h := h.2 c5
      refine j_iload_n cx 3 rfl rfl dX6_readNumber_74 (pn := 75) rfl ?_
      refine j_iload_n cx 2 rfl rfl dX6_readNumber_75 (pn := 76) rfl ?_
      refine j_icmp_le cx 83 dX6_readNumber_76 (pn := 79) rfl rfl (fun c6 => ?_) (fun c6 => ?_)
      · have h := h.1 c6
        refine j_iload_n cx 3 rfl rfl dX6_readNumber_83 (pn := 84) rfl ?_
        exact hR x3 (r_start, r_stop, r_kind) 84 _ dX6_readNumber_84 h
      · have h := h.2 c6
        refine j_sub [] [] rfl ?_
        exact J_X6_readNumber_79 cx hR h
  · have h := h.2 c4
    refine j_iload_n cx 3 rfl rfl dX6_readNumber_44 (pn := 45) rfl ?_
    refine j_bipush cx (v := 10) (by decide) dX6_readNumber_45 (pn := 47) rfl ?_
    refine j_imul cx dX6_readNumber_47 (pn := 48) rfl ?_
    refine j_aload_n cx 0 rfl rfl dX6_readNumber_48 (pn := 49) rfl ?_
    refine j_get cx inGX6 0 rfl rfl 0 (by decide) q_fl_X6_24 rfl rfl dX6_readNumber_49 (pn := 52) rfl ?_
    refine j_getN cx inGX8 5 rfl rfl 0 (by decide) q_fl_X6_58 rfl rfl dX6_readNumber_52 (pn := 55) rfl ?_
    refine j_iload cx 4 rfl dX6_readNumber_55 (pn := 57) rfl ?_
    refine j_iald cx 6 0 rfl rfl h.1 dX6_readNumber_57 (pn := 58) rfl ?_
    have h := h.2
    refine j_iadd cx dX6_readNumber_58 (pn := 59) rfl ?_
    refine j_bipush cx (v := 48) (by decide) dX6_readNumber_59 (pn := 61) rfl ?_
    refine j_isub cx dX6_readNumber_61 (pn := 62) rfl ?_
    refine j_topi (fun y7 ey7 => ?_)
    have h := h y7 ey7
    refine j_istore_n cx rfl [(3, .int y7), (0, .ref a_r), (1, .int p1), (2, .int p2), (4, .int x4)] (by decide) rfl dX6_readNumber_62 (pn := 63) rfl ?_
    obtain ⟨y8, ey8⟩ : ∃ z : Int32, z = x4 + 1 := ⟨_, rfl⟩
    have h := h y8 ey8
    refine j_iinc cx 4 rfl (cst := 1) (by decide) ey8 [(4, .int y8), (3, .int y7), (0, .ref a_r), (1, .int p1), (2, .int p2)] (by decide) rfl dX6_readNumber_63 (pn := 66) rfl ?_
    refine j_goto cx 35 dX6_readNumber_66 rfl ?_
    refine j_sub [2, 3, 4, 1, 0] [(0, .ref a_r), (1, .int p1), (2, .int p2), (3, .int y7), (4, .int y8)] rfl ?_
    exact hB35 _ _ h
set_option maxHeartbeats 4000000 in
set_option maxRecDepth 100000 in
theorem J_X6_readNumber_35 {x : CX} {D : DG} {cyI cyJ cyZ : ClassId} {a_r a_r_verbs a_r_firsts a_r_seconds a_r_thirds a_t a_t_bytes : Nat} {r_lines : Int32} {r_columns : Int32} {r_rows : Int32} {r_start : Int32} {r_stop : Int32} {r_kind : Int32} {r_verbs : Nat → Int32} {r_firsts : Nat → Int32} {r_seconds : Nat → Int32} {r_thirds : Nat → Int32} {t_length : Int32} {t_bytes : Nat → Int32} {p1 : Int32} {p2 : Int32} {x3 : Int32} {x4 : Int32} {Q : Int32 → Int32 × Int32 × Int32 → Prop} (cx : Cx x cX6_readNumber 5 RX6 rm_X6_readNumber D [(cyI, .int), (cyJ, .long), (cyZ, .boolean)]) (hR : ∀ (v : Int32) (u : Int32 × Int32 × Int32) (pc : Nat) (lv : List (Nat × Value)), decode cX6_readNumber pc = .ok (.ireturn, 1) → Q v u → J x 0 0 5 (W_Reader cyI cyJ cyZ a_r a_r_verbs a_r_firsts a_r_seconds a_r_thirds a_t a_t_bytes r_lines r_columns r_rows u.1 u.2.1 u.2.2 r_verbs r_firsts r_seconds r_thirds t_length t_bytes) lv pc [.int v]) (h : lp_X6_readNumber_35 Q  p1 p2 r_start r_stop r_kind t_bytes x3 x4) :
    J x 0 0 5 (W_Reader cyI cyJ cyZ a_r a_r_verbs a_r_firsts a_r_seconds a_r_thirds a_t a_t_bytes r_lines r_columns r_rows r_start r_stop r_kind r_verbs r_firsts r_seconds r_thirds t_length t_bytes) [(0, .ref a_r), (1, .int p1), (2, .int p2), (3, .int x3), (4, .int x4)] 35 [] := by
  obtain ⟨I, ⟨n, h0⟩, hb⟩ := h
  revert x3 x4
  induction n using Nat.strongRecOn with
  | _ n ih =>
    intro x3 x4 h0
    exact B_X6_readNumber_35 cx hR (fun _ _ hz => by obtain ⟨n2, hlt, hI⟩ := hz; exact ih n2 hlt hI) (hb n x3 x4 h0)
set_option maxHeartbeats 4000000 in
set_option maxRecDepth 100000 in
theorem c_X6_readNumber {D : DG} {cyI cyJ cyZ : ClassId} {a_r a_r_verbs a_r_firsts a_r_seconds a_r_thirds a_t a_t_bytes : Nat} {r_lines : Int32} {r_columns : Int32} {r_rows : Int32} {r_start : Int32} {r_stop : Int32} {r_kind : Int32} {r_verbs : Nat → Int32} {r_firsts : Nat → Int32} {r_seconds : Nat → Int32} {r_thirds : Nat → Int32} {t_length : Int32} {t_bytes : Nat → Int32} {p1 : Int32} {p2 : Int32} {Q : Int32 → Int32 × Int32 × Int32 → Prop} (h : wp_X6_readNumber p1 p2 r_stop t_length t_bytes Q) :
    MetI yX6_readNumber cX6_readNumber 5 (some .int) rm_X6_readNumber D [(cyI, .int), (cyJ, .long), (cyZ, .boolean)] [.ref a_r, .int p1, .int p2] (W_Reader cyI cyJ cyZ a_r a_r_verbs a_r_firsts a_r_seconds a_r_thirds a_t a_t_bytes r_lines r_columns r_rows r_start r_stop r_kind r_verbs r_firsts r_seconds r_thirds t_length t_bytes) (fun u : Int32 × Int32 × Int32 => (W_Reader cyI cyJ cyZ a_r a_r_verbs a_r_firsts a_r_seconds a_r_thirds a_t a_t_bytes r_lines r_columns r_rows u.1 u.2.1 u.2.2 r_verbs r_firsts r_seconds r_thirds t_length t_bytes)) (fun v u => Q v u) := by
  unfold wp_X6_readNumber at h
  refine metI_of (by decide) (Nat.le_of_ble_eq_true rfl) (fun x cx0 hR0 => ?_)
  have cx : Cx x cX6_readNumber 5 RX6 rm_X6_readNumber D [(cyI, .int), (cyJ, .long), (cyZ, .boolean)] := cx0
  have hR : ∀ (v : Int32) (u : Int32 × Int32 × Int32) (pc : Nat) (lv : List (Nat × Value)), decode cX6_readNumber pc = .ok (.ireturn, 1) → Q v u → J x 0 0 5 (W_Reader cyI cyJ cyZ a_r a_r_verbs a_r_firsts a_r_seconds a_r_thirds a_t a_t_bytes r_lines r_columns r_rows u.1 u.2.1 u.2.2 r_verbs r_firsts r_seconds r_thirds t_length t_bytes) lv pc [.int v] := (fun v u pc lv d hq => hR0 v u pc lv d hq)
  show J x 0 0 5 (W_Reader cyI cyJ cyZ a_r a_r_verbs a_r_firsts a_r_seconds a_r_thirds a_t a_t_bytes r_lines r_columns r_rows r_start r_stop r_kind r_verbs r_firsts r_seconds r_thirds t_length t_bytes) [(0, .ref a_r), (1, .int p1), (2, .int p2)] 0 []
  refine j_aload_n cx 0 rfl rfl dX6_readNumber_0 (pn := 1) rfl ?_
  refine j_callvV0 cx q_inst_X6_nextToken q_sel_X6_nextToken (b := a_r) (As := []) (rest := []) (c_X6_nextToken h) ⟨q_code_X6_nextToken, q_ml_X6_48, q_init_X6, hd_X6_nextToken, ⟨Nat.le_of_ble_eq_true rfl, Nat.le_of_ble_eq_true rfl⟩, Nat.le_of_ble_eq_true rfl, Nat.le_of_ble_eq_true rfl⟩ (q0 := 0) rfl rfl rfl rfl (Nat.le_of_ble_eq_true rfl) dX6_readNumber_1 (pn := 4) rfl (fun u1 h => ?_)
  show J x 0 0 5 (W_Reader cyI cyJ cyZ a_r a_r_verbs a_r_firsts a_r_seconds a_r_thirds a_t a_t_bytes r_lines r_columns r_rows u1.1 u1.2.1 u1.2.2 r_verbs r_firsts r_seconds r_thirds t_length t_bytes) [(0, .ref a_r), (1, .int p1), (2, .int p2)] 4 []
  refine j_aload_n cx 0 rfl rfl dX6_readNumber_4 (pn := 5) rfl ?_
  refine j_get cx inGX6 0 rfl rfl 10 (by decide) q_fl_X6_51 rfl rfl dX6_readNumber_5 (pn := 8) rfl ?_
  refine j_iconst cx (v := 2) (by decide) dX6_readNumber_8 (pn := 9) rfl ?_
  refine j_icmp_ne cx 25 dX6_readNumber_9 (pn := 12) rfl rfl (fun c2 => ?_) (fun c2 => ?_)
  · have h := h.1 c2
    refine j_iconst cx (v := (-1)) (by decide) dX6_readNumber_25 (pn := 26) rfl ?_
    exact hR (-1) (u1.1, u1.2.1, u1.2.2) 26 _ dX6_readNumber_26 h
  · have h := h.2 c2
    refine j_aload_n cx 0 rfl rfl dX6_readNumber_12 (pn := 13) rfl ?_
    refine j_get cx inGX6 0 rfl rfl 9 (by decide) q_fl_X6_35 rfl rfl dX6_readNumber_13 (pn := 16) rfl ?_
    refine j_aload_n cx 0 rfl rfl dX6_readNumber_16 (pn := 17) rfl ?_
    refine j_get cx inGX6 0 rfl rfl 8 (by decide) q_fl_X6_45 rfl rfl dX6_readNumber_17 (pn := 20) rfl ?_
    refine j_isub cx dX6_readNumber_20 (pn := 21) rfl ?_
    refine j_iconst cx (v := 2) (by decide) dX6_readNumber_21 (pn := 22) rfl ?_
    refine j_icmp_le cx 27 dX6_readNumber_22 (pn := 25) rfl rfl (fun c3 => ?_) (fun c3 => ?_)
    · have h := h.1 c3
      refine j_iconst cx (v := 0) (by decide) dX6_readNumber_27 (pn := 28) rfl ?_
      refine j_istore_n cx rfl [(3, .int 0), (0, .ref a_r), (1, .int p1), (2, .int p2)] (by decide) rfl dX6_readNumber_28 (pn := 29) rfl ?_
      refine j_aload_n cx 1 rfl rfl dX6_readNumber_29 (pn := 30) rfl ?_
      refine j_get cx inGX6 0 rfl rfl 8 (by decide) q_fl_X6_45 rfl rfl dX6_readNumber_30 (pn := 33) rfl ?_
      refine j_istore cx [(4, .int u1.1), (3, .int 0), (0, .ref a_r), (1, .int p1), (2, .int p2)] (by decide) rfl dX6_readNumber_33 (pn := 35) rfl ?_
      refine j_sub [2, 3, 4, 1, 0] [(0, .ref a_r), (1, .int p1), (2, .int p2), (3, .int 0), (4, .int u1.1)] rfl ?_
      exact J_X6_readNumber_35 cx hR h
    · have h := h.2 c3
      refine j_iconst cx (v := (-1)) (by decide) dX6_readNumber_25 (pn := 26) rfl ?_
      exact hR (-1) (u1.1, u1.2.1, u1.2.2) 26 _ dX6_readNumber_26 h
theorem dX6_keep_0 : decode cX6_keep 0 = .ok (.iload_n 1, 1) := by decide +kernel
theorem dX6_keep_1 : decode cX6_keep 1 = .ok (.ifCond .lt 13, 3) := by decide +kernel
theorem dX6_keep_4 : decode cX6_keep 4 = .ok (.iload_n 1, 1) := by decide +kernel
theorem dX6_keep_5 : decode cX6_keep 5 = .ok (.aload_n 0, 1) := by decide +kernel
theorem dX6_keep_6 : decode cX6_keep 6 = .ok (.arraylength, 1) := by decide +kernel
theorem dX6_keep_7 : decode cX6_keep 7 = .ok (.if_icmp .ge 7, 3) := by decide +kernel
theorem dX6_keep_10 : decode cX6_keep 10 = .ok (.aload_n 0, 1) := by decide +kernel
theorem dX6_keep_11 : decode cX6_keep 11 = .ok (.iload_n 1, 1) := by decide +kernel
theorem dX6_keep_12 : decode cX6_keep 12 = .ok (.iload_n 2, 1) := by decide +kernel
theorem dX6_keep_13 : decode cX6_keep 13 = .ok (.iastore, 1) := by decide +kernel
theorem dX6_keep_14 : decode cX6_keep 14 = .ok (.iload_n 2, 1) := by decide +kernel
theorem dX6_keep_15 : decode cX6_keep 15 = .ok (.iconst (-1), 1) := by decide +kernel
theorem dX6_keep_16 : decode cX6_keep 16 = .ok (.if_icmp .eq 7, 3) := by decide +kernel
theorem dX6_keep_19 : decode cX6_keep 19 = .ok (.iconst 1, 1) := by decide +kernel
theorem dX6_keep_20 : decode cX6_keep 20 = .ok (.goto 4, 3) := by decide +kernel
theorem dX6_keep_23 : decode cX6_keep 23 = .ok (.iconst 0, 1) := by decide +kernel
theorem dX6_keep_24 : decode cX6_keep 24 = .ok (.ireturn, 1) := by decide +kernel
abbrev rm_X6_keep : Room := { frames := 0, cells := 0, slots := 0, locals := 0 }
theorem hd_X6_keep : yX6_keep.cls ≠ "java/lang/invoke/MethodHandle" ∧ yX6_keep.cls ≠ "java/lang/invoke/VarHandle" ∧ (parseMethodDescriptor yX6_keep.desc).map (fun d => d.parameters.length) = some 3 := by decide +kernel
def bk_X6_keep_14 (Q : Int32 → ((Nat → Int32)) → Prop) (p2 : Int32) (arr : Nat → Int32) : Prop :=
((p2 = (-1) → Q 0 arr) ∧
(¬ p2 = (-1) → Q 1 arr))
def wp_X6_keep (n_arr : Nat) (p1 : Int32) (p2 : Int32) (arr : Nat → Int32) (Q : Int32 → ((Nat → Int32)) → Prop) : Prop :=
((p1 < 0 → bk_X6_keep_14 Q p2 arr) ∧
(¬ p1 < 0 → (((Int32.ofNat n_arr) ≤ p1 → bk_X6_keep_14 Q p2 arr) ∧
(¬ (Int32.ofNat n_arr) ≤ p1 → vp_in p1 n_arr ∧ (∀ f4 : Nat → Int32, f4 = (upd arr p1.toNatClampNeg p2) →
bk_X6_keep_14 Q p2 f4)))))
set_option maxHeartbeats 4000000 in
set_option maxRecDepth 100000 in
theorem J_X6_keep_14 {x : CX} {D : DG} {cyI cyJ cyZ : ClassId} {n_arr : Nat} {a_arr : Nat} {arr : Nat → Int32} {p2 : Int32} {Q : Int32 → ((Nat → Int32)) → Prop} (cx : Cx x cX6_keep 3 RX6 rm_X6_keep D [(cyI, .int), (cyJ, .long), (cyZ, .boolean)]) (hR : ∀ (v : Int32) (u : (Nat → Int32)) (pc : Nat) (lv : List (Nat × Value)), decode cX6_keep pc = .ok (.ireturn, 1) → (v = 0 ∨ v = 1) → Q v u → J x 0 0 3 (W_Arr cyI cyJ cyZ n_arr a_arr u) lv pc [.int v]) (h : bk_X6_keep_14 Q  p2 arr) :
    J x 0 0 3 (W_Arr cyI cyJ cyZ n_arr a_arr arr) [(2, .int p2)] 14 [] := by
  unfold bk_X6_keep_14 at h
  refine j_iload_n cx 0 rfl rfl dX6_keep_14 (pn := 15) rfl ?_
  refine j_iconst cx (v := (-1)) (by decide) dX6_keep_15 (pn := 16) rfl ?_
  refine j_icmp_eq cx 23 dX6_keep_16 (pn := 19) rfl rfl (fun c2 => ?_) (fun c2 => ?_)
  · have h := h.1 c2
    refine j_iconst cx (v := 0) (by decide) dX6_keep_23 (pn := 24) rfl ?_
    exact hR 0 arr 24 _ dX6_keep_24 (Or.inl rfl) h
  · have h := h.2 c2
    refine j_iconst cx (v := 1) (by decide) dX6_keep_19 (pn := 20) rfl ?_
    refine j_goto cx 24 dX6_keep_20 rfl ?_
    exact hR 1 arr 24 _ dX6_keep_24 (Or.inr rfl) h
set_option maxHeartbeats 4000000 in
set_option maxRecDepth 100000 in
theorem c_X6_keep {D : DG} {cyI cyJ cyZ : ClassId} {n_arr : Nat} {a_arr : Nat} {arr : Nat → Int32} {p1 : Int32} {p2 : Int32} {Q : Int32 → ((Nat → Int32)) → Prop} (h : wp_X6_keep n_arr p1 p2 arr Q) :
    MetI yX6_keep cX6_keep 3 (some .boolean) rm_X6_keep D [(cyI, .int), (cyJ, .long), (cyZ, .boolean)] [.ref a_arr, .int p1, .int p2] (W_Arr cyI cyJ cyZ n_arr a_arr arr) (fun u : (Nat → Int32) => (W_Arr cyI cyJ cyZ n_arr a_arr u)) (fun v u => Q v u) := by
  unfold wp_X6_keep at h
  refine metZ_of (by decide) (Nat.le_of_ble_eq_true rfl) (fun x cx0 hR0 => ?_)
  have cx : Cx x cX6_keep 3 RX6 rm_X6_keep D [(cyI, .int), (cyJ, .long), (cyZ, .boolean)] := cx0
  have hR : ∀ (v : Int32) (u : (Nat → Int32)) (pc : Nat) (lv : List (Nat × Value)), decode cX6_keep pc = .ok (.ireturn, 1) → (v = 0 ∨ v = 1) → Q v u → J x 0 0 3 (W_Arr cyI cyJ cyZ n_arr a_arr u) lv pc [.int v] := (fun v u pc lv d hz hq => hR0 v u pc lv d hz hq)
  show J x 0 0 3 (W_Arr cyI cyJ cyZ n_arr a_arr arr) [(0, .ref a_arr), (1, .int p1), (2, .int p2)] 0 []
  refine j_iload_n cx 1 rfl rfl dX6_keep_0 (pn := 1) rfl ?_
  refine j_if_lt cx 14 dX6_keep_1 (pn := 4) rfl rfl (fun c1 => ?_) (fun c1 => ?_)
  · have h := h.1 c1
    refine j_sub [2] [(2, .int p2)] rfl ?_
    exact J_X6_keep_14 cx hR h
  · have h := h.2 c1
    refine j_iload_n cx 1 rfl rfl dX6_keep_4 (pn := 5) rfl ?_
    refine j_aload_n cx 0 rfl rfl dX6_keep_5 (pn := 6) rfl ?_
    refine j_alen cx (v := Int32.ofNat n_arr) 0 0 rfl rfl rfl dX6_keep_6 (pn := 7) rfl ?_
    refine j_icmp_ge cx 14 dX6_keep_7 (pn := 10) rfl rfl (fun c3 => ?_) (fun c3 => ?_)
    · have h := h.1 c3
      refine j_sub [2] [(2, .int p2)] rfl ?_
      exact J_X6_keep_14 cx hR h
    · have h := h.2 c3
      refine j_aload_n cx 0 rfl rfl dX6_keep_10 (pn := 11) rfl ?_
      refine j_iload_n cx 1 rfl rfl dX6_keep_11 (pn := 12) rfl ?_
      refine j_iload_n cx 2 rfl rfl dX6_keep_12 (pn := 13) rfl ?_
      have hin := h.1
      obtain ⟨f4, ef4⟩ : ∃ z, z = upd arr p1.toNatClampNeg p2 := ⟨_, rfl⟩
      have h := h.2 f4 ef4
      refine j_iast cx 0 0 rfl rfl hin (W_Arr cyI cyJ cyZ n_arr a_arr f4) (by subst ef4; rfl) dX6_keep_13 (pn := 14) rfl ?_
      refine j_sub [2] [(2, .int p2)] rfl ?_
      exact J_X6_keep_14 cx hR h
theorem dX6_readSize_0 : decode cX6_readSize 0 = .ok (.aload_n 0, 1) := by decide +kernel
theorem dX6_readSize_1 : decode cX6_readSize 1 = .ok (.iconst 1, 1) := by decide +kernel
theorem dX6_readSize_2 : decode cX6_readSize 2 = .ok (.bipush 10, 2) := by decide +kernel
theorem dX6_readSize_4 : decode cX6_readSize 4 = .ok (.invokevirtual 73, 3) := by decide +kernel
theorem dX6_readSize_7 : decode cX6_readSize 7 = .ok (.istore_n 2, 1) := by decide +kernel
theorem dX6_readSize_8 : decode cX6_readSize 8 = .ok (.iload_n 2, 1) := by decide +kernel
theorem dX6_readSize_9 : decode cX6_readSize 9 = .ok (.iconst 1, 1) := by decide +kernel
theorem dX6_readSize_10 : decode cX6_readSize 10 = .ok (.if_icmp .ge 5, 3) := by decide +kernel
theorem dX6_readSize_13 : decode cX6_readSize 13 = .ok (.iconst 0, 1) := by decide +kernel
theorem dX6_readSize_14 : decode cX6_readSize 14 = .ok (.ireturn, 1) := by decide +kernel
theorem dX6_readSize_15 : decode cX6_readSize 15 = .ok (.aload_n 0, 1) := by decide +kernel
theorem dX6_readSize_16 : decode cX6_readSize 16 = .ok (.iconst 1, 1) := by decide +kernel
theorem dX6_readSize_17 : decode cX6_readSize 17 = .ok (.bipush 10, 2) := by decide +kernel
theorem dX6_readSize_19 : decode cX6_readSize 19 = .ok (.iload_n 2, 1) := by decide +kernel
theorem dX6_readSize_20 : decode cX6_readSize 20 = .ok (.idiv, 1) := by decide +kernel
theorem dX6_readSize_21 : decode cX6_readSize 21 = .ok (.invokevirtual 73, 3) := by decide +kernel
theorem dX6_readSize_24 : decode cX6_readSize 24 = .ok (.istore_n 3, 1) := by decide +kernel
theorem dX6_readSize_25 : decode cX6_readSize 25 = .ok (.iload_n 3, 1) := by decide +kernel
theorem dX6_readSize_26 : decode cX6_readSize 26 = .ok (.iconst 1, 1) := by decide +kernel
theorem dX6_readSize_27 : decode cX6_readSize 27 = .ok (.if_icmp .ge 5, 3) := by decide +kernel
theorem dX6_readSize_30 : decode cX6_readSize 30 = .ok (.iconst 0, 1) := by decide +kernel
theorem dX6_readSize_31 : decode cX6_readSize 31 = .ok (.ireturn, 1) := by decide +kernel
theorem dX6_readSize_32 : decode cX6_readSize 32 = .ok (.aload_n 0, 1) := by decide +kernel
theorem dX6_readSize_33 : decode cX6_readSize 33 = .ok (.iload_n 2, 1) := by decide +kernel
theorem dX6_readSize_34 : decode cX6_readSize 34 = .ok (.putfield 28, 3) := by decide +kernel
theorem dX6_readSize_37 : decode cX6_readSize 37 = .ok (.aload_n 0, 1) := by decide +kernel
theorem dX6_readSize_38 : decode cX6_readSize 38 = .ok (.iload_n 3, 1) := by decide +kernel
theorem dX6_readSize_39 : decode cX6_readSize 39 = .ok (.putfield 32, 3) := by decide +kernel
theorem dX6_readSize_42 : decode cX6_readSize 42 = .ok (.aload_n 0, 1) := by decide +kernel
theorem dX6_readSize_43 : decode cX6_readSize 43 = .ok (.getfield 15, 3) := by decide +kernel
theorem dX6_readSize_46 : decode cX6_readSize 46 = .ok (.iload_n 1, 1) := by decide +kernel
theorem dX6_readSize_47 : decode cX6_readSize 47 = .ok (.iload_n 2, 1) := by decide +kernel
theorem dX6_readSize_48 : decode cX6_readSize 48 = .ok (.invokestatic 77, 3) := by decide +kernel
theorem dX6_readSize_51 : decode cX6_readSize 51 = .ok (.ifCond .eq 19, 3) := by decide +kernel
theorem dX6_readSize_54 : decode cX6_readSize 54 = .ok (.aload_n 0, 1) := by decide +kernel
theorem dX6_readSize_55 : decode cX6_readSize 55 = .ok (.getfield 18, 3) := by decide +kernel
theorem dX6_readSize_58 : decode cX6_readSize 58 = .ok (.iload_n 1, 1) := by decide +kernel
theorem dX6_readSize_59 : decode cX6_readSize 59 = .ok (.iload_n 3, 1) := by decide +kernel
theorem dX6_readSize_60 : decode cX6_readSize 60 = .ok (.invokestatic 77, 3) := by decide +kernel
theorem dX6_readSize_63 : decode cX6_readSize 63 = .ok (.ifCond .eq 7, 3) := by decide +kernel
theorem dX6_readSize_66 : decode cX6_readSize 66 = .ok (.iconst 1, 1) := by decide +kernel
theorem dX6_readSize_67 : decode cX6_readSize 67 = .ok (.goto 4, 3) := by decide +kernel
theorem dX6_readSize_70 : decode cX6_readSize 70 = .ok (.iconst 0, 1) := by decide +kernel
theorem dX6_readSize_71 : decode cX6_readSize 71 = .ok (.ireturn, 1) := by decide +kernel
abbrev rm_X6_readSize : Room := { frames := 3, cells := 0, slots := 0, locals := 64 }
theorem hd_X6_readSize : yX6_readSize.cls ≠ "java/lang/invoke/MethodHandle" ∧ yX6_readSize.cls ≠ "java/lang/invoke/VarHandle" ∧ (parseMethodDescriptor yX6_readSize.desc).map (fun d => d.parameters.length) = some 1 := by decide +kernel
def wp_X6_readSize (p1 : Int32) (r_columns : Int32) (r_rows : Int32) (r_stop : Int32) (r_firsts : Nat → Int32) (r_seconds : Nat → Int32) (t_length : Int32) (t_bytes : Nat → Int32) (Q : Int32 → (Int32 × Int32 × Int32 × Int32 × Int32 × (Nat → Int32) × (Nat → Int32)) → Prop) : Prop :=
wp_X6_readNumber 1 10 r_stop t_length t_bytes (fun (r1 : Int32) (u2 : Int32 × Int32 × Int32) => ((1 ≤ r1 → ¬ r1 = 0 ∧ wp_X6_readNumber 1 (10 / r1) u2.2.1 t_length t_bytes (fun (r4 : Int32) (u5 : Int32 × Int32 × Int32) => ((1 ≤ r4 → wp_X6_keep 10 p1 r1 r_firsts (fun (r7 : Int32) (u8 : (Nat → Int32)) => ((r7 = 0 → Q 0 (r1, r4, u5.1, u5.2.1, u5.2.2, u8, r_seconds)) ∧
(¬ r7 = 0 → wp_X6_keep 10 p1 r4 r_seconds (fun (r10 : Int32) (u11 : (Nat → Int32)) => ((r10 = 0 → Q 0 (r1, r4, u5.1, u5.2.1, u5.2.2, u8, u11)) ∧
(¬ r10 = 0 → Q 1 (r1, r4, u5.1, u5.2.1, u5.2.2, u8, u11)))))))) ∧
(¬ 1 ≤ r4 → Q 0 (r_columns, r_rows, u5.1, u5.2.1, u5.2.2, r_firsts, r_seconds))))) ∧
(¬ 1 ≤ r1 → Q 0 (r_columns, r_rows, u2.1, u2.2.1, u2.2.2, r_firsts, r_seconds))))
set_option maxHeartbeats 4000000 in
set_option maxRecDepth 100000 in
theorem c_X6_readSize {D : DG} {cyI cyJ cyZ : ClassId} {a_r a_r_verbs a_r_firsts a_r_seconds a_r_thirds a_t a_t_bytes : Nat} {r_lines : Int32} {r_columns : Int32} {r_rows : Int32} {r_start : Int32} {r_stop : Int32} {r_kind : Int32} {r_verbs : Nat → Int32} {r_firsts : Nat → Int32} {r_seconds : Nat → Int32} {r_thirds : Nat → Int32} {t_length : Int32} {t_bytes : Nat → Int32} {p1 : Int32} {Q : Int32 → (Int32 × Int32 × Int32 × Int32 × Int32 × (Nat → Int32) × (Nat → Int32)) → Prop} (h : wp_X6_readSize p1 r_columns r_rows r_stop r_firsts r_seconds t_length t_bytes Q) :
    MetI yX6_readSize cX6_readSize 4 (some .boolean) rm_X6_readSize D [(cyI, .int), (cyJ, .long), (cyZ, .boolean)] [.ref a_r, .int p1] (W_Reader cyI cyJ cyZ a_r a_r_verbs a_r_firsts a_r_seconds a_r_thirds a_t a_t_bytes r_lines r_columns r_rows r_start r_stop r_kind r_verbs r_firsts r_seconds r_thirds t_length t_bytes) (fun u : Int32 × Int32 × Int32 × Int32 × Int32 × (Nat → Int32) × (Nat → Int32) => (W_Reader cyI cyJ cyZ a_r a_r_verbs a_r_firsts a_r_seconds a_r_thirds a_t a_t_bytes r_lines u.1 u.2.1 u.2.2.1 u.2.2.2.1 u.2.2.2.2.1 r_verbs u.2.2.2.2.2.1 u.2.2.2.2.2.2 r_thirds t_length t_bytes)) (fun v u => Q v u) := by
  unfold wp_X6_readSize at h
  refine metZ_of (by decide) (Nat.le_of_ble_eq_true rfl) (fun x cx0 hR0 => ?_)
  have cx : Cx x cX6_readSize 4 RX6 rm_X6_readSize D [(cyI, .int), (cyJ, .long), (cyZ, .boolean)] := cx0
  have hR : ∀ (v : Int32) (u : Int32 × Int32 × Int32 × Int32 × Int32 × (Nat → Int32) × (Nat → Int32)) (pc : Nat) (lv : List (Nat × Value)), decode cX6_readSize pc = .ok (.ireturn, 1) → (v = 0 ∨ v = 1) → Q v u → J x 0 0 4 (W_Reader cyI cyJ cyZ a_r a_r_verbs a_r_firsts a_r_seconds a_r_thirds a_t a_t_bytes r_lines u.1 u.2.1 u.2.2.1 u.2.2.2.1 u.2.2.2.2.1 r_verbs u.2.2.2.2.2.1 u.2.2.2.2.2.2 r_thirds t_length t_bytes) lv pc [.int v] := (fun v u pc lv d hz hq => hR0 v u pc lv d hz hq)
  show J x 0 0 4 (W_Reader cyI cyJ cyZ a_r a_r_verbs a_r_firsts a_r_seconds a_r_thirds a_t a_t_bytes r_lines r_columns r_rows r_start r_stop r_kind r_verbs r_firsts r_seconds r_thirds t_length t_bytes) [(0, .ref a_r), (1, .int p1)] 0 []
  refine j_aload_n cx 0 rfl rfl dX6_readSize_0 (pn := 1) rfl ?_
  refine j_iconst cx (v := 1) (by decide) dX6_readSize_1 (pn := 2) rfl ?_
  refine j_bipush cx (v := 10) (by decide) dX6_readSize_2 (pn := 4) rfl ?_
  refine j_callvI0 cx q_inst_X6_readNumber q_sel_X6_readNumber (b := a_r) (As := [.int 1, .int 10]) (rest := []) (c_X6_readNumber h) ⟨q_code_X6_readNumber, q_ml_X6_73, q_init_X6, hd_X6_readNumber, ⟨Nat.le_of_ble_eq_true rfl, Nat.le_of_ble_eq_true rfl⟩, Nat.le_of_ble_eq_true rfl, Nat.le_of_ble_eq_true rfl⟩ (q0 := 0) rfl rfl rfl rfl (Nat.le_of_ble_eq_true rfl) dX6_readSize_4 (pn := 7) rfl (fun r1 u2 h => ?_)
  show J x 0 0 4 (W_Reader cyI cyJ cyZ a_r a_r_verbs a_r_firsts a_r_seconds a_r_thirds a_t a_t_bytes r_lines r_columns r_rows u2.1 u2.2.1 u2.2.2 r_verbs r_firsts r_seconds r_thirds t_length t_bytes) [(0, .ref a_r), (1, .int p1)] 7 [.int r1]
  refine j_istore_n cx rfl [(2, .int r1), (0, .ref a_r), (1, .int p1)] (by decide) rfl dX6_readSize_7 (pn := 8) rfl ?_
  refine j_iload_n cx 0 rfl rfl dX6_readSize_8 (pn := 9) rfl ?_
  refine j_iconst cx (v := 1) (by decide) dX6_readSize_9 (pn := 10) rfl ?_
  refine j_icmp_ge cx 15 dX6_readSize_10 (pn := 13) rfl rfl (fun c3 => ?_) (fun c3 => ?_)
  · have h := h.1 c3
    refine j_aload_n cx 1 rfl rfl dX6_readSize_15 (pn := 16) rfl ?_
    refine j_iconst cx (v := 1) (by decide) dX6_readSize_16 (pn := 17) rfl ?_
    refine j_bipush cx (v := 10) (by decide) dX6_readSize_17 (pn := 19) rfl ?_
    refine j_iload_n cx 0 rfl rfl dX6_readSize_19 (pn := 20) rfl ?_
    refine j_idiv cx h.1 dX6_readSize_20 (pn := 21) rfl ?_
    have h := h.2
    refine j_callvI0 cx q_inst_X6_readNumber q_sel_X6_readNumber (b := a_r) (As := [.int 1, .int (10 / r1)]) (rest := []) (c_X6_readNumber h) ⟨q_code_X6_readNumber, q_ml_X6_73, q_init_X6, hd_X6_readNumber, ⟨Nat.le_of_ble_eq_true rfl, Nat.le_of_ble_eq_true rfl⟩, Nat.le_of_ble_eq_true rfl, Nat.le_of_ble_eq_true rfl⟩ (q0 := 0) rfl rfl rfl rfl (Nat.le_of_ble_eq_true rfl) dX6_readSize_21 (pn := 24) rfl (fun r4 u5 h => ?_)
    show J x 0 0 4 (W_Reader cyI cyJ cyZ a_r a_r_verbs a_r_firsts a_r_seconds a_r_thirds a_t a_t_bytes r_lines r_columns r_rows u5.1 u5.2.1 u5.2.2 r_verbs r_firsts r_seconds r_thirds t_length t_bytes) [(2, .int r1), (0, .ref a_r), (1, .int p1)] 24 [.int r4]
    refine j_istore_n cx rfl [(3, .int r4), (2, .int r1), (0, .ref a_r), (1, .int p1)] (by decide) rfl dX6_readSize_24 (pn := 25) rfl ?_
    refine j_iload_n cx 0 rfl rfl dX6_readSize_25 (pn := 26) rfl ?_
    refine j_iconst cx (v := 1) (by decide) dX6_readSize_26 (pn := 27) rfl ?_
    refine j_icmp_ge cx 32 dX6_readSize_27 (pn := 30) rfl rfl (fun c6 => ?_) (fun c6 => ?_)
    · have h := h.1 c6
      refine j_aload_n cx 2 rfl rfl dX6_readSize_32 (pn := 33) rfl ?_
      refine j_iload_n cx 1 rfl rfl dX6_readSize_33 (pn := 34) rfl ?_
      refine j_put cx tyX6 tyX6_ok nmX6 inGX6 0 rfl rfl 6 (by decide) q_fl_X6_28 rfl rfl rfl rfl rfl (Nat.le_of_ble_eq_true rfl) (W_Reader cyI cyJ cyZ a_r a_r_verbs a_r_firsts a_r_seconds a_r_thirds a_t a_t_bytes r_lines r1 r_rows u5.1 u5.2.1 u5.2.2 r_verbs r_firsts r_seconds r_thirds t_length t_bytes) rfl dX6_readSize_34 (pn := 37) rfl ?_
      refine j_aload_n cx 2 rfl rfl dX6_readSize_37 (pn := 38) rfl ?_
      refine j_iload_n cx 0 rfl rfl dX6_readSize_38 (pn := 39) rfl ?_
      refine j_put cx tyX6 tyX6_ok nmX6 inGX6 0 rfl rfl 7 (by decide) q_fl_X6_32 rfl rfl rfl rfl rfl (Nat.le_of_ble_eq_true rfl) (W_Reader cyI cyJ cyZ a_r a_r_verbs a_r_firsts a_r_seconds a_r_thirds a_t a_t_bytes r_lines r1 r4 u5.1 u5.2.1 u5.2.2 r_verbs r_firsts r_seconds r_thirds t_length t_bytes) rfl dX6_readSize_39 (pn := 42) rfl ?_
      refine j_aload_n cx 2 rfl rfl dX6_readSize_42 (pn := 43) rfl ?_
      refine j_get cx inGX6 0 rfl rfl 2 (by decide) q_fl_X6_15 rfl rfl dX6_readSize_43 (pn := 46) rfl ?_
      refine j_iload_n cx 3 rfl rfl dX6_readSize_46 (pn := 47) rfl ?_
      refine j_iload_n cx 1 rfl rfl dX6_readSize_47 (pn := 48) rfl ?_
      refine j_callsI cx q_stat_X6_keep (As := [.ref a_r_firsts, .int p1, .int r1]) (rest := []) (W_Arr cyI cyJ cyZ 10 a_r_firsts r_firsts) [(a_r, .inr (6, [.ref a_t, .ref a_r_verbs, .ref a_r_firsts, .ref a_r_seconds, .ref a_r_thirds, .int r_lines, .int r1, .int r4, .int u5.1, .int u5.2.1, .int u5.2.2])), (a_r_verbs, .inl (cyI, 10, .inl r_verbs)), (a_r_seconds, .inl (cyI, 10, .inl r_seconds)), (a_r_thirds, .inl (cyI, 10, .inl r_thirds)), (a_t, .inr (8, [.ref a_t_bytes, .int t_length])), (a_t_bytes, .inl (cyI, 200, .inl t_bytes))] (c_X6_keep h) ⟨q_code_X6_keep, q_ml_X6_77, q_init_X6, hd_X6_keep, ⟨Nat.le_of_ble_eq_true rfl, Nat.le_of_ble_eq_true rfl⟩, Nat.le_of_ble_eq_true rfl, Nat.le_of_ble_eq_true rfl⟩ rfl [2] [0, 1, 3, 4, 5, 6] [0, 1, 6, 2, 3, 4, 5] rfl rfl rfl rfl rfl (by decide) (fun u : (Nat → Int32) => (W_Reader cyI cyJ cyZ a_r a_r_verbs a_r_firsts a_r_seconds a_r_thirds a_t a_t_bytes r_lines r1 r4 u5.1 u5.2.1 u5.2.2 r_verbs u r_seconds r_thirds t_length t_bytes)) (fun _ => rfl) (fun _ => rfl) rfl rfl (Nat.le_of_ble_eq_true rfl) dX6_readSize_48 (pn := 51) rfl (fun r7 u8 h => ?_)
      show J x 0 0 4 (W_Reader cyI cyJ cyZ a_r a_r_verbs a_r_firsts a_r_seconds a_r_thirds a_t a_t_bytes r_lines r1 r4 u5.1 u5.2.1 u5.2.2 r_verbs u8 r_seconds r_thirds t_length t_bytes) [(3, .int r4), (2, .int r1), (0, .ref a_r), (1, .int p1)] 51 [.int r7]
      refine j_if_eq cx 70 dX6_readSize_51 (pn := 54) rfl rfl (fun c9 => ?_) (fun c9 => ?_)
      · have h := h.1 c9
        refine j_iconst cx (v := 0) (by decide) dX6_readSize_70 (pn := 71) rfl ?_
        exact hR 0 (r1, r4, u5.1, u5.2.1, u5.2.2, u8, r_seconds) 71 _ dX6_readSize_71 (Or.inl rfl) h
      · have h := h.2 c9
        refine j_aload_n cx 2 rfl rfl dX6_readSize_54 (pn := 55) rfl ?_
        refine j_get cx inGX6 0 rfl rfl 3 (by decide) q_fl_X6_18 rfl rfl dX6_readSize_55 (pn := 58) rfl ?_
        refine j_iload_n cx 3 rfl rfl dX6_readSize_58 (pn := 59) rfl ?_
        refine j_iload_n cx 0 rfl rfl dX6_readSize_59 (pn := 60) rfl ?_
        refine j_callsI cx q_stat_X6_keep (As := [.ref a_r_seconds, .int p1, .int r4]) (rest := []) (W_Arr cyI cyJ cyZ 10 a_r_seconds r_seconds) [(a_r, .inr (6, [.ref a_t, .ref a_r_verbs, .ref a_r_firsts, .ref a_r_seconds, .ref a_r_thirds, .int r_lines, .int r1, .int r4, .int u5.1, .int u5.2.1, .int u5.2.2])), (a_r_verbs, .inl (cyI, 10, .inl r_verbs)), (a_r_firsts, .inl (cyI, 10, .inl u8)), (a_r_thirds, .inl (cyI, 10, .inl r_thirds)), (a_t, .inr (8, [.ref a_t_bytes, .int t_length])), (a_t_bytes, .inl (cyI, 200, .inl t_bytes))] (c_X6_keep h) ⟨q_code_X6_keep, q_ml_X6_77, q_init_X6, hd_X6_keep, ⟨Nat.le_of_ble_eq_true rfl, Nat.le_of_ble_eq_true rfl⟩, Nat.le_of_ble_eq_true rfl, Nat.le_of_ble_eq_true rfl⟩ rfl [3] [0, 1, 2, 4, 5, 6] [0, 1, 2, 6, 3, 4, 5] rfl rfl rfl rfl rfl (by decide) (fun u : (Nat → Int32) => (W_Reader cyI cyJ cyZ a_r a_r_verbs a_r_firsts a_r_seconds a_r_thirds a_t a_t_bytes r_lines r1 r4 u5.1 u5.2.1 u5.2.2 r_verbs u8 u r_thirds t_length t_bytes)) (fun _ => rfl) (fun _ => rfl) rfl rfl (Nat.le_of_ble_eq_true rfl) dX6_readSize_60 (pn := 63) rfl (fun r10 u11 h => ?_)
        show J x 0 0 4 (W_Reader cyI cyJ cyZ a_r a_r_verbs a_r_firsts a_r_seconds a_r_thirds a_t a_t_bytes r_lines r1 r4 u5.1 u5.2.1 u5.2.2 r_verbs u8 u11 r_thirds t_length t_bytes) [(3, .int r4), (2, .int r1), (0, .ref a_r), (1, .int p1)] 63 [.int r10]
        refine j_if_eq cx 70 dX6_readSize_63 (pn := 66) rfl rfl (fun c12 => ?_) (fun c12 => ?_)
        · have h := h.1 c12
          refine j_iconst cx (v := 0) (by decide) dX6_readSize_70 (pn := 71) rfl ?_
          exact hR 0 (r1, r4, u5.1, u5.2.1, u5.2.2, u8, u11) 71 _ dX6_readSize_71 (Or.inl rfl) h
        · have h := h.2 c12
          refine j_iconst cx (v := 1) (by decide) dX6_readSize_66 (pn := 67) rfl ?_
          refine j_goto cx 71 dX6_readSize_67 rfl ?_
          exact hR 1 (r1, r4, u5.1, u5.2.1, u5.2.2, u8, u11) 71 _ dX6_readSize_71 (Or.inr rfl) h
    · have h := h.2 c6
      refine j_iconst cx (v := 0) (by decide) dX6_readSize_30 (pn := 31) rfl ?_
      exact hR 0 (r_columns, r_rows, u5.1, u5.2.1, u5.2.2, r_firsts, r_seconds) 31 _ dX6_readSize_31 (Or.inl rfl) h
  · have h := h.2 c3
    refine j_iconst cx (v := 0) (by decide) dX6_readSize_13 (pn := 14) rfl ?_
    exact hR 0 (r_columns, r_rows, u2.1, u2.2.1, u2.2.2, r_firsts, r_seconds) 14 _ dX6_readSize_14 (Or.inl rfl) h
theorem dX6_readPlace_0 : decode cX6_readPlace 0 = .ok (.aload_n 0, 1) := by decide +kernel
theorem dX6_readPlace_1 : decode cX6_readPlace 1 = .ok (.getfield 15, 3) := by decide +kernel
theorem dX6_readPlace_4 : decode cX6_readPlace 4 = .ok (.iload_n 1, 1) := by decide +kernel
theorem dX6_readPlace_5 : decode cX6_readPlace 5 = .ok (.aload_n 0, 1) := by decide +kernel
theorem dX6_readPlace_6 : decode cX6_readPlace 6 = .ok (.iconst 0, 1) := by decide +kernel
theorem dX6_readPlace_7 : decode cX6_readPlace 7 = .ok (.aload_n 0, 1) := by decide +kernel
theorem dX6_readPlace_8 : decode cX6_readPlace 8 = .ok (.getfield 28, 3) := by decide +kernel
theorem dX6_readPlace_11 : decode cX6_readPlace 11 = .ok (.iconst 1, 1) := by decide +kernel
theorem dX6_readPlace_12 : decode cX6_readPlace 12 = .ok (.isub, 1) := by decide +kernel
theorem dX6_readPlace_13 : decode cX6_readPlace 13 = .ok (.invokevirtual 73, 3) := by decide +kernel
theorem dX6_readPlace_16 : decode cX6_readPlace 16 = .ok (.invokestatic 77, 3) := by decide +kernel
theorem dX6_readPlace_19 : decode cX6_readPlace 19 = .ok (.ifCond .eq 29, 3) := by decide +kernel
theorem dX6_readPlace_22 : decode cX6_readPlace 22 = .ok (.aload_n 0, 1) := by decide +kernel
theorem dX6_readPlace_23 : decode cX6_readPlace 23 = .ok (.getfield 18, 3) := by decide +kernel
theorem dX6_readPlace_26 : decode cX6_readPlace 26 = .ok (.iload_n 1, 1) := by decide +kernel
theorem dX6_readPlace_27 : decode cX6_readPlace 27 = .ok (.aload_n 0, 1) := by decide +kernel
theorem dX6_readPlace_28 : decode cX6_readPlace 28 = .ok (.iconst 0, 1) := by decide +kernel
theorem dX6_readPlace_29 : decode cX6_readPlace 29 = .ok (.aload_n 0, 1) := by decide +kernel
theorem dX6_readPlace_30 : decode cX6_readPlace 30 = .ok (.getfield 32, 3) := by decide +kernel
theorem dX6_readPlace_33 : decode cX6_readPlace 33 = .ok (.iconst 1, 1) := by decide +kernel
theorem dX6_readPlace_34 : decode cX6_readPlace 34 = .ok (.isub, 1) := by decide +kernel
theorem dX6_readPlace_35 : decode cX6_readPlace 35 = .ok (.invokevirtual 73, 3) := by decide +kernel
theorem dX6_readPlace_38 : decode cX6_readPlace 38 = .ok (.invokestatic 77, 3) := by decide +kernel
theorem dX6_readPlace_41 : decode cX6_readPlace 41 = .ok (.ifCond .eq 7, 3) := by decide +kernel
theorem dX6_readPlace_44 : decode cX6_readPlace 44 = .ok (.iconst 1, 1) := by decide +kernel
theorem dX6_readPlace_45 : decode cX6_readPlace 45 = .ok (.goto 4, 3) := by decide +kernel
theorem dX6_readPlace_48 : decode cX6_readPlace 48 = .ok (.iconst 0, 1) := by decide +kernel
theorem dX6_readPlace_49 : decode cX6_readPlace 49 = .ok (.ireturn, 1) := by decide +kernel
abbrev rm_X6_readPlace : Room := { frames := 3, cells := 0, slots := 0, locals := 64 }
theorem hd_X6_readPlace : yX6_readPlace.cls ≠ "java/lang/invoke/MethodHandle" ∧ yX6_readPlace.cls ≠ "java/lang/invoke/VarHandle" ∧ (parseMethodDescriptor yX6_readPlace.desc).map (fun d => d.parameters.length) = some 1 := by decide +kernel
def wp_X6_readPlace (p1 : Int32) (r_columns : Int32) (r_rows : Int32) (r_stop : Int32) (r_firsts : Nat → Int32) (r_seconds : Nat → Int32) (t_length : Int32) (t_bytes : Nat → Int32) (Q : Int32 → (Int32 × Int32 × Int32 × (Nat → Int32) × (Nat → Int32)) → Prop) : Prop :=
wp_X6_readNumber 0 (r_columns - 1) r_stop t_length t_bytes (fun (r1 : Int32) (u2 : Int32 × Int32 × Int32) => wp_X6_keep 10 p1 r1 r_firsts (fun (r3 : Int32) (u4 : (Nat → Int32)) => ((r3 = 0 → Q 0 (u2.1, u2.2.1, u2.2.2, u4, r_seconds)) ∧
(¬ r3 = 0 → wp_X6_readNumber 0 (r_rows - 1) u2.2.1 t_length t_bytes (fun (r6 : Int32) (u7 : Int32 × Int32 × Int32) => wp_X6_keep 10 p1 r6 r_seconds (fun (r8 : Int32) (u9 : (Nat → Int32)) => ((r8 = 0 → Q 0 (u7.1, u7.2.1, u7.2.2, u4, u9)) ∧
(¬ r8 = 0 → Q 1 (u7.1, u7.2.1, u7.2.2, u4, u9)))))))))
set_option maxHeartbeats 4000000 in
set_option maxRecDepth 100000 in
theorem c_X6_readPlace {D : DG} {cyI cyJ cyZ : ClassId} {a_r a_r_verbs a_r_firsts a_r_seconds a_r_thirds a_t a_t_bytes : Nat} {r_lines : Int32} {r_columns : Int32} {r_rows : Int32} {r_start : Int32} {r_stop : Int32} {r_kind : Int32} {r_verbs : Nat → Int32} {r_firsts : Nat → Int32} {r_seconds : Nat → Int32} {r_thirds : Nat → Int32} {t_length : Int32} {t_bytes : Nat → Int32} {p1 : Int32} {Q : Int32 → (Int32 × Int32 × Int32 × (Nat → Int32) × (Nat → Int32)) → Prop} (h : wp_X6_readPlace p1 r_columns r_rows r_stop r_firsts r_seconds t_length t_bytes Q) :
    MetI yX6_readPlace cX6_readPlace 2 (some .boolean) rm_X6_readPlace D [(cyI, .int), (cyJ, .long), (cyZ, .boolean)] [.ref a_r, .int p1] (W_Reader cyI cyJ cyZ a_r a_r_verbs a_r_firsts a_r_seconds a_r_thirds a_t a_t_bytes r_lines r_columns r_rows r_start r_stop r_kind r_verbs r_firsts r_seconds r_thirds t_length t_bytes) (fun u : Int32 × Int32 × Int32 × (Nat → Int32) × (Nat → Int32) => (W_Reader cyI cyJ cyZ a_r a_r_verbs a_r_firsts a_r_seconds a_r_thirds a_t a_t_bytes r_lines r_columns r_rows u.1 u.2.1 u.2.2.1 r_verbs u.2.2.2.1 u.2.2.2.2 r_thirds t_length t_bytes)) (fun v u => Q v u) := by
  unfold wp_X6_readPlace at h
  refine metZ_of (by decide) (Nat.le_of_ble_eq_true rfl) (fun x cx0 hR0 => ?_)
  have cx : Cx x cX6_readPlace 2 RX6 rm_X6_readPlace D [(cyI, .int), (cyJ, .long), (cyZ, .boolean)] := cx0
  have hR : ∀ (v : Int32) (u : Int32 × Int32 × Int32 × (Nat → Int32) × (Nat → Int32)) (pc : Nat) (lv : List (Nat × Value)), decode cX6_readPlace pc = .ok (.ireturn, 1) → (v = 0 ∨ v = 1) → Q v u → J x 0 0 2 (W_Reader cyI cyJ cyZ a_r a_r_verbs a_r_firsts a_r_seconds a_r_thirds a_t a_t_bytes r_lines r_columns r_rows u.1 u.2.1 u.2.2.1 r_verbs u.2.2.2.1 u.2.2.2.2 r_thirds t_length t_bytes) lv pc [.int v] := (fun v u pc lv d hz hq => hR0 v u pc lv d hz hq)
  show J x 0 0 2 (W_Reader cyI cyJ cyZ a_r a_r_verbs a_r_firsts a_r_seconds a_r_thirds a_t a_t_bytes r_lines r_columns r_rows r_start r_stop r_kind r_verbs r_firsts r_seconds r_thirds t_length t_bytes) [(0, .ref a_r), (1, .int p1)] 0 []
  refine j_aload_n cx 0 rfl rfl dX6_readPlace_0 (pn := 1) rfl ?_
  refine j_get cx inGX6 0 rfl rfl 2 (by decide) q_fl_X6_15 rfl rfl dX6_readPlace_1 (pn := 4) rfl ?_
  refine j_iload_n cx 1 rfl rfl dX6_readPlace_4 (pn := 5) rfl ?_
  refine j_aload_n cx 0 rfl rfl dX6_readPlace_5 (pn := 6) rfl ?_
  refine j_iconst cx (v := 0) (by decide) dX6_readPlace_6 (pn := 7) rfl ?_
  refine j_aload_n cx 0 rfl rfl dX6_readPlace_7 (pn := 8) rfl ?_
  refine j_get cx inGX6 0 rfl rfl 6 (by decide) q_fl_X6_28 rfl rfl dX6_readPlace_8 (pn := 11) rfl ?_
  refine j_iconst cx (v := 1) (by decide) dX6_readPlace_11 (pn := 12) rfl ?_
  refine j_isub cx dX6_readPlace_12 (pn := 13) rfl ?_
  refine j_callvI0 cx q_inst_X6_readNumber q_sel_X6_readNumber (b := a_r) (As := [.int 0, .int (r_columns - 1)]) (rest := [.int p1, .ref a_r_firsts]) (c_X6_readNumber h) ⟨q_code_X6_readNumber, q_ml_X6_73, q_init_X6, hd_X6_readNumber, ⟨Nat.le_of_ble_eq_true rfl, Nat.le_of_ble_eq_true rfl⟩, Nat.le_of_ble_eq_true rfl, Nat.le_of_ble_eq_true rfl⟩ (q0 := 0) rfl rfl rfl rfl (Nat.le_of_ble_eq_true rfl) dX6_readPlace_13 (pn := 16) rfl (fun r1 u2 h => ?_)
  show J x 0 0 2 (W_Reader cyI cyJ cyZ a_r a_r_verbs a_r_firsts a_r_seconds a_r_thirds a_t a_t_bytes r_lines r_columns r_rows u2.1 u2.2.1 u2.2.2 r_verbs r_firsts r_seconds r_thirds t_length t_bytes) [(0, .ref a_r), (1, .int p1)] 16 [.int r1, .int p1, .ref a_r_firsts]
  refine j_callsI cx q_stat_X6_keep (As := [.ref a_r_firsts, .int p1, .int r1]) (rest := []) (W_Arr cyI cyJ cyZ 10 a_r_firsts r_firsts) [(a_r, .inr (6, [.ref a_t, .ref a_r_verbs, .ref a_r_firsts, .ref a_r_seconds, .ref a_r_thirds, .int r_lines, .int r_columns, .int r_rows, .int u2.1, .int u2.2.1, .int u2.2.2])), (a_r_verbs, .inl (cyI, 10, .inl r_verbs)), (a_r_seconds, .inl (cyI, 10, .inl r_seconds)), (a_r_thirds, .inl (cyI, 10, .inl r_thirds)), (a_t, .inr (8, [.ref a_t_bytes, .int t_length])), (a_t_bytes, .inl (cyI, 200, .inl t_bytes))] (c_X6_keep h) ⟨q_code_X6_keep, q_ml_X6_77, q_init_X6, hd_X6_keep, ⟨Nat.le_of_ble_eq_true rfl, Nat.le_of_ble_eq_true rfl⟩, Nat.le_of_ble_eq_true rfl, Nat.le_of_ble_eq_true rfl⟩ rfl [2] [0, 1, 3, 4, 5, 6] [0, 1, 6, 2, 3, 4, 5] rfl rfl rfl rfl rfl (by decide) (fun u : (Nat → Int32) => (W_Reader cyI cyJ cyZ a_r a_r_verbs a_r_firsts a_r_seconds a_r_thirds a_t a_t_bytes r_lines r_columns r_rows u2.1 u2.2.1 u2.2.2 r_verbs u r_seconds r_thirds t_length t_bytes)) (fun _ => rfl) (fun _ => rfl) rfl rfl (Nat.le_of_ble_eq_true rfl) dX6_readPlace_16 (pn := 19) rfl (fun r3 u4 h => ?_)
  show J x 0 0 2 (W_Reader cyI cyJ cyZ a_r a_r_verbs a_r_firsts a_r_seconds a_r_thirds a_t a_t_bytes r_lines r_columns r_rows u2.1 u2.2.1 u2.2.2 r_verbs u4 r_seconds r_thirds t_length t_bytes) [(0, .ref a_r), (1, .int p1)] 19 [.int r3]
  refine j_if_eq cx 48 dX6_readPlace_19 (pn := 22) rfl rfl (fun c5 => ?_) (fun c5 => ?_)
  · have h := h.1 c5
    refine j_iconst cx (v := 0) (by decide) dX6_readPlace_48 (pn := 49) rfl ?_
    exact hR 0 (u2.1, u2.2.1, u2.2.2, u4, r_seconds) 49 _ dX6_readPlace_49 (Or.inl rfl) h
  · have h := h.2 c5
    refine j_aload_n cx 0 rfl rfl dX6_readPlace_22 (pn := 23) rfl ?_
    refine j_get cx inGX6 0 rfl rfl 3 (by decide) q_fl_X6_18 rfl rfl dX6_readPlace_23 (pn := 26) rfl ?_
    refine j_iload_n cx 1 rfl rfl dX6_readPlace_26 (pn := 27) rfl ?_
    refine j_aload_n cx 0 rfl rfl dX6_readPlace_27 (pn := 28) rfl ?_
    refine j_iconst cx (v := 0) (by decide) dX6_readPlace_28 (pn := 29) rfl ?_
    refine j_aload_n cx 0 rfl rfl dX6_readPlace_29 (pn := 30) rfl ?_
    refine j_get cx inGX6 0 rfl rfl 7 (by decide) q_fl_X6_32 rfl rfl dX6_readPlace_30 (pn := 33) rfl ?_
    refine j_iconst cx (v := 1) (by decide) dX6_readPlace_33 (pn := 34) rfl ?_
    refine j_isub cx dX6_readPlace_34 (pn := 35) rfl ?_
    refine j_callvI0 cx q_inst_X6_readNumber q_sel_X6_readNumber (b := a_r) (As := [.int 0, .int (r_rows - 1)]) (rest := [.int p1, .ref a_r_seconds]) (c_X6_readNumber h) ⟨q_code_X6_readNumber, q_ml_X6_73, q_init_X6, hd_X6_readNumber, ⟨Nat.le_of_ble_eq_true rfl, Nat.le_of_ble_eq_true rfl⟩, Nat.le_of_ble_eq_true rfl, Nat.le_of_ble_eq_true rfl⟩ (q0 := 0) rfl rfl rfl rfl (Nat.le_of_ble_eq_true rfl) dX6_readPlace_35 (pn := 38) rfl (fun r6 u7 h => ?_)
    show J x 0 0 2 (W_Reader cyI cyJ cyZ a_r a_r_verbs a_r_firsts a_r_seconds a_r_thirds a_t a_t_bytes r_lines r_columns r_rows u7.1 u7.2.1 u7.2.2 r_verbs u4 r_seconds r_thirds t_length t_bytes) [(0, .ref a_r), (1, .int p1)] 38 [.int r6, .int p1, .ref a_r_seconds]
    refine j_callsI cx q_stat_X6_keep (As := [.ref a_r_seconds, .int p1, .int r6]) (rest := []) (W_Arr cyI cyJ cyZ 10 a_r_seconds r_seconds) [(a_r, .inr (6, [.ref a_t, .ref a_r_verbs, .ref a_r_firsts, .ref a_r_seconds, .ref a_r_thirds, .int r_lines, .int r_columns, .int r_rows, .int u7.1, .int u7.2.1, .int u7.2.2])), (a_r_verbs, .inl (cyI, 10, .inl r_verbs)), (a_r_firsts, .inl (cyI, 10, .inl u4)), (a_r_thirds, .inl (cyI, 10, .inl r_thirds)), (a_t, .inr (8, [.ref a_t_bytes, .int t_length])), (a_t_bytes, .inl (cyI, 200, .inl t_bytes))] (c_X6_keep h) ⟨q_code_X6_keep, q_ml_X6_77, q_init_X6, hd_X6_keep, ⟨Nat.le_of_ble_eq_true rfl, Nat.le_of_ble_eq_true rfl⟩, Nat.le_of_ble_eq_true rfl, Nat.le_of_ble_eq_true rfl⟩ rfl [3] [0, 1, 2, 4, 5, 6] [0, 1, 2, 6, 3, 4, 5] rfl rfl rfl rfl rfl (by decide) (fun u : (Nat → Int32) => (W_Reader cyI cyJ cyZ a_r a_r_verbs a_r_firsts a_r_seconds a_r_thirds a_t a_t_bytes r_lines r_columns r_rows u7.1 u7.2.1 u7.2.2 r_verbs u4 u r_thirds t_length t_bytes)) (fun _ => rfl) (fun _ => rfl) rfl rfl (Nat.le_of_ble_eq_true rfl) dX6_readPlace_38 (pn := 41) rfl (fun r8 u9 h => ?_)
    show J x 0 0 2 (W_Reader cyI cyJ cyZ a_r a_r_verbs a_r_firsts a_r_seconds a_r_thirds a_t a_t_bytes r_lines r_columns r_rows u7.1 u7.2.1 u7.2.2 r_verbs u4 u9 r_thirds t_length t_bytes) [(0, .ref a_r), (1, .int p1)] 41 [.int r8]
    refine j_if_eq cx 48 dX6_readPlace_41 (pn := 44) rfl rfl (fun c10 => ?_) (fun c10 => ?_)
    · have h := h.1 c10
      refine j_iconst cx (v := 0) (by decide) dX6_readPlace_48 (pn := 49) rfl ?_
      exact hR 0 (u7.1, u7.2.1, u7.2.2, u4, u9) 49 _ dX6_readPlace_49 (Or.inl rfl) h
    · have h := h.2 c10
      refine j_iconst cx (v := 1) (by decide) dX6_readPlace_44 (pn := 45) rfl ?_
      refine j_goto cx 49 dX6_readPlace_45 rfl ?_
      exact hR 1 (u7.1, u7.2.1, u7.2.2, u4, u9) 49 _ dX6_readPlace_49 (Or.inr rfl) h
theorem dX6_directionName_0 : decode cX6_directionName 0 = .ok (.iload_n 0, 1) := by decide +kernel
theorem dX6_directionName_1 : decode cX6_directionName 1 = .ok (.tableswitch 36 0 2 #[27, 30, 33], 27) := by decide +kernel
theorem dX6_directionName_28 : decode cX6_directionName 28 = .ok (.ldc 132, 2) := by decide +kernel
theorem dX6_directionName_30 : decode cX6_directionName 30 = .ok (.areturn, 1) := by decide +kernel
theorem dX6_directionName_31 : decode cX6_directionName 31 = .ok (.ldc 134, 2) := by decide +kernel
theorem dX6_directionName_33 : decode cX6_directionName 33 = .ok (.areturn, 1) := by decide +kernel
theorem dX6_directionName_34 : decode cX6_directionName 34 = .ok (.ldc 136, 2) := by decide +kernel
theorem dX6_directionName_36 : decode cX6_directionName 36 = .ok (.areturn, 1) := by decide +kernel
theorem dX6_directionName_37 : decode cX6_directionName 37 = .ok (.ldc 138, 2) := by decide +kernel
theorem dX6_directionName_39 : decode cX6_directionName 39 = .ok (.areturn, 1) := by decide +kernel
abbrev rm_X6_directionName : Room := { frames := 0, cells := 0, slots := 0, locals := 0 }
theorem hd_X6_directionName : yX6_directionName.cls ≠ "java/lang/invoke/MethodHandle" ∧ yX6_directionName.cls ≠ "java/lang/invoke/VarHandle" ∧ (parseMethodDescriptor yX6_directionName.desc).map (fun d => d.parameters.length) = some 1 := by decide +kernel
def wp_X6_directionName (p0 : Int32) (Q : Nat → Prop) : Prop :=
((p0 = 0 → Q 11) ∧
(p0 = 1 → Q 12) ∧
(p0 = 2 → Q 13) ∧
((¬ p0 = 0 ∧ ¬ p0 = 1 ∧ ¬ p0 = 2) → Q 14))
set_option maxHeartbeats 4000000 in
set_option maxRecDepth 100000 in
theorem c_X6_directionName {D : DG} {cyI cyJ cyZ : ClassId} {p0 : Int32} {Q : Nat → Prop} (h : wp_X6_directionName p0 Q) :
    MetS yX6_directionName cX6_directionName 1 (some (.object "java/lang/String")) rm_X6_directionName D [(cyI, .int), (cyJ, .long), (cyZ, .boolean)] [.int p0] Q := by
  unfold wp_X6_directionName at h
  refine metS_of ⟨_, rfl⟩ (by decide) (Nat.le_of_ble_eq_true rfl) (fun x cx0 hR0 => ?_)
  have cx : Cx x cX6_directionName 1 RX6 rm_X6_directionName D [(cyI, .int), (cyJ, .long), (cyZ, .boolean)] := cx0
  have hR : ∀ (v : Nat) (pc : Nat) (lv : List (Nat × Value)), decode cX6_directionName pc = .ok (.areturn, 1) → Q v → J x 0 0 1 ([] : va_W) lv pc [.ref (D.2.1 v)] := (fun v pc lv d hq => hR0 v  pc lv d hq)
  show J x 0 0 1 ([] : va_W) [(0, .int p0)] 0 []
  refine j_iload_n cx 0 rfl rfl dX6_directionName_0 (pn := 1) rfl ?_
  by_cases k0 : p0 = 0
  · refine j_tabIn cx 28 dX6_directionName_1 (by rw [k0]; decide) (by rw [k0]; decide) (off := 27) (by rw [k0]; rfl) rfl ?_
    have h := h.1 k0
    refine j_ldcS cx (i := 11) (by decide) rfl rfl dX6_directionName_28 (pn := 30) rfl ?_
    exact hR 11 30 _ dX6_directionName_30 h
  by_cases k1 : p0 = 1
  · refine j_tabIn cx 31 dX6_directionName_1 (by rw [k1]; decide) (by rw [k1]; decide) (off := 30) (by rw [k1]; rfl) rfl ?_
    have h := h.2.1 k1
    refine j_ldcS cx (i := 12) (by decide) rfl rfl dX6_directionName_31 (pn := 33) rfl ?_
    exact hR 12 33 _ dX6_directionName_33 h
  by_cases k2 : p0 = 2
  · refine j_tabIn cx 34 dX6_directionName_1 (by rw [k2]; decide) (by rw [k2]; decide) (off := 33) (by rw [k2]; rfl) rfl ?_
    have h := h.2.2.1 k2
    refine j_ldcS cx (i := 13) (by decide) rfl rfl dX6_directionName_34 (pn := 36) rfl ?_
    exact hR 13 36 _ dX6_directionName_36 h
  refine j_tabOut cx 37 dX6_directionName_1 (sw_out0_2 k0 k1 k2) rfl ?_
  have h := h.2.2.2 ⟨k0, k1, k2⟩
  refine j_ldcS cx (i := 14) (by decide) rfl rfl dX6_directionName_37 (pn := 39) rfl ?_
  exact hR 14 39 _ dX6_directionName_39 h
theorem dX6_readDirection_0 : decode cX6_readDirection 0 = .ok (.aload_n 0, 1) := by decide +kernel
theorem dX6_readDirection_1 : decode cX6_readDirection 1 = .ok (.invokevirtual 48, 3) := by decide +kernel
theorem dX6_readDirection_4 : decode cX6_readDirection 4 = .ok (.iconst 0, 1) := by decide +kernel
theorem dX6_readDirection_5 : decode cX6_readDirection 5 = .ok (.istore_n 1, 1) := by decide +kernel
theorem dX6_readDirection_6 : decode cX6_readDirection 6 = .ok (.iload_n 1, 1) := by decide +kernel
theorem dX6_readDirection_7 : decode cX6_readDirection 7 = .ok (.iconst 4, 1) := by decide +kernel
theorem dX6_readDirection_8 : decode cX6_readDirection 8 = .ok (.if_icmp .ge 22, 3) := by decide +kernel
theorem dX6_readDirection_11 : decode cX6_readDirection 11 = .ok (.aload_n 0, 1) := by decide +kernel
theorem dX6_readDirection_12 : decode cX6_readDirection 12 = .ok (.iload_n 1, 1) := by decide +kernel
theorem dX6_readDirection_13 : decode cX6_readDirection 13 = .ok (.invokestatic 92, 3) := by decide +kernel
theorem dX6_readDirection_16 : decode cX6_readDirection 16 = .ok (.invokevirtual 88, 3) := by decide +kernel
theorem dX6_readDirection_19 : decode cX6_readDirection 19 = .ok (.ifCond .eq 5, 3) := by decide +kernel
theorem dX6_readDirection_22 : decode cX6_readDirection 22 = .ok (.iload_n 1, 1) := by decide +kernel
theorem dX6_readDirection_23 : decode cX6_readDirection 23 = .ok (.ireturn, 1) := by decide +kernel
theorem dX6_readDirection_24 : decode cX6_readDirection 24 = .ok (.iinc 1 1, 3) := by decide +kernel
theorem dX6_readDirection_27 : decode cX6_readDirection 27 = .ok (.goto (-21), 3) := by decide +kernel
theorem dX6_readDirection_30 : decode cX6_readDirection 30 = .ok (.iconst (-1), 1) := by decide +kernel
theorem dX6_readDirection_31 : decode cX6_readDirection 31 = .ok (.ireturn, 1) := by decide +kernel
abbrev rm_X6_readDirection : Room := { frames := 5, cells := 0, slots := 0, locals := 107 }
theorem hd_X6_readDirection : yX6_readDirection.cls ≠ "java/lang/invoke/MethodHandle" ∧ yX6_readDirection.cls ≠ "java/lang/invoke/VarHandle" ∧ (parseMethodDescriptor yX6_readDirection.desc).map (fun d => d.parameters.length) = some 0 := by decide +kernel
def bd_X6_readDirection_6 (Q : Int32 → Int32 × Int32 × Int32 → Prop) (B6 : Int32 → Prop) (r_start : Int32) (r_stop : Int32) (r_kind : Int32) (t_bytes : Nat → Int32) (x1 : Int32) : Prop :=
((4 ≤ x1 → Q (-1) (r_start, r_stop, r_kind)) ∧
(¬ 4 ≤ x1 → wp_X6_directionName x1 (fun (r3 : Nat) => wp_X6_tokenIs r3 r_start r_stop r_kind t_bytes (fun (r4 : Int32) => ((r4 = 0 → ∀ y6 : Int32, y6 = (x1 + 1) →
B6 y6) ∧
(¬ r4 = 0 → Q x1 (r_start, r_stop, r_kind)))))))
def lp_X6_readDirection_6 (Q : Int32 → Int32 × Int32 × Int32 → Prop) (r_start : Int32) (r_stop : Int32) (r_kind : Int32) (t_bytes : Nat → Int32) (x1 : Int32) : Prop :=
∃ I : Nat → Int32 → Prop, (∃ n, I n x1) ∧ ∀ n x1, I n x1 → bd_X6_readDirection_6 Q  (fun x1' => ∃ n', n' < n ∧ I n' x1') r_start r_stop r_kind t_bytes x1
def wp_X6_readDirection (r_stop : Int32) (t_length : Int32) (t_bytes : Nat → Int32) (Q : Int32 → Int32 × Int32 × Int32 → Prop) : Prop :=
wp_X6_nextToken r_stop t_length t_bytes (fun (u1 : Int32 × Int32 × Int32) => lp_X6_readDirection_6 Q u1.1 u1.2.1 u1.2.2 t_bytes 0)
set_option maxHeartbeats 4000000 in
set_option maxRecDepth 100000 in
theorem B_X6_readDirection_6 {x : CX} {D : DG} {cyI cyJ cyZ : ClassId} {a_r a_r_verbs a_r_firsts a_r_seconds a_r_thirds a_t a_t_bytes : Nat} {r_lines : Int32} {r_columns : Int32} {r_rows : Int32} {r_start : Int32} {r_stop : Int32} {r_kind : Int32} {r_verbs : Nat → Int32} {r_firsts : Nat → Int32} {r_seconds : Nat → Int32} {r_thirds : Nat → Int32} {t_length : Int32} {t_bytes : Nat → Int32} {x1 : Int32} {Q : Int32 → Int32 × Int32 × Int32 → Prop} {B6 : Int32 → Prop} (cx : Cx x cX6_readDirection 2 RX6 rm_X6_readDirection D [(cyI, .int), (cyJ, .long), (cyZ, .boolean)]) (hR : ∀ (v : Int32) (u : Int32 × Int32 × Int32) (pc : Nat) (lv : List (Nat × Value)), decode cX6_readDirection pc = .ok (.ireturn, 1) → Q v u → J x 0 0 2 (W_Reader cyI cyJ cyZ a_r a_r_verbs a_r_firsts a_r_seconds a_r_thirds a_t a_t_bytes r_lines r_columns r_rows u.1 u.2.1 u.2.2 r_verbs r_firsts r_seconds r_thirds t_length t_bytes) lv pc [.int v]) (hB6 : ∀ (x1 : Int32), B6 x1 → J x 0 0 2 (W_Reader cyI cyJ cyZ a_r a_r_verbs a_r_firsts a_r_seconds a_r_thirds a_t a_t_bytes r_lines r_columns r_rows r_start r_stop r_kind r_verbs r_firsts r_seconds r_thirds t_length t_bytes) [(0, .ref a_r), (1, .int x1)] 6 []) (h : bd_X6_readDirection_6 Q B6 r_start r_stop r_kind t_bytes x1) :
    J x 0 0 2 (W_Reader cyI cyJ cyZ a_r a_r_verbs a_r_firsts a_r_seconds a_r_thirds a_t a_t_bytes r_lines r_columns r_rows r_start r_stop r_kind r_verbs r_firsts r_seconds r_thirds t_length t_bytes) [(0, .ref a_r), (1, .int x1)] 6 [] := by
  unfold bd_X6_readDirection_6 at h
  refine j_iload_n cx 1 rfl rfl dX6_readDirection_6 (pn := 7) rfl ?_
  refine j_iconst cx (v := 4) (by decide) dX6_readDirection_7 (pn := 8) rfl ?_
  refine j_icmp_ge cx 30 dX6_readDirection_8 (pn := 11) rfl rfl (fun c2 => ?_) (fun c2 => ?_)
  · have h := h.1 c2
    refine j_iconst cx (v := (-1)) (by decide) dX6_readDirection_30 (pn := 31) rfl ?_
    exact hR (-1) (r_start, r_stop, r_kind) 31 _ dX6_readDirection_31 h
  · have h := h.2 c2
    refine j_aload_n cx 0 rfl rfl dX6_readDirection_11 (pn := 12) rfl ?_
    refine j_iload_n cx 1 rfl rfl dX6_readDirection_12 (pn := 13) rfl ?_
    refine j_calleS cx q_stat_X6_directionName (As := [.int x1]) (rest := [.ref a_r]) (c_X6_directionName h) ⟨q_code_X6_directionName, q_ml_X6_92, q_init_X6, hd_X6_directionName, ⟨Nat.le_of_ble_eq_true rfl, Nat.le_of_ble_eq_true rfl⟩, Nat.le_of_ble_eq_true rfl, Nat.le_of_ble_eq_true rfl⟩ rfl rfl (Nat.le_of_ble_eq_true rfl) dX6_readDirection_13 (pn := 16) rfl (fun r3 h => ?_)
    show J x 0 0 2 (W_Reader cyI cyJ cyZ a_r a_r_verbs a_r_firsts a_r_seconds a_r_thirds a_t a_t_bytes r_lines r_columns r_rows r_start r_stop r_kind r_verbs r_firsts r_seconds r_thirds t_length t_bytes) [(0, .ref a_r), (1, .int x1)] 16 [.ref (D.2.1 r3), .ref a_r]
    refine j_callvI0 cx q_inst_X6_tokenIs q_sel_X6_tokenIs (b := a_r) (As := [.ref (D.2.1 r3)]) (rest := []) (c_X6_tokenIs h) ⟨q_code_X6_tokenIs, q_ml_X6_88, q_init_X6, hd_X6_tokenIs, ⟨Nat.le_of_ble_eq_true rfl, Nat.le_of_ble_eq_true rfl⟩, Nat.le_of_ble_eq_true rfl, Nat.le_of_ble_eq_true rfl⟩ (q0 := 0) rfl rfl rfl rfl (Nat.le_of_ble_eq_true rfl) dX6_readDirection_16 (pn := 19) rfl (fun r4 _ h => ?_)
    show J x 0 0 2 (W_Reader cyI cyJ cyZ a_r a_r_verbs a_r_firsts a_r_seconds a_r_thirds a_t a_t_bytes r_lines r_columns r_rows r_start r_stop r_kind r_verbs r_firsts r_seconds r_thirds t_length t_bytes) [(0, .ref a_r), (1, .int x1)] 19 [.int r4]
    refine j_if_eq cx 24 dX6_readDirection_19 (pn := 22) rfl rfl (fun c5 => ?_) (fun c5 => ?_)
    · have h := h.1 c5
      obtain ⟨y6, ey6⟩ : ∃ z : Int32, z = x1 + 1 := ⟨_, rfl⟩
      have h := h y6 ey6
      refine j_iinc cx 1 rfl (cst := 1) (by decide) ey6 [(1, .int y6), (0, .ref a_r)] (by decide) rfl dX6_readDirection_24 (pn := 27) rfl ?_
      refine j_goto cx 6 dX6_readDirection_27 rfl ?_
      refine j_sub [1, 0] [(0, .ref a_r), (1, .int y6)] rfl ?_
      exact hB6 _ h
    · have h := h.2 c5
      refine j_iload_n cx 1 rfl rfl dX6_readDirection_22 (pn := 23) rfl ?_
      exact hR x1 (r_start, r_stop, r_kind) 23 _ dX6_readDirection_23 h
set_option maxHeartbeats 4000000 in
set_option maxRecDepth 100000 in
theorem J_X6_readDirection_6 {x : CX} {D : DG} {cyI cyJ cyZ : ClassId} {a_r a_r_verbs a_r_firsts a_r_seconds a_r_thirds a_t a_t_bytes : Nat} {r_lines : Int32} {r_columns : Int32} {r_rows : Int32} {r_start : Int32} {r_stop : Int32} {r_kind : Int32} {r_verbs : Nat → Int32} {r_firsts : Nat → Int32} {r_seconds : Nat → Int32} {r_thirds : Nat → Int32} {t_length : Int32} {t_bytes : Nat → Int32} {x1 : Int32} {Q : Int32 → Int32 × Int32 × Int32 → Prop} (cx : Cx x cX6_readDirection 2 RX6 rm_X6_readDirection D [(cyI, .int), (cyJ, .long), (cyZ, .boolean)]) (hR : ∀ (v : Int32) (u : Int32 × Int32 × Int32) (pc : Nat) (lv : List (Nat × Value)), decode cX6_readDirection pc = .ok (.ireturn, 1) → Q v u → J x 0 0 2 (W_Reader cyI cyJ cyZ a_r a_r_verbs a_r_firsts a_r_seconds a_r_thirds a_t a_t_bytes r_lines r_columns r_rows u.1 u.2.1 u.2.2 r_verbs r_firsts r_seconds r_thirds t_length t_bytes) lv pc [.int v]) (h : lp_X6_readDirection_6 Q  r_start r_stop r_kind t_bytes x1) :
    J x 0 0 2 (W_Reader cyI cyJ cyZ a_r a_r_verbs a_r_firsts a_r_seconds a_r_thirds a_t a_t_bytes r_lines r_columns r_rows r_start r_stop r_kind r_verbs r_firsts r_seconds r_thirds t_length t_bytes) [(0, .ref a_r), (1, .int x1)] 6 [] := by
  obtain ⟨I, ⟨n, h0⟩, hb⟩ := h
  revert x1
  induction n using Nat.strongRecOn with
  | _ n ih =>
    intro x1 h0
    exact B_X6_readDirection_6 cx hR (fun _ hz => by obtain ⟨n2, hlt, hI⟩ := hz; exact ih n2 hlt hI) (hb n x1 h0)
set_option maxHeartbeats 4000000 in
set_option maxRecDepth 100000 in
theorem c_X6_readDirection {D : DG} {cyI cyJ cyZ : ClassId} {a_r a_r_verbs a_r_firsts a_r_seconds a_r_thirds a_t a_t_bytes : Nat} {r_lines : Int32} {r_columns : Int32} {r_rows : Int32} {r_start : Int32} {r_stop : Int32} {r_kind : Int32} {r_verbs : Nat → Int32} {r_firsts : Nat → Int32} {r_seconds : Nat → Int32} {r_thirds : Nat → Int32} {t_length : Int32} {t_bytes : Nat → Int32} {Q : Int32 → Int32 × Int32 × Int32 → Prop} (h : wp_X6_readDirection r_stop t_length t_bytes Q) :
    MetI yX6_readDirection cX6_readDirection 2 (some .int) rm_X6_readDirection D [(cyI, .int), (cyJ, .long), (cyZ, .boolean)] [.ref a_r] (W_Reader cyI cyJ cyZ a_r a_r_verbs a_r_firsts a_r_seconds a_r_thirds a_t a_t_bytes r_lines r_columns r_rows r_start r_stop r_kind r_verbs r_firsts r_seconds r_thirds t_length t_bytes) (fun u : Int32 × Int32 × Int32 => (W_Reader cyI cyJ cyZ a_r a_r_verbs a_r_firsts a_r_seconds a_r_thirds a_t a_t_bytes r_lines r_columns r_rows u.1 u.2.1 u.2.2 r_verbs r_firsts r_seconds r_thirds t_length t_bytes)) (fun v u => Q v u) := by
  unfold wp_X6_readDirection at h
  refine metI_of (by decide) (Nat.le_of_ble_eq_true rfl) (fun x cx0 hR0 => ?_)
  have cx : Cx x cX6_readDirection 2 RX6 rm_X6_readDirection D [(cyI, .int), (cyJ, .long), (cyZ, .boolean)] := cx0
  have hR : ∀ (v : Int32) (u : Int32 × Int32 × Int32) (pc : Nat) (lv : List (Nat × Value)), decode cX6_readDirection pc = .ok (.ireturn, 1) → Q v u → J x 0 0 2 (W_Reader cyI cyJ cyZ a_r a_r_verbs a_r_firsts a_r_seconds a_r_thirds a_t a_t_bytes r_lines r_columns r_rows u.1 u.2.1 u.2.2 r_verbs r_firsts r_seconds r_thirds t_length t_bytes) lv pc [.int v] := (fun v u pc lv d hq => hR0 v u pc lv d hq)
  show J x 0 0 2 (W_Reader cyI cyJ cyZ a_r a_r_verbs a_r_firsts a_r_seconds a_r_thirds a_t a_t_bytes r_lines r_columns r_rows r_start r_stop r_kind r_verbs r_firsts r_seconds r_thirds t_length t_bytes) [(0, .ref a_r)] 0 []
  refine j_aload_n cx 0 rfl rfl dX6_readDirection_0 (pn := 1) rfl ?_
  refine j_callvV0 cx q_inst_X6_nextToken q_sel_X6_nextToken (b := a_r) (As := []) (rest := []) (c_X6_nextToken h) ⟨q_code_X6_nextToken, q_ml_X6_48, q_init_X6, hd_X6_nextToken, ⟨Nat.le_of_ble_eq_true rfl, Nat.le_of_ble_eq_true rfl⟩, Nat.le_of_ble_eq_true rfl, Nat.le_of_ble_eq_true rfl⟩ (q0 := 0) rfl rfl rfl rfl (Nat.le_of_ble_eq_true rfl) dX6_readDirection_1 (pn := 4) rfl (fun u1 h => ?_)
  show J x 0 0 2 (W_Reader cyI cyJ cyZ a_r a_r_verbs a_r_firsts a_r_seconds a_r_thirds a_t a_t_bytes r_lines r_columns r_rows u1.1 u1.2.1 u1.2.2 r_verbs r_firsts r_seconds r_thirds t_length t_bytes) [(0, .ref a_r)] 4 []
  refine j_iconst cx (v := 0) (by decide) dX6_readDirection_4 (pn := 5) rfl ?_
  refine j_istore_n cx rfl [(1, .int 0), (0, .ref a_r)] (by decide) rfl dX6_readDirection_5 (pn := 6) rfl ?_
  refine j_sub [1, 0] [(0, .ref a_r), (1, .int 0)] rfl ?_
  exact J_X6_readDirection_6 cx hR h
theorem dX6_readLine_0 : decode cX6_readLine 0 = .ok (.aload_n 0, 1) := by decide +kernel
theorem dX6_readLine_1 : decode cX6_readLine 1 = .ok (.invokevirtual 63, 3) := by decide +kernel
theorem dX6_readLine_4 : decode cX6_readLine 4 = .ok (.istore_n 2, 1) := by decide +kernel
theorem dX6_readLine_5 : decode cX6_readLine 5 = .ok (.aload_n 0, 1) := by decide +kernel
theorem dX6_readLine_6 : decode cX6_readLine 6 = .ok (.getfield 9, 3) := by decide +kernel
theorem dX6_readLine_9 : decode cX6_readLine 9 = .ok (.iload_n 1, 1) := by decide +kernel
theorem dX6_readLine_10 : decode cX6_readLine 10 = .ok (.iload_n 2, 1) := by decide +kernel
theorem dX6_readLine_11 : decode cX6_readLine 11 = .ok (.iastore, 1) := by decide +kernel
theorem dX6_readLine_12 : decode cX6_readLine 12 = .ok (.iload_n 2, 1) := by decide +kernel
theorem dX6_readLine_13 : decode cX6_readLine 13 = .ok (.tableswitch 198 0 10 #[59, 65, 97, 97, 103, 103, 132, 148, 164, 180, 196], 59) := by decide +kernel
theorem dX6_readLine_72 : decode cX6_readLine 72 = .ok (.aload_n 0, 1) := by decide +kernel
theorem dX6_readLine_73 : decode cX6_readLine 73 = .ok (.iload_n 1, 1) := by decide +kernel
theorem dX6_readLine_74 : decode cX6_readLine 74 = .ok (.invokevirtual 67, 3) := by decide +kernel
theorem dX6_readLine_77 : decode cX6_readLine 77 = .ok (.ireturn, 1) := by decide +kernel
theorem dX6_readLine_78 : decode cX6_readLine 78 = .ok (.aload_n 0, 1) := by decide +kernel
theorem dX6_readLine_79 : decode cX6_readLine 79 = .ok (.iload_n 1, 1) := by decide +kernel
theorem dX6_readLine_80 : decode cX6_readLine 80 = .ok (.invokevirtual 70, 3) := by decide +kernel
theorem dX6_readLine_83 : decode cX6_readLine 83 = .ok (.ifCond .eq 25, 3) := by decide +kernel
theorem dX6_readLine_86 : decode cX6_readLine 86 = .ok (.aload_n 0, 1) := by decide +kernel
theorem dX6_readLine_87 : decode cX6_readLine 87 = .ok (.getfield 21, 3) := by decide +kernel
theorem dX6_readLine_90 : decode cX6_readLine 90 = .ok (.iload_n 1, 1) := by decide +kernel
theorem dX6_readLine_91 : decode cX6_readLine 91 = .ok (.aload_n 0, 1) := by decide +kernel
theorem dX6_readLine_92 : decode cX6_readLine 92 = .ok (.iconst 0, 1) := by decide +kernel
theorem dX6_readLine_93 : decode cX6_readLine 93 = .ok (.bipush 9, 2) := by decide +kernel
theorem dX6_readLine_95 : decode cX6_readLine 95 = .ok (.invokevirtual 73, 3) := by decide +kernel
theorem dX6_readLine_98 : decode cX6_readLine 98 = .ok (.invokestatic 77, 3) := by decide +kernel
theorem dX6_readLine_101 : decode cX6_readLine 101 = .ok (.ifCond .eq 7, 3) := by decide +kernel
theorem dX6_readLine_104 : decode cX6_readLine 104 = .ok (.iconst 1, 1) := by decide +kernel
theorem dX6_readLine_105 : decode cX6_readLine 105 = .ok (.goto 4, 3) := by decide +kernel
theorem dX6_readLine_108 : decode cX6_readLine 108 = .ok (.iconst 0, 1) := by decide +kernel
theorem dX6_readLine_109 : decode cX6_readLine 109 = .ok (.ireturn, 1) := by decide +kernel
theorem dX6_readLine_110 : decode cX6_readLine 110 = .ok (.aload_n 0, 1) := by decide +kernel
theorem dX6_readLine_111 : decode cX6_readLine 111 = .ok (.iload_n 1, 1) := by decide +kernel
theorem dX6_readLine_112 : decode cX6_readLine 112 = .ok (.invokevirtual 70, 3) := by decide +kernel
theorem dX6_readLine_115 : decode cX6_readLine 115 = .ok (.ireturn, 1) := by decide +kernel
theorem dX6_readLine_116 : decode cX6_readLine 116 = .ok (.aload_n 0, 1) := by decide +kernel
theorem dX6_readLine_117 : decode cX6_readLine 117 = .ok (.iload_n 1, 1) := by decide +kernel
theorem dX6_readLine_118 : decode cX6_readLine 118 = .ok (.invokevirtual 70, 3) := by decide +kernel
theorem dX6_readLine_121 : decode cX6_readLine 121 = .ok (.ifCond .eq 22, 3) := by decide +kernel
theorem dX6_readLine_124 : decode cX6_readLine 124 = .ok (.aload_n 0, 1) := by decide +kernel
theorem dX6_readLine_125 : decode cX6_readLine 125 = .ok (.getfield 21, 3) := by decide +kernel
theorem dX6_readLine_128 : decode cX6_readLine 128 = .ok (.iload_n 1, 1) := by decide +kernel
theorem dX6_readLine_129 : decode cX6_readLine 129 = .ok (.aload_n 0, 1) := by decide +kernel
theorem dX6_readLine_130 : decode cX6_readLine 130 = .ok (.invokevirtual 81, 3) := by decide +kernel
theorem dX6_readLine_133 : decode cX6_readLine 133 = .ok (.invokestatic 77, 3) := by decide +kernel
theorem dX6_readLine_136 : decode cX6_readLine 136 = .ok (.ifCond .eq 7, 3) := by decide +kernel
theorem dX6_readLine_139 : decode cX6_readLine 139 = .ok (.iconst 1, 1) := by decide +kernel
theorem dX6_readLine_140 : decode cX6_readLine 140 = .ok (.goto 4, 3) := by decide +kernel
theorem dX6_readLine_143 : decode cX6_readLine 143 = .ok (.iconst 0, 1) := by decide +kernel
theorem dX6_readLine_144 : decode cX6_readLine 144 = .ok (.ireturn, 1) := by decide +kernel
theorem dX6_readLine_145 : decode cX6_readLine 145 = .ok (.aload_n 0, 1) := by decide +kernel
theorem dX6_readLine_146 : decode cX6_readLine 146 = .ok (.getfield 15, 3) := by decide +kernel
theorem dX6_readLine_149 : decode cX6_readLine 149 = .ok (.iload_n 1, 1) := by decide +kernel
theorem dX6_readLine_150 : decode cX6_readLine 150 = .ok (.aload_n 0, 1) := by decide +kernel
theorem dX6_readLine_151 : decode cX6_readLine 151 = .ok (.iconst 0, 1) := by decide +kernel
theorem dX6_readLine_152 : decode cX6_readLine 152 = .ok (.bipush 60, 2) := by decide +kernel
theorem dX6_readLine_154 : decode cX6_readLine 154 = .ok (.invokevirtual 73, 3) := by decide +kernel
theorem dX6_readLine_157 : decode cX6_readLine 157 = .ok (.invokestatic 77, 3) := by decide +kernel
theorem dX6_readLine_160 : decode cX6_readLine 160 = .ok (.ireturn, 1) := by decide +kernel
theorem dX6_readLine_161 : decode cX6_readLine 161 = .ok (.aload_n 0, 1) := by decide +kernel
theorem dX6_readLine_162 : decode cX6_readLine 162 = .ok (.getfield 15, 3) := by decide +kernel
theorem dX6_readLine_165 : decode cX6_readLine 165 = .ok (.iload_n 1, 1) := by decide +kernel
theorem dX6_readLine_166 : decode cX6_readLine 166 = .ok (.aload_n 0, 1) := by decide +kernel
theorem dX6_readLine_167 : decode cX6_readLine 167 = .ok (.iconst 0, 1) := by decide +kernel
theorem dX6_readLine_168 : decode cX6_readLine 168 = .ok (.bipush 90, 2) := by decide +kernel
theorem dX6_readLine_170 : decode cX6_readLine 170 = .ok (.invokevirtual 73, 3) := by decide +kernel
theorem dX6_readLine_173 : decode cX6_readLine 173 = .ok (.invokestatic 77, 3) := by decide +kernel
theorem dX6_readLine_176 : decode cX6_readLine 176 = .ok (.ireturn, 1) := by decide +kernel
theorem dX6_readLine_177 : decode cX6_readLine 177 = .ok (.aload_n 0, 1) := by decide +kernel
theorem dX6_readLine_178 : decode cX6_readLine 178 = .ok (.getfield 15, 3) := by decide +kernel
theorem dX6_readLine_181 : decode cX6_readLine 181 = .ok (.iload_n 1, 1) := by decide +kernel
theorem dX6_readLine_182 : decode cX6_readLine 182 = .ok (.aload_n 0, 1) := by decide +kernel
theorem dX6_readLine_183 : decode cX6_readLine 183 = .ok (.iconst 0, 1) := by decide +kernel
theorem dX6_readLine_184 : decode cX6_readLine 184 = .ok (.bipush 99, 2) := by decide +kernel
theorem dX6_readLine_186 : decode cX6_readLine 186 = .ok (.invokevirtual 73, 3) := by decide +kernel
theorem dX6_readLine_189 : decode cX6_readLine 189 = .ok (.invokestatic 77, 3) := by decide +kernel
theorem dX6_readLine_192 : decode cX6_readLine 192 = .ok (.ireturn, 1) := by decide +kernel
theorem dX6_readLine_193 : decode cX6_readLine 193 = .ok (.aload_n 0, 1) := by decide +kernel
theorem dX6_readLine_194 : decode cX6_readLine 194 = .ok (.getfield 15, 3) := by decide +kernel
theorem dX6_readLine_197 : decode cX6_readLine 197 = .ok (.iload_n 1, 1) := by decide +kernel
theorem dX6_readLine_198 : decode cX6_readLine 198 = .ok (.aload_n 0, 1) := by decide +kernel
theorem dX6_readLine_199 : decode cX6_readLine 199 = .ok (.iconst 0, 1) := by decide +kernel
theorem dX6_readLine_200 : decode cX6_readLine 200 = .ok (.bipush 19, 2) := by decide +kernel
theorem dX6_readLine_202 : decode cX6_readLine 202 = .ok (.invokevirtual 73, 3) := by decide +kernel
theorem dX6_readLine_205 : decode cX6_readLine 205 = .ok (.invokestatic 77, 3) := by decide +kernel
theorem dX6_readLine_208 : decode cX6_readLine 208 = .ok (.ireturn, 1) := by decide +kernel
theorem dX6_readLine_209 : decode cX6_readLine 209 = .ok (.iconst 1, 1) := by decide +kernel
theorem dX6_readLine_210 : decode cX6_readLine 210 = .ok (.ireturn, 1) := by decide +kernel
theorem dX6_readLine_211 : decode cX6_readLine 211 = .ok (.iconst 0, 1) := by decide +kernel
theorem dX6_readLine_212 : decode cX6_readLine 212 = .ok (.ireturn, 1) := by decide +kernel
abbrev rm_X6_readLine : Room := { frames := 6, cells := 0, slots := 0, locals := 128 }
theorem hd_X6_readLine : yX6_readLine.cls ≠ "java/lang/invoke/MethodHandle" ∧ yX6_readLine.cls ≠ "java/lang/invoke/VarHandle" ∧ (parseMethodDescriptor yX6_readLine.desc).map (fun d => d.parameters.length) = some 1 := by decide +kernel
def wp_X6_readLine (p1 : Int32) (r_columns : Int32) (r_rows : Int32) (r_stop : Int32) (r_verbs : Nat → Int32) (r_firsts : Nat → Int32) (r_seconds : Nat → Int32) (r_thirds : Nat → Int32) (t_length : Int32) (t_bytes : Nat → Int32) (Q : Int32 → (Int32 × Int32 × Int32 × Int32 × Int32 × (Nat → Int32) × (Nat → Int32) × (Nat → Int32) × (Nat → Int32)) → Prop) : Prop :=
wp_X6_readVerb r_stop t_length t_bytes (fun (r1 : Int32) (u2 : Int32 × Int32 × Int32) => vp_in p1 10 ∧ (∀ f3 : Nat → Int32, f3 = (upd r_verbs p1.toNatClampNeg r1) →
((r1 = 0 → wp_X6_readSize p1 r_columns r_rows u2.2.1 r_firsts r_seconds t_length t_bytes (fun (r4 : Int32) (u5 : Int32 × Int32 × Int32 × Int32 × Int32 × (Nat → Int32) × (Nat → Int32)) => (r4 = 0 ∨ r4 = 1) ∧ Q r4 (u5.1, u5.2.1, u5.2.2.1, u5.2.2.2.1, u5.2.2.2.2.1, f3, u5.2.2.2.2.2.1, u5.2.2.2.2.2.2, r_thirds))) ∧
(r1 = 1 → wp_X6_readPlace p1 r_columns r_rows u2.2.1 r_firsts r_seconds t_length t_bytes (fun (r6 : Int32) (u7 : Int32 × Int32 × Int32 × (Nat → Int32) × (Nat → Int32)) => ((r6 = 0 → Q 0 (r_columns, r_rows, u7.1, u7.2.1, u7.2.2.1, f3, u7.2.2.2.1, u7.2.2.2.2, r_thirds)) ∧
(¬ r6 = 0 → wp_X6_readNumber 0 9 u7.2.1 t_length t_bytes (fun (r9 : Int32) (u10 : Int32 × Int32 × Int32) => wp_X6_keep 10 p1 r9 r_thirds (fun (r11 : Int32) (u12 : (Nat → Int32)) => ((r11 = 0 → Q 0 (r_columns, r_rows, u10.1, u10.2.1, u10.2.2, f3, u7.2.2.2.1, u7.2.2.2.2, u12)) ∧
(¬ r11 = 0 → Q 1 (r_columns, r_rows, u10.1, u10.2.1, u10.2.2, f3, u7.2.2.2.1, u7.2.2.2.2, u12))))))))) ∧
(r1 = 2 → wp_X6_readPlace p1 r_columns r_rows u2.2.1 r_firsts r_seconds t_length t_bytes (fun (r14 : Int32) (u15 : Int32 × Int32 × Int32 × (Nat → Int32) × (Nat → Int32)) => (r14 = 0 ∨ r14 = 1) ∧ Q r14 (r_columns, r_rows, u15.1, u15.2.1, u15.2.2.1, f3, u15.2.2.2.1, u15.2.2.2.2, r_thirds))) ∧
(r1 = 3 → wp_X6_readPlace p1 r_columns r_rows u2.2.1 r_firsts r_seconds t_length t_bytes (fun (r16 : Int32) (u17 : Int32 × Int32 × Int32 × (Nat → Int32) × (Nat → Int32)) => (r16 = 0 ∨ r16 = 1) ∧ Q r16 (r_columns, r_rows, u17.1, u17.2.1, u17.2.2.1, f3, u17.2.2.2.1, u17.2.2.2.2, r_thirds))) ∧
(r1 = 4 → wp_X6_readPlace p1 r_columns r_rows u2.2.1 r_firsts r_seconds t_length t_bytes (fun (r18 : Int32) (u19 : Int32 × Int32 × Int32 × (Nat → Int32) × (Nat → Int32)) => ((r18 = 0 → Q 0 (r_columns, r_rows, u19.1, u19.2.1, u19.2.2.1, f3, u19.2.2.2.1, u19.2.2.2.2, r_thirds)) ∧
(¬ r18 = 0 → wp_X6_readDirection u19.2.1 t_length t_bytes (fun (r21 : Int32) (u22 : Int32 × Int32 × Int32) => wp_X6_keep 10 p1 r21 r_thirds (fun (r23 : Int32) (u24 : (Nat → Int32)) => ((r23 = 0 → Q 0 (r_columns, r_rows, u22.1, u22.2.1, u22.2.2, f3, u19.2.2.2.1, u19.2.2.2.2, u24)) ∧
(¬ r23 = 0 → Q 1 (r_columns, r_rows, u22.1, u22.2.1, u22.2.2, f3, u19.2.2.2.1, u19.2.2.2.2, u24))))))))) ∧
(r1 = 5 → wp_X6_readPlace p1 r_columns r_rows u2.2.1 r_firsts r_seconds t_length t_bytes (fun (r26 : Int32) (u27 : Int32 × Int32 × Int32 × (Nat → Int32) × (Nat → Int32)) => ((r26 = 0 → Q 0 (r_columns, r_rows, u27.1, u27.2.1, u27.2.2.1, f3, u27.2.2.2.1, u27.2.2.2.2, r_thirds)) ∧
(¬ r26 = 0 → wp_X6_readDirection u27.2.1 t_length t_bytes (fun (r29 : Int32) (u30 : Int32 × Int32 × Int32) => wp_X6_keep 10 p1 r29 r_thirds (fun (r31 : Int32) (u32 : (Nat → Int32)) => ((r31 = 0 → Q 0 (r_columns, r_rows, u30.1, u30.2.1, u30.2.2, f3, u27.2.2.2.1, u27.2.2.2.2, u32)) ∧
(¬ r31 = 0 → Q 1 (r_columns, r_rows, u30.1, u30.2.1, u30.2.2, f3, u27.2.2.2.1, u27.2.2.2.2, u32))))))))) ∧
(r1 = 6 → wp_X6_readNumber 0 60 u2.2.1 t_length t_bytes (fun (r34 : Int32) (u35 : Int32 × Int32 × Int32) => wp_X6_keep 10 p1 r34 r_firsts (fun (r36 : Int32) (u37 : (Nat → Int32)) => (r36 = 0 ∨ r36 = 1) ∧ Q r36 (r_columns, r_rows, u35.1, u35.2.1, u35.2.2, f3, u37, r_seconds, r_thirds)))) ∧
(r1 = 7 → wp_X6_readNumber 0 90 u2.2.1 t_length t_bytes (fun (r38 : Int32) (u39 : Int32 × Int32 × Int32) => wp_X6_keep 10 p1 r38 r_firsts (fun (r40 : Int32) (u41 : (Nat → Int32)) => (r40 = 0 ∨ r40 = 1) ∧ Q r40 (r_columns, r_rows, u39.1, u39.2.1, u39.2.2, f3, u41, r_seconds, r_thirds)))) ∧
(r1 = 8 → wp_X6_readNumber 0 99 u2.2.1 t_length t_bytes (fun (r42 : Int32) (u43 : Int32 × Int32 × Int32) => wp_X6_keep 10 p1 r42 r_firsts (fun (r44 : Int32) (u45 : (Nat → Int32)) => (r44 = 0 ∨ r44 = 1) ∧ Q r44 (r_columns, r_rows, u43.1, u43.2.1, u43.2.2, f3, u45, r_seconds, r_thirds)))) ∧
(r1 = 9 → wp_X6_readNumber 0 19 u2.2.1 t_length t_bytes (fun (r46 : Int32) (u47 : Int32 × Int32 × Int32) => wp_X6_keep 10 p1 r46 r_firsts (fun (r48 : Int32) (u49 : (Nat → Int32)) => (r48 = 0 ∨ r48 = 1) ∧ Q r48 (r_columns, r_rows, u47.1, u47.2.1, u47.2.2, f3, u49, r_seconds, r_thirds)))) ∧
(r1 = 10 → Q 1 (r_columns, r_rows, u2.1, u2.2.1, u2.2.2, f3, r_firsts, r_seconds, r_thirds)) ∧
((¬ r1 = 0 ∧ ¬ r1 = 1 ∧ ¬ r1 = 2 ∧ ¬ r1 = 3 ∧ ¬ r1 = 4 ∧ ¬ r1 = 5 ∧ ¬ r1 = 6 ∧ ¬ r1 = 7 ∧ ¬ r1 = 8 ∧ ¬ r1 = 9 ∧ ¬ r1 = 10) → Q 0 (r_columns, r_rows, u2.1, u2.2.1, u2.2.2, f3, r_firsts, r_seconds, r_thirds)))))
set_option maxHeartbeats 4000000 in
set_option maxRecDepth 100000 in
theorem c_X6_readLine {D : DG} {cyI cyJ cyZ : ClassId} {a_r a_r_verbs a_r_firsts a_r_seconds a_r_thirds a_t a_t_bytes : Nat} {r_lines : Int32} {r_columns : Int32} {r_rows : Int32} {r_start : Int32} {r_stop : Int32} {r_kind : Int32} {r_verbs : Nat → Int32} {r_firsts : Nat → Int32} {r_seconds : Nat → Int32} {r_thirds : Nat → Int32} {t_length : Int32} {t_bytes : Nat → Int32} {p1 : Int32} {Q : Int32 → (Int32 × Int32 × Int32 × Int32 × Int32 × (Nat → Int32) × (Nat → Int32) × (Nat → Int32) × (Nat → Int32)) → Prop} (h : wp_X6_readLine p1 r_columns r_rows r_stop r_verbs r_firsts r_seconds r_thirds t_length t_bytes Q) :
    MetI yX6_readLine cX6_readLine 3 (some .boolean) rm_X6_readLine D [(cyI, .int), (cyJ, .long), (cyZ, .boolean)] [.ref a_r, .int p1] (W_Reader cyI cyJ cyZ a_r a_r_verbs a_r_firsts a_r_seconds a_r_thirds a_t a_t_bytes r_lines r_columns r_rows r_start r_stop r_kind r_verbs r_firsts r_seconds r_thirds t_length t_bytes) (fun u : Int32 × Int32 × Int32 × Int32 × Int32 × (Nat → Int32) × (Nat → Int32) × (Nat → Int32) × (Nat → Int32) => (W_Reader cyI cyJ cyZ a_r a_r_verbs a_r_firsts a_r_seconds a_r_thirds a_t a_t_bytes r_lines u.1 u.2.1 u.2.2.1 u.2.2.2.1 u.2.2.2.2.1 u.2.2.2.2.2.1 u.2.2.2.2.2.2.1 u.2.2.2.2.2.2.2.1 u.2.2.2.2.2.2.2.2 t_length t_bytes)) (fun v u => Q v u) := by
  unfold wp_X6_readLine at h
  refine metZ_of (by decide) (Nat.le_of_ble_eq_true rfl) (fun x cx0 hR0 => ?_)
  have cx : Cx x cX6_readLine 3 RX6 rm_X6_readLine D [(cyI, .int), (cyJ, .long), (cyZ, .boolean)] := cx0
  have hR : ∀ (v : Int32) (u : Int32 × Int32 × Int32 × Int32 × Int32 × (Nat → Int32) × (Nat → Int32) × (Nat → Int32) × (Nat → Int32)) (pc : Nat) (lv : List (Nat × Value)), decode cX6_readLine pc = .ok (.ireturn, 1) → (v = 0 ∨ v = 1) → Q v u → J x 0 0 3 (W_Reader cyI cyJ cyZ a_r a_r_verbs a_r_firsts a_r_seconds a_r_thirds a_t a_t_bytes r_lines u.1 u.2.1 u.2.2.1 u.2.2.2.1 u.2.2.2.2.1 u.2.2.2.2.2.1 u.2.2.2.2.2.2.1 u.2.2.2.2.2.2.2.1 u.2.2.2.2.2.2.2.2 t_length t_bytes) lv pc [.int v] := (fun v u pc lv d hz hq => hR0 v u pc lv d hz hq)
  show J x 0 0 3 (W_Reader cyI cyJ cyZ a_r a_r_verbs a_r_firsts a_r_seconds a_r_thirds a_t a_t_bytes r_lines r_columns r_rows r_start r_stop r_kind r_verbs r_firsts r_seconds r_thirds t_length t_bytes) [(0, .ref a_r), (1, .int p1)] 0 []
  refine j_aload_n cx 0 rfl rfl dX6_readLine_0 (pn := 1) rfl ?_
  refine j_callvI0 cx q_inst_X6_readVerb q_sel_X6_readVerb (b := a_r) (As := []) (rest := []) (c_X6_readVerb h) ⟨q_code_X6_readVerb, q_ml_X6_63, q_init_X6, hd_X6_readVerb, ⟨Nat.le_of_ble_eq_true rfl, Nat.le_of_ble_eq_true rfl⟩, Nat.le_of_ble_eq_true rfl, Nat.le_of_ble_eq_true rfl⟩ (q0 := 0) rfl rfl rfl rfl (Nat.le_of_ble_eq_true rfl) dX6_readLine_1 (pn := 4) rfl (fun r1 u2 h => ?_)
  show J x 0 0 3 (W_Reader cyI cyJ cyZ a_r a_r_verbs a_r_firsts a_r_seconds a_r_thirds a_t a_t_bytes r_lines r_columns r_rows u2.1 u2.2.1 u2.2.2 r_verbs r_firsts r_seconds r_thirds t_length t_bytes) [(0, .ref a_r), (1, .int p1)] 4 [.int r1]
  refine j_istore_n cx rfl [(2, .int r1), (0, .ref a_r), (1, .int p1)] (by decide) rfl dX6_readLine_4 (pn := 5) rfl ?_
  refine j_aload_n cx 1 rfl rfl dX6_readLine_5 (pn := 6) rfl ?_
  refine j_get cx inGX6 0 rfl rfl 1 (by decide) q_fl_X6_9 rfl rfl dX6_readLine_6 (pn := 9) rfl ?_
  refine j_iload_n cx 2 rfl rfl dX6_readLine_9 (pn := 10) rfl ?_
  refine j_iload_n cx 0 rfl rfl dX6_readLine_10 (pn := 11) rfl ?_
  have hin := h.1
  obtain ⟨f3, ef3⟩ : ∃ z, z = upd r_verbs p1.toNatClampNeg r1 := ⟨_, rfl⟩
  have h := h.2 f3 ef3
  refine j_iast cx 1 0 rfl rfl hin (W_Reader cyI cyJ cyZ a_r a_r_verbs a_r_firsts a_r_seconds a_r_thirds a_t a_t_bytes r_lines r_columns r_rows u2.1 u2.2.1 u2.2.2 f3 r_firsts r_seconds r_thirds t_length t_bytes) (by subst ef3; rfl) dX6_readLine_11 (pn := 12) rfl ?_
  refine j_iload_n cx 0 rfl rfl dX6_readLine_12 (pn := 13) rfl ?_
  by_cases k0 : r1 = 0
  · refine j_tabIn cx 72 dX6_readLine_13 (by rw [k0]; decide) (by rw [k0]; decide) (off := 59) (by rw [k0]; rfl) rfl ?_
    have h := h.1 k0
    refine j_aload_n cx 1 rfl rfl dX6_readLine_72 (pn := 73) rfl ?_
    refine j_iload_n cx 2 rfl rfl dX6_readLine_73 (pn := 74) rfl ?_
    refine j_callvI0 cx q_inst_X6_readSize q_sel_X6_readSize (b := a_r) (As := [.int p1]) (rest := []) (c_X6_readSize h) ⟨q_code_X6_readSize, q_ml_X6_67, q_init_X6, hd_X6_readSize, ⟨Nat.le_of_ble_eq_true rfl, Nat.le_of_ble_eq_true rfl⟩, Nat.le_of_ble_eq_true rfl, Nat.le_of_ble_eq_true rfl⟩ (q0 := 0) rfl rfl rfl rfl (Nat.le_of_ble_eq_true rfl) dX6_readLine_74 (pn := 77) rfl (fun r4 u5 h => ?_)
    show J x 0 0 3 (W_Reader cyI cyJ cyZ a_r a_r_verbs a_r_firsts a_r_seconds a_r_thirds a_t a_t_bytes r_lines u5.1 u5.2.1 u5.2.2.1 u5.2.2.2.1 u5.2.2.2.2.1 f3 u5.2.2.2.2.2.1 u5.2.2.2.2.2.2 r_thirds t_length t_bytes) [(2, .int r1), (0, .ref a_r), (1, .int p1)] 77 [.int r4]
    exact hR r4 (u5.1, u5.2.1, u5.2.2.1, u5.2.2.2.1, u5.2.2.2.2.1, f3, u5.2.2.2.2.2.1, u5.2.2.2.2.2.2, r_thirds) 77 _ dX6_readLine_77 h.1 h.2
  by_cases k1 : r1 = 1
  · refine j_tabIn cx 78 dX6_readLine_13 (by rw [k1]; decide) (by rw [k1]; decide) (off := 65) (by rw [k1]; rfl) rfl ?_
    have h := h.2.1 k1
    refine j_aload_n cx 1 rfl rfl dX6_readLine_78 (pn := 79) rfl ?_
    refine j_iload_n cx 2 rfl rfl dX6_readLine_79 (pn := 80) rfl ?_
    refine j_callvI0 cx q_inst_X6_readPlace q_sel_X6_readPlace (b := a_r) (As := [.int p1]) (rest := []) (c_X6_readPlace h) ⟨q_code_X6_readPlace, q_ml_X6_70, q_init_X6, hd_X6_readPlace, ⟨Nat.le_of_ble_eq_true rfl, Nat.le_of_ble_eq_true rfl⟩, Nat.le_of_ble_eq_true rfl, Nat.le_of_ble_eq_true rfl⟩ (q0 := 0) rfl rfl rfl rfl (Nat.le_of_ble_eq_true rfl) dX6_readLine_80 (pn := 83) rfl (fun r6 u7 h => ?_)
    show J x 0 0 3 (W_Reader cyI cyJ cyZ a_r a_r_verbs a_r_firsts a_r_seconds a_r_thirds a_t a_t_bytes r_lines r_columns r_rows u7.1 u7.2.1 u7.2.2.1 f3 u7.2.2.2.1 u7.2.2.2.2 r_thirds t_length t_bytes) [(2, .int r1), (0, .ref a_r), (1, .int p1)] 83 [.int r6]
    refine j_if_eq cx 108 dX6_readLine_83 (pn := 86) rfl rfl (fun c8 => ?_) (fun c8 => ?_)
    · have h := h.1 c8
      refine j_iconst cx (v := 0) (by decide) dX6_readLine_108 (pn := 109) rfl ?_
      exact hR 0 (r_columns, r_rows, u7.1, u7.2.1, u7.2.2.1, f3, u7.2.2.2.1, u7.2.2.2.2, r_thirds) 109 _ dX6_readLine_109 (Or.inl rfl) h
    · have h := h.2 c8
      refine j_aload_n cx 1 rfl rfl dX6_readLine_86 (pn := 87) rfl ?_
      refine j_get cx inGX6 0 rfl rfl 4 (by decide) q_fl_X6_21 rfl rfl dX6_readLine_87 (pn := 90) rfl ?_
      refine j_iload_n cx 2 rfl rfl dX6_readLine_90 (pn := 91) rfl ?_
      refine j_aload_n cx 1 rfl rfl dX6_readLine_91 (pn := 92) rfl ?_
      refine j_iconst cx (v := 0) (by decide) dX6_readLine_92 (pn := 93) rfl ?_
      refine j_bipush cx (v := 9) (by decide) dX6_readLine_93 (pn := 95) rfl ?_
      refine j_callvI0 cx q_inst_X6_readNumber q_sel_X6_readNumber (b := a_r) (As := [.int 0, .int 9]) (rest := [.int p1, .ref a_r_thirds]) (c_X6_readNumber h) ⟨q_code_X6_readNumber, q_ml_X6_73, q_init_X6, hd_X6_readNumber, ⟨Nat.le_of_ble_eq_true rfl, Nat.le_of_ble_eq_true rfl⟩, Nat.le_of_ble_eq_true rfl, Nat.le_of_ble_eq_true rfl⟩ (q0 := 0) rfl rfl rfl rfl (Nat.le_of_ble_eq_true rfl) dX6_readLine_95 (pn := 98) rfl (fun r9 u10 h => ?_)
      show J x 0 0 3 (W_Reader cyI cyJ cyZ a_r a_r_verbs a_r_firsts a_r_seconds a_r_thirds a_t a_t_bytes r_lines r_columns r_rows u10.1 u10.2.1 u10.2.2 f3 u7.2.2.2.1 u7.2.2.2.2 r_thirds t_length t_bytes) [(2, .int r1), (0, .ref a_r), (1, .int p1)] 98 [.int r9, .int p1, .ref a_r_thirds]
      refine j_callsI cx q_stat_X6_keep (As := [.ref a_r_thirds, .int p1, .int r9]) (rest := []) (W_Arr cyI cyJ cyZ 10 a_r_thirds r_thirds) [(a_r, .inr (6, [.ref a_t, .ref a_r_verbs, .ref a_r_firsts, .ref a_r_seconds, .ref a_r_thirds, .int r_lines, .int r_columns, .int r_rows, .int u10.1, .int u10.2.1, .int u10.2.2])), (a_r_verbs, .inl (cyI, 10, .inl f3)), (a_r_firsts, .inl (cyI, 10, .inl u7.2.2.2.1)), (a_r_seconds, .inl (cyI, 10, .inl u7.2.2.2.2)), (a_t, .inr (8, [.ref a_t_bytes, .int t_length])), (a_t_bytes, .inl (cyI, 200, .inl t_bytes))] (c_X6_keep h) ⟨q_code_X6_keep, q_ml_X6_77, q_init_X6, hd_X6_keep, ⟨Nat.le_of_ble_eq_true rfl, Nat.le_of_ble_eq_true rfl⟩, Nat.le_of_ble_eq_true rfl, Nat.le_of_ble_eq_true rfl⟩ rfl [4] [0, 1, 2, 3, 5, 6] [0, 1, 2, 3, 6, 4, 5] rfl rfl rfl rfl rfl (by decide) (fun u : (Nat → Int32) => (W_Reader cyI cyJ cyZ a_r a_r_verbs a_r_firsts a_r_seconds a_r_thirds a_t a_t_bytes r_lines r_columns r_rows u10.1 u10.2.1 u10.2.2 f3 u7.2.2.2.1 u7.2.2.2.2 u t_length t_bytes)) (fun _ => rfl) (fun _ => rfl) rfl rfl (Nat.le_of_ble_eq_true rfl) dX6_readLine_98 (pn := 101) rfl (fun r11 u12 h => ?_)
      show J x 0 0 3 (W_Reader cyI cyJ cyZ a_r a_r_verbs a_r_firsts a_r_seconds a_r_thirds a_t a_t_bytes r_lines r_columns r_rows u10.1 u10.2.1 u10.2.2 f3 u7.2.2.2.1 u7.2.2.2.2 u12 t_length t_bytes) [(2, .int r1), (0, .ref a_r), (1, .int p1)] 101 [.int r11]
      refine j_if_eq cx 108 dX6_readLine_101 (pn := 104) rfl rfl (fun c13 => ?_) (fun c13 => ?_)
      · have h := h.1 c13
        refine j_iconst cx (v := 0) (by decide) dX6_readLine_108 (pn := 109) rfl ?_
        exact hR 0 (r_columns, r_rows, u10.1, u10.2.1, u10.2.2, f3, u7.2.2.2.1, u7.2.2.2.2, u12) 109 _ dX6_readLine_109 (Or.inl rfl) h
      · have h := h.2 c13
        refine j_iconst cx (v := 1) (by decide) dX6_readLine_104 (pn := 105) rfl ?_
        refine j_goto cx 109 dX6_readLine_105 rfl ?_
        exact hR 1 (r_columns, r_rows, u10.1, u10.2.1, u10.2.2, f3, u7.2.2.2.1, u7.2.2.2.2, u12) 109 _ dX6_readLine_109 (Or.inr rfl) h
  by_cases k2 : r1 = 2
  · refine j_tabIn cx 110 dX6_readLine_13 (by rw [k2]; decide) (by rw [k2]; decide) (off := 97) (by rw [k2]; rfl) rfl ?_
    have h := h.2.2.1 k2
    refine j_aload_n cx 1 rfl rfl dX6_readLine_110 (pn := 111) rfl ?_
    refine j_iload_n cx 2 rfl rfl dX6_readLine_111 (pn := 112) rfl ?_
    refine j_callvI0 cx q_inst_X6_readPlace q_sel_X6_readPlace (b := a_r) (As := [.int p1]) (rest := []) (c_X6_readPlace h) ⟨q_code_X6_readPlace, q_ml_X6_70, q_init_X6, hd_X6_readPlace, ⟨Nat.le_of_ble_eq_true rfl, Nat.le_of_ble_eq_true rfl⟩, Nat.le_of_ble_eq_true rfl, Nat.le_of_ble_eq_true rfl⟩ (q0 := 0) rfl rfl rfl rfl (Nat.le_of_ble_eq_true rfl) dX6_readLine_112 (pn := 115) rfl (fun r14 u15 h => ?_)
    show J x 0 0 3 (W_Reader cyI cyJ cyZ a_r a_r_verbs a_r_firsts a_r_seconds a_r_thirds a_t a_t_bytes r_lines r_columns r_rows u15.1 u15.2.1 u15.2.2.1 f3 u15.2.2.2.1 u15.2.2.2.2 r_thirds t_length t_bytes) [(2, .int r1), (0, .ref a_r), (1, .int p1)] 115 [.int r14]
    exact hR r14 (r_columns, r_rows, u15.1, u15.2.1, u15.2.2.1, f3, u15.2.2.2.1, u15.2.2.2.2, r_thirds) 115 _ dX6_readLine_115 h.1 h.2
  by_cases k3 : r1 = 3
  · refine j_tabIn cx 110 dX6_readLine_13 (by rw [k3]; decide) (by rw [k3]; decide) (off := 97) (by rw [k3]; rfl) rfl ?_
    have h := h.2.2.2.1 k3
    refine j_aload_n cx 1 rfl rfl dX6_readLine_110 (pn := 111) rfl ?_
    refine j_iload_n cx 2 rfl rfl dX6_readLine_111 (pn := 112) rfl ?_
    refine j_callvI0 cx q_inst_X6_readPlace q_sel_X6_readPlace (b := a_r) (As := [.int p1]) (rest := []) (c_X6_readPlace h) ⟨q_code_X6_readPlace, q_ml_X6_70, q_init_X6, hd_X6_readPlace, ⟨Nat.le_of_ble_eq_true rfl, Nat.le_of_ble_eq_true rfl⟩, Nat.le_of_ble_eq_true rfl, Nat.le_of_ble_eq_true rfl⟩ (q0 := 0) rfl rfl rfl rfl (Nat.le_of_ble_eq_true rfl) dX6_readLine_112 (pn := 115) rfl (fun r16 u17 h => ?_)
    show J x 0 0 3 (W_Reader cyI cyJ cyZ a_r a_r_verbs a_r_firsts a_r_seconds a_r_thirds a_t a_t_bytes r_lines r_columns r_rows u17.1 u17.2.1 u17.2.2.1 f3 u17.2.2.2.1 u17.2.2.2.2 r_thirds t_length t_bytes) [(2, .int r1), (0, .ref a_r), (1, .int p1)] 115 [.int r16]
    exact hR r16 (r_columns, r_rows, u17.1, u17.2.1, u17.2.2.1, f3, u17.2.2.2.1, u17.2.2.2.2, r_thirds) 115 _ dX6_readLine_115 h.1 h.2
  by_cases k4 : r1 = 4
  · refine j_tabIn cx 116 dX6_readLine_13 (by rw [k4]; decide) (by rw [k4]; decide) (off := 103) (by rw [k4]; rfl) rfl ?_
    have h := h.2.2.2.2.1 k4
    refine j_aload_n cx 1 rfl rfl dX6_readLine_116 (pn := 117) rfl ?_
    refine j_iload_n cx 2 rfl rfl dX6_readLine_117 (pn := 118) rfl ?_
    refine j_callvI0 cx q_inst_X6_readPlace q_sel_X6_readPlace (b := a_r) (As := [.int p1]) (rest := []) (c_X6_readPlace h) ⟨q_code_X6_readPlace, q_ml_X6_70, q_init_X6, hd_X6_readPlace, ⟨Nat.le_of_ble_eq_true rfl, Nat.le_of_ble_eq_true rfl⟩, Nat.le_of_ble_eq_true rfl, Nat.le_of_ble_eq_true rfl⟩ (q0 := 0) rfl rfl rfl rfl (Nat.le_of_ble_eq_true rfl) dX6_readLine_118 (pn := 121) rfl (fun r18 u19 h => ?_)
    show J x 0 0 3 (W_Reader cyI cyJ cyZ a_r a_r_verbs a_r_firsts a_r_seconds a_r_thirds a_t a_t_bytes r_lines r_columns r_rows u19.1 u19.2.1 u19.2.2.1 f3 u19.2.2.2.1 u19.2.2.2.2 r_thirds t_length t_bytes) [(2, .int r1), (0, .ref a_r), (1, .int p1)] 121 [.int r18]
    refine j_if_eq cx 143 dX6_readLine_121 (pn := 124) rfl rfl (fun c20 => ?_) (fun c20 => ?_)
    · have h := h.1 c20
      refine j_iconst cx (v := 0) (by decide) dX6_readLine_143 (pn := 144) rfl ?_
      exact hR 0 (r_columns, r_rows, u19.1, u19.2.1, u19.2.2.1, f3, u19.2.2.2.1, u19.2.2.2.2, r_thirds) 144 _ dX6_readLine_144 (Or.inl rfl) h
    · have h := h.2 c20
      refine j_aload_n cx 1 rfl rfl dX6_readLine_124 (pn := 125) rfl ?_
      refine j_get cx inGX6 0 rfl rfl 4 (by decide) q_fl_X6_21 rfl rfl dX6_readLine_125 (pn := 128) rfl ?_
      refine j_iload_n cx 2 rfl rfl dX6_readLine_128 (pn := 129) rfl ?_
      refine j_aload_n cx 1 rfl rfl dX6_readLine_129 (pn := 130) rfl ?_
      refine j_callvI0 cx q_inst_X6_readDirection q_sel_X6_readDirection (b := a_r) (As := []) (rest := [.int p1, .ref a_r_thirds]) (c_X6_readDirection h) ⟨q_code_X6_readDirection, q_ml_X6_81, q_init_X6, hd_X6_readDirection, ⟨Nat.le_of_ble_eq_true rfl, Nat.le_of_ble_eq_true rfl⟩, Nat.le_of_ble_eq_true rfl, Nat.le_of_ble_eq_true rfl⟩ (q0 := 0) rfl rfl rfl rfl (Nat.le_of_ble_eq_true rfl) dX6_readLine_130 (pn := 133) rfl (fun r21 u22 h => ?_)
      show J x 0 0 3 (W_Reader cyI cyJ cyZ a_r a_r_verbs a_r_firsts a_r_seconds a_r_thirds a_t a_t_bytes r_lines r_columns r_rows u22.1 u22.2.1 u22.2.2 f3 u19.2.2.2.1 u19.2.2.2.2 r_thirds t_length t_bytes) [(2, .int r1), (0, .ref a_r), (1, .int p1)] 133 [.int r21, .int p1, .ref a_r_thirds]
      refine j_callsI cx q_stat_X6_keep (As := [.ref a_r_thirds, .int p1, .int r21]) (rest := []) (W_Arr cyI cyJ cyZ 10 a_r_thirds r_thirds) [(a_r, .inr (6, [.ref a_t, .ref a_r_verbs, .ref a_r_firsts, .ref a_r_seconds, .ref a_r_thirds, .int r_lines, .int r_columns, .int r_rows, .int u22.1, .int u22.2.1, .int u22.2.2])), (a_r_verbs, .inl (cyI, 10, .inl f3)), (a_r_firsts, .inl (cyI, 10, .inl u19.2.2.2.1)), (a_r_seconds, .inl (cyI, 10, .inl u19.2.2.2.2)), (a_t, .inr (8, [.ref a_t_bytes, .int t_length])), (a_t_bytes, .inl (cyI, 200, .inl t_bytes))] (c_X6_keep h) ⟨q_code_X6_keep, q_ml_X6_77, q_init_X6, hd_X6_keep, ⟨Nat.le_of_ble_eq_true rfl, Nat.le_of_ble_eq_true rfl⟩, Nat.le_of_ble_eq_true rfl, Nat.le_of_ble_eq_true rfl⟩ rfl [4] [0, 1, 2, 3, 5, 6] [0, 1, 2, 3, 6, 4, 5] rfl rfl rfl rfl rfl (by decide) (fun u : (Nat → Int32) => (W_Reader cyI cyJ cyZ a_r a_r_verbs a_r_firsts a_r_seconds a_r_thirds a_t a_t_bytes r_lines r_columns r_rows u22.1 u22.2.1 u22.2.2 f3 u19.2.2.2.1 u19.2.2.2.2 u t_length t_bytes)) (fun _ => rfl) (fun _ => rfl) rfl rfl (Nat.le_of_ble_eq_true rfl) dX6_readLine_133 (pn := 136) rfl (fun r23 u24 h => ?_)
      show J x 0 0 3 (W_Reader cyI cyJ cyZ a_r a_r_verbs a_r_firsts a_r_seconds a_r_thirds a_t a_t_bytes r_lines r_columns r_rows u22.1 u22.2.1 u22.2.2 f3 u19.2.2.2.1 u19.2.2.2.2 u24 t_length t_bytes) [(2, .int r1), (0, .ref a_r), (1, .int p1)] 136 [.int r23]
      refine j_if_eq cx 143 dX6_readLine_136 (pn := 139) rfl rfl (fun c25 => ?_) (fun c25 => ?_)
      · have h := h.1 c25
        refine j_iconst cx (v := 0) (by decide) dX6_readLine_143 (pn := 144) rfl ?_
        exact hR 0 (r_columns, r_rows, u22.1, u22.2.1, u22.2.2, f3, u19.2.2.2.1, u19.2.2.2.2, u24) 144 _ dX6_readLine_144 (Or.inl rfl) h
      · have h := h.2 c25
        refine j_iconst cx (v := 1) (by decide) dX6_readLine_139 (pn := 140) rfl ?_
        refine j_goto cx 144 dX6_readLine_140 rfl ?_
        exact hR 1 (r_columns, r_rows, u22.1, u22.2.1, u22.2.2, f3, u19.2.2.2.1, u19.2.2.2.2, u24) 144 _ dX6_readLine_144 (Or.inr rfl) h
  by_cases k5 : r1 = 5
  · refine j_tabIn cx 116 dX6_readLine_13 (by rw [k5]; decide) (by rw [k5]; decide) (off := 103) (by rw [k5]; rfl) rfl ?_
    have h := h.2.2.2.2.2.1 k5
    refine j_aload_n cx 1 rfl rfl dX6_readLine_116 (pn := 117) rfl ?_
    refine j_iload_n cx 2 rfl rfl dX6_readLine_117 (pn := 118) rfl ?_
    refine j_callvI0 cx q_inst_X6_readPlace q_sel_X6_readPlace (b := a_r) (As := [.int p1]) (rest := []) (c_X6_readPlace h) ⟨q_code_X6_readPlace, q_ml_X6_70, q_init_X6, hd_X6_readPlace, ⟨Nat.le_of_ble_eq_true rfl, Nat.le_of_ble_eq_true rfl⟩, Nat.le_of_ble_eq_true rfl, Nat.le_of_ble_eq_true rfl⟩ (q0 := 0) rfl rfl rfl rfl (Nat.le_of_ble_eq_true rfl) dX6_readLine_118 (pn := 121) rfl (fun r26 u27 h => ?_)
    show J x 0 0 3 (W_Reader cyI cyJ cyZ a_r a_r_verbs a_r_firsts a_r_seconds a_r_thirds a_t a_t_bytes r_lines r_columns r_rows u27.1 u27.2.1 u27.2.2.1 f3 u27.2.2.2.1 u27.2.2.2.2 r_thirds t_length t_bytes) [(2, .int r1), (0, .ref a_r), (1, .int p1)] 121 [.int r26]
    refine j_if_eq cx 143 dX6_readLine_121 (pn := 124) rfl rfl (fun c28 => ?_) (fun c28 => ?_)
    · have h := h.1 c28
      refine j_iconst cx (v := 0) (by decide) dX6_readLine_143 (pn := 144) rfl ?_
      exact hR 0 (r_columns, r_rows, u27.1, u27.2.1, u27.2.2.1, f3, u27.2.2.2.1, u27.2.2.2.2, r_thirds) 144 _ dX6_readLine_144 (Or.inl rfl) h
    · have h := h.2 c28
      refine j_aload_n cx 1 rfl rfl dX6_readLine_124 (pn := 125) rfl ?_
      refine j_get cx inGX6 0 rfl rfl 4 (by decide) q_fl_X6_21 rfl rfl dX6_readLine_125 (pn := 128) rfl ?_
      refine j_iload_n cx 2 rfl rfl dX6_readLine_128 (pn := 129) rfl ?_
      refine j_aload_n cx 1 rfl rfl dX6_readLine_129 (pn := 130) rfl ?_
      refine j_callvI0 cx q_inst_X6_readDirection q_sel_X6_readDirection (b := a_r) (As := []) (rest := [.int p1, .ref a_r_thirds]) (c_X6_readDirection h) ⟨q_code_X6_readDirection, q_ml_X6_81, q_init_X6, hd_X6_readDirection, ⟨Nat.le_of_ble_eq_true rfl, Nat.le_of_ble_eq_true rfl⟩, Nat.le_of_ble_eq_true rfl, Nat.le_of_ble_eq_true rfl⟩ (q0 := 0) rfl rfl rfl rfl (Nat.le_of_ble_eq_true rfl) dX6_readLine_130 (pn := 133) rfl (fun r29 u30 h => ?_)
      show J x 0 0 3 (W_Reader cyI cyJ cyZ a_r a_r_verbs a_r_firsts a_r_seconds a_r_thirds a_t a_t_bytes r_lines r_columns r_rows u30.1 u30.2.1 u30.2.2 f3 u27.2.2.2.1 u27.2.2.2.2 r_thirds t_length t_bytes) [(2, .int r1), (0, .ref a_r), (1, .int p1)] 133 [.int r29, .int p1, .ref a_r_thirds]
      refine j_callsI cx q_stat_X6_keep (As := [.ref a_r_thirds, .int p1, .int r29]) (rest := []) (W_Arr cyI cyJ cyZ 10 a_r_thirds r_thirds) [(a_r, .inr (6, [.ref a_t, .ref a_r_verbs, .ref a_r_firsts, .ref a_r_seconds, .ref a_r_thirds, .int r_lines, .int r_columns, .int r_rows, .int u30.1, .int u30.2.1, .int u30.2.2])), (a_r_verbs, .inl (cyI, 10, .inl f3)), (a_r_firsts, .inl (cyI, 10, .inl u27.2.2.2.1)), (a_r_seconds, .inl (cyI, 10, .inl u27.2.2.2.2)), (a_t, .inr (8, [.ref a_t_bytes, .int t_length])), (a_t_bytes, .inl (cyI, 200, .inl t_bytes))] (c_X6_keep h) ⟨q_code_X6_keep, q_ml_X6_77, q_init_X6, hd_X6_keep, ⟨Nat.le_of_ble_eq_true rfl, Nat.le_of_ble_eq_true rfl⟩, Nat.le_of_ble_eq_true rfl, Nat.le_of_ble_eq_true rfl⟩ rfl [4] [0, 1, 2, 3, 5, 6] [0, 1, 2, 3, 6, 4, 5] rfl rfl rfl rfl rfl (by decide) (fun u : (Nat → Int32) => (W_Reader cyI cyJ cyZ a_r a_r_verbs a_r_firsts a_r_seconds a_r_thirds a_t a_t_bytes r_lines r_columns r_rows u30.1 u30.2.1 u30.2.2 f3 u27.2.2.2.1 u27.2.2.2.2 u t_length t_bytes)) (fun _ => rfl) (fun _ => rfl) rfl rfl (Nat.le_of_ble_eq_true rfl) dX6_readLine_133 (pn := 136) rfl (fun r31 u32 h => ?_)
      show J x 0 0 3 (W_Reader cyI cyJ cyZ a_r a_r_verbs a_r_firsts a_r_seconds a_r_thirds a_t a_t_bytes r_lines r_columns r_rows u30.1 u30.2.1 u30.2.2 f3 u27.2.2.2.1 u27.2.2.2.2 u32 t_length t_bytes) [(2, .int r1), (0, .ref a_r), (1, .int p1)] 136 [.int r31]
      refine j_if_eq cx 143 dX6_readLine_136 (pn := 139) rfl rfl (fun c33 => ?_) (fun c33 => ?_)
      · have h := h.1 c33
        refine j_iconst cx (v := 0) (by decide) dX6_readLine_143 (pn := 144) rfl ?_
        exact hR 0 (r_columns, r_rows, u30.1, u30.2.1, u30.2.2, f3, u27.2.2.2.1, u27.2.2.2.2, u32) 144 _ dX6_readLine_144 (Or.inl rfl) h
      · have h := h.2 c33
        refine j_iconst cx (v := 1) (by decide) dX6_readLine_139 (pn := 140) rfl ?_
        refine j_goto cx 144 dX6_readLine_140 rfl ?_
        exact hR 1 (r_columns, r_rows, u30.1, u30.2.1, u30.2.2, f3, u27.2.2.2.1, u27.2.2.2.2, u32) 144 _ dX6_readLine_144 (Or.inr rfl) h
  by_cases k6 : r1 = 6
  · refine j_tabIn cx 145 dX6_readLine_13 (by rw [k6]; decide) (by rw [k6]; decide) (off := 132) (by rw [k6]; rfl) rfl ?_
    have h := h.2.2.2.2.2.2.1 k6
    refine j_aload_n cx 1 rfl rfl dX6_readLine_145 (pn := 146) rfl ?_
    refine j_get cx inGX6 0 rfl rfl 2 (by decide) q_fl_X6_15 rfl rfl dX6_readLine_146 (pn := 149) rfl ?_
    refine j_iload_n cx 2 rfl rfl dX6_readLine_149 (pn := 150) rfl ?_
    refine j_aload_n cx 1 rfl rfl dX6_readLine_150 (pn := 151) rfl ?_
    refine j_iconst cx (v := 0) (by decide) dX6_readLine_151 (pn := 152) rfl ?_
    refine j_bipush cx (v := 60) (by decide) dX6_readLine_152 (pn := 154) rfl ?_
    refine j_callvI0 cx q_inst_X6_readNumber q_sel_X6_readNumber (b := a_r) (As := [.int 0, .int 60]) (rest := [.int p1, .ref a_r_firsts]) (c_X6_readNumber h) ⟨q_code_X6_readNumber, q_ml_X6_73, q_init_X6, hd_X6_readNumber, ⟨Nat.le_of_ble_eq_true rfl, Nat.le_of_ble_eq_true rfl⟩, Nat.le_of_ble_eq_true rfl, Nat.le_of_ble_eq_true rfl⟩ (q0 := 0) rfl rfl rfl rfl (Nat.le_of_ble_eq_true rfl) dX6_readLine_154 (pn := 157) rfl (fun r34 u35 h => ?_)
    show J x 0 0 3 (W_Reader cyI cyJ cyZ a_r a_r_verbs a_r_firsts a_r_seconds a_r_thirds a_t a_t_bytes r_lines r_columns r_rows u35.1 u35.2.1 u35.2.2 f3 r_firsts r_seconds r_thirds t_length t_bytes) [(2, .int r1), (0, .ref a_r), (1, .int p1)] 157 [.int r34, .int p1, .ref a_r_firsts]
    refine j_callsI cx q_stat_X6_keep (As := [.ref a_r_firsts, .int p1, .int r34]) (rest := []) (W_Arr cyI cyJ cyZ 10 a_r_firsts r_firsts) [(a_r, .inr (6, [.ref a_t, .ref a_r_verbs, .ref a_r_firsts, .ref a_r_seconds, .ref a_r_thirds, .int r_lines, .int r_columns, .int r_rows, .int u35.1, .int u35.2.1, .int u35.2.2])), (a_r_verbs, .inl (cyI, 10, .inl f3)), (a_r_seconds, .inl (cyI, 10, .inl r_seconds)), (a_r_thirds, .inl (cyI, 10, .inl r_thirds)), (a_t, .inr (8, [.ref a_t_bytes, .int t_length])), (a_t_bytes, .inl (cyI, 200, .inl t_bytes))] (c_X6_keep h) ⟨q_code_X6_keep, q_ml_X6_77, q_init_X6, hd_X6_keep, ⟨Nat.le_of_ble_eq_true rfl, Nat.le_of_ble_eq_true rfl⟩, Nat.le_of_ble_eq_true rfl, Nat.le_of_ble_eq_true rfl⟩ rfl [2] [0, 1, 3, 4, 5, 6] [0, 1, 6, 2, 3, 4, 5] rfl rfl rfl rfl rfl (by decide) (fun u : (Nat → Int32) => (W_Reader cyI cyJ cyZ a_r a_r_verbs a_r_firsts a_r_seconds a_r_thirds a_t a_t_bytes r_lines r_columns r_rows u35.1 u35.2.1 u35.2.2 f3 u r_seconds r_thirds t_length t_bytes)) (fun _ => rfl) (fun _ => rfl) rfl rfl (Nat.le_of_ble_eq_true rfl) dX6_readLine_157 (pn := 160) rfl (fun r36 u37 h => ?_)
    show J x 0 0 3 (W_Reader cyI cyJ cyZ a_r a_r_verbs a_r_firsts a_r_seconds a_r_thirds a_t a_t_bytes r_lines r_columns r_rows u35.1 u35.2.1 u35.2.2 f3 u37 r_seconds r_thirds t_length t_bytes) [(2, .int r1), (0, .ref a_r), (1, .int p1)] 160 [.int r36]
    exact hR r36 (r_columns, r_rows, u35.1, u35.2.1, u35.2.2, f3, u37, r_seconds, r_thirds) 160 _ dX6_readLine_160 h.1 h.2
  by_cases k7 : r1 = 7
  · refine j_tabIn cx 161 dX6_readLine_13 (by rw [k7]; decide) (by rw [k7]; decide) (off := 148) (by rw [k7]; rfl) rfl ?_
    have h := h.2.2.2.2.2.2.2.1 k7
    refine j_aload_n cx 1 rfl rfl dX6_readLine_161 (pn := 162) rfl ?_
    refine j_get cx inGX6 0 rfl rfl 2 (by decide) q_fl_X6_15 rfl rfl dX6_readLine_162 (pn := 165) rfl ?_
    refine j_iload_n cx 2 rfl rfl dX6_readLine_165 (pn := 166) rfl ?_
    refine j_aload_n cx 1 rfl rfl dX6_readLine_166 (pn := 167) rfl ?_
    refine j_iconst cx (v := 0) (by decide) dX6_readLine_167 (pn := 168) rfl ?_
    refine j_bipush cx (v := 90) (by decide) dX6_readLine_168 (pn := 170) rfl ?_
    refine j_callvI0 cx q_inst_X6_readNumber q_sel_X6_readNumber (b := a_r) (As := [.int 0, .int 90]) (rest := [.int p1, .ref a_r_firsts]) (c_X6_readNumber h) ⟨q_code_X6_readNumber, q_ml_X6_73, q_init_X6, hd_X6_readNumber, ⟨Nat.le_of_ble_eq_true rfl, Nat.le_of_ble_eq_true rfl⟩, Nat.le_of_ble_eq_true rfl, Nat.le_of_ble_eq_true rfl⟩ (q0 := 0) rfl rfl rfl rfl (Nat.le_of_ble_eq_true rfl) dX6_readLine_170 (pn := 173) rfl (fun r38 u39 h => ?_)
    show J x 0 0 3 (W_Reader cyI cyJ cyZ a_r a_r_verbs a_r_firsts a_r_seconds a_r_thirds a_t a_t_bytes r_lines r_columns r_rows u39.1 u39.2.1 u39.2.2 f3 r_firsts r_seconds r_thirds t_length t_bytes) [(2, .int r1), (0, .ref a_r), (1, .int p1)] 173 [.int r38, .int p1, .ref a_r_firsts]
    refine j_callsI cx q_stat_X6_keep (As := [.ref a_r_firsts, .int p1, .int r38]) (rest := []) (W_Arr cyI cyJ cyZ 10 a_r_firsts r_firsts) [(a_r, .inr (6, [.ref a_t, .ref a_r_verbs, .ref a_r_firsts, .ref a_r_seconds, .ref a_r_thirds, .int r_lines, .int r_columns, .int r_rows, .int u39.1, .int u39.2.1, .int u39.2.2])), (a_r_verbs, .inl (cyI, 10, .inl f3)), (a_r_seconds, .inl (cyI, 10, .inl r_seconds)), (a_r_thirds, .inl (cyI, 10, .inl r_thirds)), (a_t, .inr (8, [.ref a_t_bytes, .int t_length])), (a_t_bytes, .inl (cyI, 200, .inl t_bytes))] (c_X6_keep h) ⟨q_code_X6_keep, q_ml_X6_77, q_init_X6, hd_X6_keep, ⟨Nat.le_of_ble_eq_true rfl, Nat.le_of_ble_eq_true rfl⟩, Nat.le_of_ble_eq_true rfl, Nat.le_of_ble_eq_true rfl⟩ rfl [2] [0, 1, 3, 4, 5, 6] [0, 1, 6, 2, 3, 4, 5] rfl rfl rfl rfl rfl (by decide) (fun u : (Nat → Int32) => (W_Reader cyI cyJ cyZ a_r a_r_verbs a_r_firsts a_r_seconds a_r_thirds a_t a_t_bytes r_lines r_columns r_rows u39.1 u39.2.1 u39.2.2 f3 u r_seconds r_thirds t_length t_bytes)) (fun _ => rfl) (fun _ => rfl) rfl rfl (Nat.le_of_ble_eq_true rfl) dX6_readLine_173 (pn := 176) rfl (fun r40 u41 h => ?_)
    show J x 0 0 3 (W_Reader cyI cyJ cyZ a_r a_r_verbs a_r_firsts a_r_seconds a_r_thirds a_t a_t_bytes r_lines r_columns r_rows u39.1 u39.2.1 u39.2.2 f3 u41 r_seconds r_thirds t_length t_bytes) [(2, .int r1), (0, .ref a_r), (1, .int p1)] 176 [.int r40]
    exact hR r40 (r_columns, r_rows, u39.1, u39.2.1, u39.2.2, f3, u41, r_seconds, r_thirds) 176 _ dX6_readLine_176 h.1 h.2
  by_cases k8 : r1 = 8
  · refine j_tabIn cx 177 dX6_readLine_13 (by rw [k8]; decide) (by rw [k8]; decide) (off := 164) (by rw [k8]; rfl) rfl ?_
    have h := h.2.2.2.2.2.2.2.2.1 k8
    refine j_aload_n cx 1 rfl rfl dX6_readLine_177 (pn := 178) rfl ?_
    refine j_get cx inGX6 0 rfl rfl 2 (by decide) q_fl_X6_15 rfl rfl dX6_readLine_178 (pn := 181) rfl ?_
    refine j_iload_n cx 2 rfl rfl dX6_readLine_181 (pn := 182) rfl ?_
    refine j_aload_n cx 1 rfl rfl dX6_readLine_182 (pn := 183) rfl ?_
    refine j_iconst cx (v := 0) (by decide) dX6_readLine_183 (pn := 184) rfl ?_
    refine j_bipush cx (v := 99) (by decide) dX6_readLine_184 (pn := 186) rfl ?_
    refine j_callvI0 cx q_inst_X6_readNumber q_sel_X6_readNumber (b := a_r) (As := [.int 0, .int 99]) (rest := [.int p1, .ref a_r_firsts]) (c_X6_readNumber h) ⟨q_code_X6_readNumber, q_ml_X6_73, q_init_X6, hd_X6_readNumber, ⟨Nat.le_of_ble_eq_true rfl, Nat.le_of_ble_eq_true rfl⟩, Nat.le_of_ble_eq_true rfl, Nat.le_of_ble_eq_true rfl⟩ (q0 := 0) rfl rfl rfl rfl (Nat.le_of_ble_eq_true rfl) dX6_readLine_186 (pn := 189) rfl (fun r42 u43 h => ?_)
    show J x 0 0 3 (W_Reader cyI cyJ cyZ a_r a_r_verbs a_r_firsts a_r_seconds a_r_thirds a_t a_t_bytes r_lines r_columns r_rows u43.1 u43.2.1 u43.2.2 f3 r_firsts r_seconds r_thirds t_length t_bytes) [(2, .int r1), (0, .ref a_r), (1, .int p1)] 189 [.int r42, .int p1, .ref a_r_firsts]
    refine j_callsI cx q_stat_X6_keep (As := [.ref a_r_firsts, .int p1, .int r42]) (rest := []) (W_Arr cyI cyJ cyZ 10 a_r_firsts r_firsts) [(a_r, .inr (6, [.ref a_t, .ref a_r_verbs, .ref a_r_firsts, .ref a_r_seconds, .ref a_r_thirds, .int r_lines, .int r_columns, .int r_rows, .int u43.1, .int u43.2.1, .int u43.2.2])), (a_r_verbs, .inl (cyI, 10, .inl f3)), (a_r_seconds, .inl (cyI, 10, .inl r_seconds)), (a_r_thirds, .inl (cyI, 10, .inl r_thirds)), (a_t, .inr (8, [.ref a_t_bytes, .int t_length])), (a_t_bytes, .inl (cyI, 200, .inl t_bytes))] (c_X6_keep h) ⟨q_code_X6_keep, q_ml_X6_77, q_init_X6, hd_X6_keep, ⟨Nat.le_of_ble_eq_true rfl, Nat.le_of_ble_eq_true rfl⟩, Nat.le_of_ble_eq_true rfl, Nat.le_of_ble_eq_true rfl⟩ rfl [2] [0, 1, 3, 4, 5, 6] [0, 1, 6, 2, 3, 4, 5] rfl rfl rfl rfl rfl (by decide) (fun u : (Nat → Int32) => (W_Reader cyI cyJ cyZ a_r a_r_verbs a_r_firsts a_r_seconds a_r_thirds a_t a_t_bytes r_lines r_columns r_rows u43.1 u43.2.1 u43.2.2 f3 u r_seconds r_thirds t_length t_bytes)) (fun _ => rfl) (fun _ => rfl) rfl rfl (Nat.le_of_ble_eq_true rfl) dX6_readLine_189 (pn := 192) rfl (fun r44 u45 h => ?_)
    show J x 0 0 3 (W_Reader cyI cyJ cyZ a_r a_r_verbs a_r_firsts a_r_seconds a_r_thirds a_t a_t_bytes r_lines r_columns r_rows u43.1 u43.2.1 u43.2.2 f3 u45 r_seconds r_thirds t_length t_bytes) [(2, .int r1), (0, .ref a_r), (1, .int p1)] 192 [.int r44]
    exact hR r44 (r_columns, r_rows, u43.1, u43.2.1, u43.2.2, f3, u45, r_seconds, r_thirds) 192 _ dX6_readLine_192 h.1 h.2
  by_cases k9 : r1 = 9
  · refine j_tabIn cx 193 dX6_readLine_13 (by rw [k9]; decide) (by rw [k9]; decide) (off := 180) (by rw [k9]; rfl) rfl ?_
    have h := h.2.2.2.2.2.2.2.2.2.1 k9
    refine j_aload_n cx 1 rfl rfl dX6_readLine_193 (pn := 194) rfl ?_
    refine j_get cx inGX6 0 rfl rfl 2 (by decide) q_fl_X6_15 rfl rfl dX6_readLine_194 (pn := 197) rfl ?_
    refine j_iload_n cx 2 rfl rfl dX6_readLine_197 (pn := 198) rfl ?_
    refine j_aload_n cx 1 rfl rfl dX6_readLine_198 (pn := 199) rfl ?_
    refine j_iconst cx (v := 0) (by decide) dX6_readLine_199 (pn := 200) rfl ?_
    refine j_bipush cx (v := 19) (by decide) dX6_readLine_200 (pn := 202) rfl ?_
    refine j_callvI0 cx q_inst_X6_readNumber q_sel_X6_readNumber (b := a_r) (As := [.int 0, .int 19]) (rest := [.int p1, .ref a_r_firsts]) (c_X6_readNumber h) ⟨q_code_X6_readNumber, q_ml_X6_73, q_init_X6, hd_X6_readNumber, ⟨Nat.le_of_ble_eq_true rfl, Nat.le_of_ble_eq_true rfl⟩, Nat.le_of_ble_eq_true rfl, Nat.le_of_ble_eq_true rfl⟩ (q0 := 0) rfl rfl rfl rfl (Nat.le_of_ble_eq_true rfl) dX6_readLine_202 (pn := 205) rfl (fun r46 u47 h => ?_)
    show J x 0 0 3 (W_Reader cyI cyJ cyZ a_r a_r_verbs a_r_firsts a_r_seconds a_r_thirds a_t a_t_bytes r_lines r_columns r_rows u47.1 u47.2.1 u47.2.2 f3 r_firsts r_seconds r_thirds t_length t_bytes) [(2, .int r1), (0, .ref a_r), (1, .int p1)] 205 [.int r46, .int p1, .ref a_r_firsts]
    refine j_callsI cx q_stat_X6_keep (As := [.ref a_r_firsts, .int p1, .int r46]) (rest := []) (W_Arr cyI cyJ cyZ 10 a_r_firsts r_firsts) [(a_r, .inr (6, [.ref a_t, .ref a_r_verbs, .ref a_r_firsts, .ref a_r_seconds, .ref a_r_thirds, .int r_lines, .int r_columns, .int r_rows, .int u47.1, .int u47.2.1, .int u47.2.2])), (a_r_verbs, .inl (cyI, 10, .inl f3)), (a_r_seconds, .inl (cyI, 10, .inl r_seconds)), (a_r_thirds, .inl (cyI, 10, .inl r_thirds)), (a_t, .inr (8, [.ref a_t_bytes, .int t_length])), (a_t_bytes, .inl (cyI, 200, .inl t_bytes))] (c_X6_keep h) ⟨q_code_X6_keep, q_ml_X6_77, q_init_X6, hd_X6_keep, ⟨Nat.le_of_ble_eq_true rfl, Nat.le_of_ble_eq_true rfl⟩, Nat.le_of_ble_eq_true rfl, Nat.le_of_ble_eq_true rfl⟩ rfl [2] [0, 1, 3, 4, 5, 6] [0, 1, 6, 2, 3, 4, 5] rfl rfl rfl rfl rfl (by decide) (fun u : (Nat → Int32) => (W_Reader cyI cyJ cyZ a_r a_r_verbs a_r_firsts a_r_seconds a_r_thirds a_t a_t_bytes r_lines r_columns r_rows u47.1 u47.2.1 u47.2.2 f3 u r_seconds r_thirds t_length t_bytes)) (fun _ => rfl) (fun _ => rfl) rfl rfl (Nat.le_of_ble_eq_true rfl) dX6_readLine_205 (pn := 208) rfl (fun r48 u49 h => ?_)
    show J x 0 0 3 (W_Reader cyI cyJ cyZ a_r a_r_verbs a_r_firsts a_r_seconds a_r_thirds a_t a_t_bytes r_lines r_columns r_rows u47.1 u47.2.1 u47.2.2 f3 u49 r_seconds r_thirds t_length t_bytes) [(2, .int r1), (0, .ref a_r), (1, .int p1)] 208 [.int r48]
    exact hR r48 (r_columns, r_rows, u47.1, u47.2.1, u47.2.2, f3, u49, r_seconds, r_thirds) 208 _ dX6_readLine_208 h.1 h.2
  by_cases k10 : r1 = 10
  · refine j_tabIn cx 209 dX6_readLine_13 (by rw [k10]; decide) (by rw [k10]; decide) (off := 196) (by rw [k10]; rfl) rfl ?_
    have h := h.2.2.2.2.2.2.2.2.2.2.1 k10
    refine j_iconst cx (v := 1) (by decide) dX6_readLine_209 (pn := 210) rfl ?_
    exact hR 1 (r_columns, r_rows, u2.1, u2.2.1, u2.2.2, f3, r_firsts, r_seconds, r_thirds) 210 _ dX6_readLine_210 (Or.inr rfl) h
  refine j_tabOut cx 211 dX6_readLine_13 (sw_out0_10 k0 k1 k2 k3 k4 k5 k6 k7 k8 k9 k10) rfl ?_
  have h := h.2.2.2.2.2.2.2.2.2.2.2 ⟨k0, k1, k2, k3, k4, k5, k6, k7, k8, k9, k10⟩
  refine j_iconst cx (v := 0) (by decide) dX6_readLine_211 (pn := 212) rfl ?_
  exact hR 0 (r_columns, r_rows, u2.1, u2.2.1, u2.2.2, f3, r_firsts, r_seconds, r_thirds) 212 _ dX6_readLine_212 (Or.inl rfl) h
theorem dX6_endsLine_0 : decode cX6_endsLine 0 = .ok (.aload_n 0, 1) := by decide +kernel
theorem dX6_endsLine_1 : decode cX6_endsLine 1 = .ok (.getfield 51, 3) := by decide +kernel
theorem dX6_endsLine_4 : decode cX6_endsLine 4 = .ok (.iconst 3, 1) := by decide +kernel
theorem dX6_endsLine_5 : decode cX6_endsLine 5 = .ok (.if_icmp .ne 24, 3) := by decide +kernel
theorem dX6_endsLine_8 : decode cX6_endsLine 8 = .ok (.aload_n 0, 1) := by decide +kernel
theorem dX6_endsLine_9 : decode cX6_endsLine 9 = .ok (.getfield 24, 3) := by decide +kernel
theorem dX6_endsLine_12 : decode cX6_endsLine 12 = .ok (.getfield 58, 3) := by decide +kernel
theorem dX6_endsLine_15 : decode cX6_endsLine 15 = .ok (.aload_n 0, 1) := by decide +kernel
theorem dX6_endsLine_16 : decode cX6_endsLine 16 = .ok (.getfield 45, 3) := by decide +kernel
theorem dX6_endsLine_19 : decode cX6_endsLine 19 = .ok (.iaload, 1) := by decide +kernel
theorem dX6_endsLine_20 : decode cX6_endsLine 20 = .ok (.bipush 59, 2) := by decide +kernel
theorem dX6_endsLine_22 : decode cX6_endsLine 22 = .ok (.if_icmp .ne 7, 3) := by decide +kernel
theorem dX6_endsLine_25 : decode cX6_endsLine 25 = .ok (.iconst 1, 1) := by decide +kernel
theorem dX6_endsLine_26 : decode cX6_endsLine 26 = .ok (.goto 4, 3) := by decide +kernel
theorem dX6_endsLine_29 : decode cX6_endsLine 29 = .ok (.iconst 0, 1) := by decide +kernel
theorem dX6_endsLine_30 : decode cX6_endsLine 30 = .ok (.ireturn, 1) := by decide +kernel
abbrev rm_X6_endsLine : Room := { frames := 0, cells := 0, slots := 0, locals := 0 }
theorem hd_X6_endsLine : yX6_endsLine.cls ≠ "java/lang/invoke/MethodHandle" ∧ yX6_endsLine.cls ≠ "java/lang/invoke/VarHandle" ∧ (parseMethodDescriptor yX6_endsLine.desc).map (fun d => d.parameters.length) = some 0 := by decide +kernel
def wp_X6_endsLine (r_start : Int32) (r_kind : Int32) (t_bytes : Nat → Int32) (Q : Int32 → Prop) : Prop :=
((¬ r_kind = 3 → Q 0) ∧
(r_kind = 3 → vp_in r_start 200 ∧ ((¬ (t_bytes r_start.toNatClampNeg) = 59 → Q 0) ∧
((t_bytes r_start.toNatClampNeg) = 59 → Q 1))))
set_option maxHeartbeats 4000000 in
set_option maxRecDepth 100000 in
theorem c_X6_endsLine {D : DG} {cyI cyJ cyZ : ClassId} {a_r a_r_verbs a_r_firsts a_r_seconds a_r_thirds a_t a_t_bytes : Nat} {r_lines : Int32} {r_columns : Int32} {r_rows : Int32} {r_start : Int32} {r_stop : Int32} {r_kind : Int32} {r_verbs : Nat → Int32} {r_firsts : Nat → Int32} {r_seconds : Nat → Int32} {r_thirds : Nat → Int32} {t_length : Int32} {t_bytes : Nat → Int32} {Q : Int32 → Prop} (h : wp_X6_endsLine r_start r_kind t_bytes Q) :
    MetI yX6_endsLine cX6_endsLine 1 (some .boolean) rm_X6_endsLine D [(cyI, .int), (cyJ, .long), (cyZ, .boolean)] [.ref a_r] (W_Reader cyI cyJ cyZ a_r a_r_verbs a_r_firsts a_r_seconds a_r_thirds a_t a_t_bytes r_lines r_columns r_rows r_start r_stop r_kind r_verbs r_firsts r_seconds r_thirds t_length t_bytes) (fun _ : Unit => (W_Reader cyI cyJ cyZ a_r a_r_verbs a_r_firsts a_r_seconds a_r_thirds a_t a_t_bytes r_lines r_columns r_rows r_start r_stop r_kind r_verbs r_firsts r_seconds r_thirds t_length t_bytes)) (fun v _ => Q v ) := by
  unfold wp_X6_endsLine at h
  refine metZ_of (by decide) (Nat.le_of_ble_eq_true rfl) (fun x cx0 hR0 => ?_)
  have cx : Cx x cX6_endsLine 1 RX6 rm_X6_endsLine D [(cyI, .int), (cyJ, .long), (cyZ, .boolean)] := cx0
  have hR : ∀ (v : Int32) (pc : Nat) (lv : List (Nat × Value)), decode cX6_endsLine pc = .ok (.ireturn, 1) → (v = 0 ∨ v = 1) → Q v → J x 0 0 1 (W_Reader cyI cyJ cyZ a_r a_r_verbs a_r_firsts a_r_seconds a_r_thirds a_t a_t_bytes r_lines r_columns r_rows r_start r_stop r_kind r_verbs r_firsts r_seconds r_thirds t_length t_bytes) lv pc [.int v] := (fun v pc lv d hz hq => hR0 v () pc lv d hz hq)
  show J x 0 0 1 (W_Reader cyI cyJ cyZ a_r a_r_verbs a_r_firsts a_r_seconds a_r_thirds a_t a_t_bytes r_lines r_columns r_rows r_start r_stop r_kind r_verbs r_firsts r_seconds r_thirds t_length t_bytes) [(0, .ref a_r)] 0 []
  refine j_aload_n cx 0 rfl rfl dX6_endsLine_0 (pn := 1) rfl ?_
  refine j_get cx inGX6 0 rfl rfl 10 (by decide) q_fl_X6_51 rfl rfl dX6_endsLine_1 (pn := 4) rfl ?_
  refine j_iconst cx (v := 3) (by decide) dX6_endsLine_4 (pn := 5) rfl ?_
  refine j_icmp_ne cx 29 dX6_endsLine_5 (pn := 8) rfl rfl (fun c1 => ?_) (fun c1 => ?_)
  · have h := h.1 c1
    refine j_iconst cx (v := 0) (by decide) dX6_endsLine_29 (pn := 30) rfl ?_
    exact hR 0 30 _ dX6_endsLine_30 (Or.inl rfl) h
  · have h := h.2 c1
    refine j_aload_n cx 0 rfl rfl dX6_endsLine_8 (pn := 9) rfl ?_
    refine j_get cx inGX6 0 rfl rfl 0 (by decide) q_fl_X6_24 rfl rfl dX6_endsLine_9 (pn := 12) rfl ?_
    refine j_getN cx inGX8 5 rfl rfl 0 (by decide) q_fl_X6_58 rfl rfl dX6_endsLine_12 (pn := 15) rfl ?_
    refine j_aload_n cx 0 rfl rfl dX6_endsLine_15 (pn := 16) rfl ?_
    refine j_get cx inGX6 0 rfl rfl 8 (by decide) q_fl_X6_45 rfl rfl dX6_endsLine_16 (pn := 19) rfl ?_
    refine j_iald cx 6 0 rfl rfl h.1 dX6_endsLine_19 (pn := 20) rfl ?_
    have h := h.2
    refine j_bipush cx (v := 59) (by decide) dX6_endsLine_20 (pn := 22) rfl ?_
    refine j_icmp_ne cx 29 dX6_endsLine_22 (pn := 25) rfl rfl (fun c2 => ?_) (fun c2 => ?_)
    · have h := h.1 c2
      refine j_iconst cx (v := 0) (by decide) dX6_endsLine_29 (pn := 30) rfl ?_
      exact hR 0 30 _ dX6_endsLine_30 (Or.inl rfl) h
    · have h := h.2 c2
      refine j_iconst cx (v := 1) (by decide) dX6_endsLine_25 (pn := 26) rfl ?_
      refine j_goto cx 30 dX6_endsLine_26 rfl ?_
      exact hR 1 30 _ dX6_endsLine_30 (Or.inr rfl) h
theorem dX6_read_0 : decode cX6_read 0 = .ok (.aload_n 0, 1) := by decide +kernel
theorem dX6_read_1 : decode cX6_read 1 = .ok (.iload_n 1, 1) := by decide +kernel
theorem dX6_read_2 : decode cX6_read 2 = .ok (.putfield 28, 3) := by decide +kernel
theorem dX6_read_5 : decode cX6_read 5 = .ok (.aload_n 0, 1) := by decide +kernel
theorem dX6_read_6 : decode cX6_read 6 = .ok (.iload_n 2, 1) := by decide +kernel
theorem dX6_read_7 : decode cX6_read 7 = .ok (.putfield 32, 3) := by decide +kernel
theorem dX6_read_10 : decode cX6_read 10 = .ok (.aload_n 0, 1) := by decide +kernel
theorem dX6_read_11 : decode cX6_read 11 = .ok (.iconst 0, 1) := by decide +kernel
theorem dX6_read_12 : decode cX6_read 12 = .ok (.putfield 35, 3) := by decide +kernel
theorem dX6_read_15 : decode cX6_read 15 = .ok (.aload_n 0, 1) := by decide +kernel
theorem dX6_read_16 : decode cX6_read 16 = .ok (.iconst 0, 1) := by decide +kernel
theorem dX6_read_17 : decode cX6_read 17 = .ok (.putfield 38, 3) := by decide +kernel
theorem dX6_read_20 : decode cX6_read 20 = .ok (.iconst 0, 1) := by decide +kernel
theorem dX6_read_21 : decode cX6_read 21 = .ok (.istore_n 3, 1) := by decide +kernel
theorem dX6_read_22 : decode cX6_read 22 = .ok (.iload_n 3, 1) := by decide +kernel
theorem dX6_read_23 : decode cX6_read 23 = .ok (.bipush 10, 2) := by decide +kernel
theorem dX6_read_25 : decode cX6_read 25 = .ok (.if_icmp .ge 54, 3) := by decide +kernel
theorem dX6_read_28 : decode cX6_read 28 = .ok (.aload_n 0, 1) := by decide +kernel
theorem dX6_read_29 : decode cX6_read 29 = .ok (.iload_n 3, 1) := by decide +kernel
theorem dX6_read_30 : decode cX6_read 30 = .ok (.invokevirtual 41, 3) := by decide +kernel
theorem dX6_read_33 : decode cX6_read 33 = .ok (.ifCond .ne 8, 3) := by decide +kernel
theorem dX6_read_36 : decode cX6_read 36 = .ok (.aload_n 0, 1) := by decide +kernel
theorem dX6_read_37 : decode cX6_read 37 = .ok (.getfield 45, 3) := by decide +kernel
theorem dX6_read_40 : decode cX6_read 40 = .ok (.ireturn, 1) := by decide +kernel
theorem dX6_read_41 : decode cX6_read 41 = .ok (.aload_n 0, 1) := by decide +kernel
theorem dX6_read_42 : decode cX6_read 42 = .ok (.iload_n 3, 1) := by decide +kernel
theorem dX6_read_43 : decode cX6_read 43 = .ok (.iconst 1, 1) := by decide +kernel
theorem dX6_read_44 : decode cX6_read 44 = .ok (.iadd, 1) := by decide +kernel
theorem dX6_read_45 : decode cX6_read 45 = .ok (.putfield 38, 3) := by decide +kernel
theorem dX6_read_48 : decode cX6_read 48 = .ok (.aload_n 0, 1) := by decide +kernel
theorem dX6_read_49 : decode cX6_read 49 = .ok (.invokevirtual 48, 3) := by decide +kernel
theorem dX6_read_52 : decode cX6_read 52 = .ok (.aload_n 0, 1) := by decide +kernel
theorem dX6_read_53 : decode cX6_read 53 = .ok (.getfield 51, 3) := by decide +kernel
theorem dX6_read_56 : decode cX6_read 56 = .ok (.ifCond .ne 5, 3) := by decide +kernel
theorem dX6_read_59 : decode cX6_read 59 = .ok (.iconst (-1), 1) := by decide +kernel
theorem dX6_read_60 : decode cX6_read 60 = .ok (.ireturn, 1) := by decide +kernel
theorem dX6_read_61 : decode cX6_read 61 = .ok (.aload_n 0, 1) := by decide +kernel
theorem dX6_read_62 : decode cX6_read 62 = .ok (.invokevirtual 54, 3) := by decide +kernel
theorem dX6_read_65 : decode cX6_read 65 = .ok (.ifCond .ne 8, 3) := by decide +kernel
theorem dX6_read_68 : decode cX6_read 68 = .ok (.aload_n 0, 1) := by decide +kernel
theorem dX6_read_69 : decode cX6_read 69 = .ok (.getfield 45, 3) := by decide +kernel
theorem dX6_read_72 : decode cX6_read 72 = .ok (.ireturn, 1) := by decide +kernel
theorem dX6_read_73 : decode cX6_read 73 = .ok (.iinc 3 1, 3) := by decide +kernel
theorem dX6_read_76 : decode cX6_read 76 = .ok (.goto (-54), 3) := by decide +kernel
theorem dX6_read_79 : decode cX6_read 79 = .ok (.aload_n 0, 1) := by decide +kernel
theorem dX6_read_80 : decode cX6_read 80 = .ok (.getfield 45, 3) := by decide +kernel
theorem dX6_read_83 : decode cX6_read 83 = .ok (.ireturn, 1) := by decide +kernel
abbrev rm_X6_read : Room := { frames := 7, cells := 0, slots := 0, locals := 150 }
theorem hd_X6_read : yX6_read.cls ≠ "java/lang/invoke/MethodHandle" ∧ yX6_read.cls ≠ "java/lang/invoke/VarHandle" ∧ (parseMethodDescriptor yX6_read.desc).map (fun d => d.parameters.length) = some 2 := by decide +kernel
def bd_X6_read_22 (Q : Int32 → (Int32 × Int32 × Int32 × Int32 × Int32 × Int32 × (Nat → Int32) × (Nat → Int32) × (Nat → Int32) × (Nat → Int32)) → Prop) (B22 : Int32 → Int32 → Int32 → Int32 → Int32 → Int32 → (Nat → Int32) → (Nat → Int32) → (Nat → Int32) → (Nat → Int32) → Int32 → Prop) (t_length : Int32) (t_bytes : Nat → Int32) (r_lines : Int32) (r_columns : Int32) (r_rows : Int32) (r_start : Int32) (r_stop : Int32) (r_kind : Int32) (r_verbs : Nat → Int32) (r_firsts : Nat → Int32) (r_seconds : Nat → Int32) (r_thirds : Nat → Int32) (x3 : Int32) : Prop :=
((10 ≤ x3 → Q r_start (r_lines, r_columns, r_rows, r_start, r_stop, r_kind, r_verbs, r_firsts, r_seconds, r_thirds)) ∧
(¬ 10 ≤ x3 → wp_X6_readLine x3 r_columns r_rows r_stop r_verbs r_firsts r_seconds r_thirds t_length t_bytes (fun (r2 : Int32) (u3 : Int32 × Int32 × Int32 × Int32 × Int32 × (Nat → Int32) × (Nat → Int32) × (Nat → Int32) × (Nat → Int32)) => ((¬ r2 = 0 → ∀ y5 : Int32, y5 = (x3 + 1) →
wp_X6_nextToken u3.2.2.2.1 t_length t_bytes (fun (u6 : Int32 × Int32 × Int32) => ((¬ u6.2.2 = 0 → wp_X6_endsLine u6.1 u6.2.2 t_bytes (fun (r8 : Int32) => ((¬ r8 = 0 → ∀ y10 : Int32, y10 = (x3 + 1) →
B22 y5 u3.1 u3.2.1 u6.1 u6.2.1 u6.2.2 u3.2.2.2.2.2.1 u3.2.2.2.2.2.2.1 u3.2.2.2.2.2.2.2.1 u3.2.2.2.2.2.2.2.2 y10) ∧
(r8 = 0 → Q u6.1 (y5, u3.1, u3.2.1, u6.1, u6.2.1, u6.2.2, u3.2.2.2.2.2.1, u3.2.2.2.2.2.2.1, u3.2.2.2.2.2.2.2.1, u3.2.2.2.2.2.2.2.2))))) ∧
(u6.2.2 = 0 → Q (-1) (y5, u3.1, u3.2.1, u6.1, u6.2.1, u6.2.2, u3.2.2.2.2.2.1, u3.2.2.2.2.2.2.1, u3.2.2.2.2.2.2.2.1, u3.2.2.2.2.2.2.2.2))))) ∧
(r2 = 0 → Q u3.2.2.1 (r_lines, u3.1, u3.2.1, u3.2.2.1, u3.2.2.2.1, u3.2.2.2.2.1, u3.2.2.2.2.2.1, u3.2.2.2.2.2.2.1, u3.2.2.2.2.2.2.2.1, u3.2.2.2.2.2.2.2.2))))))
def lp_X6_read_22 (Q : Int32 → (Int32 × Int32 × Int32 × Int32 × Int32 × Int32 × (Nat → Int32) × (Nat → Int32) × (Nat → Int32) × (Nat → Int32)) → Prop) (t_length : Int32) (t_bytes : Nat → Int32) (r_lines : Int32) (r_columns : Int32) (r_rows : Int32) (r_start : Int32) (r_stop : Int32) (r_kind : Int32) (r_verbs : Nat → Int32) (r_firsts : Nat → Int32) (r_seconds : Nat → Int32) (r_thirds : Nat → Int32) (x3 : Int32) : Prop :=
∃ I : Nat → Int32 → Int32 → Int32 → Int32 → Int32 → Int32 → (Nat → Int32) → (Nat → Int32) → (Nat → Int32) → (Nat → Int32) → Int32 → Prop, (∃ n, I n r_lines r_columns r_rows r_start r_stop r_kind r_verbs r_firsts r_seconds r_thirds x3) ∧ ∀ n r_lines r_columns r_rows r_start r_stop r_kind r_verbs r_firsts r_seconds r_thirds x3, I n r_lines r_columns r_rows r_start r_stop r_kind r_verbs r_firsts r_seconds r_thirds x3 → bd_X6_read_22 Q  (fun r_lines' r_columns' r_rows' r_start' r_stop' r_kind' r_verbs' r_firsts' r_seconds' r_thirds' x3' => ∃ n', n' < n ∧ I n' r_lines' r_columns' r_rows' r_start' r_stop' r_kind' r_verbs' r_firsts' r_seconds' r_thirds' x3') t_length t_bytes r_lines r_columns r_rows r_start r_stop r_kind r_verbs r_firsts r_seconds r_thirds x3
def wp_X6_read (p1 : Int32) (p2 : Int32) (r_start : Int32) (r_kind : Int32) (r_verbs : Nat → Int32) (r_firsts : Nat → Int32) (r_seconds : Nat → Int32) (r_thirds : Nat → Int32) (t_length : Int32) (t_bytes : Nat → Int32) (Q : Int32 → (Int32 × Int32 × Int32 × Int32 × Int32 × Int32 × (Nat → Int32) × (Nat → Int32) × (Nat → Int32) × (Nat → Int32)) → Prop) : Prop :=
lp_X6_read_22 Q t_length t_bytes 0 p1 p2 r_start 0 r_kind r_verbs r_firsts r_seconds r_thirds 0
set_option maxHeartbeats 4000000 in
set_option maxRecDepth 100000 in
theorem B_X6_read_22 {x : CX} {D : DG} {cyI cyJ cyZ : ClassId} {a_r a_r_verbs a_r_firsts a_r_seconds a_r_thirds a_t a_t_bytes : Nat} {r_lines : Int32} {r_columns : Int32} {r_rows : Int32} {r_start : Int32} {r_stop : Int32} {r_kind : Int32} {r_verbs : Nat → Int32} {r_firsts : Nat → Int32} {r_seconds : Nat → Int32} {r_thirds : Nat → Int32} {t_length : Int32} {t_bytes : Nat → Int32} {x3 : Int32} {Q : Int32 → (Int32 × Int32 × Int32 × Int32 × Int32 × Int32 × (Nat → Int32) × (Nat → Int32) × (Nat → Int32) × (Nat → Int32)) → Prop} {B22 : Int32 → Int32 → Int32 → Int32 → Int32 → Int32 → (Nat → Int32) → (Nat → Int32) → (Nat → Int32) → (Nat → Int32) → Int32 → Prop} (cx : Cx x cX6_read 4 RX6 rm_X6_read D [(cyI, .int), (cyJ, .long), (cyZ, .boolean)]) (hR : ∀ (v : Int32) (u : Int32 × Int32 × Int32 × Int32 × Int32 × Int32 × (Nat → Int32) × (Nat → Int32) × (Nat → Int32) × (Nat → Int32)) (pc : Nat) (lv : List (Nat × Value)), decode cX6_read pc = .ok (.ireturn, 1) → Q v u → J x 0 0 4 (W_Reader cyI cyJ cyZ a_r a_r_verbs a_r_firsts a_r_seconds a_r_thirds a_t a_t_bytes u.1 u.2.1 u.2.2.1 u.2.2.2.1 u.2.2.2.2.1 u.2.2.2.2.2.1 u.2.2.2.2.2.2.1 u.2.2.2.2.2.2.2.1 u.2.2.2.2.2.2.2.2.1 u.2.2.2.2.2.2.2.2.2 t_length t_bytes) lv pc [.int v]) (hB22 : ∀ (r_lines : Int32) (r_columns : Int32) (r_rows : Int32) (r_start : Int32) (r_stop : Int32) (r_kind : Int32) (r_verbs : Nat → Int32) (r_firsts : Nat → Int32) (r_seconds : Nat → Int32) (r_thirds : Nat → Int32) (x3 : Int32), B22 r_lines r_columns r_rows r_start r_stop r_kind r_verbs r_firsts r_seconds r_thirds x3 → J x 0 0 4 (W_Reader cyI cyJ cyZ a_r a_r_verbs a_r_firsts a_r_seconds a_r_thirds a_t a_t_bytes r_lines r_columns r_rows r_start r_stop r_kind r_verbs r_firsts r_seconds r_thirds t_length t_bytes) [(0, .ref a_r), (3, .int x3)] 22 []) (h : bd_X6_read_22 Q B22 t_length t_bytes r_lines r_columns r_rows r_start r_stop r_kind r_verbs r_firsts r_seconds r_thirds x3) :
    J x 0 0 4 (W_Reader cyI cyJ cyZ a_r a_r_verbs a_r_firsts a_r_seconds a_r_thirds a_t a_t_bytes r_lines r_columns r_rows r_start r_stop r_kind r_verbs r_firsts r_seconds r_thirds t_length t_bytes) [(0, .ref a_r), (3, .int x3)] 22 [] := by
  unfold bd_X6_read_22 at h
  refine j_iload_n cx 1 rfl rfl dX6_read_22 (pn := 23) rfl ?_
  refine j_bipush cx (v := 10) (by decide) dX6_read_23 (pn := 25) rfl ?_
  refine j_icmp_ge cx 79 dX6_read_25 (pn := 28) rfl rfl (fun c1 => ?_) (fun c1 => ?_)
  · have h := h.1 c1
    refine j_aload_n cx 0 rfl rfl dX6_read_79 (pn := 80) rfl ?_
    refine j_get cx inGX6 0 rfl rfl 8 (by decide) q_fl_X6_45 rfl rfl dX6_read_80 (pn := 83) rfl ?_
    exact hR r_start (r_lines, r_columns, r_rows, r_start, r_stop, r_kind, r_verbs, r_firsts, r_seconds, r_thirds) 83 _ dX6_read_83 h
  · have h := h.2 c1
    refine j_aload_n cx 0 rfl rfl dX6_read_28 (pn := 29) rfl ?_
    refine j_iload_n cx 1 rfl rfl dX6_read_29 (pn := 30) rfl ?_
    refine j_callvI0 cx q_inst_X6_readLine q_sel_X6_readLine (b := a_r) (As := [.int x3]) (rest := []) (c_X6_readLine h) ⟨q_code_X6_readLine, q_ml_X6_41, q_init_X6, hd_X6_readLine, ⟨Nat.le_of_ble_eq_true rfl, Nat.le_of_ble_eq_true rfl⟩, Nat.le_of_ble_eq_true rfl, Nat.le_of_ble_eq_true rfl⟩ (q0 := 0) rfl rfl rfl rfl (Nat.le_of_ble_eq_true rfl) dX6_read_30 (pn := 33) rfl (fun r2 u3 h => ?_)
    show J x 0 0 4 (W_Reader cyI cyJ cyZ a_r a_r_verbs a_r_firsts a_r_seconds a_r_thirds a_t a_t_bytes r_lines u3.1 u3.2.1 u3.2.2.1 u3.2.2.2.1 u3.2.2.2.2.1 u3.2.2.2.2.2.1 u3.2.2.2.2.2.2.1 u3.2.2.2.2.2.2.2.1 u3.2.2.2.2.2.2.2.2 t_length t_bytes) [(0, .ref a_r), (3, .int x3)] 33 [.int r2]
    refine j_if_ne cx 41 dX6_read_33 (pn := 36) rfl rfl (fun c4 => ?_) (fun c4 => ?_)
    · have h := h.1 c4
      refine j_aload_n cx 0 rfl rfl dX6_read_41 (pn := 42) rfl ?_
      refine j_iload_n cx 1 rfl rfl dX6_read_42 (pn := 43) rfl ?_
      refine j_iconst cx (v := 1) (by decide) dX6_read_43 (pn := 44) rfl ?_
      refine j_iadd cx dX6_read_44 (pn := 45) rfl ?_
      refine j_topi (fun y5 ey5 => ?_)
      have h := h y5 ey5
      refine j_put cx tyX6 tyX6_ok nmX6 inGX6 0 rfl rfl 5 (by decide) q_fl_X6_38 rfl rfl rfl rfl rfl (Nat.le_of_ble_eq_true rfl) (W_Reader cyI cyJ cyZ a_r a_r_verbs a_r_firsts a_r_seconds a_r_thirds a_t a_t_bytes y5 u3.1 u3.2.1 u3.2.2.1 u3.2.2.2.1 u3.2.2.2.2.1 u3.2.2.2.2.2.1 u3.2.2.2.2.2.2.1 u3.2.2.2.2.2.2.2.1 u3.2.2.2.2.2.2.2.2 t_length t_bytes) rfl dX6_read_45 (pn := 48) rfl ?_
      refine j_aload_n cx 0 rfl rfl dX6_read_48 (pn := 49) rfl ?_
      refine j_callvV0 cx q_inst_X6_nextToken q_sel_X6_nextToken (b := a_r) (As := []) (rest := []) (c_X6_nextToken h) ⟨q_code_X6_nextToken, q_ml_X6_48, q_init_X6, hd_X6_nextToken, ⟨Nat.le_of_ble_eq_true rfl, Nat.le_of_ble_eq_true rfl⟩, Nat.le_of_ble_eq_true rfl, Nat.le_of_ble_eq_true rfl⟩ (q0 := 0) rfl rfl rfl rfl (Nat.le_of_ble_eq_true rfl) dX6_read_49 (pn := 52) rfl (fun u6 h => ?_)
      show J x 0 0 4 (W_Reader cyI cyJ cyZ a_r a_r_verbs a_r_firsts a_r_seconds a_r_thirds a_t a_t_bytes y5 u3.1 u3.2.1 u6.1 u6.2.1 u6.2.2 u3.2.2.2.2.2.1 u3.2.2.2.2.2.2.1 u3.2.2.2.2.2.2.2.1 u3.2.2.2.2.2.2.2.2 t_length t_bytes) [(0, .ref a_r), (3, .int x3)] 52 []
      refine j_aload_n cx 0 rfl rfl dX6_read_52 (pn := 53) rfl ?_
      refine j_get cx inGX6 0 rfl rfl 10 (by decide) q_fl_X6_51 rfl rfl dX6_read_53 (pn := 56) rfl ?_
      refine j_if_ne cx 61 dX6_read_56 (pn := 59) rfl rfl (fun c7 => ?_) (fun c7 => ?_)
      · have h := h.1 c7
        refine j_aload_n cx 0 rfl rfl dX6_read_61 (pn := 62) rfl ?_
        refine j_callvI0 cx q_inst_X6_endsLine q_sel_X6_endsLine (b := a_r) (As := []) (rest := []) (c_X6_endsLine h) ⟨q_code_X6_endsLine, q_ml_X6_54, q_init_X6, hd_X6_endsLine, ⟨Nat.le_of_ble_eq_true rfl, Nat.le_of_ble_eq_true rfl⟩, Nat.le_of_ble_eq_true rfl, Nat.le_of_ble_eq_true rfl⟩ (q0 := 0) rfl rfl rfl rfl (Nat.le_of_ble_eq_true rfl) dX6_read_62 (pn := 65) rfl (fun r8 _ h => ?_)
        show J x 0 0 4 (W_Reader cyI cyJ cyZ a_r a_r_verbs a_r_firsts a_r_seconds a_r_thirds a_t a_t_bytes y5 u3.1 u3.2.1 u6.1 u6.2.1 u6.2.2 u3.2.2.2.2.2.1 u3.2.2.2.2.2.2.1 u3.2.2.2.2.2.2.2.1 u3.2.2.2.2.2.2.2.2 t_length t_bytes) [(0, .ref a_r), (3, .int x3)] 65 [.int r8]
        refine j_if_ne cx 73 dX6_read_65 (pn := 68) rfl rfl (fun c9 => ?_) (fun c9 => ?_)
        · have h := h.1 c9
          obtain ⟨y10, ey10⟩ : ∃ z : Int32, z = x3 + 1 := ⟨_, rfl⟩
          have h := h y10 ey10
          refine j_iinc cx 1 rfl (cst := 1) (by decide) ey10 [(3, .int y10), (0, .ref a_r)] (by decide) rfl dX6_read_73 (pn := 76) rfl ?_
          refine j_goto cx 22 dX6_read_76 rfl ?_
          refine j_sub [1, 0] [(0, .ref a_r), (3, .int y10)] rfl ?_
          exact hB22 _ _ _ _ _ _ _ _ _ _ _ h
        · have h := h.2 c9
          refine j_aload_n cx 0 rfl rfl dX6_read_68 (pn := 69) rfl ?_
          refine j_get cx inGX6 0 rfl rfl 8 (by decide) q_fl_X6_45 rfl rfl dX6_read_69 (pn := 72) rfl ?_
          exact hR u6.1 (y5, u3.1, u3.2.1, u6.1, u6.2.1, u6.2.2, u3.2.2.2.2.2.1, u3.2.2.2.2.2.2.1, u3.2.2.2.2.2.2.2.1, u3.2.2.2.2.2.2.2.2) 72 _ dX6_read_72 h
      · have h := h.2 c7
        refine j_iconst cx (v := (-1)) (by decide) dX6_read_59 (pn := 60) rfl ?_
        exact hR (-1) (y5, u3.1, u3.2.1, u6.1, u6.2.1, u6.2.2, u3.2.2.2.2.2.1, u3.2.2.2.2.2.2.1, u3.2.2.2.2.2.2.2.1, u3.2.2.2.2.2.2.2.2) 60 _ dX6_read_60 h
    · have h := h.2 c4
      refine j_aload_n cx 0 rfl rfl dX6_read_36 (pn := 37) rfl ?_
      refine j_get cx inGX6 0 rfl rfl 8 (by decide) q_fl_X6_45 rfl rfl dX6_read_37 (pn := 40) rfl ?_
      exact hR u3.2.2.1 (r_lines, u3.1, u3.2.1, u3.2.2.1, u3.2.2.2.1, u3.2.2.2.2.1, u3.2.2.2.2.2.1, u3.2.2.2.2.2.2.1, u3.2.2.2.2.2.2.2.1, u3.2.2.2.2.2.2.2.2) 40 _ dX6_read_40 h
set_option maxHeartbeats 4000000 in
set_option maxRecDepth 100000 in
theorem J_X6_read_22 {x : CX} {D : DG} {cyI cyJ cyZ : ClassId} {a_r a_r_verbs a_r_firsts a_r_seconds a_r_thirds a_t a_t_bytes : Nat} {r_lines : Int32} {r_columns : Int32} {r_rows : Int32} {r_start : Int32} {r_stop : Int32} {r_kind : Int32} {r_verbs : Nat → Int32} {r_firsts : Nat → Int32} {r_seconds : Nat → Int32} {r_thirds : Nat → Int32} {t_length : Int32} {t_bytes : Nat → Int32} {x3 : Int32} {Q : Int32 → (Int32 × Int32 × Int32 × Int32 × Int32 × Int32 × (Nat → Int32) × (Nat → Int32) × (Nat → Int32) × (Nat → Int32)) → Prop} (cx : Cx x cX6_read 4 RX6 rm_X6_read D [(cyI, .int), (cyJ, .long), (cyZ, .boolean)]) (hR : ∀ (v : Int32) (u : Int32 × Int32 × Int32 × Int32 × Int32 × Int32 × (Nat → Int32) × (Nat → Int32) × (Nat → Int32) × (Nat → Int32)) (pc : Nat) (lv : List (Nat × Value)), decode cX6_read pc = .ok (.ireturn, 1) → Q v u → J x 0 0 4 (W_Reader cyI cyJ cyZ a_r a_r_verbs a_r_firsts a_r_seconds a_r_thirds a_t a_t_bytes u.1 u.2.1 u.2.2.1 u.2.2.2.1 u.2.2.2.2.1 u.2.2.2.2.2.1 u.2.2.2.2.2.2.1 u.2.2.2.2.2.2.2.1 u.2.2.2.2.2.2.2.2.1 u.2.2.2.2.2.2.2.2.2 t_length t_bytes) lv pc [.int v]) (h : lp_X6_read_22 Q  t_length t_bytes r_lines r_columns r_rows r_start r_stop r_kind r_verbs r_firsts r_seconds r_thirds x3) :
    J x 0 0 4 (W_Reader cyI cyJ cyZ a_r a_r_verbs a_r_firsts a_r_seconds a_r_thirds a_t a_t_bytes r_lines r_columns r_rows r_start r_stop r_kind r_verbs r_firsts r_seconds r_thirds t_length t_bytes) [(0, .ref a_r), (3, .int x3)] 22 [] := by
  obtain ⟨I, ⟨n, h0⟩, hb⟩ := h
  revert r_lines r_columns r_rows r_start r_stop r_kind r_verbs r_firsts r_seconds r_thirds x3
  induction n using Nat.strongRecOn with
  | _ n ih =>
    intro r_lines r_columns r_rows r_start r_stop r_kind r_verbs r_firsts r_seconds r_thirds x3 h0
    exact B_X6_read_22 cx hR (fun _ _ _ _ _ _ _ _ _ _ _ hz => by obtain ⟨n2, hlt, hI⟩ := hz; exact ih n2 hlt hI) (hb n r_lines r_columns r_rows r_start r_stop r_kind r_verbs r_firsts r_seconds r_thirds x3 h0)
set_option maxHeartbeats 4000000 in
set_option maxRecDepth 100000 in
theorem c_X6_read {D : DG} {cyI cyJ cyZ : ClassId} {a_r a_r_verbs a_r_firsts a_r_seconds a_r_thirds a_t a_t_bytes : Nat} {r_lines : Int32} {r_columns : Int32} {r_rows : Int32} {r_start : Int32} {r_stop : Int32} {r_kind : Int32} {r_verbs : Nat → Int32} {r_firsts : Nat → Int32} {r_seconds : Nat → Int32} {r_thirds : Nat → Int32} {t_length : Int32} {t_bytes : Nat → Int32} {p1 : Int32} {p2 : Int32} {Q : Int32 → (Int32 × Int32 × Int32 × Int32 × Int32 × Int32 × (Nat → Int32) × (Nat → Int32) × (Nat → Int32) × (Nat → Int32)) → Prop} (h : wp_X6_read p1 p2 r_start r_kind r_verbs r_firsts r_seconds r_thirds t_length t_bytes Q) :
    MetI yX6_read cX6_read 4 (some .int) rm_X6_read D [(cyI, .int), (cyJ, .long), (cyZ, .boolean)] [.ref a_r, .int p1, .int p2] (W_Reader cyI cyJ cyZ a_r a_r_verbs a_r_firsts a_r_seconds a_r_thirds a_t a_t_bytes r_lines r_columns r_rows r_start r_stop r_kind r_verbs r_firsts r_seconds r_thirds t_length t_bytes) (fun u : Int32 × Int32 × Int32 × Int32 × Int32 × Int32 × (Nat → Int32) × (Nat → Int32) × (Nat → Int32) × (Nat → Int32) => (W_Reader cyI cyJ cyZ a_r a_r_verbs a_r_firsts a_r_seconds a_r_thirds a_t a_t_bytes u.1 u.2.1 u.2.2.1 u.2.2.2.1 u.2.2.2.2.1 u.2.2.2.2.2.1 u.2.2.2.2.2.2.1 u.2.2.2.2.2.2.2.1 u.2.2.2.2.2.2.2.2.1 u.2.2.2.2.2.2.2.2.2 t_length t_bytes)) (fun v u => Q v u) := by
  unfold wp_X6_read at h
  refine metI_of (by decide) (Nat.le_of_ble_eq_true rfl) (fun x cx0 hR0 => ?_)
  have cx : Cx x cX6_read 4 RX6 rm_X6_read D [(cyI, .int), (cyJ, .long), (cyZ, .boolean)] := cx0
  have hR : ∀ (v : Int32) (u : Int32 × Int32 × Int32 × Int32 × Int32 × Int32 × (Nat → Int32) × (Nat → Int32) × (Nat → Int32) × (Nat → Int32)) (pc : Nat) (lv : List (Nat × Value)), decode cX6_read pc = .ok (.ireturn, 1) → Q v u → J x 0 0 4 (W_Reader cyI cyJ cyZ a_r a_r_verbs a_r_firsts a_r_seconds a_r_thirds a_t a_t_bytes u.1 u.2.1 u.2.2.1 u.2.2.2.1 u.2.2.2.2.1 u.2.2.2.2.2.1 u.2.2.2.2.2.2.1 u.2.2.2.2.2.2.2.1 u.2.2.2.2.2.2.2.2.1 u.2.2.2.2.2.2.2.2.2 t_length t_bytes) lv pc [.int v] := (fun v u pc lv d hq => hR0 v u pc lv d hq)
  show J x 0 0 4 (W_Reader cyI cyJ cyZ a_r a_r_verbs a_r_firsts a_r_seconds a_r_thirds a_t a_t_bytes r_lines r_columns r_rows r_start r_stop r_kind r_verbs r_firsts r_seconds r_thirds t_length t_bytes) [(0, .ref a_r), (1, .int p1), (2, .int p2)] 0 []
  refine j_aload_n cx 0 rfl rfl dX6_read_0 (pn := 1) rfl ?_
  refine j_iload_n cx 1 rfl rfl dX6_read_1 (pn := 2) rfl ?_
  refine j_put cx tyX6 tyX6_ok nmX6 inGX6 0 rfl rfl 6 (by decide) q_fl_X6_28 rfl rfl rfl rfl rfl (Nat.le_of_ble_eq_true rfl) (W_Reader cyI cyJ cyZ a_r a_r_verbs a_r_firsts a_r_seconds a_r_thirds a_t a_t_bytes r_lines p1 r_rows r_start r_stop r_kind r_verbs r_firsts r_seconds r_thirds t_length t_bytes) rfl dX6_read_2 (pn := 5) rfl ?_
  refine j_aload_n cx 0 rfl rfl dX6_read_5 (pn := 6) rfl ?_
  refine j_iload_n cx 2 rfl rfl dX6_read_6 (pn := 7) rfl ?_
  refine j_put cx tyX6 tyX6_ok nmX6 inGX6 0 rfl rfl 7 (by decide) q_fl_X6_32 rfl rfl rfl rfl rfl (Nat.le_of_ble_eq_true rfl) (W_Reader cyI cyJ cyZ a_r a_r_verbs a_r_firsts a_r_seconds a_r_thirds a_t a_t_bytes r_lines p1 p2 r_start r_stop r_kind r_verbs r_firsts r_seconds r_thirds t_length t_bytes) rfl dX6_read_7 (pn := 10) rfl ?_
  refine j_aload_n cx 0 rfl rfl dX6_read_10 (pn := 11) rfl ?_
  refine j_iconst cx (v := 0) (by decide) dX6_read_11 (pn := 12) rfl ?_
  refine j_put cx tyX6 tyX6_ok nmX6 inGX6 0 rfl rfl 9 (by decide) q_fl_X6_35 rfl rfl rfl rfl rfl (Nat.le_of_ble_eq_true rfl) (W_Reader cyI cyJ cyZ a_r a_r_verbs a_r_firsts a_r_seconds a_r_thirds a_t a_t_bytes r_lines p1 p2 r_start 0 r_kind r_verbs r_firsts r_seconds r_thirds t_length t_bytes) rfl dX6_read_12 (pn := 15) rfl ?_
  refine j_aload_n cx 0 rfl rfl dX6_read_15 (pn := 16) rfl ?_
  refine j_iconst cx (v := 0) (by decide) dX6_read_16 (pn := 17) rfl ?_
  refine j_put cx tyX6 tyX6_ok nmX6 inGX6 0 rfl rfl 5 (by decide) q_fl_X6_38 rfl rfl rfl rfl rfl (Nat.le_of_ble_eq_true rfl) (W_Reader cyI cyJ cyZ a_r a_r_verbs a_r_firsts a_r_seconds a_r_thirds a_t a_t_bytes 0 p1 p2 r_start 0 r_kind r_verbs r_firsts r_seconds r_thirds t_length t_bytes) rfl dX6_read_17 (pn := 20) rfl ?_
  refine j_iconst cx (v := 0) (by decide) dX6_read_20 (pn := 21) rfl ?_
  refine j_istore_n cx rfl [(3, .int 0), (0, .ref a_r), (1, .int p1), (2, .int p2)] (by decide) rfl dX6_read_21 (pn := 22) rfl ?_
  refine j_sub [1, 0] [(0, .ref a_r), (3, .int 0)] rfl ?_
  exact J_X6_read_22 cx hR h
