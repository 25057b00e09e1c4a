theorem dX8_put_0 : decode cX8_put 0 = .ok (.aload_n 0, 1) := by decide +kernel
theorem dX8_put_1 : decode cX8_put 1 = .ok (.getfield 15, 3) := by decide +kernel
theorem dX8_put_4 : decode cX8_put 4 = .ok (.sipush 200, 3) := by decide +kernel
theorem dX8_put_7 : decode cX8_put 7 = .ok (.if_icmp .ge 23, 3) := by decide +kernel
theorem dX8_put_10 : decode cX8_put 10 = .ok (.aload_n 0, 1) := by decide +kernel
theorem dX8_put_11 : decode cX8_put 11 = .ok (.getfield 9, 3) := by decide +kernel
theorem dX8_put_14 : decode cX8_put 14 = .ok (.aload_n 0, 1) := by decide +kernel
theorem dX8_put_15 : decode cX8_put 15 = .ok (.getfield 15, 3) := by decide +kernel
theorem dX8_put_18 : decode cX8_put 18 = .ok (.iload_n 1, 1) := by decide +kernel
theorem dX8_put_19 : decode cX8_put 19 = .ok (.iastore, 1) := by decide +kernel
theorem dX8_put_20 : decode cX8_put 20 = .ok (.aload_n 0, 1) := by decide +kernel
theorem dX8_put_21 : decode cX8_put 21 = .ok (.dup, 1) := by decide +kernel
theorem dX8_put_22 : decode cX8_put 22 = .ok (.getfield 15, 3) := by decide +kernel
theorem dX8_put_25 : decode cX8_put 25 = .ok (.iconst 1, 1) := by decide +kernel
theorem dX8_put_26 : decode cX8_put 26 = .ok (.iadd, 1) := by decide +kernel
theorem dX8_put_27 : decode cX8_put 27 = .ok (.putfield 15, 3) := by decide +kernel
theorem dX8_put_30 : decode cX8_put 30 = .ok (.return_, 1) := by decide +kernel
abbrev rm_X8_put : Room := { frames := 0, cells := 0, slots := 0, locals := 0 }
theorem hd_X8_put : yX8_put.cls ≠ "java/lang/invoke/MethodHandle" ∧ yX8_put.cls ≠ "java/lang/invoke/VarHandle" ∧ (parseMethodDescriptor yX8_put.desc).map (fun d => d.parameters.length) = some 1 := by decide +kernel
def wp_X8_put (p1 : Int32) (t_length : Int32) (t_bytes : Nat → Int32) (Q : (Int32 × (Nat → Int32)) → Prop) : Prop :=
((200 ≤ t_length → Q (t_length, t_bytes)) ∧
(¬ 200 ≤ t_length → vp_in t_length 200 ∧ (∀ f2 : Nat → Int32, f2 = (upd t_bytes t_length.toNatClampNeg p1) →
∀ y3 : Int32, y3 = (t_length + 1) →
Q (y3, f2))))
set_option maxHeartbeats 4000000 in
set_option maxRecDepth 100000 in
theorem c_X8_put {D : DG} {cyI cyJ cyZ : ClassId} {a_t a_t_bytes : Nat} {t_length : Int32} {t_bytes : Nat → Int32} {p1 : Int32} {Q : (Int32 × (Nat → Int32)) → Prop} (h : wp_X8_put p1 t_length t_bytes Q) :
    MetV yX8_put cX8_put 2 (none) rm_X8_put D [(cyI, .int), (cyJ, .long), (cyZ, .boolean)] [.ref a_t, .int p1] (W_Text cyI cyJ cyZ a_t a_t_bytes t_length t_bytes) (fun u : Int32 × (Nat → Int32) => (W_Text cyI cyJ cyZ a_t a_t_bytes u.1 u.2)) (fun u => Q u) := by
  unfold wp_X8_put at h
  refine metV_of (by decide) (Nat.le_of_ble_eq_true rfl) (fun x cx0 hR0 => ?_)
  have cx : Cx x cX8_put 2 RX8 rm_X8_put D [(cyI, .int), (cyJ, .long), (cyZ, .boolean)] := cx0
  have hR : ∀ (u : Int32 × (Nat → Int32)) (pc : Nat) (lv : List (Nat × Value)), decode cX8_put pc = .ok (.return_, 1) → Q u → J x 0 0 2 (W_Text cyI cyJ cyZ a_t a_t_bytes u.1 u.2) lv pc [] := (fun u pc lv d hq => hR0 u pc lv d hq)
  show J x 0 0 2 (W_Text cyI cyJ cyZ a_t a_t_bytes t_length t_bytes) [(0, .ref a_t), (1, .int p1)] 0 []
  refine j_aload_n cx 0 rfl rfl dX8_put_0 (pn := 1) rfl ?_
  refine j_get cx inGX8 0 rfl rfl 1 (by decide) q_fl_X8_15 rfl rfl dX8_put_1 (pn := 4) rfl ?_
  refine j_sipush cx (v := 200) (by decide) dX8_put_4 (pn := 7) rfl ?_
  refine j_icmp_ge cx 30 dX8_put_7 (pn := 10) rfl rfl (fun c1 => ?_) (fun c1 => ?_)
  · have h := h.1 c1
    exact hR (t_length, t_bytes) 30 _ dX8_put_30 h
  · have h := h.2 c1
    refine j_aload_n cx 0 rfl rfl dX8_put_10 (pn := 11) rfl ?_
    refine j_get cx inGX8 0 rfl rfl 0 (by decide) q_fl_X8_9 rfl rfl dX8_put_11 (pn := 14) rfl ?_
    refine j_aload_n cx 0 rfl rfl dX8_put_14 (pn := 15) rfl ?_
    refine j_get cx inGX8 0 rfl rfl 1 (by decide) q_fl_X8_15 rfl rfl dX8_put_15 (pn := 18) rfl ?_
    refine j_iload_n cx 1 rfl rfl dX8_put_18 (pn := 19) rfl ?_
    have hin := h.1
    obtain ⟨f2, ef2⟩ : ∃ z, z = upd t_bytes t_length.toNatClampNeg p1 := ⟨_, rfl⟩
    have h := h.2 f2 ef2
    refine j_iast cx 1 0 rfl rfl hin (W_Text cyI cyJ cyZ a_t a_t_bytes t_length f2) (by subst ef2; rfl) dX8_put_19 (pn := 20) rfl ?_
    refine j_aload_n cx 0 rfl rfl dX8_put_20 (pn := 21) rfl ?_
    refine j_dup cx rfl dX8_put_21 (pn := 22) rfl ?_
    refine j_get cx inGX8 0 rfl rfl 1 (by decide) q_fl_X8_15 rfl rfl dX8_put_22 (pn := 25) rfl ?_
    refine j_iconst cx (v := 1) (by decide) dX8_put_25 (pn := 26) rfl ?_
    refine j_iadd cx dX8_put_26 (pn := 27) rfl ?_
    refine j_topi (fun y3 ey3 => ?_)
    have h := h y3 ey3
    refine j_put cx tyX8 tyX8_ok nmX8 inGX8 0 rfl rfl 1 (by decide) q_fl_X8_15 rfl rfl rfl rfl rfl (Nat.le_of_ble_eq_true rfl) (W_Text cyI cyJ cyZ a_t a_t_bytes y3 f2) rfl dX8_put_27 (pn := 30) rfl ?_
    exact hR (y3, f2) 30 _ dX8_put_30 h
theorem dX4_squares_0 : decode cX4_squares 0 = .ok (.aload_n 0, 1) := by decide +kernel
theorem dX4_squares_1 : decode cX4_squares 1 = .ok (.getfield 26, 3) := by decide +kernel
theorem dX4_squares_4 : decode cX4_squares 4 = .ok (.aload_n 0, 1) := by decide +kernel
theorem dX4_squares_5 : decode cX4_squares 5 = .ok (.getfield 29, 3) := by decide +kernel
theorem dX4_squares_8 : decode cX4_squares 8 = .ok (.imul, 1) := by decide +kernel
theorem dX4_squares_9 : decode cX4_squares 9 = .ok (.ireturn, 1) := by decide +kernel
abbrev rm_X4_squares : Room := { frames := 0, cells := 0, slots := 0, locals := 0 }
theorem hd_X4_squares : yX4_squares.cls ≠ "java/lang/invoke/MethodHandle" ∧ yX4_squares.cls ≠ "java/lang/invoke/VarHandle" ∧ (parseMethodDescriptor yX4_squares.desc).map (fun d => d.parameters.length) = some 0 := by decide +kernel
def wp_X4_squares (g_columns : Int32) (g_rows : Int32) (Q : Int32 → Prop) : Prop :=
Q (g_columns * g_rows)
set_option maxHeartbeats 4000000 in
set_option maxRecDepth 100000 in
theorem c_X4_squares {D : DG} {cyI cyJ cyZ : ClassId} {a_g a_g_kinds a_g_wants : Nat} {g_columns : Int32} {g_rows : Int32} {g_hedges : Int32} {g_hurdles : Int32} {g_wantCount : Int32} {g_rest : Int32} {g_frozen : Int32} {g_kinds : Nat → Int32} {g_wants : Nat → Int32} {Q : Int32 → Prop} (h : wp_X4_squares g_columns g_rows Q) :
    MetI yX4_squares cX4_squares 1 (some .int) rm_X4_squares D [(cyI, .int), (cyJ, .long), (cyZ, .boolean)] [.ref a_g] (W_Ground cyI cyJ cyZ a_g a_g_kinds a_g_wants g_columns g_rows g_hedges g_hurdles g_wantCount g_rest g_frozen g_kinds g_wants) (fun _ : Unit => (W_Ground cyI cyJ cyZ a_g a_g_kinds a_g_wants g_columns g_rows g_hedges g_hurdles g_wantCount g_rest g_frozen g_kinds g_wants)) (fun v _ => Q v ) := by
  unfold wp_X4_squares at h
  refine metI_of (by decide) (Nat.le_of_ble_eq_true rfl) (fun x cx0 hR0 => ?_)
  have cx : Cx x cX4_squares 1 RX4 rm_X4_squares D [(cyI, .int), (cyJ, .long), (cyZ, .boolean)] := cx0
  have hR : ∀ (v : Int32) (pc : Nat) (lv : List (Nat × Value)), decode cX4_squares pc = .ok (.ireturn, 1) → Q v → J x 0 0 1 (W_Ground cyI cyJ cyZ a_g a_g_kinds a_g_wants g_columns g_rows g_hedges g_hurdles g_wantCount g_rest g_frozen g_kinds g_wants) lv pc [.int v] := (fun v pc lv d hq => hR0 v () pc lv d hq)
  show J x 0 0 1 (W_Ground cyI cyJ cyZ a_g a_g_kinds a_g_wants g_columns g_rows g_hedges g_hurdles g_wantCount g_rest g_frozen g_kinds g_wants) [(0, .ref a_g)] 0 []
  refine j_aload_n cx 0 rfl rfl dX4_squares_0 (pn := 1) rfl ?_
  refine j_get cx inGX4 0 rfl rfl 2 (by decide) q_fl_X4_26 rfl rfl dX4_squares_1 (pn := 4) rfl ?_
  refine j_aload_n cx 0 rfl rfl dX4_squares_4 (pn := 5) rfl ?_
  refine j_get cx inGX4 0 rfl rfl 3 (by decide) q_fl_X4_29 rfl rfl dX4_squares_5 (pn := 8) rfl ?_
  refine j_imul cx dX4_squares_8 (pn := 9) rfl ?_
  exact hR (g_columns * g_rows) 9 _ dX4_squares_9 h
theorem dX4_edgeCount_0 : decode cX4_edgeCount 0 = .ok (.aload_n 0, 1) := by decide +kernel
theorem dX4_edgeCount_1 : decode cX4_edgeCount 1 = .ok (.getfield 26, 3) := by decide +kernel
theorem dX4_edgeCount_4 : decode cX4_edgeCount 4 = .ok (.iconst 1, 1) := by decide +kernel
theorem dX4_edgeCount_5 : decode cX4_edgeCount 5 = .ok (.iadd, 1) := by decide +kernel
theorem dX4_edgeCount_6 : decode cX4_edgeCount 6 = .ok (.aload_n 0, 1) := by decide +kernel
theorem dX4_edgeCount_7 : decode cX4_edgeCount 7 = .ok (.getfield 29, 3) := by decide +kernel
theorem dX4_edgeCount_10 : decode cX4_edgeCount 10 = .ok (.imul, 1) := by decide +kernel
theorem dX4_edgeCount_11 : decode cX4_edgeCount 11 = .ok (.aload_n 0, 1) := by decide +kernel
theorem dX4_edgeCount_12 : decode cX4_edgeCount 12 = .ok (.getfield 26, 3) := by decide +kernel
theorem dX4_edgeCount_15 : decode cX4_edgeCount 15 = .ok (.aload_n 0, 1) := by decide +kernel
theorem dX4_edgeCount_16 : decode cX4_edgeCount 16 = .ok (.getfield 29, 3) := by decide +kernel
theorem dX4_edgeCount_19 : decode cX4_edgeCount 19 = .ok (.iconst 1, 1) := by decide +kernel
theorem dX4_edgeCount_20 : decode cX4_edgeCount 20 = .ok (.iadd, 1) := by decide +kernel
theorem dX4_edgeCount_21 : decode cX4_edgeCount 21 = .ok (.imul, 1) := by decide +kernel
theorem dX4_edgeCount_22 : decode cX4_edgeCount 22 = .ok (.iadd, 1) := by decide +kernel
theorem dX4_edgeCount_23 : decode cX4_edgeCount 23 = .ok (.ireturn, 1) := by decide +kernel
abbrev rm_X4_edgeCount : Room := { frames := 0, cells := 0, slots := 0, locals := 0 }
theorem hd_X4_edgeCount : yX4_edgeCount.cls ≠ "java/lang/invoke/MethodHandle" ∧ yX4_edgeCount.cls ≠ "java/lang/invoke/VarHandle" ∧ (parseMethodDescriptor yX4_edgeCount.desc).map (fun d => d.parameters.length) = some 0 := by decide +kernel
def wp_X4_edgeCount (g_columns : Int32) (g_rows : Int32) (Q : Int32 → Prop) : Prop :=
Q (((g_columns + 1) * g_rows) + (g_columns * (g_rows + 1)))
set_option maxHeartbeats 4000000 in
set_option maxRecDepth 100000 in
theorem c_X4_edgeCount {D : DG} {cyI cyJ cyZ : ClassId} {a_g a_g_kinds a_g_wants : Nat} {g_columns : Int32} {g_rows : Int32} {g_hedges : Int32} {g_hurdles : Int32} {g_wantCount : Int32} {g_rest : Int32} {g_frozen : Int32} {g_kinds : Nat → Int32} {g_wants : Nat → Int32} {Q : Int32 → Prop} (h : wp_X4_edgeCount g_columns g_rows Q) :
    MetI yX4_edgeCount cX4_edgeCount 1 (some .int) rm_X4_edgeCount D [(cyI, .int), (cyJ, .long), (cyZ, .boolean)] [.ref a_g] (W_Ground cyI cyJ cyZ a_g a_g_kinds a_g_wants g_columns g_rows g_hedges g_hurdles g_wantCount g_rest g_frozen g_kinds g_wants) (fun _ : Unit => (W_Ground cyI cyJ cyZ a_g a_g_kinds a_g_wants g_columns g_rows g_hedges g_hurdles g_wantCount g_rest g_frozen g_kinds g_wants)) (fun v _ => Q v ) := by
  unfold wp_X4_edgeCount at h
  refine metI_of (by decide) (Nat.le_of_ble_eq_true rfl) (fun x cx0 hR0 => ?_)
  have cx : Cx x cX4_edgeCount 1 RX4 rm_X4_edgeCount D [(cyI, .int), (cyJ, .long), (cyZ, .boolean)] := cx0
  have hR : ∀ (v : Int32) (pc : Nat) (lv : List (Nat × Value)), decode cX4_edgeCount pc = .ok (.ireturn, 1) → Q v → J x 0 0 1 (W_Ground cyI cyJ cyZ a_g a_g_kinds a_g_wants g_columns g_rows g_hedges g_hurdles g_wantCount g_rest g_frozen g_kinds g_wants) lv pc [.int v] := (fun v pc lv d hq => hR0 v () pc lv d hq)
  show J x 0 0 1 (W_Ground cyI cyJ cyZ a_g a_g_kinds a_g_wants g_columns g_rows g_hedges g_hurdles g_wantCount g_rest g_frozen g_kinds g_wants) [(0, .ref a_g)] 0 []
  refine j_aload_n cx 0 rfl rfl dX4_edgeCount_0 (pn := 1) rfl ?_
  refine j_get cx inGX4 0 rfl rfl 2 (by decide) q_fl_X4_26 rfl rfl dX4_edgeCount_1 (pn := 4) rfl ?_
  refine j_iconst cx (v := 1) (by decide) dX4_edgeCount_4 (pn := 5) rfl ?_
  refine j_iadd cx dX4_edgeCount_5 (pn := 6) rfl ?_
  refine j_aload_n cx 0 rfl rfl dX4_edgeCount_6 (pn := 7) rfl ?_
  refine j_get cx inGX4 0 rfl rfl 3 (by decide) q_fl_X4_29 rfl rfl dX4_edgeCount_7 (pn := 10) rfl ?_
  refine j_imul cx dX4_edgeCount_10 (pn := 11) rfl ?_
  refine j_aload_n cx 0 rfl rfl dX4_edgeCount_11 (pn := 12) rfl ?_
  refine j_get cx inGX4 0 rfl rfl 2 (by decide) q_fl_X4_26 rfl rfl dX4_edgeCount_12 (pn := 15) rfl ?_
  refine j_aload_n cx 0 rfl rfl dX4_edgeCount_15 (pn := 16) rfl ?_
  refine j_get cx inGX4 0 rfl rfl 3 (by decide) q_fl_X4_29 rfl rfl dX4_edgeCount_16 (pn := 19) rfl ?_
  refine j_iconst cx (v := 1) (by decide) dX4_edgeCount_19 (pn := 20) rfl ?_
  refine j_iadd cx dX4_edgeCount_20 (pn := 21) rfl ?_
  refine j_imul cx dX4_edgeCount_21 (pn := 22) rfl ?_
  refine j_iadd cx dX4_edgeCount_22 (pn := 23) rfl ?_
  exact hR (((g_columns + 1) * g_rows) + (g_columns * (g_rows + 1))) 23 _ dX4_edgeCount_23 h
theorem dX4_wantOf_0 : decode cX4_wantOf 0 = .ok (.aload_n 0, 1) := by decide +kernel
theorem dX4_wantOf_1 : decode cX4_wantOf 1 = .ok (.getfield 32, 3) := by decide +kernel
theorem dX4_wantOf_4 : decode cX4_wantOf 4 = .ok (.iconst 1, 1) := by decide +kernel
theorem dX4_wantOf_5 : decode cX4_wantOf 5 = .ok (.if_icmp .lt 7, 3) := by decide +kernel
theorem dX4_wantOf_8 : decode cX4_wantOf 8 = .ok (.iload_n 1, 1) := by decide +kernel
theorem dX4_wantOf_9 : decode cX4_wantOf 9 = .ok (.ifCond .ge 7, 3) := by decide +kernel
theorem dX4_wantOf_12 : decode cX4_wantOf 12 = .ok (.iconst 1, 1) := by decide +kernel
theorem dX4_wantOf_13 : decode cX4_wantOf 13 = .ok (.goto 14, 3) := by decide +kernel
theorem dX4_wantOf_16 : decode cX4_wantOf 16 = .ok (.aload_n 0, 1) := by decide +kernel
theorem dX4_wantOf_17 : decode cX4_wantOf 17 = .ok (.getfield 15, 3) := by decide +kernel
theorem dX4_wantOf_20 : decode cX4_wantOf 20 = .ok (.iload_n 1, 1) := by decide +kernel
theorem dX4_wantOf_21 : decode cX4_wantOf 21 = .ok (.aload_n 0, 1) := by decide +kernel
theorem dX4_wantOf_22 : decode cX4_wantOf 22 = .ok (.getfield 32, 3) := by decide +kernel
theorem dX4_wantOf_25 : decode cX4_wantOf 25 = .ok (.irem, 1) := by decide +kernel
theorem dX4_wantOf_26 : decode cX4_wantOf 26 = .ok (.iaload, 1) := by decide +kernel
theorem dX4_wantOf_27 : decode cX4_wantOf 27 = .ok (.ireturn, 1) := by decide +kernel
abbrev rm_X4_wantOf : Room := { frames := 0, cells := 0, slots := 0, locals := 0 }
theorem hd_X4_wantOf : yX4_wantOf.cls ≠ "java/lang/invoke/MethodHandle" ∧ yX4_wantOf.cls ≠ "java/lang/invoke/VarHandle" ∧ (parseMethodDescriptor yX4_wantOf.desc).map (fun d => d.parameters.length) = some 1 := by decide +kernel
def bk_X4_wantOf_12 (Q : Int32 → Prop) : Prop :=
Q 1
def wp_X4_wantOf (p1 : Int32) (g_wantCount : Int32) (g_wants : Nat → Int32) (Q : Int32 → Prop) : Prop :=
((g_wantCount < 1 → bk_X4_wantOf_12 Q) ∧
(¬ g_wantCount < 1 → ((0 ≤ p1 → ¬ g_wantCount = 0 ∧ vp_in (p1 - p1 / g_wantCount * g_wantCount) 7 ∧ Q (g_wants (p1 - p1 / g_wantCount * g_wantCount).toNatClampNeg)) ∧
(¬ 0 ≤ p1 → bk_X4_wantOf_12 Q))))
set_option maxHeartbeats 4000000 in
set_option maxRecDepth 100000 in
theorem J_X4_wantOf_12 {x : CX} {D : DG} {cyI cyJ cyZ : ClassId} {a_g a_g_kinds a_g_wants : Nat} {g_columns : Int32} {g_rows : Int32} {g_hedges : Int32} {g_hurdles : Int32} {g_wantCount : Int32} {g_rest : Int32} {g_frozen : Int32} {g_kinds : Nat → Int32} {g_wants : Nat → Int32} {Q : Int32 → Prop} (cx : Cx x cX4_wantOf 2 RX4 rm_X4_wantOf D [(cyI, .int), (cyJ, .long), (cyZ, .boolean)]) (hR : ∀ (v : Int32) (pc : Nat) (lv : List (Nat × Value)), decode cX4_wantOf pc = .ok (.ireturn, 1) → Q v → J x 0 0 2 (W_Ground cyI cyJ cyZ a_g a_g_kinds a_g_wants g_columns g_rows g_hedges g_hurdles g_wantCount g_rest g_frozen g_kinds g_wants) lv pc [.int v]) (h : bk_X4_wantOf_12 Q  ) :
    J x 0 0 2 (W_Ground cyI cyJ cyZ a_g a_g_kinds a_g_wants g_columns g_rows g_hedges g_hurdles g_wantCount g_rest g_frozen g_kinds g_wants) [] 12 [] := by
  unfold bk_X4_wantOf_12 at h
  refine j_iconst cx (v := 1) (by decide) dX4_wantOf_12 (pn := 13) rfl ?_
  refine j_goto cx 27 dX4_wantOf_13 rfl ?_
  exact hR 1 27 _ dX4_wantOf_27 h
set_option maxHeartbeats 4000000 in
set_option maxRecDepth 100000 in
theorem c_X4_wantOf {D : DG} {cyI cyJ cyZ : ClassId} {a_g a_g_kinds a_g_wants : Nat} {g_columns : Int32} {g_rows : Int32} {g_hedges : Int32} {g_hurdles : Int32} {g_wantCount : Int32} {g_rest : Int32} {g_frozen : Int32} {g_kinds : Nat → Int32} {g_wants : Nat → Int32} {p1 : Int32} {Q : Int32 → Prop} (h : wp_X4_wantOf p1 g_wantCount g_wants Q) :
    MetI yX4_wantOf cX4_wantOf 2 (some .int) rm_X4_wantOf D [(cyI, .int), (cyJ, .long), (cyZ, .boolean)] [.ref a_g, .int p1] (W_Ground cyI cyJ cyZ a_g a_g_kinds a_g_wants g_columns g_rows g_hedges g_hurdles g_wantCount g_rest g_frozen g_kinds g_wants) (fun _ : Unit => (W_Ground cyI cyJ cyZ a_g a_g_kinds a_g_wants g_columns g_rows g_hedges g_hurdles g_wantCount g_rest g_frozen g_kinds g_wants)) (fun v _ => Q v ) := by
  unfold wp_X4_wantOf at h
  refine metI_of (by decide) (Nat.le_of_ble_eq_true rfl) (fun x cx0 hR0 => ?_)
  have cx : Cx x cX4_wantOf 2 RX4 rm_X4_wantOf D [(cyI, .int), (cyJ, .long), (cyZ, .boolean)] := cx0
  have hR : ∀ (v : Int32) (pc : Nat) (lv : List (Nat × Value)), decode cX4_wantOf pc = .ok (.ireturn, 1) → Q v → J x 0 0 2 (W_Ground cyI cyJ cyZ a_g a_g_kinds a_g_wants g_columns g_rows g_hedges g_hurdles g_wantCount g_rest g_frozen g_kinds g_wants) lv pc [.int v] := (fun v pc lv d hq => hR0 v () pc lv d hq)
  show J x 0 0 2 (W_Ground cyI cyJ cyZ a_g a_g_kinds a_g_wants g_columns g_rows g_hedges g_hurdles g_wantCount g_rest g_frozen g_kinds g_wants) [(0, .ref a_g), (1, .int p1)] 0 []
  refine j_aload_n cx 0 rfl rfl dX4_wantOf_0 (pn := 1) rfl ?_
  refine j_get cx inGX4 0 rfl rfl 6 (by decide) q_fl_X4_32 rfl rfl dX4_wantOf_1 (pn := 4) rfl ?_
  refine j_iconst cx (v := 1) (by decide) dX4_wantOf_4 (pn := 5) rfl ?_
  refine j_icmp_lt cx 12 dX4_wantOf_5 (pn := 8) rfl rfl (fun c1 => ?_) (fun c1 => ?_)
  · have h := h.1 c1
    refine j_sub [] [] rfl ?_
    exact J_X4_wantOf_12 cx hR h
  · have h := h.2 c1
    refine j_iload_n cx 1 rfl rfl dX4_wantOf_8 (pn := 9) rfl ?_
    refine j_if_ge cx 16 dX4_wantOf_9 (pn := 12) rfl rfl (fun c2 => ?_) (fun c2 => ?_)
    · have h := h.1 c2
      refine j_aload_n cx 0 rfl rfl dX4_wantOf_16 (pn := 17) rfl ?_
      refine j_get cx inGX4 0 rfl rfl 1 (by decide) q_fl_X4_15 rfl rfl dX4_wantOf_17 (pn := 20) rfl ?_
      refine j_iload_n cx 1 rfl rfl dX4_wantOf_20 (pn := 21) rfl ?_
      refine j_aload_n cx 0 rfl rfl dX4_wantOf_21 (pn := 22) rfl ?_
      refine j_get cx inGX4 0 rfl rfl 6 (by decide) q_fl_X4_32 rfl rfl dX4_wantOf_22 (pn := 25) rfl ?_
      refine j_irem cx h.1 dX4_wantOf_25 (pn := 26) rfl ?_
      have h := h.2
      refine j_iald cx 2 0 rfl rfl h.1 dX4_wantOf_26 (pn := 27) rfl ?_
      have h := h.2
      exact hR (g_wants (p1 - p1 / g_wantCount * g_wantCount).toNatClampNeg) 27 _ dX4_wantOf_27 h
    · have h := h.2 c2
      refine j_sub [] [] rfl ?_
      exact J_X4_wantOf_12 cx hR h
theorem dX4_isFrozen_0 : decode cX4_isFrozen 0 = .ok (.aload_n 0, 1) := by decide +kernel
theorem dX4_isFrozen_1 : decode cX4_isFrozen 1 = .ok (.getfield 35, 3) := by decide +kernel
theorem dX4_isFrozen_4 : decode cX4_isFrozen 4 = .ok (.iload_n 1, 1) := by decide +kernel
theorem dX4_isFrozen_5 : decode cX4_isFrozen 5 = .ok (.ishr, 1) := by decide +kernel
theorem dX4_isFrozen_6 : decode cX4_isFrozen 6 = .ok (.iconst 1, 1) := by decide +kernel
theorem dX4_isFrozen_7 : decode cX4_isFrozen 7 = .ok (.iand, 1) := by decide +kernel
theorem dX4_isFrozen_8 : decode cX4_isFrozen 8 = .ok (.iconst 1, 1) := by decide +kernel
theorem dX4_isFrozen_9 : decode cX4_isFrozen 9 = .ok (.if_icmp .ne 7, 3) := by decide +kernel
theorem dX4_isFrozen_12 : decode cX4_isFrozen 12 = .ok (.iconst 1, 1) := by decide +kernel
theorem dX4_isFrozen_13 : decode cX4_isFrozen 13 = .ok (.goto 4, 3) := by decide +kernel
theorem dX4_isFrozen_16 : decode cX4_isFrozen 16 = .ok (.iconst 0, 1) := by decide +kernel
theorem dX4_isFrozen_17 : decode cX4_isFrozen 17 = .ok (.ireturn, 1) := by decide +kernel
abbrev rm_X4_isFrozen : Room := { frames := 0, cells := 0, slots := 0, locals := 0 }
theorem hd_X4_isFrozen : yX4_isFrozen.cls ≠ "java/lang/invoke/MethodHandle" ∧ yX4_isFrozen.cls ≠ "java/lang/invoke/VarHandle" ∧ (parseMethodDescriptor yX4_isFrozen.desc).map (fun d => d.parameters.length) = some 1 := by decide +kernel
def wp_X4_isFrozen (p1 : Int32) (g_frozen : Int32) (Q : Int32 → Prop) : Prop :=
((¬ ((g_frozen >>> (p1 &&& 31)) &&& 1) = 1 → Q 0) ∧
(((g_frozen >>> (p1 &&& 31)) &&& 1) = 1 → Q 1))
set_option maxHeartbeats 4000000 in
set_option maxRecDepth 100000 in
theorem c_X4_isFrozen {D : DG} {cyI cyJ cyZ : ClassId} {a_g a_g_kinds a_g_wants : Nat} {g_columns : Int32} {g_rows : Int32} {g_hedges : Int32} {g_hurdles : Int32} {g_wantCount : Int32} {g_rest : Int32} {g_frozen : Int32} {g_kinds : Nat → Int32} {g_wants : Nat → Int32} {p1 : Int32} {Q : Int32 → Prop} (h : wp_X4_isFrozen p1 g_frozen Q) :
    MetI yX4_isFrozen cX4_isFrozen 2 (some .boolean) rm_X4_isFrozen D [(cyI, .int), (cyJ, .long), (cyZ, .boolean)] [.ref a_g, .int p1] (W_Ground cyI cyJ cyZ a_g a_g_kinds a_g_wants g_columns g_rows g_hedges g_hurdles g_wantCount g_rest g_frozen g_kinds g_wants) (fun _ : Unit => (W_Ground cyI cyJ cyZ a_g a_g_kinds a_g_wants g_columns g_rows g_hedges g_hurdles g_wantCount g_rest g_frozen g_kinds g_wants)) (fun v _ => Q v ) := by
  unfold wp_X4_isFrozen at h
  refine metZ_of (by decide) (Nat.le_of_ble_eq_true rfl) (fun x cx0 hR0 => ?_)
  have cx : Cx x cX4_isFrozen 2 RX4 rm_X4_isFrozen D [(cyI, .int), (cyJ, .long), (cyZ, .boolean)] := cx0
  have hR : ∀ (v : Int32) (pc : Nat) (lv : List (Nat × Value)), decode cX4_isFrozen pc = .ok (.ireturn, 1) → (v = 0 ∨ v = 1) → Q v → J x 0 0 2 (W_Ground cyI cyJ cyZ a_g a_g_kinds a_g_wants g_columns g_rows g_hedges g_hurdles g_wantCount g_rest g_frozen g_kinds g_wants) lv pc [.int v] := (fun v pc lv d hz hq => hR0 v () pc lv d hz hq)
  show J x 0 0 2 (W_Ground cyI cyJ cyZ a_g a_g_kinds a_g_wants g_columns g_rows g_hedges g_hurdles g_wantCount g_rest g_frozen g_kinds g_wants) [(0, .ref a_g), (1, .int p1)] 0 []
  refine j_aload_n cx 0 rfl rfl dX4_isFrozen_0 (pn := 1) rfl ?_
  refine j_get cx inGX4 0 rfl rfl 8 (by decide) q_fl_X4_35 rfl rfl dX4_isFrozen_1 (pn := 4) rfl ?_
  refine j_iload_n cx 1 rfl rfl dX4_isFrozen_4 (pn := 5) rfl ?_
  refine j_ishr cx dX4_isFrozen_5 (pn := 6) rfl ?_
  refine j_iconst cx (v := 1) (by decide) dX4_isFrozen_6 (pn := 7) rfl ?_
  refine j_iand cx dX4_isFrozen_7 (pn := 8) rfl ?_
  refine j_iconst cx (v := 1) (by decide) dX4_isFrozen_8 (pn := 9) rfl ?_
  refine j_icmp_ne cx 16 dX4_isFrozen_9 (pn := 12) rfl rfl (fun c1 => ?_) (fun c1 => ?_)
  · have h := h.1 c1
    refine j_iconst cx (v := 0) (by decide) dX4_isFrozen_16 (pn := 17) rfl ?_
    exact hR 0 17 _ dX4_isFrozen_17 (Or.inl rfl) h
  · have h := h.2 c1
    refine j_iconst cx (v := 1) (by decide) dX4_isFrozen_12 (pn := 13) rfl ?_
    refine j_goto cx 17 dX4_isFrozen_13 rfl ?_
    exact hR 1 17 _ dX4_isFrozen_17 (Or.inr rfl) h
theorem dX4_edgeAt_0 : decode cX4_edgeAt 0 = .ok (.iload_n 3, 1) := by decide +kernel
theorem dX4_edgeAt_1 : decode cX4_edgeAt 1 = .ok (.tableswitch 72 0 2 #[27, 38, 51], 27) := by decide +kernel
theorem dX4_edgeAt_28 : decode cX4_edgeAt 28 = .ok (.aload_n 0, 1) := by decide +kernel
theorem dX4_edgeAt_29 : decode cX4_edgeAt 29 = .ok (.getfield 26, 3) := by decide +kernel
theorem dX4_edgeAt_32 : decode cX4_edgeAt 32 = .ok (.iconst 1, 1) := by decide +kernel
theorem dX4_edgeAt_33 : decode cX4_edgeAt 33 = .ok (.iadd, 1) := by decide +kernel
theorem dX4_edgeAt_34 : decode cX4_edgeAt 34 = .ok (.iload_n 2, 1) := by decide +kernel
theorem dX4_edgeAt_35 : decode cX4_edgeAt 35 = .ok (.imul, 1) := by decide +kernel
theorem dX4_edgeAt_36 : decode cX4_edgeAt 36 = .ok (.iload_n 1, 1) := by decide +kernel
theorem dX4_edgeAt_37 : decode cX4_edgeAt 37 = .ok (.iadd, 1) := by decide +kernel
theorem dX4_edgeAt_38 : decode cX4_edgeAt 38 = .ok (.ireturn, 1) := by decide +kernel
theorem dX4_edgeAt_39 : decode cX4_edgeAt 39 = .ok (.aload_n 0, 1) := by decide +kernel
theorem dX4_edgeAt_40 : decode cX4_edgeAt 40 = .ok (.getfield 26, 3) := by decide +kernel
theorem dX4_edgeAt_43 : decode cX4_edgeAt 43 = .ok (.iconst 1, 1) := by decide +kernel
theorem dX4_edgeAt_44 : decode cX4_edgeAt 44 = .ok (.iadd, 1) := by decide +kernel
theorem dX4_edgeAt_45 : decode cX4_edgeAt 45 = .ok (.iload_n 2, 1) := by decide +kernel
theorem dX4_edgeAt_46 : decode cX4_edgeAt 46 = .ok (.imul, 1) := by decide +kernel
theorem dX4_edgeAt_47 : decode cX4_edgeAt 47 = .ok (.iload_n 1, 1) := by decide +kernel
theorem dX4_edgeAt_48 : decode cX4_edgeAt 48 = .ok (.iadd, 1) := by decide +kernel
theorem dX4_edgeAt_49 : decode cX4_edgeAt 49 = .ok (.iconst 1, 1) := by decide +kernel
theorem dX4_edgeAt_50 : decode cX4_edgeAt 50 = .ok (.iadd, 1) := by decide +kernel
theorem dX4_edgeAt_51 : decode cX4_edgeAt 51 = .ok (.ireturn, 1) := by decide +kernel
theorem dX4_edgeAt_52 : decode cX4_edgeAt 52 = .ok (.aload_n 0, 1) := by decide +kernel
theorem dX4_edgeAt_53 : decode cX4_edgeAt 53 = .ok (.getfield 26, 3) := by decide +kernel
theorem dX4_edgeAt_56 : decode cX4_edgeAt 56 = .ok (.iconst 1, 1) := by decide +kernel
theorem dX4_edgeAt_57 : decode cX4_edgeAt 57 = .ok (.iadd, 1) := by decide +kernel
theorem dX4_edgeAt_58 : decode cX4_edgeAt 58 = .ok (.aload_n 0, 1) := by decide +kernel
theorem dX4_edgeAt_59 : decode cX4_edgeAt 59 = .ok (.getfield 29, 3) := by decide +kernel
theorem dX4_edgeAt_62 : decode cX4_edgeAt 62 = .ok (.imul, 1) := by decide +kernel
theorem dX4_edgeAt_63 : decode cX4_edgeAt 63 = .ok (.aload_n 0, 1) := by decide +kernel
theorem dX4_edgeAt_64 : decode cX4_edgeAt 64 = .ok (.getfield 26, 3) := by decide +kernel
theorem dX4_edgeAt_67 : decode cX4_edgeAt 67 = .ok (.iload_n 2, 1) := by decide +kernel
theorem dX4_edgeAt_68 : decode cX4_edgeAt 68 = .ok (.imul, 1) := by decide +kernel
theorem dX4_edgeAt_69 : decode cX4_edgeAt 69 = .ok (.iadd, 1) := by decide +kernel
theorem dX4_edgeAt_70 : decode cX4_edgeAt 70 = .ok (.iload_n 1, 1) := by decide +kernel
theorem dX4_edgeAt_71 : decode cX4_edgeAt 71 = .ok (.iadd, 1) := by decide +kernel
theorem dX4_edgeAt_72 : decode cX4_edgeAt 72 = .ok (.ireturn, 1) := by decide +kernel
theorem dX4_edgeAt_73 : decode cX4_edgeAt 73 = .ok (.aload_n 0, 1) := by decide +kernel
theorem dX4_edgeAt_74 : decode cX4_edgeAt 74 = .ok (.getfield 26, 3) := by decide +kernel
theorem dX4_edgeAt_77 : decode cX4_edgeAt 77 = .ok (.iconst 1, 1) := by decide +kernel
theorem dX4_edgeAt_78 : decode cX4_edgeAt 78 = .ok (.iadd, 1) := by decide +kernel
theorem dX4_edgeAt_79 : decode cX4_edgeAt 79 = .ok (.aload_n 0, 1) := by decide +kernel
theorem dX4_edgeAt_80 : decode cX4_edgeAt 80 = .ok (.getfield 29, 3) := by decide +kernel
theorem dX4_edgeAt_83 : decode cX4_edgeAt 83 = .ok (.imul, 1) := by decide +kernel
theorem dX4_edgeAt_84 : decode cX4_edgeAt 84 = .ok (.aload_n 0, 1) := by decide +kernel
theorem dX4_edgeAt_85 : decode cX4_edgeAt 85 = .ok (.getfield 26, 3) := by decide +kernel
theorem dX4_edgeAt_88 : decode cX4_edgeAt 88 = .ok (.iload_n 2, 1) := by decide +kernel
theorem dX4_edgeAt_89 : decode cX4_edgeAt 89 = .ok (.iconst 1, 1) := by decide +kernel
theorem dX4_edgeAt_90 : decode cX4_edgeAt 90 = .ok (.iadd, 1) := by decide +kernel
theorem dX4_edgeAt_91 : decode cX4_edgeAt 91 = .ok (.imul, 1) := by decide +kernel
theorem dX4_edgeAt_92 : decode cX4_edgeAt 92 = .ok (.iadd, 1) := by decide +kernel
theorem dX4_edgeAt_93 : decode cX4_edgeAt 93 = .ok (.iload_n 1, 1) := by decide +kernel
theorem dX4_edgeAt_94 : decode cX4_edgeAt 94 = .ok (.iadd, 1) := by decide +kernel
theorem dX4_edgeAt_95 : decode cX4_edgeAt 95 = .ok (.ireturn, 1) := by decide +kernel
abbrev rm_X4_edgeAt : Room := { frames := 0, cells := 0, slots := 0, locals := 0 }
theorem hd_X4_edgeAt : yX4_edgeAt.cls ≠ "java/lang/invoke/MethodHandle" ∧ yX4_edgeAt.cls ≠ "java/lang/invoke/VarHandle" ∧ (parseMethodDescriptor yX4_edgeAt.desc).map (fun d => d.parameters.length) = some 3 := by decide +kernel
def wp_X4_edgeAt (p1 : Int32) (p2 : Int32) (p3 : Int32) (g_columns : Int32) (g_rows : Int32) (Q : Int32 → Prop) : Prop :=
((p3 = 0 → Q (((g_columns + 1) * p2) + p1)) ∧
(p3 = 1 → Q ((((g_columns + 1) * p2) + p1) + 1)) ∧
(p3 = 2 → Q ((((g_columns + 1) * g_rows) + (g_columns * p2)) + p1)) ∧
((¬ p3 = 0 ∧ ¬ p3 = 1 ∧ ¬ p3 = 2) → Q ((((g_columns + 1) * g_rows) + (g_columns * (p2 + 1))) + p1)))
set_option maxHeartbeats 4000000 in
set_option maxRecDepth 100000 in
theorem c_X4_edgeAt {D : DG} {cyI cyJ cyZ : ClassId} {a_g a_g_kinds a_g_wants : Nat} {g_columns : Int32} {g_rows : Int32} {g_hedges : Int32} {g_hurdles : Int32} {g_wantCount : Int32} {g_rest : Int32} {g_frozen : Int32} {g_kinds : Nat → Int32} {g_wants : Nat → Int32} {p1 : Int32} {p2 : Int32} {p3 : Int32} {Q : Int32 → Prop} (h : wp_X4_edgeAt p1 p2 p3 g_columns g_rows Q) :
    MetI yX4_edgeAt cX4_edgeAt 4 (some .int) rm_X4_edgeAt D [(cyI, .int), (cyJ, .long), (cyZ, .boolean)] [.ref a_g, .int p1, .int p2, .int p3] (W_Ground cyI cyJ cyZ a_g a_g_kinds a_g_wants g_columns g_rows g_hedges g_hurdles g_wantCount g_rest g_frozen g_kinds g_wants) (fun _ : Unit => (W_Ground cyI cyJ cyZ a_g a_g_kinds a_g_wants g_columns g_rows g_hedges g_hurdles g_wantCount g_rest g_frozen g_kinds g_wants)) (fun v _ => Q v ) := by
  unfold wp_X4_edgeAt at h
  refine metI_of (by decide) (Nat.le_of_ble_eq_true rfl) (fun x cx0 hR0 => ?_)
  have cx : Cx x cX4_edgeAt 4 RX4 rm_X4_edgeAt D [(cyI, .int), (cyJ, .long), (cyZ, .boolean)] := cx0
  have hR : ∀ (v : Int32) (pc : Nat) (lv : List (Nat × Value)), decode cX4_edgeAt pc = .ok (.ireturn, 1) → Q v → J x 0 0 4 (W_Ground cyI cyJ cyZ a_g a_g_kinds a_g_wants g_columns g_rows g_hedges g_hurdles g_wantCount g_rest g_frozen g_kinds g_wants) lv pc [.int v] := (fun v pc lv d hq => hR0 v () pc lv d hq)
  show J x 0 0 4 (W_Ground cyI cyJ cyZ a_g a_g_kinds a_g_wants g_columns g_rows g_hedges g_hurdles g_wantCount g_rest g_frozen g_kinds g_wants) [(0, .ref a_g), (1, .int p1), (2, .int p2), (3, .int p3)] 0 []
  refine j_iload_n cx 3 rfl rfl dX4_edgeAt_0 (pn := 1) rfl ?_
  by_cases k0 : p3 = 0
  · refine j_tabIn cx 28 dX4_edgeAt_1 (by rw [k0]; decide) (by rw [k0]; decide) (off := 27) (by rw [k0]; rfl) rfl ?_
    have h := h.1 k0
    refine j_aload_n cx 0 rfl rfl dX4_edgeAt_28 (pn := 29) rfl ?_
    refine j_get cx inGX4 0 rfl rfl 2 (by decide) q_fl_X4_26 rfl rfl dX4_edgeAt_29 (pn := 32) rfl ?_
    refine j_iconst cx (v := 1) (by decide) dX4_edgeAt_32 (pn := 33) rfl ?_
    refine j_iadd cx dX4_edgeAt_33 (pn := 34) rfl ?_
    refine j_iload_n cx 2 rfl rfl dX4_edgeAt_34 (pn := 35) rfl ?_
    refine j_imul cx dX4_edgeAt_35 (pn := 36) rfl ?_
    refine j_iload_n cx 1 rfl rfl dX4_edgeAt_36 (pn := 37) rfl ?_
    refine j_iadd cx dX4_edgeAt_37 (pn := 38) rfl ?_
    exact hR (((g_columns + 1) * p2) + p1) 38 _ dX4_edgeAt_38 h
  by_cases k1 : p3 = 1
  · refine j_tabIn cx 39 dX4_edgeAt_1 (by rw [k1]; decide) (by rw [k1]; decide) (off := 38) (by rw [k1]; rfl) rfl ?_
    have h := h.2.1 k1
    refine j_aload_n cx 0 rfl rfl dX4_edgeAt_39 (pn := 40) rfl ?_
    refine j_get cx inGX4 0 rfl rfl 2 (by decide) q_fl_X4_26 rfl rfl dX4_edgeAt_40 (pn := 43) rfl ?_
    refine j_iconst cx (v := 1) (by decide) dX4_edgeAt_43 (pn := 44) rfl ?_
    refine j_iadd cx dX4_edgeAt_44 (pn := 45) rfl ?_
    refine j_iload_n cx 2 rfl rfl dX4_edgeAt_45 (pn := 46) rfl ?_
    refine j_imul cx dX4_edgeAt_46 (pn := 47) rfl ?_
    refine j_iload_n cx 1 rfl rfl dX4_edgeAt_47 (pn := 48) rfl ?_
    refine j_iadd cx dX4_edgeAt_48 (pn := 49) rfl ?_
    refine j_iconst cx (v := 1) (by decide) dX4_edgeAt_49 (pn := 50) rfl ?_
    refine j_iadd cx dX4_edgeAt_50 (pn := 51) rfl ?_
    exact hR ((((g_columns + 1) * p2) + p1) + 1) 51 _ dX4_edgeAt_51 h
  by_cases k2 : p3 = 2
  · refine j_tabIn cx 52 dX4_edgeAt_1 (by rw [k2]; decide) (by rw [k2]; decide) (off := 51) (by rw [k2]; rfl) rfl ?_
    have h := h.2.2.1 k2
    refine j_aload_n cx 0 rfl rfl dX4_edgeAt_52 (pn := 53) rfl ?_
    refine j_get cx inGX4 0 rfl rfl 2 (by decide) q_fl_X4_26 rfl rfl dX4_edgeAt_53 (pn := 56) rfl ?_
    refine j_iconst cx (v := 1) (by decide) dX4_edgeAt_56 (pn := 57) rfl ?_
    refine j_iadd cx dX4_edgeAt_57 (pn := 58) rfl ?_
    refine j_aload_n cx 0 rfl rfl dX4_edgeAt_58 (pn := 59) rfl ?_
    refine j_get cx inGX4 0 rfl rfl 3 (by decide) q_fl_X4_29 rfl rfl dX4_edgeAt_59 (pn := 62) rfl ?_
    refine j_imul cx dX4_edgeAt_62 (pn := 63) rfl ?_
    refine j_aload_n cx 0 rfl rfl dX4_edgeAt_63 (pn := 64) rfl ?_
    refine j_get cx inGX4 0 rfl rfl 2 (by decide) q_fl_X4_26 rfl rfl dX4_edgeAt_64 (pn := 67) rfl ?_
    refine j_iload_n cx 2 rfl rfl dX4_edgeAt_67 (pn := 68) rfl ?_
    refine j_imul cx dX4_edgeAt_68 (pn := 69) rfl ?_
    refine j_iadd cx dX4_edgeAt_69 (pn := 70) rfl ?_
    refine j_iload_n cx 1 rfl rfl dX4_edgeAt_70 (pn := 71) rfl ?_
    refine j_iadd cx dX4_edgeAt_71 (pn := 72) rfl ?_
    exact hR ((((g_columns + 1) * g_rows) + (g_columns * p2)) + p1) 72 _ dX4_edgeAt_72 h
  refine j_tabOut cx 73 dX4_edgeAt_1 (sw_out0_2 k0 k1 k2) rfl ?_
  have h := h.2.2.2 ⟨k0, k1, k2⟩
  refine j_aload_n cx 0 rfl rfl dX4_edgeAt_73 (pn := 74) rfl ?_
  refine j_get cx inGX4 0 rfl rfl 2 (by decide) q_fl_X4_26 rfl rfl dX4_edgeAt_74 (pn := 77) rfl ?_
  refine j_iconst cx (v := 1) (by decide) dX4_edgeAt_77 (pn := 78) rfl ?_
  refine j_iadd cx dX4_edgeAt_78 (pn := 79) rfl ?_
  refine j_aload_n cx 0 rfl rfl dX4_edgeAt_79 (pn := 80) rfl ?_
  refine j_get cx inGX4 0 rfl rfl 3 (by decide) q_fl_X4_29 rfl rfl dX4_edgeAt_80 (pn := 83) rfl ?_
  refine j_imul cx dX4_edgeAt_83 (pn := 84) rfl ?_
  refine j_aload_n cx 0 rfl rfl dX4_edgeAt_84 (pn := 85) rfl ?_
  refine j_get cx inGX4 0 rfl rfl 2 (by decide) q_fl_X4_26 rfl rfl dX4_edgeAt_85 (pn := 88) rfl ?_
  refine j_iload_n cx 2 rfl rfl dX4_edgeAt_88 (pn := 89) rfl ?_
  refine j_iconst cx (v := 1) (by decide) dX4_edgeAt_89 (pn := 90) rfl ?_
  refine j_iadd cx dX4_edgeAt_90 (pn := 91) rfl ?_
  refine j_imul cx dX4_edgeAt_91 (pn := 92) rfl ?_
  refine j_iadd cx dX4_edgeAt_92 (pn := 93) rfl ?_
  refine j_iload_n cx 1 rfl rfl dX4_edgeAt_93 (pn := 94) rfl ?_
  refine j_iadd cx dX4_edgeAt_94 (pn := 95) rfl ?_
  exact hR ((((g_columns + 1) * g_rows) + (g_columns * (p2 + 1))) + p1) 95 _ dX4_edgeAt_95 h
theorem dX4_lay_0 : decode cX4_lay 0 = .ok (.aload_n 0, 1) := by decide +kernel
theorem dX4_lay_1 : decode cX4_lay 1 = .ok (.iload_n 1, 1) := by decide +kernel
theorem dX4_lay_2 : decode cX4_lay 2 = .ok (.putfield 26, 3) := by decide +kernel
theorem dX4_lay_5 : decode cX4_lay 5 = .ok (.aload_n 0, 1) := by decide +kernel
theorem dX4_lay_6 : decode cX4_lay 6 = .ok (.iload_n 2, 1) := by decide +kernel
theorem dX4_lay_7 : decode cX4_lay 7 = .ok (.putfield 29, 3) := by decide +kernel
theorem dX4_lay_10 : decode cX4_lay 10 = .ok (.aload_n 0, 1) := by decide +kernel
theorem dX4_lay_11 : decode cX4_lay 11 = .ok (.iconst 0, 1) := by decide +kernel
theorem dX4_lay_12 : decode cX4_lay 12 = .ok (.putfield 42, 3) := by decide +kernel
theorem dX4_lay_15 : decode cX4_lay 15 = .ok (.aload_n 0, 1) := by decide +kernel
theorem dX4_lay_16 : decode cX4_lay 16 = .ok (.getfield 9, 3) := by decide +kernel
theorem dX4_lay_19 : decode cX4_lay 19 = .ok (.iconst 1, 1) := by decide +kernel
theorem dX4_lay_20 : decode cX4_lay 20 = .ok (.invokestatic 59, 3) := by decide +kernel
theorem dX4_lay_23 : decode cX4_lay 23 = .ok (.return_, 1) := by decide +kernel
abbrev rm_X4_lay : Room := { frames := 1, cells := 0, slots := 0, locals := 23 }
theorem hd_X4_lay : yX4_lay.cls ≠ "java/lang/invoke/MethodHandle" ∧ yX4_lay.cls ≠ "java/lang/invoke/VarHandle" ∧ (parseMethodDescriptor yX4_lay.desc).map (fun d => d.parameters.length) = some 2 := by decide +kernel
def wp_X4_lay (p1 : Int32) (p2 : Int32) (g_kinds : Nat → Int32) (Q : (Int32 × Int32 × Int32 × (Nat → Int32)) → Prop) : Prop :=
wp_J7_fill_53178 10 1 g_kinds (fun (u1 : (Nat → Int32)) => Q (p1, p2, 0, u1))
set_option maxHeartbeats 4000000 in
set_option maxRecDepth 100000 in
theorem c_X4_lay {D : DG} {cyI cyJ cyZ : ClassId} {a_g a_g_kinds a_g_wants : Nat} {g_columns : Int32} {g_rows : Int32} {g_hedges : Int32} {g_hurdles : Int32} {g_wantCount : Int32} {g_rest : Int32} {g_frozen : Int32} {g_kinds : Nat → Int32} {g_wants : Nat → Int32} {p1 : Int32} {p2 : Int32} {Q : (Int32 × Int32 × Int32 × (Nat → Int32)) → Prop} (h : wp_X4_lay p1 p2 g_kinds Q) :
    MetV yX4_lay cX4_lay 3 (none) rm_X4_lay D [(cyI, .int), (cyJ, .long), (cyZ, .boolean)] [.ref a_g, .int p1, .int p2] (W_Ground cyI cyJ cyZ a_g a_g_kinds a_g_wants g_columns g_rows g_hedges g_hurdles g_wantCount g_rest g_frozen g_kinds g_wants) (fun u : Int32 × Int32 × Int32 × (Nat → Int32) => (W_Ground cyI cyJ cyZ a_g a_g_kinds a_g_wants u.1 u.2.1 u.2.2.1 g_hurdles g_wantCount g_rest g_frozen u.2.2.2 g_wants)) (fun u => Q u) := by
  unfold wp_X4_lay at h
  refine metV_of (by decide) (Nat.le_of_ble_eq_true rfl) (fun x cx0 hR0 => ?_)
  have cx : Cx x cX4_lay 3 RX4 rm_X4_lay D [(cyI, .int), (cyJ, .long), (cyZ, .boolean)] := cx0
  have hR : ∀ (u : Int32 × Int32 × Int32 × (Nat → Int32)) (pc : Nat) (lv : List (Nat × Value)), decode cX4_lay pc = .ok (.return_, 1) → Q u → J x 0 0 3 (W_Ground cyI cyJ cyZ a_g a_g_kinds a_g_wants u.1 u.2.1 u.2.2.1 g_hurdles g_wantCount g_rest g_frozen u.2.2.2 g_wants) lv pc [] := (fun u pc lv d hq => hR0 u pc lv d hq)
  show J x 0 0 3 (W_Ground cyI cyJ cyZ a_g a_g_kinds a_g_wants g_columns g_rows g_hedges g_hurdles g_wantCount g_rest g_frozen g_kinds g_wants) [(0, .ref a_g), (1, .int p1), (2, .int p2)] 0 []
  refine j_aload_n cx 0 rfl rfl dX4_lay_0 (pn := 1) rfl ?_
  refine j_iload_n cx 1 rfl rfl dX4_lay_1 (pn := 2) rfl ?_
  refine j_put cx tyX4 tyX4_ok nmX4 inGX4 0 rfl rfl 2 (by decide) q_fl_X4_26 rfl rfl rfl rfl rfl (Nat.le_of_ble_eq_true rfl) (W_Ground cyI cyJ cyZ a_g a_g_kinds a_g_wants p1 g_rows g_hedges g_hurdles g_wantCount g_rest g_frozen g_kinds g_wants) rfl dX4_lay_2 (pn := 5) rfl ?_
  refine j_aload_n cx 0 rfl rfl dX4_lay_5 (pn := 6) rfl ?_
  refine j_iload_n cx 2 rfl rfl dX4_lay_6 (pn := 7) rfl ?_
  refine j_put cx tyX4 tyX4_ok nmX4 inGX4 0 rfl rfl 3 (by decide) q_fl_X4_29 rfl rfl rfl rfl rfl (Nat.le_of_ble_eq_true rfl) (W_Ground cyI cyJ cyZ a_g a_g_kinds a_g_wants p1 p2 g_hedges g_hurdles g_wantCount g_rest g_frozen g_kinds g_wants) rfl dX4_lay_7 (pn := 10) rfl ?_
  refine j_aload_n cx 0 rfl rfl dX4_lay_10 (pn := 11) rfl ?_
  refine j_iconst cx (v := 0) (by decide) dX4_lay_11 (pn := 12) rfl ?_
  refine j_put cx tyX4 tyX4_ok nmX4 inGX4 0 rfl rfl 4 (by decide) q_fl_X4_42 rfl rfl rfl rfl rfl (Nat.le_of_ble_eq_true rfl) (W_Ground cyI cyJ cyZ a_g a_g_kinds a_g_wants p1 p2 0 g_hurdles g_wantCount g_rest g_frozen g_kinds g_wants) rfl dX4_lay_12 (pn := 15) rfl ?_
  refine j_aload_n cx 0 rfl rfl dX4_lay_15 (pn := 16) rfl ?_
  refine j_get cx inGX4 0 rfl rfl 0 (by decide) q_fl_X4_9 rfl rfl dX4_lay_16 (pn := 19) rfl ?_
  refine j_iconst cx (v := 1) (by decide) dX4_lay_19 (pn := 20) rfl ?_
  refine j_callsV cx q_stat_J7_fill_53178 (As := [.ref a_g_kinds, .int 1]) (rest := []) (W_Arr cyI cyJ cyZ 10 a_g_kinds g_kinds) [(a_g, .inr (4, [.ref a_g_kinds, .ref a_g_wants, .int p1, .int p2, .int 0, .int g_hurdles, .int g_wantCount, .int g_rest, .int g_frozen])), (a_g_wants, .inl (cyI, 7, .inl g_wants))] (c_J7_fill_53178 h) ⟨q_code_J7_fill_53178, q_ml_X4_59, q_init_J7, hd_J7_fill_53178, ⟨Nat.le_of_ble_eq_true rfl, Nat.le_of_ble_eq_true rfl⟩, Nat.le_of_ble_eq_true rfl, Nat.le_of_ble_eq_true rfl⟩ rfl [1] [0, 2] [0, 2, 1] rfl rfl rfl rfl rfl (by decide) (fun u : (Nat → Int32) => (W_Ground cyI cyJ cyZ a_g a_g_kinds a_g_wants p1 p2 0 g_hurdles g_wantCount g_rest g_frozen u g_wants)) (fun _ => rfl) (fun _ => rfl) rfl rfl (Nat.le_of_ble_eq_true rfl) dX4_lay_20 (pn := 23) rfl (fun u1 h => ?_)
  show J x 0 0 3 (W_Ground cyI cyJ cyZ a_g a_g_kinds a_g_wants p1 p2 0 g_hurdles g_wantCount g_rest g_frozen u1 g_wants) [(0, .ref a_g), (1, .int p1), (2, .int p2)] 23 []
  exact hR (p1, p2, 0, u1) 23 _ dX4_lay_23 h
theorem dX4_put_0 : decode cX4_put 0 = .ok (.aload_n 0, 1) := by decide +kernel
theorem dX4_put_1 : decode cX4_put 1 = .ok (.getfield 26, 3) := by decide +kernel
theorem dX4_put_4 : decode cX4_put 4 = .ok (.iload_n 2, 1) := by decide +kernel
theorem dX4_put_5 : decode cX4_put 5 = .ok (.imul, 1) := by decide +kernel
theorem dX4_put_6 : decode cX4_put 6 = .ok (.iload_n 1, 1) := by decide +kernel
theorem dX4_put_7 : decode cX4_put 7 = .ok (.iadd, 1) := by decide +kernel
theorem dX4_put_8 : decode cX4_put 8 = .ok (.istore 4, 2) := by decide +kernel
theorem dX4_put_10 : decode cX4_put 10 = .ok (.iload 4, 2) := by decide +kernel
theorem dX4_put_12 : decode cX4_put 12 = .ok (.ifCond .lt 18, 3) := by decide +kernel
theorem dX4_put_15 : decode cX4_put 15 = .ok (.iload 4, 2) := by decide +kernel
theorem dX4_put_17 : decode cX4_put 17 = .ok (.bipush 10, 2) := by decide +kernel
theorem dX4_put_19 : decode cX4_put 19 = .ok (.if_icmp .ge 11, 3) := by decide +kernel
theorem dX4_put_22 : decode cX4_put 22 = .ok (.aload_n 0, 1) := by decide +kernel
theorem dX4_put_23 : decode cX4_put 23 = .ok (.getfield 9, 3) := by decide +kernel
theorem dX4_put_26 : decode cX4_put 26 = .ok (.iload 4, 2) := by decide +kernel
theorem dX4_put_28 : decode cX4_put 28 = .ok (.iload_n 3, 1) := by decide +kernel
theorem dX4_put_29 : decode cX4_put 29 = .ok (.iastore, 1) := by decide +kernel
theorem dX4_put_30 : decode cX4_put 30 = .ok (.return_, 1) := by decide +kernel
abbrev rm_X4_put : Room := { frames := 0, cells := 0, slots := 0, locals := 0 }
theorem hd_X4_put : yX4_put.cls ≠ "java/lang/invoke/MethodHandle" ∧ yX4_put.cls ≠ "java/lang/invoke/VarHandle" ∧ (parseMethodDescriptor yX4_put.desc).map (fun d => d.parameters.length) = some 3 := by decide +kernel
def wp_X4_put (p1 : Int32) (p2 : Int32) (p3 : Int32) (g_columns : Int32) (g_kinds : Nat → Int32) (Q : ((Nat → Int32)) → Prop) : Prop :=
∀ y1 : Int32, y1 = ((g_columns * p2) + p1) →
((y1 < 0 → Q g_kinds) ∧
(¬ y1 < 0 → ((10 ≤ y1 → Q g_kinds) ∧
(¬ 10 ≤ y1 → vp_in y1 10 ∧ (∀ f4 : Nat → Int32, f4 = (upd g_kinds y1.toNatClampNeg p3) →
Q f4)))))
set_option maxHeartbeats 4000000 in
set_option maxRecDepth 100000 in
theorem c_X4_put {D : DG} {cyI cyJ cyZ : ClassId} {a_g a_g_kinds a_g_wants : Nat} {g_columns : Int32} {g_rows : Int32} {g_hedges : Int32} {g_hurdles : Int32} {g_wantCount : Int32} {g_rest : Int32} {g_frozen : Int32} {g_kinds : Nat → Int32} {g_wants : Nat → Int32} {p1 : Int32} {p2 : Int32} {p3 : Int32} {Q : ((Nat → Int32)) → Prop} (h : wp_X4_put p1 p2 p3 g_columns g_kinds Q) :
    MetV yX4_put cX4_put 5 (none) rm_X4_put D [(cyI, .int), (cyJ, .long), (cyZ, .boolean)] [.ref a_g, .int p1, .int p2, .int p3] (W_Ground cyI cyJ cyZ a_g a_g_kinds a_g_wants g_columns g_rows g_hedges g_hurdles g_wantCount g_rest g_frozen g_kinds g_wants) (fun u : (Nat → Int32) => (W_Ground cyI cyJ cyZ a_g a_g_kinds a_g_wants g_columns g_rows g_hedges g_hurdles g_wantCount g_rest g_frozen u g_wants)) (fun u => Q u) := by
  unfold wp_X4_put at h
  refine metV_of (by decide) (Nat.le_of_ble_eq_true rfl) (fun x cx0 hR0 => ?_)
  have cx : Cx x cX4_put 5 RX4 rm_X4_put D [(cyI, .int), (cyJ, .long), (cyZ, .boolean)] := cx0
  have hR : ∀ (u : (Nat → Int32)) (pc : Nat) (lv : List (Nat × Value)), decode cX4_put pc = .ok (.return_, 1) → Q u → J x 0 0 5 (W_Ground cyI cyJ cyZ a_g a_g_kinds a_g_wants g_columns g_rows g_hedges g_hurdles g_wantCount g_rest g_frozen u g_wants) lv pc [] := (fun u pc lv d hq => hR0 u pc lv d hq)
  show J x 0 0 5 (W_Ground cyI cyJ cyZ a_g a_g_kinds a_g_wants g_columns g_rows g_hedges g_hurdles g_wantCount g_rest g_frozen g_kinds g_wants) [(0, .ref a_g), (1, .int p1), (2, .int p2), (3, .int p3)] 0 []
  refine j_aload_n cx 0 rfl rfl dX4_put_0 (pn := 1) rfl ?_
  refine j_get cx inGX4 0 rfl rfl 2 (by decide) q_fl_X4_26 rfl rfl dX4_put_1 (pn := 4) rfl ?_
  refine j_iload_n cx 2 rfl rfl dX4_put_4 (pn := 5) rfl ?_
  refine j_imul cx dX4_put_5 (pn := 6) rfl ?_
  refine j_iload_n cx 1 rfl rfl dX4_put_6 (pn := 7) rfl ?_
  refine j_iadd cx dX4_put_7 (pn := 8) rfl ?_
  refine j_topi (fun y1 ey1 => ?_)
  have h := h y1 ey1
  refine j_istore cx [(4, .int y1), (0, .ref a_g), (1, .int p1), (2, .int p2), (3, .int p3)] (by decide) rfl dX4_put_8 (pn := 10) rfl ?_
  refine j_iload cx 0 rfl dX4_put_10 (pn := 12) rfl ?_
  refine j_if_lt cx 30 dX4_put_12 (pn := 15) rfl rfl (fun c2 => ?_) (fun c2 => ?_)
  · have h := h.1 c2
    exact hR g_kinds 30 _ dX4_put_30 h
  · have h := h.2 c2
    refine j_iload cx 0 rfl dX4_put_15 (pn := 17) rfl ?_
    refine j_bipush cx (v := 10) (by decide) dX4_put_17 (pn := 19) rfl ?_
    refine j_icmp_ge cx 30 dX4_put_19 (pn := 22) rfl rfl (fun c3 => ?_) (fun c3 => ?_)
    · have h := h.1 c3
      exact hR g_kinds 30 _ dX4_put_30 h
    · have h := h.2 c3
      refine j_aload_n cx 1 rfl rfl dX4_put_22 (pn := 23) rfl ?_
      refine j_get cx inGX4 0 rfl rfl 0 (by decide) q_fl_X4_9 rfl rfl dX4_put_23 (pn := 26) rfl ?_
      refine j_iload cx 0 rfl dX4_put_26 (pn := 28) rfl ?_
      refine j_iload_n cx 4 rfl rfl dX4_put_28 (pn := 29) rfl ?_
      have hin := h.1
      obtain ⟨f4, ef4⟩ : ∃ z, z = upd g_kinds y1.toNatClampNeg p3 := ⟨_, rfl⟩
      have h := h.2 f4 ef4
      refine j_iast cx 1 0 rfl rfl hin (W_Ground cyI cyJ cyZ a_g a_g_kinds a_g_wants g_columns g_rows g_hedges g_hurdles g_wantCount g_rest g_frozen f4 g_wants) (by subst ef4; rfl) dX4_put_29 (pn := 30) rfl ?_
      exact hR f4 30 _ dX4_put_30 h
theorem dX4_want_0 : decode cX4_want 0 = .ok (.aload_n 0, 1) := by decide +kernel
theorem dX4_want_1 : decode cX4_want 1 = .ok (.getfield 32, 3) := by decide +kernel
theorem dX4_want_4 : decode cX4_want 4 = .ok (.bipush 7, 2) := by decide +kernel
theorem dX4_want_6 : decode cX4_want 6 = .ok (.if_icmp .ge 23, 3) := by decide +kernel
theorem dX4_want_9 : decode cX4_want 9 = .ok (.aload_n 0, 1) := by decide +kernel
theorem dX4_want_10 : decode cX4_want 10 = .ok (.getfield 15, 3) := by decide +kernel
theorem dX4_want_13 : decode cX4_want 13 = .ok (.aload_n 0, 1) := by decide +kernel
theorem dX4_want_14 : decode cX4_want 14 = .ok (.getfield 32, 3) := by decide +kernel
theorem dX4_want_17 : decode cX4_want 17 = .ok (.iload_n 1, 1) := by decide +kernel
theorem dX4_want_18 : decode cX4_want 18 = .ok (.iastore, 1) := by decide +kernel
theorem dX4_want_19 : decode cX4_want 19 = .ok (.aload_n 0, 1) := by decide +kernel
theorem dX4_want_20 : decode cX4_want 20 = .ok (.dup, 1) := by decide +kernel
theorem dX4_want_21 : decode cX4_want 21 = .ok (.getfield 32, 3) := by decide +kernel
theorem dX4_want_24 : decode cX4_want 24 = .ok (.iconst 1, 1) := by decide +kernel
theorem dX4_want_25 : decode cX4_want 25 = .ok (.iadd, 1) := by decide +kernel
theorem dX4_want_26 : decode cX4_want 26 = .ok (.putfield 32, 3) := by decide +kernel
theorem dX4_want_29 : decode cX4_want 29 = .ok (.return_, 1) := by decide +kernel
abbrev rm_X4_want : Room := { frames := 0, cells := 0, slots := 0, locals := 0 }
theorem hd_X4_want : yX4_want.cls ≠ "java/lang/invoke/MethodHandle" ∧ yX4_want.cls ≠ "java/lang/invoke/VarHandle" ∧ (parseMethodDescriptor yX4_want.desc).map (fun d => d.parameters.length) = some 1 := by decide +kernel
def wp_X4_want (p1 : Int32) (g_wantCount : Int32) (g_wants : Nat → Int32) (Q : (Int32 × (Nat → Int32)) → Prop) : Prop :=
((7 ≤ g_wantCount → Q (g_wantCount, g_wants)) ∧
(¬ 7 ≤ g_wantCount → vp_in g_wantCount 7 ∧ (∀ f2 : Nat → Int32, f2 = (upd g_wants g_wantCount.toNatClampNeg p1) →
∀ y3 : Int32, y3 = (g_wantCount + 1) →
Q (y3, f2))))
set_option maxHeartbeats 4000000 in
set_option maxRecDepth 100000 in
theorem c_X4_want {D : DG} {cyI cyJ cyZ : ClassId} {a_g a_g_kinds a_g_wants : Nat} {g_columns : Int32} {g_rows : Int32} {g_hedges : Int32} {g_hurdles : Int32} {g_wantCount : Int32} {g_rest : Int32} {g_frozen : Int32} {g_kinds : Nat → Int32} {g_wants : Nat → Int32} {p1 : Int32} {Q : (Int32 × (Nat → Int32)) → Prop} (h : wp_X4_want p1 g_wantCount g_wants Q) :
    MetV yX4_want cX4_want 2 (none) rm_X4_want D [(cyI, .int), (cyJ, .long), (cyZ, .boolean)] [.ref a_g, .int p1] (W_Ground cyI cyJ cyZ a_g a_g_kinds a_g_wants g_columns g_rows g_hedges g_hurdles g_wantCount g_rest g_frozen g_kinds g_wants) (fun u : Int32 × (Nat → Int32) => (W_Ground cyI cyJ cyZ a_g a_g_kinds a_g_wants g_columns g_rows g_hedges g_hurdles u.1 g_rest g_frozen g_kinds u.2)) (fun u => Q u) := by
  unfold wp_X4_want at h
  refine metV_of (by decide) (Nat.le_of_ble_eq_true rfl) (fun x cx0 hR0 => ?_)
  have cx : Cx x cX4_want 2 RX4 rm_X4_want D [(cyI, .int), (cyJ, .long), (cyZ, .boolean)] := cx0
  have hR : ∀ (u : Int32 × (Nat → Int32)) (pc : Nat) (lv : List (Nat × Value)), decode cX4_want pc = .ok (.return_, 1) → Q u → J x 0 0 2 (W_Ground cyI cyJ cyZ a_g a_g_kinds a_g_wants g_columns g_rows g_hedges g_hurdles u.1 g_rest g_frozen g_kinds u.2) lv pc [] := (fun u pc lv d hq => hR0 u pc lv d hq)
  show J x 0 0 2 (W_Ground cyI cyJ cyZ a_g a_g_kinds a_g_wants g_columns g_rows g_hedges g_hurdles g_wantCount g_rest g_frozen g_kinds g_wants) [(0, .ref a_g), (1, .int p1)] 0 []
  refine j_aload_n cx 0 rfl rfl dX4_want_0 (pn := 1) rfl ?_
  refine j_get cx inGX4 0 rfl rfl 6 (by decide) q_fl_X4_32 rfl rfl dX4_want_1 (pn := 4) rfl ?_
  refine j_bipush cx (v := 7) (by decide) dX4_want_4 (pn := 6) rfl ?_
  refine j_icmp_ge cx 29 dX4_want_6 (pn := 9) rfl rfl (fun c1 => ?_) (fun c1 => ?_)
  · have h := h.1 c1
    exact hR (g_wantCount, g_wants) 29 _ dX4_want_29 h
  · have h := h.2 c1
    refine j_aload_n cx 0 rfl rfl dX4_want_9 (pn := 10) rfl ?_
    refine j_get cx inGX4 0 rfl rfl 1 (by decide) q_fl_X4_15 rfl rfl dX4_want_10 (pn := 13) rfl ?_
    refine j_aload_n cx 0 rfl rfl dX4_want_13 (pn := 14) rfl ?_
    refine j_get cx inGX4 0 rfl rfl 6 (by decide) q_fl_X4_32 rfl rfl dX4_want_14 (pn := 17) rfl ?_
    refine j_iload_n cx 1 rfl rfl dX4_want_17 (pn := 18) rfl ?_
    have hin := h.1
    obtain ⟨f2, ef2⟩ : ∃ z, z = upd g_wants g_wantCount.toNatClampNeg p1 := ⟨_, rfl⟩
    have h := h.2 f2 ef2
    refine j_iast cx 2 0 rfl rfl hin (W_Ground cyI cyJ cyZ a_g a_g_kinds a_g_wants g_columns g_rows g_hedges g_hurdles g_wantCount g_rest g_frozen g_kinds f2) (by subst ef2; rfl) dX4_want_18 (pn := 19) rfl ?_
    refine j_aload_n cx 0 rfl rfl dX4_want_19 (pn := 20) rfl ?_
    refine j_dup cx rfl dX4_want_20 (pn := 21) rfl ?_
    refine j_get cx inGX4 0 rfl rfl 6 (by decide) q_fl_X4_32 rfl rfl dX4_want_21 (pn := 24) rfl ?_
    refine j_iconst cx (v := 1) (by decide) dX4_want_24 (pn := 25) rfl ?_
    refine j_iadd cx dX4_want_25 (pn := 26) rfl ?_
    refine j_topi (fun y3 ey3 => ?_)
    have h := h y3 ey3
    refine j_put cx tyX4 tyX4_ok nmX4 inGX4 0 rfl rfl 6 (by decide) q_fl_X4_32 rfl rfl rfl rfl rfl (Nat.le_of_ble_eq_true rfl) (W_Ground cyI cyJ cyZ a_g a_g_kinds a_g_wants g_columns g_rows g_hedges g_hurdles y3 g_rest g_frozen g_kinds f2) rfl dX4_want_26 (pn := 29) rfl ?_
    exact hR (y3, f2) 29 _ dX4_want_29 h
theorem dX4_thaw_0 : decode cX4_thaw 0 = .ok (.aload_n 0, 1) := by decide +kernel
theorem dX4_thaw_1 : decode cX4_thaw 1 = .ok (.iconst 0, 1) := by decide +kernel
theorem dX4_thaw_2 : decode cX4_thaw 2 = .ok (.putfield 35, 3) := by decide +kernel
theorem dX4_thaw_5 : decode cX4_thaw 5 = .ok (.aload_n 0, 1) := by decide +kernel
theorem dX4_thaw_6 : decode cX4_thaw 6 = .ok (.iconst 0, 1) := by decide +kernel
theorem dX4_thaw_7 : decode cX4_thaw 7 = .ok (.putfield 32, 3) := by decide +kernel
theorem dX4_thaw_10 : decode cX4_thaw 10 = .ok (.return_, 1) := by decide +kernel
abbrev rm_X4_thaw : Room := { frames := 0, cells := 0, slots := 0, locals := 0 }
theorem hd_X4_thaw : yX4_thaw.cls ≠ "java/lang/invoke/MethodHandle" ∧ yX4_thaw.cls ≠ "java/lang/invoke/VarHandle" ∧ (parseMethodDescriptor yX4_thaw.desc).map (fun d => d.parameters.length) = some 0 := by decide +kernel
def wp_X4_thaw (Q : Int32 × Int32 → Prop) : Prop :=
Q (0, 0)
set_option maxHeartbeats 4000000 in
set_option maxRecDepth 100000 in
theorem c_X4_thaw {D : DG} {cyI cyJ cyZ : ClassId} {a_g a_g_kinds a_g_wants : Nat} {g_columns : Int32} {g_rows : Int32} {g_hedges : Int32} {g_hurdles : Int32} {g_wantCount : Int32} {g_rest : Int32} {g_frozen : Int32} {g_kinds : Nat → Int32} {g_wants : Nat → Int32} {Q : Int32 × Int32 → Prop} (h : wp_X4_thaw  Q) :
    MetV yX4_thaw cX4_thaw 1 (none) rm_X4_thaw D [(cyI, .int), (cyJ, .long), (cyZ, .boolean)] [.ref a_g] (W_Ground cyI cyJ cyZ a_g a_g_kinds a_g_wants g_columns g_rows g_hedges g_hurdles g_wantCount g_rest g_frozen g_kinds g_wants) (fun u : Int32 × Int32 => (W_Ground cyI cyJ cyZ a_g a_g_kinds a_g_wants g_columns g_rows g_hedges g_hurdles u.1 g_rest u.2 g_kinds g_wants)) (fun u => Q u) := by
  unfold wp_X4_thaw at h
  refine metV_of (by decide) (Nat.le_of_ble_eq_true rfl) (fun x cx0 hR0 => ?_)
  have cx : Cx x cX4_thaw 1 RX4 rm_X4_thaw D [(cyI, .int), (cyJ, .long), (cyZ, .boolean)] := cx0
  have hR : ∀ (u : Int32 × Int32) (pc : Nat) (lv : List (Nat × Value)), decode cX4_thaw pc = .ok (.return_, 1) → Q u → J x 0 0 1 (W_Ground cyI cyJ cyZ a_g a_g_kinds a_g_wants g_columns g_rows g_hedges g_hurdles u.1 g_rest u.2 g_kinds g_wants) lv pc [] := (fun u pc lv d hq => hR0 u pc lv d hq)
  show J x 0 0 1 (W_Ground cyI cyJ cyZ a_g a_g_kinds a_g_wants g_columns g_rows g_hedges g_hurdles g_wantCount g_rest g_frozen g_kinds g_wants) [(0, .ref a_g)] 0 []
  refine j_aload_n cx 0 rfl rfl dX4_thaw_0 (pn := 1) rfl ?_
  refine j_iconst cx (v := 0) (by decide) dX4_thaw_1 (pn := 2) rfl ?_
  refine j_put cx tyX4 tyX4_ok nmX4 inGX4 0 rfl rfl 8 (by decide) q_fl_X4_35 rfl rfl rfl rfl rfl (Nat.le_of_ble_eq_true rfl) (W_Ground cyI cyJ cyZ a_g a_g_kinds a_g_wants g_columns g_rows g_hedges g_hurdles g_wantCount g_rest 0 g_kinds g_wants) rfl dX4_thaw_2 (pn := 5) rfl ?_
  refine j_aload_n cx 0 rfl rfl dX4_thaw_5 (pn := 6) rfl ?_
  refine j_iconst cx (v := 0) (by decide) dX4_thaw_6 (pn := 7) rfl ?_
  refine j_put cx tyX4 tyX4_ok nmX4 inGX4 0 rfl rfl 6 (by decide) q_fl_X4_32 rfl rfl rfl rfl rfl (Nat.le_of_ble_eq_true rfl) (W_Ground cyI cyJ cyZ a_g a_g_kinds a_g_wants g_columns g_rows g_hedges g_hurdles 0 g_rest 0 g_kinds g_wants) rfl dX4_thaw_7 (pn := 10) rfl ?_
  exact hR (0, 0) 10 _ dX4_thaw_10 h
theorem dX4_tell_0 : decode cX4_tell 0 = .ok (.iload_n 1, 1) := by decide +kernel
theorem dX4_tell_1 : decode cX4_tell 1 = .ok (.tableswitch 182 0 9 #[55, 64, 75, 86, 97, 119, 143, 151, 159, 167], 55) := by decide +kernel
theorem dX4_tell_56 : decode cX4_tell 56 = .ok (.aload_n 0, 1) := by decide +kernel
theorem dX4_tell_57 : decode cX4_tell 57 = .ok (.iload_n 2, 1) := by decide +kernel
theorem dX4_tell_58 : decode cX4_tell 58 = .ok (.iload_n 3, 1) := by decide +kernel
theorem dX4_tell_59 : decode cX4_tell 59 = .ok (.invokevirtual 22, 3) := by decide +kernel
theorem dX4_tell_62 : decode cX4_tell 62 = .ok (.goto 125, 3) := by decide +kernel
theorem dX4_tell_65 : decode cX4_tell 65 = .ok (.aload_n 0, 1) := by decide +kernel
theorem dX4_tell_66 : decode cX4_tell 66 = .ok (.iload_n 2, 1) := by decide +kernel
theorem dX4_tell_67 : decode cX4_tell 67 = .ok (.iload_n 3, 1) := by decide +kernel
theorem dX4_tell_68 : decode cX4_tell 68 = .ok (.iload 4, 2) := by decide +kernel
theorem dX4_tell_70 : decode cX4_tell 70 = .ok (.invokevirtual 38, 3) := by decide +kernel
theorem dX4_tell_73 : decode cX4_tell 73 = .ok (.goto 114, 3) := by decide +kernel
theorem dX4_tell_76 : decode cX4_tell 76 = .ok (.aload_n 0, 1) := by decide +kernel
theorem dX4_tell_77 : decode cX4_tell 77 = .ok (.iload_n 2, 1) := by decide +kernel
theorem dX4_tell_78 : decode cX4_tell 78 = .ok (.iload_n 3, 1) := by decide +kernel
theorem dX4_tell_79 : decode cX4_tell 79 = .ok (.bipush 10, 2) := by decide +kernel
theorem dX4_tell_81 : decode cX4_tell 81 = .ok (.invokevirtual 38, 3) := by decide +kernel
theorem dX4_tell_84 : decode cX4_tell 84 = .ok (.goto 103, 3) := by decide +kernel
theorem dX4_tell_87 : decode cX4_tell 87 = .ok (.aload_n 0, 1) := by decide +kernel
theorem dX4_tell_88 : decode cX4_tell 88 = .ok (.iload_n 2, 1) := by decide +kernel
theorem dX4_tell_89 : decode cX4_tell 89 = .ok (.iload_n 3, 1) := by decide +kernel
theorem dX4_tell_90 : decode cX4_tell 90 = .ok (.bipush 11, 2) := by decide +kernel
theorem dX4_tell_92 : decode cX4_tell 92 = .ok (.invokevirtual 38, 3) := by decide +kernel
theorem dX4_tell_95 : decode cX4_tell 95 = .ok (.goto 92, 3) := by decide +kernel
theorem dX4_tell_98 : decode cX4_tell 98 = .ok (.aload_n 0, 1) := by decide +kernel
theorem dX4_tell_99 : decode cX4_tell 99 = .ok (.dup, 1) := by decide +kernel
theorem dX4_tell_100 : decode cX4_tell 100 = .ok (.getfield 42, 3) := by decide +kernel
theorem dX4_tell_103 : decode cX4_tell 103 = .ok (.iconst 1, 1) := by decide +kernel
theorem dX4_tell_104 : decode cX4_tell 104 = .ok (.aload_n 0, 1) := by decide +kernel
theorem dX4_tell_105 : decode cX4_tell 105 = .ok (.iload_n 2, 1) := by decide +kernel
theorem dX4_tell_106 : decode cX4_tell 106 = .ok (.iload_n 3, 1) := by decide +kernel
theorem dX4_tell_107 : decode cX4_tell 107 = .ok (.iload 4, 2) := by decide +kernel
theorem dX4_tell_109 : decode cX4_tell 109 = .ok (.invokevirtual 45, 3) := by decide +kernel
theorem dX4_tell_112 : decode cX4_tell 112 = .ok (.ishl, 1) := by decide +kernel
theorem dX4_tell_113 : decode cX4_tell 113 = .ok (.ior, 1) := by decide +kernel
theorem dX4_tell_114 : decode cX4_tell 114 = .ok (.putfield 42, 3) := by decide +kernel
theorem dX4_tell_117 : decode cX4_tell 117 = .ok (.goto 70, 3) := by decide +kernel
theorem dX4_tell_120 : decode cX4_tell 120 = .ok (.aload_n 0, 1) := by decide +kernel
theorem dX4_tell_121 : decode cX4_tell 121 = .ok (.dup, 1) := by decide +kernel
theorem dX4_tell_122 : decode cX4_tell 122 = .ok (.getfield 42, 3) := by decide +kernel
theorem dX4_tell_125 : decode cX4_tell 125 = .ok (.iconst 1, 1) := by decide +kernel
theorem dX4_tell_126 : decode cX4_tell 126 = .ok (.aload_n 0, 1) := by decide +kernel
theorem dX4_tell_127 : decode cX4_tell 127 = .ok (.iload_n 2, 1) := by decide +kernel
theorem dX4_tell_128 : decode cX4_tell 128 = .ok (.iload_n 3, 1) := by decide +kernel
theorem dX4_tell_129 : decode cX4_tell 129 = .ok (.iload 4, 2) := by decide +kernel
theorem dX4_tell_131 : decode cX4_tell 131 = .ok (.invokevirtual 45, 3) := by decide +kernel
theorem dX4_tell_134 : decode cX4_tell 134 = .ok (.ishl, 1) := by decide +kernel
theorem dX4_tell_135 : decode cX4_tell 135 = .ok (.iconst (-1), 1) := by decide +kernel
theorem dX4_tell_136 : decode cX4_tell 136 = .ok (.ixor, 1) := by decide +kernel
theorem dX4_tell_137 : decode cX4_tell 137 = .ok (.iand, 1) := by decide +kernel
theorem dX4_tell_138 : decode cX4_tell 138 = .ok (.putfield 42, 3) := by decide +kernel
theorem dX4_tell_141 : decode cX4_tell 141 = .ok (.goto 46, 3) := by decide +kernel
theorem dX4_tell_144 : decode cX4_tell 144 = .ok (.aload_n 0, 1) := by decide +kernel
theorem dX4_tell_145 : decode cX4_tell 145 = .ok (.iload_n 2, 1) := by decide +kernel
theorem dX4_tell_146 : decode cX4_tell 146 = .ok (.putfield 18, 3) := by decide +kernel
theorem dX4_tell_149 : decode cX4_tell 149 = .ok (.goto 38, 3) := by decide +kernel
theorem dX4_tell_152 : decode cX4_tell 152 = .ok (.aload_n 0, 1) := by decide +kernel
theorem dX4_tell_153 : decode cX4_tell 153 = .ok (.iload_n 2, 1) := by decide +kernel
theorem dX4_tell_154 : decode cX4_tell 154 = .ok (.invokevirtual 49, 3) := by decide +kernel
theorem dX4_tell_157 : decode cX4_tell 157 = .ok (.goto 30, 3) := by decide +kernel
theorem dX4_tell_160 : decode cX4_tell 160 = .ok (.aload_n 0, 1) := by decide +kernel
theorem dX4_tell_161 : decode cX4_tell 161 = .ok (.iload_n 2, 1) := by decide +kernel
theorem dX4_tell_162 : decode cX4_tell 162 = .ok (.putfield 53, 3) := by decide +kernel
theorem dX4_tell_165 : decode cX4_tell 165 = .ok (.goto 22, 3) := by decide +kernel
theorem dX4_tell_168 : decode cX4_tell 168 = .ok (.aload_n 0, 1) := by decide +kernel
theorem dX4_tell_169 : decode cX4_tell 169 = .ok (.dup, 1) := by decide +kernel
theorem dX4_tell_170 : decode cX4_tell 170 = .ok (.getfield 35, 3) := by decide +kernel
theorem dX4_tell_173 : decode cX4_tell 173 = .ok (.iconst 1, 1) := by decide +kernel
theorem dX4_tell_174 : decode cX4_tell 174 = .ok (.iload_n 2, 1) := by decide +kernel
theorem dX4_tell_175 : decode cX4_tell 175 = .ok (.ishl, 1) := by decide +kernel
theorem dX4_tell_176 : decode cX4_tell 176 = .ok (.ior, 1) := by decide +kernel
theorem dX4_tell_177 : decode cX4_tell 177 = .ok (.putfield 35, 3) := by decide +kernel
theorem dX4_tell_180 : decode cX4_tell 180 = .ok (.goto 7, 3) := by decide +kernel
theorem dX4_tell_183 : decode cX4_tell 183 = .ok (.aload_n 0, 1) := by decide +kernel
theorem dX4_tell_184 : decode cX4_tell 184 = .ok (.invokevirtual 56, 3) := by decide +kernel
theorem dX4_tell_187 : decode cX4_tell 187 = .ok (.return_, 1) := by decide +kernel
abbrev rm_X4_tell : Room := { frames := 2, cells := 0, slots := 0, locals := 45 }
theorem hd_X4_tell : yX4_tell.cls ≠ "java/lang/invoke/MethodHandle" ∧ yX4_tell.cls ≠ "java/lang/invoke/VarHandle" ∧ (parseMethodDescriptor yX4_tell.desc).map (fun d => d.parameters.length) = some 4 := by decide +kernel
def wp_X4_tell (p1 : Int32) (p2 : Int32) (p3 : Int32) (p4 : Int32) (g_columns : Int32) (g_rows : Int32) (g_hedges : Int32) (g_hurdles : Int32) (g_wantCount : Int32) (g_rest : Int32) (g_frozen : Int32) (g_kinds : Nat → Int32) (g_wants : Nat → Int32) (Q : (Int32 × Int32 × Int32 × Int32 × Int32 × Int32 × Int32 × (Nat → Int32) × (Nat → Int32)) → Prop) : Prop :=
((p1 = 0 → wp_X4_lay p2 p3 g_kinds (fun (u1 : Int32 × Int32 × Int32 × (Nat → Int32)) => Q (u1.1, u1.2.1, u1.2.2.1, g_hurdles, g_wantCount, g_rest, g_frozen, u1.2.2.2, g_wants))) ∧
(p1 = 1 → wp_X4_put p2 p3 p4 g_columns g_kinds (fun (u2 : (Nat → Int32)) => Q (g_columns, g_rows, g_hedges, g_hurdles, g_wantCount, g_rest, g_frozen, u2, g_wants))) ∧
(p1 = 2 → wp_X4_put p2 p3 10 g_columns g_kinds (fun (u3 : (Nat → Int32)) => Q (g_columns, g_rows, g_hedges, g_hurdles, g_wantCount, g_rest, g_frozen, u3, g_wants))) ∧
(p1 = 3 → wp_X4_put p2 p3 11 g_columns g_kinds (fun (u4 : (Nat → Int32)) => Q (g_columns, g_rows, g_hedges, g_hurdles, g_wantCount, g_rest, g_frozen, u4, g_wants))) ∧
(p1 = 4 → wp_X4_edgeAt p2 p3 p4 g_columns g_rows (fun (r5 : Int32) => ∀ y6 : Int32, y6 = (g_hedges ||| (1 <<< (r5 &&& 31))) →
Q (g_columns, g_rows, y6, g_hurdles, g_wantCount, g_rest, g_frozen, g_kinds, g_wants))) ∧
(p1 = 5 → wp_X4_edgeAt p2 p3 p4 g_columns g_rows (fun (r7 : Int32) => ∀ y8 : Int32, y8 = (g_hedges &&& ((1 <<< (r7 &&& 31)) ^^^ (-1))) →
Q (g_columns, g_rows, y8, g_hurdles, g_wantCount, g_rest, g_frozen, g_kinds, g_wants))) ∧
(p1 = 6 → Q (g_columns, g_rows, g_hedges, p2, g_wantCount, g_rest, g_frozen, g_kinds, g_wants)) ∧
(p1 = 7 → wp_X4_want p2 g_wantCount g_wants (fun (u9 : Int32 × (Nat → Int32)) => Q (g_columns, g_rows, g_hedges, g_hurdles, u9.1, g_rest, g_frozen, g_kinds, u9.2))) ∧
(p1 = 8 → Q (g_columns, g_rows, g_hedges, g_hurdles, g_wantCount, p2, g_frozen, g_kinds, g_wants)) ∧
(p1 = 9 → ∀ y10 : Int32, y10 = (g_frozen ||| (1 <<< (p2 &&& 31))) →
Q (g_columns, g_rows, g_hedges, g_hurdles, g_wantCount, g_rest, y10, g_kinds, g_wants)) ∧
((¬ p1 = 0 ∧ ¬ p1 = 1 ∧ ¬ p1 = 2 ∧ ¬ p1 = 3 ∧ ¬ p1 = 4 ∧ ¬ p1 = 5 ∧ ¬ p1 = 6 ∧ ¬ p1 = 7 ∧ ¬ p1 = 8 ∧ ¬ p1 = 9) → wp_X4_thaw  (fun (u11 : Int32 × Int32) => Q (g_columns, g_rows, g_hedges, g_hurdles, u11.1, g_rest, u11.2, g_kinds, g_wants))))
set_option maxHeartbeats 4000000 in
set_option maxRecDepth 100000 in
theorem c_X4_tell {D : DG} {cyI cyJ cyZ : ClassId} {a_g a_g_kinds a_g_wants : Nat} {g_columns : Int32} {g_rows : Int32} {g_hedges : Int32} {g_hurdles : Int32} {g_wantCount : Int32} {g_rest : Int32} {g_frozen : Int32} {g_kinds : Nat → Int32} {g_wants : Nat → Int32} {p1 : Int32} {p2 : Int32} {p3 : Int32} {p4 : Int32} {Q : (Int32 × Int32 × Int32 × Int32 × Int32 × Int32 × Int32 × (Nat → Int32) × (Nat → Int32)) → Prop} (h : wp_X4_tell p1 p2 p3 p4 g_columns g_rows g_hedges g_hurdles g_wantCount g_rest g_frozen g_kinds g_wants Q) :
    MetV yX4_tell cX4_tell 5 (none) rm_X4_tell D [(cyI, .int), (cyJ, .long), (cyZ, .boolean)] [.ref a_g, .int p1, .int p2, .int p3, .int p4] (W_Ground cyI cyJ cyZ a_g a_g_kinds a_g_wants g_columns g_rows g_hedges g_hurdles g_wantCount g_rest g_frozen g_kinds g_wants) (fun u : Int32 × Int32 × Int32 × Int32 × Int32 × Int32 × Int32 × (Nat → Int32) × (Nat → Int32) => (W_Ground cyI cyJ cyZ a_g a_g_kinds a_g_wants u.1 u.2.1 u.2.2.1 u.2.2.2.1 u.2.2.2.2.1 u.2.2.2.2.2.1 u.2.2.2.2.2.2.1 u.2.2.2.2.2.2.2.1 u.2.2.2.2.2.2.2.2)) (fun u => Q u) := by
  unfold wp_X4_tell at h
  refine metV_of (by decide) (Nat.le_of_ble_eq_true rfl) (fun x cx0 hR0 => ?_)
  have cx : Cx x cX4_tell 5 RX4 rm_X4_tell D [(cyI, .int), (cyJ, .long), (cyZ, .boolean)] := cx0
  have hR : ∀ (u : Int32 × Int32 × Int32 × Int32 × Int32 × Int32 × Int32 × (Nat → Int32) × (Nat → Int32)) (pc : Nat) (lv : List (Nat × Value)), decode cX4_tell pc = .ok (.return_, 1) → Q u → J x 0 0 5 (W_Ground cyI cyJ cyZ a_g a_g_kinds a_g_wants u.1 u.2.1 u.2.2.1 u.2.2.2.1 u.2.2.2.2.1 u.2.2.2.2.2.1 u.2.2.2.2.2.2.1 u.2.2.2.2.2.2.2.1 u.2.2.2.2.2.2.2.2) lv pc [] := (fun u pc lv d hq => hR0 u pc lv d hq)
  show J x 0 0 5 (W_Ground cyI cyJ cyZ a_g a_g_kinds a_g_wants g_columns g_rows g_hedges g_hurdles g_wantCount g_rest g_frozen g_kinds g_wants) [(0, .ref a_g), (1, .int p1), (2, .int p2), (3, .int p3), (4, .int p4)] 0 []
  refine j_iload_n cx 1 rfl rfl dX4_tell_0 (pn := 1) rfl ?_
  by_cases k0 : p1 = 0
  · refine j_tabIn cx 56 dX4_tell_1 (by rw [k0]; decide) (by rw [k0]; decide) (off := 55) (by rw [k0]; rfl) rfl ?_
    have h := h.1 k0
    refine j_aload_n cx 0 rfl rfl dX4_tell_56 (pn := 57) rfl ?_
    refine j_iload_n cx 2 rfl rfl dX4_tell_57 (pn := 58) rfl ?_
    refine j_iload_n cx 3 rfl rfl dX4_tell_58 (pn := 59) rfl ?_
    refine j_callvV0 cx q_inst_X4_lay q_sel_X4_lay (b := a_g) (As := [.int p2, .int p3]) (rest := []) (c_X4_lay h) ⟨q_code_X4_lay, q_ml_X4_22, q_init_X4, hd_X4_lay, ⟨Nat.le_of_ble_eq_true rfl, Nat.le_of_ble_eq_true rfl⟩, Nat.le_of_ble_eq_true rfl, Nat.le_of_ble_eq_true rfl⟩ (q0 := 0) rfl rfl rfl rfl (Nat.le_of_ble_eq_true rfl) dX4_tell_59 (pn := 62) rfl (fun u1 h => ?_)
    show J x 0 0 5 (W_Ground cyI cyJ cyZ a_g a_g_kinds a_g_wants u1.1 u1.2.1 u1.2.2.1 g_hurdles g_wantCount g_rest g_frozen u1.2.2.2 g_wants) [(0, .ref a_g), (1, .int p1), (2, .int p2), (3, .int p3), (4, .int p4)] 62 []
    refine j_goto cx 187 dX4_tell_62 rfl ?_
    exact hR (u1.1, u1.2.1, u1.2.2.1, g_hurdles, g_wantCount, g_rest, g_frozen, u1.2.2.2, g_wants) 187 _ dX4_tell_187 h
  by_cases k1 : p1 = 1
  · refine j_tabIn cx 65 dX4_tell_1 (by rw [k1]; decide) (by rw [k1]; decide) (off := 64) (by rw [k1]; rfl) rfl ?_
    have h := h.2.1 k1
    refine j_aload_n cx 0 rfl rfl dX4_tell_65 (pn := 66) rfl ?_
    refine j_iload_n cx 2 rfl rfl dX4_tell_66 (pn := 67) rfl ?_
    refine j_iload_n cx 3 rfl rfl dX4_tell_67 (pn := 68) rfl ?_
    refine j_iload cx 4 rfl dX4_tell_68 (pn := 70) rfl ?_
    refine j_callvV0 cx q_inst_X4_put q_sel_X4_put (b := a_g) (As := [.int p2, .int p3, .int p4]) (rest := []) (c_X4_put h) ⟨q_code_X4_put, q_ml_X4_38, q_init_X4, hd_X4_put, ⟨Nat.le_of_ble_eq_true rfl, Nat.le_of_ble_eq_true rfl⟩, Nat.le_of_ble_eq_true rfl, Nat.le_of_ble_eq_true rfl⟩ (q0 := 0) rfl rfl rfl rfl (Nat.le_of_ble_eq_true rfl) dX4_tell_70 (pn := 73) rfl (fun u2 h => ?_)
    show J x 0 0 5 (W_Ground cyI cyJ cyZ a_g a_g_kinds a_g_wants g_columns g_rows g_hedges g_hurdles g_wantCount g_rest g_frozen u2 g_wants) [(0, .ref a_g), (1, .int p1), (2, .int p2), (3, .int p3), (4, .int p4)] 73 []
    refine j_goto cx 187 dX4_tell_73 rfl ?_
    exact hR (g_columns, g_rows, g_hedges, g_hurdles, g_wantCount, g_rest, g_frozen, u2, g_wants) 187 _ dX4_tell_187 h
  by_cases k2 : p1 = 2
  · refine j_tabIn cx 76 dX4_tell_1 (by rw [k2]; decide) (by rw [k2]; decide) (off := 75) (by rw [k2]; rfl) rfl ?_
    have h := h.2.2.1 k2
    refine j_aload_n cx 0 rfl rfl dX4_tell_76 (pn := 77) rfl ?_
    refine j_iload_n cx 2 rfl rfl dX4_tell_77 (pn := 78) rfl ?_
    refine j_iload_n cx 3 rfl rfl dX4_tell_78 (pn := 79) rfl ?_
    refine j_bipush cx (v := 10) (by decide) dX4_tell_79 (pn := 81) rfl ?_
    refine j_callvV0 cx q_inst_X4_put q_sel_X4_put (b := a_g) (As := [.int p2, .int p3, .int 10]) (rest := []) (c_X4_put h) ⟨q_code_X4_put, q_ml_X4_38, q_init_X4, hd_X4_put, ⟨Nat.le_of_ble_eq_true rfl, Nat.le_of_ble_eq_true rfl⟩, Nat.le_of_ble_eq_true rfl, Nat.le_of_ble_eq_true rfl⟩ (q0 := 0) rfl rfl rfl rfl (Nat.le_of_ble_eq_true rfl) dX4_tell_81 (pn := 84) rfl (fun u3 h => ?_)
    show J x 0 0 5 (W_Ground cyI cyJ cyZ a_g a_g_kinds a_g_wants g_columns g_rows g_hedges g_hurdles g_wantCount g_rest g_frozen u3 g_wants) [(0, .ref a_g), (1, .int p1), (2, .int p2), (3, .int p3), (4, .int p4)] 84 []
    refine j_goto cx 187 dX4_tell_84 rfl ?_
    exact hR (g_columns, g_rows, g_hedges, g_hurdles, g_wantCount, g_rest, g_frozen, u3, g_wants) 187 _ dX4_tell_187 h
  by_cases k3 : p1 = 3
  · refine j_tabIn cx 87 dX4_tell_1 (by rw [k3]; decide) (by rw [k3]; decide) (off := 86) (by rw [k3]; rfl) rfl ?_
    have h := h.2.2.2.1 k3
    refine j_aload_n cx 0 rfl rfl dX4_tell_87 (pn := 88) rfl ?_
    refine j_iload_n cx 2 rfl rfl dX4_tell_88 (pn := 89) rfl ?_
    refine j_iload_n cx 3 rfl rfl dX4_tell_89 (pn := 90) rfl ?_
    refine j_bipush cx (v := 11) (by decide) dX4_tell_90 (pn := 92) rfl ?_
    refine j_callvV0 cx q_inst_X4_put q_sel_X4_put (b := a_g) (As := [.int p2, .int p3, .int 11]) (rest := []) (c_X4_put h) ⟨q_code_X4_put, q_ml_X4_38, q_init_X4, hd_X4_put, ⟨Nat.le_of_ble_eq_true rfl, Nat.le_of_ble_eq_true rfl⟩, Nat.le_of_ble_eq_true rfl, Nat.le_of_ble_eq_true rfl⟩ (q0 := 0) rfl rfl rfl rfl (Nat.le_of_ble_eq_true rfl) dX4_tell_92 (pn := 95) rfl (fun u4 h => ?_)
    show J x 0 0 5 (W_Ground cyI cyJ cyZ a_g a_g_kinds a_g_wants g_columns g_rows g_hedges g_hurdles g_wantCount g_rest g_frozen u4 g_wants) [(0, .ref a_g), (1, .int p1), (2, .int p2), (3, .int p3), (4, .int p4)] 95 []
    refine j_goto cx 187 dX4_tell_95 rfl ?_
    exact hR (g_columns, g_rows, g_hedges, g_hurdles, g_wantCount, g_rest, g_frozen, u4, g_wants) 187 _ dX4_tell_187 h
  by_cases k4 : p1 = 4
  · refine j_tabIn cx 98 dX4_tell_1 (by rw [k4]; decide) (by rw [k4]; decide) (off := 97) (by rw [k4]; rfl) rfl ?_
    have h := h.2.2.2.2.1 k4
    refine j_aload_n cx 0 rfl rfl dX4_tell_98 (pn := 99) rfl ?_
    refine j_dup cx rfl dX4_tell_99 (pn := 100) rfl ?_
    refine j_get cx inGX4 0 rfl rfl 4 (by decide) q_fl_X4_42 rfl rfl dX4_tell_100 (pn := 103) rfl ?_
    refine j_iconst cx (v := 1) (by decide) dX4_tell_103 (pn := 104) rfl ?_
    refine j_aload_n cx 0 rfl rfl dX4_tell_104 (pn := 105) rfl ?_
    refine j_iload_n cx 2 rfl rfl dX4_tell_105 (pn := 106) rfl ?_
    refine j_iload_n cx 3 rfl rfl dX4_tell_106 (pn := 107) rfl ?_
    refine j_iload cx 4 rfl dX4_tell_107 (pn := 109) rfl ?_
    refine j_callvI0 cx q_inst_X4_edgeAt q_sel_X4_edgeAt (b := a_g) (As := [.int p2, .int p3, .int p4]) (rest := [.int 1, .int g_hedges, .ref a_g]) (c_X4_edgeAt h) ⟨q_code_X4_edgeAt, q_ml_X4_45, q_init_X4, hd_X4_edgeAt, ⟨Nat.le_of_ble_eq_true rfl, Nat.le_of_ble_eq_true rfl⟩, Nat.le_of_ble_eq_true rfl, Nat.le_of_ble_eq_true rfl⟩ (q0 := 0) rfl rfl rfl rfl (Nat.le_of_ble_eq_true rfl) dX4_tell_109 (pn := 112) rfl (fun r5 _ h => ?_)
    show J x 0 0 5 (W_Ground cyI cyJ cyZ a_g a_g_kinds a_g_wants g_columns g_rows g_hedges g_hurdles g_wantCount g_rest g_frozen g_kinds g_wants) [(0, .ref a_g), (1, .int p1), (2, .int p2), (3, .int p3), (4, .int p4)] 112 [.int r5, .int 1, .int g_hedges, .ref a_g]
    refine j_ishl cx dX4_tell_112 (pn := 113) rfl ?_
    refine j_ior cx dX4_tell_113 (pn := 114) rfl ?_
    refine j_topi (fun y6 ey6 => ?_)
    have h := h y6 ey6
    refine j_put cx tyX4 tyX4_ok nmX4 inGX4 0 rfl rfl 4 (by decide) q_fl_X4_42 rfl rfl rfl rfl rfl (Nat.le_of_ble_eq_true rfl) (W_Ground cyI cyJ cyZ a_g a_g_kinds a_g_wants g_columns g_rows y6 g_hurdles g_wantCount g_rest g_frozen g_kinds g_wants) rfl dX4_tell_114 (pn := 117) rfl ?_
    refine j_goto cx 187 dX4_tell_117 rfl ?_
    exact hR (g_columns, g_rows, y6, g_hurdles, g_wantCount, g_rest, g_frozen, g_kinds, g_wants) 187 _ dX4_tell_187 h
  by_cases k5 : p1 = 5
  · refine j_tabIn cx 120 dX4_tell_1 (by rw [k5]; decide) (by rw [k5]; decide) (off := 119) (by rw [k5]; rfl) rfl ?_
    have h := h.2.2.2.2.2.1 k5
    refine j_aload_n cx 0 rfl rfl dX4_tell_120 (pn := 121) rfl ?_
    refine j_dup cx rfl dX4_tell_121 (pn := 122) rfl ?_
    refine j_get cx inGX4 0 rfl rfl 4 (by decide) q_fl_X4_42 rfl rfl dX4_tell_122 (pn := 125) rfl ?_
    refine j_iconst cx (v := 1) (by decide) dX4_tell_125 (pn := 126) rfl ?_
    refine j_aload_n cx 0 rfl rfl dX4_tell_126 (pn := 127) rfl ?_
    refine j_iload_n cx 2 rfl rfl dX4_tell_127 (pn := 128) rfl ?_
    refine j_iload_n cx 3 rfl rfl dX4_tell_128 (pn := 129) rfl ?_
    refine j_iload cx 4 rfl dX4_tell_129 (pn := 131) rfl ?_
    refine j_callvI0 cx q_inst_X4_edgeAt q_sel_X4_edgeAt (b := a_g) (As := [.int p2, .int p3, .int p4]) (rest := [.int 1, .int g_hedges, .ref a_g]) (c_X4_edgeAt h) ⟨q_code_X4_edgeAt, q_ml_X4_45, q_init_X4, hd_X4_edgeAt, ⟨Nat.le_of_ble_eq_true rfl, Nat.le_of_ble_eq_true rfl⟩, Nat.le_of_ble_eq_true rfl, Nat.le_of_ble_eq_true rfl⟩ (q0 := 0) rfl rfl rfl rfl (Nat.le_of_ble_eq_true rfl) dX4_tell_131 (pn := 134) rfl (fun r7 _ h => ?_)
    show J x 0 0 5 (W_Ground cyI cyJ cyZ a_g a_g_kinds a_g_wants g_columns g_rows g_hedges g_hurdles g_wantCount g_rest g_frozen g_kinds g_wants) [(0, .ref a_g), (1, .int p1), (2, .int p2), (3, .int p3), (4, .int p4)] 134 [.int r7, .int 1, .int g_hedges, .ref a_g]
    refine j_ishl cx dX4_tell_134 (pn := 135) rfl ?_
    refine j_iconst cx (v := (-1)) (by decide) dX4_tell_135 (pn := 136) rfl ?_
    refine j_ixor cx dX4_tell_136 (pn := 137) rfl ?_
    refine j_iand cx dX4_tell_137 (pn := 138) rfl ?_
    refine j_topi (fun y8 ey8 => ?_)
    have h := h y8 ey8
    refine j_put cx tyX4 tyX4_ok nmX4 inGX4 0 rfl rfl 4 (by decide) q_fl_X4_42 rfl rfl rfl rfl rfl (Nat.le_of_ble_eq_true rfl) (W_Ground cyI cyJ cyZ a_g a_g_kinds a_g_wants g_columns g_rows y8 g_hurdles g_wantCount g_rest g_frozen g_kinds g_wants) rfl dX4_tell_138 (pn := 141) rfl ?_
    refine j_goto cx 187 dX4_tell_141 rfl ?_
    exact hR (g_columns, g_rows, y8, g_hurdles, g_wantCount, g_rest, g_frozen, g_kinds, g_wants) 187 _ dX4_tell_187 h
  by_cases k6 : p1 = 6
  · refine j_tabIn cx 144 dX4_tell_1 (by rw [k6]; decide) (by rw [k6]; decide) (off := 143) (by rw [k6]; rfl) rfl ?_
    have h := h.2.2.2.2.2.2.1 k6
    refine j_aload_n cx 0 rfl rfl dX4_tell_144 (pn := 145) rfl ?_
    refine j_iload_n cx 2 rfl rfl dX4_tell_145 (pn := 146) rfl ?_
    refine j_put cx tyX4 tyX4_ok nmX4 inGX4 0 rfl rfl 5 (by decide) q_fl_X4_18 rfl rfl rfl rfl rfl (Nat.le_of_ble_eq_true rfl) (W_Ground cyI cyJ cyZ a_g a_g_kinds a_g_wants g_columns g_rows g_hedges p2 g_wantCount g_rest g_frozen g_kinds g_wants) rfl dX4_tell_146 (pn := 149) rfl ?_
    refine j_goto cx 187 dX4_tell_149 rfl ?_
    exact hR (g_columns, g_rows, g_hedges, p2, g_wantCount, g_rest, g_frozen, g_kinds, g_wants) 187 _ dX4_tell_187 h
  by_cases k7 : p1 = 7
  · refine j_tabIn cx 152 dX4_tell_1 (by rw [k7]; decide) (by rw [k7]; decide) (off := 151) (by rw [k7]; rfl) rfl ?_
    have h := h.2.2.2.2.2.2.2.1 k7
    refine j_aload_n cx 0 rfl rfl dX4_tell_152 (pn := 153) rfl ?_
    refine j_iload_n cx 2 rfl rfl dX4_tell_153 (pn := 154) rfl ?_
    refine j_callvV0 cx q_inst_X4_want q_sel_X4_want (b := a_g) (As := [.int p2]) (rest := []) (c_X4_want h) ⟨q_code_X4_want, q_ml_X4_49, q_init_X4, hd_X4_want, ⟨Nat.le_of_ble_eq_true rfl, Nat.le_of_ble_eq_true rfl⟩, Nat.le_of_ble_eq_true rfl, Nat.le_of_ble_eq_true rfl⟩ (q0 := 0) rfl rfl rfl rfl (Nat.le_of_ble_eq_true rfl) dX4_tell_154 (pn := 157) rfl (fun u9 h => ?_)
    show J x 0 0 5 (W_Ground cyI cyJ cyZ a_g a_g_kinds a_g_wants g_columns g_rows g_hedges g_hurdles u9.1 g_rest g_frozen g_kinds u9.2) [(0, .ref a_g), (1, .int p1), (2, .int p2), (3, .int p3), (4, .int p4)] 157 []
    refine j_goto cx 187 dX4_tell_157 rfl ?_
    exact hR (g_columns, g_rows, g_hedges, g_hurdles, u9.1, g_rest, g_frozen, g_kinds, u9.2) 187 _ dX4_tell_187 h
  by_cases k8 : p1 = 8
  · refine j_tabIn cx 160 dX4_tell_1 (by rw [k8]; decide) (by rw [k8]; decide) (off := 159) (by rw [k8]; rfl) rfl ?_
    have h := h.2.2.2.2.2.2.2.2.1 k8
    refine j_aload_n cx 0 rfl rfl dX4_tell_160 (pn := 161) rfl ?_
    refine j_iload_n cx 2 rfl rfl dX4_tell_161 (pn := 162) rfl ?_
    refine j_put cx tyX4 tyX4_ok nmX4 inGX4 0 rfl rfl 7 (by decide) q_fl_X4_53 rfl rfl rfl rfl rfl (Nat.le_of_ble_eq_true rfl) (W_Ground cyI cyJ cyZ a_g a_g_kinds a_g_wants g_columns g_rows g_hedges g_hurdles g_wantCount p2 g_frozen g_kinds g_wants) rfl dX4_tell_162 (pn := 165) rfl ?_
    refine j_goto cx 187 dX4_tell_165 rfl ?_
    exact hR (g_columns, g_rows, g_hedges, g_hurdles, g_wantCount, p2, g_frozen, g_kinds, g_wants) 187 _ dX4_tell_187 h
  by_cases k9 : p1 = 9
  · refine j_tabIn cx 168 dX4_tell_1 (by rw [k9]; decide) (by rw [k9]; decide) (off := 167) (by rw [k9]; rfl) rfl ?_
    have h := h.2.2.2.2.2.2.2.2.2.1 k9
    refine j_aload_n cx 0 rfl rfl dX4_tell_168 (pn := 169) rfl ?_
    refine j_dup cx rfl dX4_tell_169 (pn := 170) rfl ?_
    refine j_get cx inGX4 0 rfl rfl 8 (by decide) q_fl_X4_35 rfl rfl dX4_tell_170 (pn := 173) rfl ?_
    refine j_iconst cx (v := 1) (by decide) dX4_tell_173 (pn := 174) rfl ?_
    refine j_iload_n cx 2 rfl rfl dX4_tell_174 (pn := 175) rfl ?_
    refine j_ishl cx dX4_tell_175 (pn := 176) rfl ?_
    refine j_ior cx dX4_tell_176 (pn := 177) rfl ?_
    refine j_topi (fun y10 ey10 => ?_)
    have h := h y10 ey10
    refine j_put cx tyX4 tyX4_ok nmX4 inGX4 0 rfl rfl 8 (by decide) q_fl_X4_35 rfl rfl rfl rfl rfl (Nat.le_of_ble_eq_true rfl) (W_Ground cyI cyJ cyZ a_g a_g_kinds a_g_wants g_columns g_rows g_hedges g_hurdles g_wantCount g_rest y10 g_kinds g_wants) rfl dX4_tell_177 (pn := 180) rfl ?_
    refine j_goto cx 187 dX4_tell_180 rfl ?_
    exact hR (g_columns, g_rows, g_hedges, g_hurdles, g_wantCount, g_rest, y10, g_kinds, g_wants) 187 _ dX4_tell_187 h
  refine j_tabOut cx 183 dX4_tell_1 (sw_out0_9 k0 k1 k2 k3 k4 k5 k6 k7 k8 k9) rfl ?_
  have h := h.2.2.2.2.2.2.2.2.2.2 ⟨k0, k1, k2, k3, k4, k5, k6, k7, k8, k9⟩
  refine j_aload_n cx 0 rfl rfl dX4_tell_183 (pn := 184) rfl ?_
  refine j_callvV0 cx q_inst_X4_thaw q_sel_X4_thaw (b := a_g) (As := []) (rest := []) (c_X4_thaw h) ⟨q_code_X4_thaw, q_ml_X4_56, q_init_X4, hd_X4_thaw, ⟨Nat.le_of_ble_eq_true rfl, Nat.le_of_ble_eq_true rfl⟩, Nat.le_of_ble_eq_true rfl, Nat.le_of_ble_eq_true rfl⟩ (q0 := 0) rfl rfl rfl rfl (Nat.le_of_ble_eq_true rfl) dX4_tell_184 (pn := 187) rfl (fun u11 h => ?_)
  show J x 0 0 5 (W_Ground cyI cyJ cyZ a_g a_g_kinds a_g_wants g_columns g_rows g_hedges g_hurdles u11.1 g_rest u11.2 g_kinds g_wants) [(0, .ref a_g), (1, .int p1), (2, .int p2), (3, .int p3), (4, .int p4)] 187 []
  exact hR (g_columns, g_rows, g_hedges, g_hurdles, u11.1, g_rest, u11.2, g_kinds, g_wants) 187 _ dX4_tell_187 h
