theorem dX7_listBehind_0 : decode cX7_listBehind 0 = .ok (.iload_n 3, 1) := by decide +kernel
theorem dX7_listBehind_1 : decode cX7_listBehind 1 = .ok (.istore 4, 2) := by decide +kernel
theorem dX7_listBehind_3 : decode cX7_listBehind 3 = .ok (.aload_n 1, 1) := by decide +kernel
theorem dX7_listBehind_4 : decode cX7_listBehind 4 = .ok (.iload_n 2, 1) := by decide +kernel
theorem dX7_listBehind_5 : decode cX7_listBehind 5 = .ok (.invokevirtual 39, 3) := by decide +kernel
theorem dX7_listBehind_8 : decode cX7_listBehind 8 = .ok (.istore 5, 2) := by decide +kernel
theorem dX7_listBehind_10 : decode cX7_listBehind 10 = .ok (.aload_n 1, 1) := by decide +kernel
theorem dX7_listBehind_11 : decode cX7_listBehind 11 = .ok (.getfield 25, 3) := by decide +kernel
theorem dX7_listBehind_14 : decode cX7_listBehind 14 = .ok (.iload_n 2, 1) := by decide +kernel
theorem dX7_listBehind_15 : decode cX7_listBehind 15 = .ok (.iconst (-1), 1) := by decide +kernel
theorem dX7_listBehind_16 : decode cX7_listBehind 16 = .ok (.ixor, 1) := by decide +kernel
theorem dX7_listBehind_17 : decode cX7_listBehind 17 = .ok (.iand, 1) := by decide +kernel
theorem dX7_listBehind_18 : decode cX7_listBehind 18 = .ok (.istore 6, 2) := by decide +kernel
theorem dX7_listBehind_20 : decode cX7_listBehind 20 = .ok (.iload 6, 2) := by decide +kernel
theorem dX7_listBehind_22 : decode cX7_listBehind 22 = .ok (.istore 7, 2) := by decide +kernel
theorem dX7_listBehind_24 : decode cX7_listBehind 24 = .ok (.iload 7, 2) := by decide +kernel
theorem dX7_listBehind_26 : decode cX7_listBehind 26 = .ok (.ifCond .le 52, 3) := by decide +kernel
theorem dX7_listBehind_29 : decode cX7_listBehind 29 = .ok (.iload 5, 2) := by decide +kernel
theorem dX7_listBehind_31 : decode cX7_listBehind 31 = .ok (.iload 7, 2) := by decide +kernel
theorem dX7_listBehind_33 : decode cX7_listBehind 33 = .ok (.iand, 1) := by decide +kernel
theorem dX7_listBehind_34 : decode cX7_listBehind 34 = .ok (.ifCond .eq 32, 3) := by decide +kernel
theorem dX7_listBehind_37 : decode cX7_listBehind 37 = .ok (.aload_n 1, 1) := by decide +kernel
theorem dX7_listBehind_38 : decode cX7_listBehind 38 = .ok (.iload 7, 2) := by decide +kernel
theorem dX7_listBehind_40 : decode cX7_listBehind 40 = .ok (.invokevirtual 31, 3) := by decide +kernel
theorem dX7_listBehind_43 : decode cX7_listBehind 43 = .ok (.ifCond .eq 23, 3) := by decide +kernel
theorem dX7_listBehind_46 : decode cX7_listBehind 46 = .ok (.iload 4, 2) := by decide +kernel
theorem dX7_listBehind_48 : decode cX7_listBehind 48 = .ok (.sipush 4096, 3) := by decide +kernel
theorem dX7_listBehind_51 : decode cX7_listBehind 51 = .ok (.if_icmp .ge 15, 3) := by decide +kernel
theorem dX7_listBehind_54 : decode cX7_listBehind 54 = .ok (.aload_n 0, 1) := by decide +kernel
theorem dX7_listBehind_55 : decode cX7_listBehind 55 = .ok (.getfield 15, 3) := by decide +kernel
theorem dX7_listBehind_58 : decode cX7_listBehind 58 = .ok (.iload 4, 2) := by decide +kernel
theorem dX7_listBehind_60 : decode cX7_listBehind 60 = .ok (.iload 7, 2) := by decide +kernel
theorem dX7_listBehind_62 : decode cX7_listBehind 62 = .ok (.iastore, 1) := by decide +kernel
theorem dX7_listBehind_63 : decode cX7_listBehind 63 = .ok (.iinc 4 1, 3) := by decide +kernel
theorem dX7_listBehind_66 : decode cX7_listBehind 66 = .ok (.iload 7, 2) := by decide +kernel
theorem dX7_listBehind_68 : decode cX7_listBehind 68 = .ok (.iconst 1, 1) := by decide +kernel
theorem dX7_listBehind_69 : decode cX7_listBehind 69 = .ok (.isub, 1) := by decide +kernel
theorem dX7_listBehind_70 : decode cX7_listBehind 70 = .ok (.iload 6, 2) := by decide +kernel
theorem dX7_listBehind_72 : decode cX7_listBehind 72 = .ok (.iand, 1) := by decide +kernel
theorem dX7_listBehind_73 : decode cX7_listBehind 73 = .ok (.istore 7, 2) := by decide +kernel
theorem dX7_listBehind_75 : decode cX7_listBehind 75 = .ok (.goto (-51), 3) := by decide +kernel
theorem dX7_listBehind_78 : decode cX7_listBehind 78 = .ok (.iload 4, 2) := by decide +kernel
theorem dX7_listBehind_80 : decode cX7_listBehind 80 = .ok (.ireturn, 1) := by decide +kernel
abbrev rm_X7_listBehind : Room := { frames := 1, cells := 0, slots := 0, locals := 21 }
theorem hd_X7_listBehind : yX7_listBehind.cls ≠ "java/lang/invoke/MethodHandle" ∧ yX7_listBehind.cls ≠ "java/lang/invoke/VarHandle" ∧ (parseMethodDescriptor yX7_listBehind.desc).map (fun d => d.parameters.length) = some 3 := by decide +kernel
def bk_X7_listBehind_66 (Q : Int32 → ((Nat → Int32)) → Prop) (B24 : (Nat → Int32) → Int32 → Int32 → Prop) (x4 : Int32) (x6 : Int32) (x7 : Int32) (s_nexts : Nat → Int32) : Prop :=
∀ y5 : Int32, y5 = ((x7 - 1) &&& x6) →
B24 s_nexts x4 y5
def bd_X7_listBehind_24 (Q : Int32 → ((Nat → Int32)) → Prop) (B24 : (Nat → Int32) → Int32 → Int32 → Prop) (x5 : Int32) (x6 : Int32) (f_sideCounts : Nat → Int32) (s_nexts : Nat → Int32) (x4 : Int32) (x7 : Int32) : Prop :=
((x7 ≤ 0 → Q x4 s_nexts) ∧
(¬ x7 ≤ 0 → (((x5 &&& x7) = 0 → bk_X7_listBehind_66 Q B24 x4 x6 x7 s_nexts) ∧
(¬ (x5 &&& x7) = 0 → wp_X3_isFold x7 f_sideCounts (fun (r6 : Int32) => ((r6 = 0 → bk_X7_listBehind_66 Q B24 x4 x6 x7 s_nexts) ∧
(¬ r6 = 0 → ((4096 ≤ x4 → bk_X7_listBehind_66 Q B24 x4 x6 x7 s_nexts) ∧
(¬ 4096 ≤ x4 → vp_in x4 4096 ∧ (∀ f9 : Nat → Int32, f9 = (upd s_nexts x4.toNatClampNeg x7) →
∀ y10 : Int32, y10 = (x4 + 1) →
bk_X7_listBehind_66 Q B24 y10 x6 x7 f9))))))))))
def lp_X7_listBehind_24 (Q : Int32 → ((Nat → Int32)) → Prop) (x5 : Int32) (x6 : Int32) (f_sideCounts : Nat → Int32) (s_nexts : Nat → Int32) (x4 : Int32) (x7 : Int32) : Prop :=
∃ I : Nat → (Nat → Int32) → Int32 → Int32 → Prop, (∃ n, I n s_nexts x4 x7) ∧ ∀ n s_nexts x4 x7, I n s_nexts x4 x7 → bd_X7_listBehind_24 Q  (fun s_nexts' x4' x7' => ∃ n', n' < n ∧ I n' s_nexts' x4' x7') x5 x6 f_sideCounts s_nexts x4 x7
def wp_X7_listBehind (p2 : Int32) (p3 : Int32) (s_nexts : Nat → Int32) (f_all : Int32) (f_sideCounts : Nat → Int32) (f_beside : Nat → Int32) (Q : Int32 → ((Nat → Int32)) → Prop) : Prop :=
wp_X3_nextTo p2 f_all f_beside (fun (r1 : Int32) => ∀ y2 : Int32, y2 = (f_all &&& (p2 ^^^ (-1))) →
lp_X7_listBehind_24 Q r1 y2 f_sideCounts s_nexts p3 y2)
set_option maxHeartbeats 4000000 in
set_option maxRecDepth 100000 in
theorem J_X7_listBehind_66 {x : CX} {D : DG} {cyI cyJ cyZ : ClassId} {a_s a_s_starts a_s_nexts a_s_values a_f a_f_needs a_f_sideCounts a_f_yardSums a_f_beside : Nat} {s_listed : Option Nat} {s_starts : Nat → Int32} {s_nexts : Nat → Int32} {s_values : Nat → Int32} {f_all : Int32} {f_wanted : Int32} {f_mostSides : Int32} {f_needs : Nat → Int32} {f_sideCounts : Nat → Int32} {f_yardSums : Nat → Int32} {f_beside : Nat → Int32} {x4 : Int32} {x5 : Int32} {x6 : Int32} {x7 : Int32} {Q : Int32 → ((Nat → Int32)) → Prop} {B24 : (Nat → Int32) → Int32 → Int32 → Prop} (cx : Cx x cX7_listBehind 8 RX7 rm_X7_listBehind D [(cyI, .int), (cyJ, .long), (cyZ, .boolean)]) (hR : ∀ (v : Int32) (u : (Nat → Int32)) (pc : Nat) (lv : List (Nat × Value)), decode cX7_listBehind pc = .ok (.ireturn, 1) → Q v u → J x 0 0 8 (W_StepsT cyI cyJ cyZ a_s a_s_starts a_s_nexts a_s_values a_f a_f_needs a_f_sideCounts a_f_yardSums a_f_beside s_listed s_starts u s_values f_all f_wanted f_mostSides f_needs f_sideCounts f_yardSums f_beside) lv pc [.int v]) (hB24 : ∀ (s_nexts : Nat → Int32) (x4 : Int32) (x7 : Int32), B24 s_nexts x4 x7 → J x 0 0 8 (W_StepsT cyI cyJ cyZ a_s a_s_starts a_s_nexts a_s_values a_f a_f_needs a_f_sideCounts a_f_yardSums a_f_beside s_listed s_starts s_nexts s_values f_all f_wanted f_mostSides f_needs f_sideCounts f_yardSums f_beside) [(0, .ref a_s), (1, .ref a_f), (4, .int x4), (5, .int x5), (6, .int x6), (7, .int x7)] 24 []) (h : bk_X7_listBehind_66 Q B24 x4 x6 x7 s_nexts) :
    J x 0 0 8 (W_StepsT cyI cyJ cyZ a_s a_s_starts a_s_nexts a_s_values a_f a_f_needs a_f_sideCounts a_f_yardSums a_f_beside s_listed s_starts s_nexts s_values f_all f_wanted f_mostSides f_needs f_sideCounts f_yardSums f_beside) [(0, .ref a_s), (1, .ref a_f), (4, .int x4), (5, .int x5), (6, .int x6), (7, .int x7)] 66 [] := by
  unfold bk_X7_listBehind_66 at h
  refine j_iload cx 5 rfl dX7_listBehind_66 (pn := 68) rfl ?_
  refine j_iconst cx (v := 1) (by decide) dX7_listBehind_68 (pn := 69) rfl ?_
  refine j_isub cx dX7_listBehind_69 (pn := 70) rfl ?_
  refine j_iload cx 4 rfl dX7_listBehind_70 (pn := 72) rfl ?_
  refine j_iand cx dX7_listBehind_72 (pn := 73) rfl ?_
  refine j_topi (fun y5 ey5 => ?_)
  have h := h y5 ey5
  refine j_istore cx [(7, .int y5), (0, .ref a_s), (1, .ref a_f), (4, .int x4), (5, .int x5), (6, .int x6)] (by decide) rfl dX7_listBehind_73 (pn := 75) rfl ?_
  refine j_goto cx 24 dX7_listBehind_75 rfl ?_
  refine j_sub [1, 2, 3, 4, 5, 0] [(0, .ref a_s), (1, .ref a_f), (4, .int x4), (5, .int x5), (6, .int x6), (7, .int y5)] rfl ?_
  exact hB24 _ _ _ h
set_option maxHeartbeats 4000000 in
set_option maxRecDepth 100000 in
theorem B_X7_listBehind_24 {x : CX} {D : DG} {cyI cyJ cyZ : ClassId} {a_s a_s_starts a_s_nexts a_s_values a_f a_f_needs a_f_sideCounts a_f_yardSums a_f_beside : Nat} {s_listed : Option Nat} {s_starts : Nat → Int32} {s_nexts : Nat → Int32} {s_values : Nat → Int32} {f_all : Int32} {f_wanted : Int32} {f_mostSides : Int32} {f_needs : Nat → Int32} {f_sideCounts : Nat → Int32} {f_yardSums : Nat → Int32} {f_beside : Nat → Int32} {x4 : Int32} {x5 : Int32} {x6 : Int32} {x7 : Int32} {Q : Int32 → ((Nat → Int32)) → Prop} {B24 : (Nat → Int32) → Int32 → Int32 → Prop} (cx : Cx x cX7_listBehind 8 RX7 rm_X7_listBehind D [(cyI, .int), (cyJ, .long), (cyZ, .boolean)]) (hR : ∀ (v : Int32) (u : (Nat → Int32)) (pc : Nat) (lv : List (Nat × Value)), decode cX7_listBehind pc = .ok (.ireturn, 1) → Q v u → J x 0 0 8 (W_StepsT cyI cyJ cyZ a_s a_s_starts a_s_nexts a_s_values a_f a_f_needs a_f_sideCounts a_f_yardSums a_f_beside s_listed s_starts u s_values f_all f_wanted f_mostSides f_needs f_sideCounts f_yardSums f_beside) lv pc [.int v]) (hB24 : ∀ (s_nexts : Nat → Int32) (x4 : Int32) (x7 : Int32), B24 s_nexts x4 x7 → J x 0 0 8 (W_StepsT cyI cyJ cyZ a_s a_s_starts a_s_nexts a_s_values a_f a_f_needs a_f_sideCounts a_f_yardSums a_f_beside s_listed s_starts s_nexts s_values f_all f_wanted f_mostSides f_needs f_sideCounts f_yardSums f_beside) [(0, .ref a_s), (1, .ref a_f), (4, .int x4), (5, .int x5), (6, .int x6), (7, .int x7)] 24 []) (h : bd_X7_listBehind_24 Q B24 x5 x6 f_sideCounts s_nexts x4 x7) :
    J x 0 0 8 (W_StepsT cyI cyJ cyZ a_s a_s_starts a_s_nexts a_s_values a_f a_f_needs a_f_sideCounts a_f_yardSums a_f_beside s_listed s_starts s_nexts s_values f_all f_wanted f_mostSides f_needs f_sideCounts f_yardSums f_beside) [(0, .ref a_s), (1, .ref a_f), (4, .int x4), (5, .int x5), (6, .int x6), (7, .int x7)] 24 [] := by
  unfold bd_X7_listBehind_24 at h
  refine j_iload cx 5 rfl dX7_listBehind_24 (pn := 26) rfl ?_
  refine j_if_le cx 78 dX7_listBehind_26 (pn := 29) rfl rfl (fun c3 => ?_) (fun c3 => ?_)
  · have h := h.1 c3
    refine j_iload cx 2 rfl dX7_listBehind_78 (pn := 80) rfl ?_
    exact hR x4 s_nexts 80 _ dX7_listBehind_80 h
  · have h := h.2 c3
    refine j_iload cx 3 rfl dX7_listBehind_29 (pn := 31) rfl ?_
    refine j_iload cx 5 rfl dX7_listBehind_31 (pn := 33) rfl ?_
    refine j_iand cx dX7_listBehind_33 (pn := 34) rfl ?_
    refine j_if_eq cx 66 dX7_listBehind_34 (pn := 37) rfl rfl (fun c4 => ?_) (fun c4 => ?_)
    · have h := h.1 c4
      exact J_X7_listBehind_66 cx hR hB24 h
    · have h := h.2 c4
      refine j_aload_n cx 1 rfl rfl dX7_listBehind_37 (pn := 38) rfl ?_
      refine j_iload cx 5 rfl dX7_listBehind_38 (pn := 40) rfl ?_
      refine j_callvI cx q_inst_X3_isFold q_sel_X3_isFold (b := a_f) (As := [.int x7]) (rest := []) (W_FT cyI cyJ cyZ a_f a_f_needs a_f_sideCounts a_f_yardSums a_f_beside f_all f_wanted f_mostSides f_needs f_sideCounts f_yardSums f_beside) [(a_s, .inr (7, [.ref a_s_starts, .ref a_s_nexts, .ref a_s_values, va_rf s_listed])), (a_s_starts, .inl (cyI, 1025, .inl s_starts)), (a_s_nexts, .inl (cyI, 4096, .inl s_nexts)), (a_s_values, .inl (cyI, 4096, .inl s_values))] (c_X3_isFold h) ⟨q_code_X3_isFold, q_ml_X7_31, q_init_X3, hd_X3_isFold, ⟨Nat.le_of_ble_eq_true rfl, Nat.le_of_ble_eq_true rfl⟩, Nat.le_of_ble_eq_true rfl, Nat.le_of_ble_eq_true rfl⟩ (q0 := 0) rfl rfl rfl [4, 5, 6, 7, 8] [0, 1, 2, 3] [0, 1, 2, 3, 4, 5, 6, 7, 8] rfl rfl rfl rfl rfl (by decide) (fun _ : Unit => (W_StepsT cyI cyJ cyZ a_s a_s_starts a_s_nexts a_s_values a_f a_f_needs a_f_sideCounts a_f_yardSums a_f_beside s_listed s_starts s_nexts s_values f_all f_wanted f_mostSides f_needs f_sideCounts f_yardSums f_beside)) (fun _ => rfl) (fun _ => rfl) rfl rfl (Nat.le_of_ble_eq_true rfl) dX7_listBehind_40 (pn := 43) rfl (fun r6 _ h => ?_)
      show J x 0 0 8 (W_StepsT cyI cyJ cyZ a_s a_s_starts a_s_nexts a_s_values a_f a_f_needs a_f_sideCounts a_f_yardSums a_f_beside s_listed s_starts s_nexts s_values f_all f_wanted f_mostSides f_needs f_sideCounts f_yardSums f_beside) [(0, .ref a_s), (1, .ref a_f), (4, .int x4), (5, .int x5), (6, .int x6), (7, .int x7)] 43 [.int r6]
      refine j_if_eq cx 66 dX7_listBehind_43 (pn := 46) rfl rfl (fun c7 => ?_) (fun c7 => ?_)
      · have h := h.1 c7
        exact J_X7_listBehind_66 cx hR hB24 h
      · have h := h.2 c7
        refine j_iload cx 2 rfl dX7_listBehind_46 (pn := 48) rfl ?_
        refine j_sipush cx (v := 4096) (by decide) dX7_listBehind_48 (pn := 51) rfl ?_
        refine j_icmp_ge cx 66 dX7_listBehind_51 (pn := 54) rfl rfl (fun c8 => ?_) (fun c8 => ?_)
        · have h := h.1 c8
          exact J_X7_listBehind_66 cx hR hB24 h
        · have h := h.2 c8
          refine j_aload_n cx 0 rfl rfl dX7_listBehind_54 (pn := 55) rfl ?_
          refine j_get cx inGX7 0 rfl rfl 1 (by decide) q_fl_X7_15 rfl rfl dX7_listBehind_55 (pn := 58) rfl ?_
          refine j_iload cx 2 rfl dX7_listBehind_58 (pn := 60) rfl ?_
          refine j_iload cx 5 rfl dX7_listBehind_60 (pn := 62) rfl ?_
          have hin := h.1
          obtain ⟨f9, ef9⟩ : ∃ z, z = upd s_nexts x4.toNatClampNeg x7 := ⟨_, rfl⟩
          have h := h.2 f9 ef9
          refine j_iast cx 2 0 rfl rfl hin (W_StepsT cyI cyJ cyZ a_s a_s_starts a_s_nexts a_s_values a_f a_f_needs a_f_sideCounts a_f_yardSums a_f_beside s_listed s_starts f9 s_values f_all f_wanted f_mostSides f_needs f_sideCounts f_yardSums f_beside) (by subst ef9; rfl) dX7_listBehind_62 (pn := 63) rfl ?_
          obtain ⟨y10, ey10⟩ : ∃ z : Int32, z = x4 + 1 := ⟨_, rfl⟩
          have h := h y10 ey10
          refine j_iinc cx 2 rfl (cst := 1) (by decide) ey10 [(4, .int y10), (0, .ref a_s), (1, .ref a_f), (5, .int x5), (6, .int x6), (7, .int x7)] (by decide) rfl dX7_listBehind_63 (pn := 66) rfl ?_
          refine j_sub [1, 2, 0, 3, 4, 5] [(0, .ref a_s), (1, .ref a_f), (4, .int y10), (5, .int x5), (6, .int x6), (7, .int x7)] rfl ?_
          exact J_X7_listBehind_66 cx hR hB24 h
set_option maxHeartbeats 4000000 in
set_option maxRecDepth 100000 in
theorem J_X7_listBehind_24 {x : CX} {D : DG} {cyI cyJ cyZ : ClassId} {a_s a_s_starts a_s_nexts a_s_values a_f a_f_needs a_f_sideCounts a_f_yardSums a_f_beside : Nat} {s_listed : Option Nat} {s_starts : Nat → Int32} {s_nexts : Nat → Int32} {s_values : Nat → Int32} {f_all : Int32} {f_wanted : Int32} {f_mostSides : Int32} {f_needs : Nat → Int32} {f_sideCounts : Nat → Int32} {f_yardSums : Nat → Int32} {f_beside : Nat → Int32} {x4 : Int32} {x5 : Int32} {x6 : Int32} {x7 : Int32} {Q : Int32 → ((Nat → Int32)) → Prop} (cx : Cx x cX7_listBehind 8 RX7 rm_X7_listBehind D [(cyI, .int), (cyJ, .long), (cyZ, .boolean)]) (hR : ∀ (v : Int32) (u : (Nat → Int32)) (pc : Nat) (lv : List (Nat × Value)), decode cX7_listBehind pc = .ok (.ireturn, 1) → Q v u → J x 0 0 8 (W_StepsT cyI cyJ cyZ a_s a_s_starts a_s_nexts a_s_values a_f a_f_needs a_f_sideCounts a_f_yardSums a_f_beside s_listed s_starts u s_values f_all f_wanted f_mostSides f_needs f_sideCounts f_yardSums f_beside) lv pc [.int v]) (h : lp_X7_listBehind_24 Q  x5 x6 f_sideCounts s_nexts x4 x7) :
    J x 0 0 8 (W_StepsT cyI cyJ cyZ a_s a_s_starts a_s_nexts a_s_values a_f a_f_needs a_f_sideCounts a_f_yardSums a_f_beside s_listed s_starts s_nexts s_values f_all f_wanted f_mostSides f_needs f_sideCounts f_yardSums f_beside) [(0, .ref a_s), (1, .ref a_f), (4, .int x4), (5, .int x5), (6, .int x6), (7, .int x7)] 24 [] := by
  obtain ⟨I, ⟨n, h0⟩, hb⟩ := h
  revert s_nexts x4 x7
  induction n using Nat.strongRecOn with
  | _ n ih =>
    intro s_nexts x4 x7 h0
    exact B_X7_listBehind_24 cx hR (fun _ _ _ hz => by obtain ⟨n2, hlt, hI⟩ := hz; exact ih n2 hlt hI) (hb n s_nexts x4 x7 h0)
set_option maxHeartbeats 4000000 in
set_option maxRecDepth 100000 in
theorem c_X7_listBehind {D : DG} {cyI cyJ cyZ : ClassId} {a_s a_s_starts a_s_nexts a_s_values a_f a_f_needs a_f_sideCounts a_f_yardSums a_f_beside : Nat} {s_listed : Option Nat} {s_starts : Nat → Int32} {s_nexts : Nat → Int32} {s_values : Nat → Int32} {f_all : Int32} {f_wanted : Int32} {f_mostSides : Int32} {f_needs : Nat → Int32} {f_sideCounts : Nat → Int32} {f_yardSums : Nat → Int32} {f_beside : Nat → Int32} {p2 : Int32} {p3 : Int32} {Q : Int32 → ((Nat → Int32)) → Prop} (h : wp_X7_listBehind p2 p3 s_nexts f_all f_sideCounts f_beside Q) :
    MetI yX7_listBehind cX7_listBehind 8 (some .int) rm_X7_listBehind D [(cyI, .int), (cyJ, .long), (cyZ, .boolean)] [.ref a_s, .ref a_f, .int p2, .int p3] (W_StepsT cyI cyJ cyZ a_s a_s_starts a_s_nexts a_s_values a_f a_f_needs a_f_sideCounts a_f_yardSums a_f_beside s_listed s_starts s_nexts s_values f_all f_wanted f_mostSides f_needs f_sideCounts f_yardSums f_beside) (fun u : (Nat → Int32) => (W_StepsT cyI cyJ cyZ a_s a_s_starts a_s_nexts a_s_values a_f a_f_needs a_f_sideCounts a_f_yardSums a_f_beside s_listed s_starts u s_values f_all f_wanted f_mostSides f_needs f_sideCounts f_yardSums f_beside)) (fun v u => Q v u) := by
  unfold wp_X7_listBehind at h
  refine metI_of (by decide) (Nat.le_of_ble_eq_true rfl) (fun x cx0 hR0 => ?_)
  have cx : Cx x cX7_listBehind 8 RX7 rm_X7_listBehind D [(cyI, .int), (cyJ, .long), (cyZ, .boolean)] := cx0
  have hR : ∀ (v : Int32) (u : (Nat → Int32)) (pc : Nat) (lv : List (Nat × Value)), decode cX7_listBehind pc = .ok (.ireturn, 1) → Q v u → J x 0 0 8 (W_StepsT cyI cyJ cyZ a_s a_s_starts a_s_nexts a_s_values a_f a_f_needs a_f_sideCounts a_f_yardSums a_f_beside s_listed s_starts u s_values f_all f_wanted f_mostSides f_needs f_sideCounts f_yardSums f_beside) lv pc [.int v] := (fun v u pc lv d hq => hR0 v u pc lv d hq)
  show J x 0 0 8 (W_StepsT cyI cyJ cyZ a_s a_s_starts a_s_nexts a_s_values a_f a_f_needs a_f_sideCounts a_f_yardSums a_f_beside s_listed s_starts s_nexts s_values f_all f_wanted f_mostSides f_needs f_sideCounts f_yardSums f_beside) [(0, .ref a_s), (1, .ref a_f), (2, .int p2), (3, .int p3)] 0 []
  refine j_iload_n cx 3 rfl rfl dX7_listBehind_0 (pn := 1) rfl ?_
  refine j_istore cx [(4, .int p3), (0, .ref a_s), (1, .ref a_f), (2, .int p2), (3, .int p3)] (by decide) rfl dX7_listBehind_1 (pn := 3) rfl ?_
  refine j_aload_n cx 2 rfl rfl dX7_listBehind_3 (pn := 4) rfl ?_
  refine j_iload_n cx 3 rfl rfl dX7_listBehind_4 (pn := 5) rfl ?_
  refine j_callvI cx q_inst_X3_nextTo q_sel_X3_nextTo (b := a_f) (As := [.int p2]) (rest := []) (W_FT cyI cyJ cyZ a_f a_f_needs a_f_sideCounts a_f_yardSums a_f_beside f_all f_wanted f_mostSides f_needs f_sideCounts f_yardSums f_beside) [(a_s, .inr (7, [.ref a_s_starts, .ref a_s_nexts, .ref a_s_values, va_rf s_listed])), (a_s_starts, .inl (cyI, 1025, .inl s_starts)), (a_s_nexts, .inl (cyI, 4096, .inl s_nexts)), (a_s_values, .inl (cyI, 4096, .inl s_values))] (c_X3_nextTo h) ⟨q_code_X3_nextTo, q_ml_X7_39, q_init_X3, hd_X3_nextTo, ⟨Nat.le_of_ble_eq_true rfl, Nat.le_of_ble_eq_true rfl⟩, Nat.le_of_ble_eq_true rfl, Nat.le_of_ble_eq_true rfl⟩ (q0 := 0) rfl rfl rfl [4, 5, 6, 7, 8] [0, 1, 2, 3] [0, 1, 2, 3, 4, 5, 6, 7, 8] rfl rfl rfl rfl rfl (by decide) (fun _ : Unit => (W_StepsT cyI cyJ cyZ a_s a_s_starts a_s_nexts a_s_values a_f a_f_needs a_f_sideCounts a_f_yardSums a_f_beside s_listed s_starts s_nexts s_values f_all f_wanted f_mostSides f_needs f_sideCounts f_yardSums f_beside)) (fun _ => rfl) (fun _ => rfl) rfl rfl (Nat.le_of_ble_eq_true rfl) dX7_listBehind_5 (pn := 8) rfl (fun r1 _ h => ?_)
  show J x 0 0 8 (W_StepsT cyI cyJ cyZ a_s a_s_starts a_s_nexts a_s_values a_f a_f_needs a_f_sideCounts a_f_yardSums a_f_beside s_listed s_starts s_nexts s_values f_all f_wanted f_mostSides f_needs f_sideCounts f_yardSums f_beside) [(4, .int p3), (0, .ref a_s), (1, .ref a_f), (2, .int p2), (3, .int p3)] 8 [.int r1]
  refine j_istore cx [(5, .int r1), (4, .int p3), (0, .ref a_s), (1, .ref a_f), (2, .int p2), (3, .int p3)] (by decide) rfl dX7_listBehind_8 (pn := 10) rfl ?_
  refine j_aload_n cx 3 rfl rfl dX7_listBehind_10 (pn := 11) rfl ?_
  refine j_getN cx inGX3 4 rfl rfl 4 (by decide) q_fl_X7_25 rfl rfl dX7_listBehind_11 (pn := 14) rfl ?_
  refine j_iload_n cx 4 rfl rfl dX7_listBehind_14 (pn := 15) rfl ?_
  refine j_iconst cx (v := (-1)) (by decide) dX7_listBehind_15 (pn := 16) rfl ?_
  refine j_ixor cx dX7_listBehind_16 (pn := 17) rfl ?_
  refine j_iand cx dX7_listBehind_17 (pn := 18) rfl ?_
  refine j_topi (fun y2 ey2 => ?_)
  have h := h y2 ey2
  refine j_istore cx [(6, .int y2), (5, .int r1), (4, .int p3), (0, .ref a_s), (1, .ref a_f), (2, .int p2), (3, .int p3)] (by decide) rfl dX7_listBehind_18 (pn := 20) rfl ?_
  refine j_iload cx 0 rfl dX7_listBehind_20 (pn := 22) rfl ?_
  refine j_istore cx [(7, .int y2), (6, .int y2), (5, .int r1), (4, .int p3), (0, .ref a_s), (1, .ref a_f), (2, .int p2), (3, .int p3)] (by decide) rfl dX7_listBehind_22 (pn := 24) rfl ?_
  refine j_sub [4, 5, 3, 2, 1, 0] [(0, .ref a_s), (1, .ref a_f), (4, .int p3), (5, .int r1), (6, .int y2), (7, .int y2)] rfl ?_
  exact J_X7_listBehind_24 cx hR h
theorem dX7_list_0 : decode cX7_list 0 = .ok (.aload_n 0, 1) := by decide +kernel
theorem dX7_list_1 : decode cX7_list 1 = .ok (.getfield 21, 3) := by decide +kernel
theorem dX7_list_4 : decode cX7_list 4 = .ok (.aload_n 1, 1) := by decide +kernel
theorem dX7_list_5 : decode cX7_list 5 = .ok (.if_acmp .ne 4, 3) := by decide +kernel
theorem dX7_list_8 : decode cX7_list 8 = .ok (.return_, 1) := by decide +kernel
theorem dX7_list_9 : decode cX7_list 9 = .ok (.aload_n 0, 1) := by decide +kernel
theorem dX7_list_10 : decode cX7_list 10 = .ok (.aload_n 1, 1) := by decide +kernel
theorem dX7_list_11 : decode cX7_list 11 = .ok (.putfield 21, 3) := by decide +kernel
theorem dX7_list_14 : decode cX7_list 14 = .ok (.iconst 0, 1) := by decide +kernel
theorem dX7_list_15 : decode cX7_list 15 = .ok (.istore_n 2, 1) := by decide +kernel
theorem dX7_list_16 : decode cX7_list 16 = .ok (.iconst 0, 1) := by decide +kernel
theorem dX7_list_17 : decode cX7_list 17 = .ok (.istore_n 3, 1) := by decide +kernel
theorem dX7_list_18 : decode cX7_list 18 = .ok (.iload_n 3, 1) := by decide +kernel
theorem dX7_list_19 : decode cX7_list 19 = .ok (.aload_n 1, 1) := by decide +kernel
theorem dX7_list_20 : decode cX7_list 20 = .ok (.getfield 25, 3) := by decide +kernel
theorem dX7_list_23 : decode cX7_list 23 = .ok (.if_icmp .gt 36, 3) := by decide +kernel
theorem dX7_list_26 : decode cX7_list 26 = .ok (.aload_n 0, 1) := by decide +kernel
theorem dX7_list_27 : decode cX7_list 27 = .ok (.getfield 9, 3) := by decide +kernel
theorem dX7_list_30 : decode cX7_list 30 = .ok (.iload_n 3, 1) := by decide +kernel
theorem dX7_list_31 : decode cX7_list 31 = .ok (.iload_n 2, 1) := by decide +kernel
theorem dX7_list_32 : decode cX7_list 32 = .ok (.iastore, 1) := by decide +kernel
theorem dX7_list_33 : decode cX7_list 33 = .ok (.iload_n 3, 1) := by decide +kernel
theorem dX7_list_34 : decode cX7_list 34 = .ok (.ifCond .eq 11, 3) := by decide +kernel
theorem dX7_list_37 : decode cX7_list 37 = .ok (.aload_n 1, 1) := by decide +kernel
theorem dX7_list_38 : decode cX7_list 38 = .ok (.iload_n 3, 1) := by decide +kernel
theorem dX7_list_39 : decode cX7_list 39 = .ok (.invokevirtual 31, 3) := by decide +kernel
theorem dX7_list_42 : decode cX7_list 42 = .ok (.ifCond .eq 11, 3) := by decide +kernel
theorem dX7_list_45 : decode cX7_list 45 = .ok (.aload_n 0, 1) := by decide +kernel
theorem dX7_list_46 : decode cX7_list 46 = .ok (.aload_n 1, 1) := by decide +kernel
theorem dX7_list_47 : decode cX7_list 47 = .ok (.iload_n 3, 1) := by decide +kernel
theorem dX7_list_48 : decode cX7_list 48 = .ok (.iload_n 2, 1) := by decide +kernel
theorem dX7_list_49 : decode cX7_list 49 = .ok (.invokevirtual 35, 3) := by decide +kernel
theorem dX7_list_52 : decode cX7_list 52 = .ok (.istore_n 2, 1) := by decide +kernel
theorem dX7_list_53 : decode cX7_list 53 = .ok (.iinc 3 1, 3) := by decide +kernel
theorem dX7_list_56 : decode cX7_list 56 = .ok (.goto (-38), 3) := by decide +kernel
theorem dX7_list_59 : decode cX7_list 59 = .ok (.aload_n 0, 1) := by decide +kernel
theorem dX7_list_60 : decode cX7_list 60 = .ok (.getfield 9, 3) := by decide +kernel
theorem dX7_list_63 : decode cX7_list 63 = .ok (.aload_n 1, 1) := by decide +kernel
theorem dX7_list_64 : decode cX7_list 64 = .ok (.getfield 25, 3) := by decide +kernel
theorem dX7_list_67 : decode cX7_list 67 = .ok (.iconst 1, 1) := by decide +kernel
theorem dX7_list_68 : decode cX7_list 68 = .ok (.iadd, 1) := by decide +kernel
theorem dX7_list_69 : decode cX7_list 69 = .ok (.iload_n 2, 1) := by decide +kernel
theorem dX7_list_70 : decode cX7_list 70 = .ok (.iastore, 1) := by decide +kernel
theorem dX7_list_71 : decode cX7_list 71 = .ok (.return_, 1) := by decide +kernel
abbrev rm_X7_list : Room := { frames := 2, cells := 0, slots := 0, locals := 48 }
theorem hd_X7_list : yX7_list.cls ≠ "java/lang/invoke/MethodHandle" ∧ yX7_list.cls ≠ "java/lang/invoke/VarHandle" ∧ (parseMethodDescriptor yX7_list.desc).map (fun d => d.parameters.length) = some 1 := by decide +kernel
def bk_X7_list_53 (Q : (Option Nat × (Nat → Int32) × (Nat → Int32)) → Prop) (B18 : (Nat → Int32) → (Nat → Int32) → Int32 → Int32 → Prop) (x2 : Int32) (x3 : Int32) (s_starts : Nat → Int32) (s_nexts : Nat → Int32) : Prop :=
∀ y8 : Int32, y8 = (x3 + 1) →
B18 s_starts s_nexts x2 y8
def bk_X7_list_45 (Q : (Option Nat × (Nat → Int32) × (Nat → Int32)) → Prop) (B18 : (Nat → Int32) → (Nat → Int32) → Int32 → Int32 → Prop) (x2 : Int32) (x3 : Int32) (s_starts : Nat → Int32) (s_nexts : Nat → Int32) (f_all : Int32) (f_sideCounts : Nat → Int32) (f_beside : Nat → Int32) : Prop :=
wp_X7_listBehind x3 x2 s_nexts f_all f_sideCounts f_beside (fun (r6 : Int32) (u7 : (Nat → Int32)) => bk_X7_list_53 Q B18 r6 x3 s_starts u7)
def bd_X7_list_18 (Q : (Option Nat × (Nat → Int32) × (Nat → Int32)) → Prop) (B18 : (Nat → Int32) → (Nat → Int32) → Int32 → Int32 → Prop) (s_listed : Option Nat) (f_all : Int32) (f_sideCounts : Nat → Int32) (f_beside : Nat → Int32) (s_starts : Nat → Int32) (s_nexts : Nat → Int32) (x2 : Int32) (x3 : Int32) : Prop :=
((f_all < x3 → vp_in (f_all + 1) 1025 ∧ (∀ f3 : Nat → Int32, f3 = (upd s_starts (f_all + 1).toNatClampNeg x2) →
Q (s_listed, f3, s_nexts))) ∧
(¬ f_all < x3 → vp_in x3 1025 ∧ (∀ f4 : Nat → Int32, f4 = (upd s_starts x3.toNatClampNeg x2) →
((x3 = 0 → bk_X7_list_45 Q B18 x2 x3 f4 s_nexts f_all f_sideCounts f_beside) ∧
(¬ x3 = 0 → wp_X3_isFold x3 f_sideCounts (fun (r9 : Int32) => ((r9 = 0 → bk_X7_list_53 Q B18 x2 x3 f4 s_nexts) ∧
(¬ r9 = 0 → bk_X7_list_45 Q B18 x2 x3 f4 s_nexts f_all f_sideCounts f_beside))))))))
def lp_X7_list_18 (Q : (Option Nat × (Nat → Int32) × (Nat → Int32)) → Prop) (s_listed : Option Nat) (f_all : Int32) (f_sideCounts : Nat → Int32) (f_beside : Nat → Int32) (s_starts : Nat → Int32) (s_nexts : Nat → Int32) (x2 : Int32) (x3 : Int32) : Prop :=
∃ I : Nat → (Nat → Int32) → (Nat → Int32) → Int32 → Int32 → Prop, (∃ n, I n s_starts s_nexts x2 x3) ∧ ∀ n s_starts s_nexts x2 x3, I n s_starts s_nexts x2 x3 → bd_X7_list_18 Q  (fun s_starts' s_nexts' x2' x3' => ∃ n', n' < n ∧ I n' s_starts' s_nexts' x2' x3') s_listed f_all f_sideCounts f_beside s_starts s_nexts x2 x3
def wp_X7_list (a_f : Nat) (s_listed : Option Nat) (s_starts : Nat → Int32) (s_nexts : Nat → Int32) (f_all : Int32) (f_sideCounts : Nat → Int32) (f_beside : Nat → Int32) (Q : (Option Nat × (Nat → Int32) × (Nat → Int32)) → Prop) : Prop :=
((¬ s_listed = (some a_f : Option Nat) → lp_X7_list_18 Q (some a_f) f_all f_sideCounts f_beside s_starts s_nexts 0 0) ∧
(s_listed = (some a_f : Option Nat) → Q (s_listed, s_starts, s_nexts)))
set_option maxHeartbeats 4000000 in
set_option maxRecDepth 100000 in
theorem J_X7_list_53 {x : CX} {D : DG} {cyI cyJ cyZ : ClassId} {a_s a_s_starts a_s_nexts a_s_values a_f a_f_needs a_f_sideCounts a_f_yardSums a_f_beside : Nat} {s_listed : Option Nat} {s_starts : Nat → Int32} {s_nexts : Nat → Int32} {s_values : Nat → Int32} {f_all : Int32} {f_wanted : Int32} {f_mostSides : Int32} {f_needs : Nat → Int32} {f_sideCounts : Nat → Int32} {f_yardSums : Nat → Int32} {f_beside : Nat → Int32} {x2 : Int32} {x3 : Int32} {Q : (Option Nat × (Nat → Int32) × (Nat → Int32)) → Prop} {B18 : (Nat → Int32) → (Nat → Int32) → Int32 → Int32 → Prop} (cx : Cx x cX7_list 4 RX7 rm_X7_list D [(cyI, .int), (cyJ, .long), (cyZ, .boolean)]) (hR : ∀ (u : Option Nat × (Nat → Int32) × (Nat → Int32)) (pc : Nat) (lv : List (Nat × Value)), decode cX7_list pc = .ok (.return_, 1) → Q u → J x 0 0 4 (W_StepsT cyI cyJ cyZ a_s a_s_starts a_s_nexts a_s_values a_f a_f_needs a_f_sideCounts a_f_yardSums a_f_beside u.1 u.2.1 u.2.2 s_values f_all f_wanted f_mostSides f_needs f_sideCounts f_yardSums f_beside) lv pc []) (hB18 : ∀ (s_starts : Nat → Int32) (s_nexts : Nat → Int32) (x2 : Int32) (x3 : Int32), B18 s_starts s_nexts x2 x3 → J x 0 0 4 (W_StepsT cyI cyJ cyZ a_s a_s_starts a_s_nexts a_s_values a_f a_f_needs a_f_sideCounts a_f_yardSums a_f_beside s_listed s_starts s_nexts s_values f_all f_wanted f_mostSides f_needs f_sideCounts f_yardSums f_beside) [(0, .ref a_s), (1, .ref a_f), (2, .int x2), (3, .int x3)] 18 []) (h : bk_X7_list_53 Q B18 x2 x3 s_starts s_nexts) :
    J x 0 0 4 (W_StepsT cyI cyJ cyZ a_s a_s_starts a_s_nexts a_s_values a_f a_f_needs a_f_sideCounts a_f_yardSums a_f_beside s_listed s_starts s_nexts s_values f_all f_wanted f_mostSides f_needs f_sideCounts f_yardSums f_beside) [(0, .ref a_s), (1, .ref a_f), (2, .int x2), (3, .int x3)] 53 [] := by
  unfold bk_X7_list_53 at h
  obtain ⟨y8, ey8⟩ : ∃ z : Int32, z = x3 + 1 := ⟨_, rfl⟩
  have h := h y8 ey8
  refine j_iinc cx 3 rfl (cst := 1) (by decide) ey8 [(3, .int y8), (0, .ref a_s), (1, .ref a_f), (2, .int x2)] (by decide) rfl dX7_list_53 (pn := 56) rfl ?_
  refine j_goto cx 18 dX7_list_56 rfl ?_
  refine j_sub [1, 2, 3, 0] [(0, .ref a_s), (1, .ref a_f), (2, .int x2), (3, .int y8)] rfl ?_
  exact hB18 _ _ _ _ h
set_option maxHeartbeats 4000000 in
set_option maxRecDepth 100000 in
theorem J_X7_list_45 {x : CX} {D : DG} {cyI cyJ cyZ : ClassId} {a_s a_s_starts a_s_nexts a_s_values a_f a_f_needs a_f_sideCounts a_f_yardSums a_f_beside : Nat} {s_listed : Option Nat} {s_starts : Nat → Int32} {s_nexts : Nat → Int32} {s_values : Nat → Int32} {f_all : Int32} {f_wanted : Int32} {f_mostSides : Int32} {f_needs : Nat → Int32} {f_sideCounts : Nat → Int32} {f_yardSums : Nat → Int32} {f_beside : Nat → Int32} {x2 : Int32} {x3 : Int32} {Q : (Option Nat × (Nat → Int32) × (Nat → Int32)) → Prop} {B18 : (Nat → Int32) → (Nat → Int32) → Int32 → Int32 → Prop} (cx : Cx x cX7_list 4 RX7 rm_X7_list D [(cyI, .int), (cyJ, .long), (cyZ, .boolean)]) (hR : ∀ (u : Option Nat × (Nat → Int32) × (Nat → Int32)) (pc : Nat) (lv : List (Nat × Value)), decode cX7_list pc = .ok (.return_, 1) → Q u → J x 0 0 4 (W_StepsT cyI cyJ cyZ a_s a_s_starts a_s_nexts a_s_values a_f a_f_needs a_f_sideCounts a_f_yardSums a_f_beside u.1 u.2.1 u.2.2 s_values f_all f_wanted f_mostSides f_needs f_sideCounts f_yardSums f_beside) lv pc []) (hB18 : ∀ (s_starts : Nat → Int32) (s_nexts : Nat → Int32) (x2 : Int32) (x3 : Int32), B18 s_starts s_nexts x2 x3 → J x 0 0 4 (W_StepsT cyI cyJ cyZ a_s a_s_starts a_s_nexts a_s_values a_f a_f_needs a_f_sideCounts a_f_yardSums a_f_beside s_listed s_starts s_nexts s_values f_all f_wanted f_mostSides f_needs f_sideCounts f_yardSums f_beside) [(0, .ref a_s), (1, .ref a_f), (2, .int x2), (3, .int x3)] 18 []) (h : bk_X7_list_45 Q B18 x2 x3 s_starts s_nexts f_all f_sideCounts f_beside) :
    J x 0 0 4 (W_StepsT cyI cyJ cyZ a_s a_s_starts a_s_nexts a_s_values a_f a_f_needs a_f_sideCounts a_f_yardSums a_f_beside s_listed s_starts s_nexts s_values f_all f_wanted f_mostSides f_needs f_sideCounts f_yardSums f_beside) [(0, .ref a_s), (1, .ref a_f), (2, .int x2), (3, .int x3)] 45 [] := by
  unfold bk_X7_list_45 at h
  refine j_aload_n cx 0 rfl rfl dX7_list_45 (pn := 46) rfl ?_
  refine j_aload_n cx 1 rfl rfl dX7_list_46 (pn := 47) rfl ?_
  refine j_iload_n cx 3 rfl rfl dX7_list_47 (pn := 48) rfl ?_
  refine j_iload_n cx 2 rfl rfl dX7_list_48 (pn := 49) rfl ?_
  refine j_callvI0 cx q_inst_X7_listBehind q_sel_X7_listBehind (b := a_s) (As := [.ref a_f, .int x3, .int x2]) (rest := []) (c_X7_listBehind h) ⟨q_code_X7_listBehind, q_ml_X7_35, q_init_X7, hd_X7_listBehind, ⟨Nat.le_of_ble_eq_true rfl, Nat.le_of_ble_eq_true rfl⟩, Nat.le_of_ble_eq_true rfl, Nat.le_of_ble_eq_true rfl⟩ (q0 := 0) rfl rfl rfl rfl (Nat.le_of_ble_eq_true rfl) dX7_list_49 (pn := 52) rfl (fun r6 u7 h => ?_)
  show J x 0 0 4 (W_StepsT cyI cyJ cyZ a_s a_s_starts a_s_nexts a_s_values a_f a_f_needs a_f_sideCounts a_f_yardSums a_f_beside s_listed s_starts u7 s_values f_all f_wanted f_mostSides f_needs f_sideCounts f_yardSums f_beside) [(0, .ref a_s), (1, .ref a_f), (2, .int x2), (3, .int x3)] 52 [.int r6]
  refine j_istore_n cx rfl [(2, .int r6), (0, .ref a_s), (1, .ref a_f), (3, .int x3)] (by decide) rfl dX7_list_52 (pn := 53) rfl ?_
  refine j_sub [1, 2, 0, 3] [(0, .ref a_s), (1, .ref a_f), (2, .int r6), (3, .int x3)] rfl ?_
  exact J_X7_list_53 cx hR hB18 h
set_option maxHeartbeats 4000000 in
set_option maxRecDepth 100000 in
theorem B_X7_list_18 {x : CX} {D : DG} {cyI cyJ cyZ : ClassId} {a_s a_s_starts a_s_nexts a_s_values a_f a_f_needs a_f_sideCounts a_f_yardSums a_f_beside : Nat} {s_listed : Option Nat} {s_starts : Nat → Int32} {s_nexts : Nat → Int32} {s_values : Nat → Int32} {f_all : Int32} {f_wanted : Int32} {f_mostSides : Int32} {f_needs : Nat → Int32} {f_sideCounts : Nat → Int32} {f_yardSums : Nat → Int32} {f_beside : Nat → Int32} {x2 : Int32} {x3 : Int32} {Q : (Option Nat × (Nat → Int32) × (Nat → Int32)) → Prop} {B18 : (Nat → Int32) → (Nat → Int32) → Int32 → Int32 → Prop} (cx : Cx x cX7_list 4 RX7 rm_X7_list D [(cyI, .int), (cyJ, .long), (cyZ, .boolean)]) (hR : ∀ (u : Option Nat × (Nat → Int32) × (Nat → Int32)) (pc : Nat) (lv : List (Nat × Value)), decode cX7_list pc = .ok (.return_, 1) → Q u → J x 0 0 4 (W_StepsT cyI cyJ cyZ a_s a_s_starts a_s_nexts a_s_values a_f a_f_needs a_f_sideCounts a_f_yardSums a_f_beside u.1 u.2.1 u.2.2 s_values f_all f_wanted f_mostSides f_needs f_sideCounts f_yardSums f_beside) lv pc []) (hB18 : ∀ (s_starts : Nat → Int32) (s_nexts : Nat → Int32) (x2 : Int32) (x3 : Int32), B18 s_starts s_nexts x2 x3 → J x 0 0 4 (W_StepsT cyI cyJ cyZ a_s a_s_starts a_s_nexts a_s_values a_f a_f_needs a_f_sideCounts a_f_yardSums a_f_beside s_listed s_starts s_nexts s_values f_all f_wanted f_mostSides f_needs f_sideCounts f_yardSums f_beside) [(0, .ref a_s), (1, .ref a_f), (2, .int x2), (3, .int x3)] 18 []) (h : bd_X7_list_18 Q B18 s_listed f_all f_sideCounts f_beside s_starts s_nexts x2 x3) :
    J x 0 0 4 (W_StepsT cyI cyJ cyZ a_s a_s_starts a_s_nexts a_s_values a_f a_f_needs a_f_sideCounts a_f_yardSums a_f_beside s_listed s_starts s_nexts s_values f_all f_wanted f_mostSides f_needs f_sideCounts f_yardSums f_beside) [(0, .ref a_s), (1, .ref a_f), (2, .int x2), (3, .int x3)] 18 [] := by
  unfold bd_X7_list_18 at h
  refine j_iload_n cx 3 rfl rfl dX7_list_18 (pn := 19) rfl ?_
  refine j_aload_n cx 1 rfl rfl dX7_list_19 (pn := 20) rfl ?_
  refine j_getN cx inGX3 4 rfl rfl 4 (by decide) q_fl_X7_25 rfl rfl dX7_list_20 (pn := 23) rfl ?_
  refine j_icmp_gt cx 59 dX7_list_23 (pn := 26) rfl rfl (fun c2 => ?_) (fun c2 => ?_)
  · have h := h.1 c2
    refine j_aload_n cx 0 rfl rfl dX7_list_59 (pn := 60) rfl ?_
    refine j_get cx inGX7 0 rfl rfl 0 (by decide) q_fl_X7_9 rfl rfl dX7_list_60 (pn := 63) rfl ?_
    refine j_aload_n cx 1 rfl rfl dX7_list_63 (pn := 64) rfl ?_
    refine j_getN cx inGX3 4 rfl rfl 4 (by decide) q_fl_X7_25 rfl rfl dX7_list_64 (pn := 67) rfl ?_
    refine j_iconst cx (v := 1) (by decide) dX7_list_67 (pn := 68) rfl ?_
    refine j_iadd cx dX7_list_68 (pn := 69) rfl ?_
    refine j_iload_n cx 2 rfl rfl dX7_list_69 (pn := 70) rfl ?_
    have hin := h.1
    obtain ⟨f3, ef3⟩ : ∃ z, z = upd s_starts (f_all + 1).toNatClampNeg x2 := ⟨_, rfl⟩
    have h := h.2 f3 ef3
    refine j_iast cx 1 0 rfl rfl hin (W_StepsT cyI cyJ cyZ a_s a_s_starts a_s_nexts a_s_values a_f a_f_needs a_f_sideCounts a_f_yardSums a_f_beside s_listed f3 s_nexts s_values f_all f_wanted f_mostSides f_needs f_sideCounts f_yardSums f_beside) (by subst ef3; rfl) dX7_list_70 (pn := 71) rfl ?_
    exact hR (s_listed, f3, s_nexts) 71 _ dX7_list_71 h
  · have h := h.2 c2
    refine j_aload_n cx 0 rfl rfl dX7_list_26 (pn := 27) rfl ?_
    refine j_get cx inGX7 0 rfl rfl 0 (by decide) q_fl_X7_9 rfl rfl dX7_list_27 (pn := 30) rfl ?_
    refine j_iload_n cx 3 rfl rfl dX7_list_30 (pn := 31) rfl ?_
    refine j_iload_n cx 2 rfl rfl dX7_list_31 (pn := 32) rfl ?_
    have hin := h.1
    obtain ⟨f4, ef4⟩ : ∃ z, z = upd s_starts x3.toNatClampNeg x2 := ⟨_, rfl⟩
    have h := h.2 f4 ef4
    refine j_iast cx 1 0 rfl rfl hin (W_StepsT cyI cyJ cyZ a_s a_s_starts a_s_nexts a_s_values a_f a_f_needs a_f_sideCounts a_f_yardSums a_f_beside s_listed f4 s_nexts s_values f_all f_wanted f_mostSides f_needs f_sideCounts f_yardSums f_beside) (by subst ef4; rfl) dX7_list_32 (pn := 33) rfl ?_
    refine j_iload_n cx 3 rfl rfl dX7_list_33 (pn := 34) rfl ?_
    refine j_if_eq cx 45 dX7_list_34 (pn := 37) rfl rfl (fun c5 => ?_) (fun c5 => ?_)
    · have h := h.1 c5
      exact J_X7_list_45 cx hR hB18 h
    · have h := h.2 c5
      refine j_aload_n cx 1 rfl rfl dX7_list_37 (pn := 38) rfl ?_
      refine j_iload_n cx 3 rfl rfl dX7_list_38 (pn := 39) rfl ?_
      refine j_callvI cx q_inst_X3_isFold q_sel_X3_isFold (b := a_f) (As := [.int x3]) (rest := []) (W_FT cyI cyJ cyZ a_f a_f_needs a_f_sideCounts a_f_yardSums a_f_beside f_all f_wanted f_mostSides f_needs f_sideCounts f_yardSums f_beside) [(a_s, .inr (7, [.ref a_s_starts, .ref a_s_nexts, .ref a_s_values, va_rf s_listed])), (a_s_starts, .inl (cyI, 1025, .inl f4)), (a_s_nexts, .inl (cyI, 4096, .inl s_nexts)), (a_s_values, .inl (cyI, 4096, .inl s_values))] (c_X3_isFold h) ⟨q_code_X3_isFold, q_ml_X7_31, q_init_X3, hd_X3_isFold, ⟨Nat.le_of_ble_eq_true rfl, Nat.le_of_ble_eq_true rfl⟩, Nat.le_of_ble_eq_true rfl, Nat.le_of_ble_eq_true rfl⟩ (q0 := 0) rfl rfl rfl [4, 5, 6, 7, 8] [0, 1, 2, 3] [0, 1, 2, 3, 4, 5, 6, 7, 8] rfl rfl rfl rfl rfl (by decide) (fun _ : Unit => (W_StepsT cyI cyJ cyZ a_s a_s_starts a_s_nexts a_s_values a_f a_f_needs a_f_sideCounts a_f_yardSums a_f_beside s_listed f4 s_nexts s_values f_all f_wanted f_mostSides f_needs f_sideCounts f_yardSums f_beside)) (fun _ => rfl) (fun _ => rfl) rfl rfl (Nat.le_of_ble_eq_true rfl) dX7_list_39 (pn := 42) rfl (fun r9 _ h => ?_)
      show J x 0 0 4 (W_StepsT cyI cyJ cyZ a_s a_s_starts a_s_nexts a_s_values a_f a_f_needs a_f_sideCounts a_f_yardSums a_f_beside s_listed f4 s_nexts s_values f_all f_wanted f_mostSides f_needs f_sideCounts f_yardSums f_beside) [(0, .ref a_s), (1, .ref a_f), (2, .int x2), (3, .int x3)] 42 [.int r9]
      refine j_if_eq cx 53 dX7_list_42 (pn := 45) rfl rfl (fun c10 => ?_) (fun c10 => ?_)
      · have h := h.1 c10
        exact J_X7_list_53 cx hR hB18 h
      · have h := h.2 c10
        exact J_X7_list_45 cx hR hB18 h
set_option maxHeartbeats 4000000 in
set_option maxRecDepth 100000 in
theorem J_X7_list_18 {x : CX} {D : DG} {cyI cyJ cyZ : ClassId} {a_s a_s_starts a_s_nexts a_s_values a_f a_f_needs a_f_sideCounts a_f_yardSums a_f_beside : Nat} {s_listed : Option Nat} {s_starts : Nat → Int32} {s_nexts : Nat → Int32} {s_values : Nat → Int32} {f_all : Int32} {f_wanted : Int32} {f_mostSides : Int32} {f_needs : Nat → Int32} {f_sideCounts : Nat → Int32} {f_yardSums : Nat → Int32} {f_beside : Nat → Int32} {x2 : Int32} {x3 : Int32} {Q : (Option Nat × (Nat → Int32) × (Nat → Int32)) → Prop} (cx : Cx x cX7_list 4 RX7 rm_X7_list D [(cyI, .int), (cyJ, .long), (cyZ, .boolean)]) (hR : ∀ (u : Option Nat × (Nat → Int32) × (Nat → Int32)) (pc : Nat) (lv : List (Nat × Value)), decode cX7_list pc = .ok (.return_, 1) → Q u → J x 0 0 4 (W_StepsT cyI cyJ cyZ a_s a_s_starts a_s_nexts a_s_values a_f a_f_needs a_f_sideCounts a_f_yardSums a_f_beside u.1 u.2.1 u.2.2 s_values f_all f_wanted f_mostSides f_needs f_sideCounts f_yardSums f_beside) lv pc []) (h : lp_X7_list_18 Q  s_listed f_all f_sideCounts f_beside s_starts s_nexts x2 x3) :
    J x 0 0 4 (W_StepsT cyI cyJ cyZ a_s a_s_starts a_s_nexts a_s_values a_f a_f_needs a_f_sideCounts a_f_yardSums a_f_beside s_listed s_starts s_nexts s_values f_all f_wanted f_mostSides f_needs f_sideCounts f_yardSums f_beside) [(0, .ref a_s), (1, .ref a_f), (2, .int x2), (3, .int x3)] 18 [] := by
  obtain ⟨I, ⟨n, h0⟩, hb⟩ := h
  revert s_starts s_nexts x2 x3
  induction n using Nat.strongRecOn with
  | _ n ih =>
    intro s_starts s_nexts x2 x3 h0
    exact B_X7_list_18 cx hR (fun _ _ _ _ hz => by obtain ⟨n2, hlt, hI⟩ := hz; exact ih n2 hlt hI) (hb n s_starts s_nexts x2 x3 h0)
set_option maxHeartbeats 4000000 in
set_option maxRecDepth 100000 in
theorem c_X7_list {D : DG} {cyI cyJ cyZ : ClassId} {a_s a_s_starts a_s_nexts a_s_values a_f a_f_needs a_f_sideCounts a_f_yardSums a_f_beside : Nat} {s_listed : Option Nat} {s_starts : Nat → Int32} {s_nexts : Nat → Int32} {s_values : Nat → Int32} {f_all : Int32} {f_wanted : Int32} {f_mostSides : Int32} {f_needs : Nat → Int32} {f_sideCounts : Nat → Int32} {f_yardSums : Nat → Int32} {f_beside : Nat → Int32} {Q : (Option Nat × (Nat → Int32) × (Nat → Int32)) → Prop} (h : wp_X7_list a_f s_listed s_starts s_nexts f_all f_sideCounts f_beside Q) :
    MetV yX7_list cX7_list 4 (none) rm_X7_list D [(cyI, .int), (cyJ, .long), (cyZ, .boolean)] [.ref a_s, .ref a_f] (W_StepsT cyI cyJ cyZ a_s a_s_starts a_s_nexts a_s_values a_f a_f_needs a_f_sideCounts a_f_yardSums a_f_beside s_listed s_starts s_nexts s_values f_all f_wanted f_mostSides f_needs f_sideCounts f_yardSums f_beside) (fun u : Option Nat × (Nat → Int32) × (Nat → Int32) => (W_StepsT cyI cyJ cyZ a_s a_s_starts a_s_nexts a_s_values a_f a_f_needs a_f_sideCounts a_f_yardSums a_f_beside u.1 u.2.1 u.2.2 s_values f_all f_wanted f_mostSides f_needs f_sideCounts f_yardSums f_beside)) (fun u => Q u) := by
  unfold wp_X7_list at h
  refine metV_of (by decide) (Nat.le_of_ble_eq_true rfl) (fun x cx0 hR0 => ?_)
  have cx : Cx x cX7_list 4 RX7 rm_X7_list D [(cyI, .int), (cyJ, .long), (cyZ, .boolean)] := cx0
  have hR : ∀ (u : Option Nat × (Nat → Int32) × (Nat → Int32)) (pc : Nat) (lv : List (Nat × Value)), decode cX7_list pc = .ok (.return_, 1) → Q u → J x 0 0 4 (W_StepsT cyI cyJ cyZ a_s a_s_starts a_s_nexts a_s_values a_f a_f_needs a_f_sideCounts a_f_yardSums a_f_beside u.1 u.2.1 u.2.2 s_values f_all f_wanted f_mostSides f_needs f_sideCounts f_yardSums f_beside) lv pc [] := (fun u pc lv d hq => hR0 u pc lv d hq)
  show J x 0 0 4 (W_StepsT cyI cyJ cyZ a_s a_s_starts a_s_nexts a_s_values a_f a_f_needs a_f_sideCounts a_f_yardSums a_f_beside s_listed s_starts s_nexts s_values f_all f_wanted f_mostSides f_needs f_sideCounts f_yardSums f_beside) [(0, .ref a_s), (1, .ref a_f)] 0 []
  refine j_aload_n cx 0 rfl rfl dX7_list_0 (pn := 1) rfl ?_
  refine j_get cx inGX7 0 rfl rfl 3 (by decide) q_fl_X7_21 rfl rfl dX7_list_1 (pn := 4) rfl ?_
  refine j_aload_n cx 1 rfl rfl dX7_list_4 (pn := 5) rfl ?_
  refine j_acmp_ne (rx := s_listed) (ry := (some a_f : Option Nat)) cx 9 dX7_list_5 (pn := 8) rfl rfl (fun c1 => ?_) (fun c1 => ?_)
  · have h := h.1 c1
    refine j_aload_n cx 0 rfl rfl dX7_list_9 (pn := 10) rfl ?_
    refine j_aload_n cx 1 rfl rfl dX7_list_10 (pn := 11) rfl ?_
    refine j_put cx tyX7 tyX7_ok nmX7 inGX7 0 rfl rfl 3 (by decide) q_fl_X7_21 rfl rfl rfl rfl rfl (Nat.le_of_ble_eq_true rfl) (W_StepsT cyI cyJ cyZ a_s a_s_starts a_s_nexts a_s_values a_f a_f_needs a_f_sideCounts a_f_yardSums a_f_beside (some a_f) s_starts s_nexts s_values f_all f_wanted f_mostSides f_needs f_sideCounts f_yardSums f_beside) rfl dX7_list_11 (pn := 14) rfl ?_
    refine j_iconst cx (v := 0) (by decide) dX7_list_14 (pn := 15) rfl ?_
    refine j_istore_n cx rfl [(2, .int 0), (0, .ref a_s), (1, .ref a_f)] (by decide) rfl dX7_list_15 (pn := 16) rfl ?_
    refine j_iconst cx (v := 0) (by decide) dX7_list_16 (pn := 17) rfl ?_
    refine j_istore_n cx rfl [(3, .int 0), (2, .int 0), (0, .ref a_s), (1, .ref a_f)] (by decide) rfl dX7_list_17 (pn := 18) rfl ?_
    refine j_sub [2, 3, 1, 0] [(0, .ref a_s), (1, .ref a_f), (2, .int 0), (3, .int 0)] rfl ?_
    exact J_X7_list_18 cx hR h
  · have h := h.2 c1
    exact hR (s_listed, s_starts, s_nexts) 8 _ dX7_list_8 h
theorem dX1_forget_0 : decode cX1_forget 0 = .ok (.aload_n 0, 1) := by decide +kernel
theorem dX1_forget_1 : decode cX1_forget 1 = .ok (.getfield 9, 3) := by decide +kernel
theorem dX1_forget_4 : decode cX1_forget 4 = .ok (.bipush (-2), 2) := by decide +kernel
theorem dX1_forget_6 : decode cX1_forget 6 = .ok (.invokestatic 26, 3) := by decide +kernel
theorem dX1_forget_9 : decode cX1_forget 9 = .ok (.aload_n 0, 1) := by decide +kernel
theorem dX1_forget_10 : decode cX1_forget 10 = .ok (.bipush (-2), 2) := by decide +kernel
theorem dX1_forget_12 : decode cX1_forget 12 = .ok (.putfield 32, 3) := by decide +kernel
theorem dX1_forget_15 : decode cX1_forget 15 = .ok (.aload_n 0, 1) := by decide +kernel
theorem dX1_forget_16 : decode cX1_forget 16 = .ok (.getfield 22, 3) := by decide +kernel
theorem dX1_forget_19 : decode cX1_forget 19 = .ok (.aconst_null, 1) := by decide +kernel
theorem dX1_forget_20 : decode cX1_forget 20 = .ok (.putfield 36, 3) := by decide +kernel
theorem dX1_forget_23 : decode cX1_forget 23 = .ok (.return_, 1) := by decide +kernel
abbrev rm_X1_forget : Room := { frames := 1, cells := 0, slots := 0, locals := 23 }
theorem hd_X1_forget : yX1_forget.cls ≠ "java/lang/invoke/MethodHandle" ∧ yX1_forget.cls ≠ "java/lang/invoke/VarHandle" ∧ (parseMethodDescriptor yX1_forget.desc).map (fun d => d.parameters.length) = some 0 := by decide +kernel
def wp_X1_forget (o_fewestKept : Nat → Int32) (Q : (Int32 × (Nat → Int32) × Option Nat) → Prop) : Prop :=
wp_J7_fill_53178 91 (-2) o_fewestKept (fun (u1 : (Nat → Int32)) => Q ((-2), u1, none))
set_option maxHeartbeats 4000000 in
set_option maxRecDepth 100000 in
theorem c_X1_forget {D : DG} {cyI cyJ cyZ : ClassId} {a_o a_o_fewestKept a_o_row a_f a_f_needs a_f_sideCounts a_f_yardSums a_f_beside a_s a_s_starts a_s_nexts a_s_values : Nat} {o_length : Int32} {o_lifted : Int32} {o_bestYards : Int32} {o_bestHurdles : Int32} {o_yards : Int32} {o_hurdles : Int32} {o_fewestKept : Nat → Int32} {o_row : Nat → Int32} {f_all : Int32} {f_wanted : Int32} {f_mostSides : Int32} {f_needs : Nat → Int32} {f_sideCounts : Nat → Int32} {f_yardSums : Nat → Int32} {f_beside : Nat → Int32} {s_listed : Option Nat} {s_starts : Nat → Int32} {s_nexts : Nat → Int32} {s_values : Nat → Int32} {Q : (Int32 × (Nat → Int32) × Option Nat) → Prop} (h : wp_X1_forget o_fewestKept Q) :
    MetV yX1_forget cX1_forget 1 (none) rm_X1_forget D [(cyI, .int), (cyJ, .long), (cyZ, .boolean)] [.ref a_o] (W_Courses cyI cyJ cyZ a_o a_o_fewestKept a_o_row a_f a_f_needs a_f_sideCounts a_f_yardSums a_f_beside a_s a_s_starts a_s_nexts a_s_values o_length o_lifted o_bestYards o_bestHurdles o_yards o_hurdles o_fewestKept o_row f_all f_wanted f_mostSides f_needs f_sideCounts f_yardSums f_beside s_listed s_starts s_nexts s_values) (fun u : Int32 × (Nat → Int32) × Option Nat => (W_Courses cyI cyJ cyZ a_o a_o_fewestKept a_o_row a_f a_f_needs a_f_sideCounts a_f_yardSums a_f_beside a_s a_s_starts a_s_nexts a_s_values o_length o_lifted u.1 o_bestHurdles o_yards o_hurdles u.2.1 o_row f_all f_wanted f_mostSides f_needs f_sideCounts f_yardSums f_beside u.2.2 s_starts s_nexts s_values)) (fun u => Q u) := by
  unfold wp_X1_forget at h
  refine metV_of (by decide) (Nat.le_of_ble_eq_true rfl) (fun x cx0 hR0 => ?_)
  have cx : Cx x cX1_forget 1 RX1 rm_X1_forget D [(cyI, .int), (cyJ, .long), (cyZ, .boolean)] := cx0
  have hR : ∀ (u : Int32 × (Nat → Int32) × Option Nat) (pc : Nat) (lv : List (Nat × Value)), decode cX1_forget pc = .ok (.return_, 1) → Q u → J x 0 0 1 (W_Courses cyI cyJ cyZ a_o a_o_fewestKept a_o_row a_f a_f_needs a_f_sideCounts a_f_yardSums a_f_beside a_s a_s_starts a_s_nexts a_s_values o_length o_lifted u.1 o_bestHurdles o_yards o_hurdles u.2.1 o_row f_all f_wanted f_mostSides f_needs f_sideCounts f_yardSums f_beside u.2.2 s_starts s_nexts s_values) lv pc [] := (fun u pc lv d hq => hR0 u pc lv d hq)
  show J x 0 0 1 (W_Courses cyI cyJ cyZ a_o a_o_fewestKept a_o_row a_f a_f_needs a_f_sideCounts a_f_yardSums a_f_beside a_s a_s_starts a_s_nexts a_s_values o_length o_lifted o_bestYards o_bestHurdles o_yards o_hurdles o_fewestKept o_row f_all f_wanted f_mostSides f_needs f_sideCounts f_yardSums f_beside s_listed s_starts s_nexts s_values) [(0, .ref a_o)] 0 []
  refine j_aload_n cx 0 rfl rfl dX1_forget_0 (pn := 1) rfl ?_
  refine j_get cx inGX1 0 rfl rfl 2 (by decide) q_fl_X1_9 rfl rfl dX1_forget_1 (pn := 4) rfl ?_
  refine j_bipush cx (v := (-2)) (by decide) dX1_forget_4 (pn := 6) rfl ?_
  refine j_callsV cx q_stat_J7_fill_53178 (As := [.ref a_o_fewestKept, .int (-2)]) (rest := []) (W_Arr cyI cyJ cyZ 91 a_o_fewestKept o_fewestKept) [(a_o, .inr (1, [.ref a_f, .ref a_s, .ref a_o_fewestKept, .ref a_o_row, .int o_length, .int o_lifted, .int o_bestYards, .int o_bestHurdles, .int o_yards, .int o_hurdles])), (a_o_row, .inl (cyI, 10, .inl o_row)), (a_f, .inr (3, [.ref a_f_needs, .ref a_f_sideCounts, .ref a_f_yardSums, .ref a_f_beside, .int f_all, .int f_wanted, .int f_mostSides])), (a_f_needs, .inl (cyI, 1024, .inl f_needs)), (a_f_sideCounts, .inl (cyI, 1024, .inl f_sideCounts)), (a_f_yardSums, .inl (cyI, 1024, .inl f_yardSums)), (a_f_beside, .inl (cyI, 1024, .inl f_beside)), (a_s, .inr (7, [.ref a_s_starts, .ref a_s_nexts, .ref a_s_values, va_rf s_listed])), (a_s_starts, .inl (cyI, 1025, .inl s_starts)), (a_s_nexts, .inl (cyI, 4096, .inl s_nexts)), (a_s_values, .inl (cyI, 4096, .inl s_values))] (c_J7_fill_53178 h) ⟨q_code_J7_fill_53178, q_ml_X1_26, q_init_J7, hd_J7_fill_53178, ⟨Nat.le_of_ble_eq_true rfl, Nat.le_of_ble_eq_true rfl⟩, Nat.le_of_ble_eq_true rfl, Nat.le_of_ble_eq_true rfl⟩ rfl [1] [0, 2, 3, 4, 5, 6, 7, 8, 9, 10, 11] [0, 11, 1, 2, 3, 4, 5, 6, 7, 8, 9, 10] rfl rfl rfl rfl rfl (by decide) (fun u : (Nat → Int32) => (W_Courses cyI cyJ cyZ a_o a_o_fewestKept a_o_row a_f a_f_needs a_f_sideCounts a_f_yardSums a_f_beside a_s a_s_starts a_s_nexts a_s_values o_length o_lifted o_bestYards o_bestHurdles o_yards o_hurdles u o_row f_all f_wanted f_mostSides f_needs f_sideCounts f_yardSums f_beside s_listed s_starts s_nexts s_values)) (fun _ => rfl) (fun _ => rfl) rfl rfl (Nat.le_of_ble_eq_true rfl) dX1_forget_6 (pn := 9) rfl (fun u1 h => ?_)
  show J x 0 0 1 (W_Courses cyI cyJ cyZ a_o a_o_fewestKept a_o_row a_f a_f_needs a_f_sideCounts a_f_yardSums a_f_beside a_s a_s_starts a_s_nexts a_s_values o_length o_lifted o_bestYards o_bestHurdles o_yards o_hurdles u1 o_row f_all f_wanted f_mostSides f_needs f_sideCounts f_yardSums f_beside s_listed s_starts s_nexts s_values) [(0, .ref a_o)] 9 []
  refine j_aload_n cx 0 rfl rfl dX1_forget_9 (pn := 10) rfl ?_
  refine j_bipush cx (v := (-2)) (by decide) dX1_forget_10 (pn := 12) rfl ?_
  refine j_put cx tyX1 tyX1_ok nmX1 inGX1 0 rfl rfl 6 (by decide) q_fl_X1_32 rfl rfl rfl rfl rfl (Nat.le_of_ble_eq_true rfl) (W_Courses cyI cyJ cyZ a_o a_o_fewestKept a_o_row a_f a_f_needs a_f_sideCounts a_f_yardSums a_f_beside a_s a_s_starts a_s_nexts a_s_values o_length o_lifted (-2) o_bestHurdles o_yards o_hurdles u1 o_row f_all f_wanted f_mostSides f_needs f_sideCounts f_yardSums f_beside s_listed s_starts s_nexts s_values) rfl dX1_forget_12 (pn := 15) rfl ?_
  refine j_aload_n cx 0 rfl rfl dX1_forget_15 (pn := 16) rfl ?_
  refine j_get cx inGX1 0 rfl rfl 1 (by decide) q_fl_X1_22 rfl rfl dX1_forget_16 (pn := 19) rfl ?_
  refine j_null cx dX1_forget_19 (pn := 20) rfl ?_
  refine j_putN cx tyX7 tyX7_ok nmX7 inGX7 8 rfl rfl 3 (by decide) q_fl_X1_36 rfl rfl rfl rfl rfl (Nat.le_of_ble_eq_true rfl) (W_Courses cyI cyJ cyZ a_o a_o_fewestKept a_o_row a_f a_f_needs a_f_sideCounts a_f_yardSums a_f_beside a_s a_s_starts a_s_nexts a_s_values o_length o_lifted (-2) o_bestHurdles o_yards o_hurdles u1 o_row f_all f_wanted f_mostSides f_needs f_sideCounts f_yardSums f_beside none s_starts s_nexts s_values) rfl dX1_forget_20 (pn := 23) rfl ?_
  exact hR ((-2), u1, none) 23 _ dX1_forget_23 h
theorem dX1_isGone_0 : decode cX1_isGone 0 = .ok (.aload_n 0, 1) := by decide +kernel
theorem dX1_isGone_1 : decode cX1_isGone 1 = .ok (.getfield 18, 3) := by decide +kernel
theorem dX1_isGone_4 : decode cX1_isGone 4 = .ok (.getfield 105, 3) := by decide +kernel
theorem dX1_isGone_7 : decode cX1_isGone 7 = .ok (.iload_n 1, 1) := by decide +kernel
theorem dX1_isGone_8 : decode cX1_isGone 8 = .ok (.iconst (-1), 1) := by decide +kernel
theorem dX1_isGone_9 : decode cX1_isGone 9 = .ok (.ixor, 1) := by decide +kernel
theorem dX1_isGone_10 : decode cX1_isGone 10 = .ok (.iand, 1) := by decide +kernel
theorem dX1_isGone_11 : decode cX1_isGone 11 = .ok (.ifCond .ne 7, 3) := by decide +kernel
theorem dX1_isGone_14 : decode cX1_isGone 14 = .ok (.iconst 1, 1) := by decide +kernel
theorem dX1_isGone_15 : decode cX1_isGone 15 = .ok (.goto 4, 3) := by decide +kernel
theorem dX1_isGone_18 : decode cX1_isGone 18 = .ok (.iconst 0, 1) := by decide +kernel
theorem dX1_isGone_19 : decode cX1_isGone 19 = .ok (.ireturn, 1) := by decide +kernel
abbrev rm_X1_isGone : Room := { frames := 0, cells := 0, slots := 0, locals := 0 }
theorem hd_X1_isGone : yX1_isGone.cls ≠ "java/lang/invoke/MethodHandle" ∧ yX1_isGone.cls ≠ "java/lang/invoke/VarHandle" ∧ (parseMethodDescriptor yX1_isGone.desc).map (fun d => d.parameters.length) = some 1 := by decide +kernel
def wp_X1_isGone (p1 : Int32) (f_wanted : Int32) (Q : Int32 → Prop) : Prop :=
((¬ (f_wanted &&& (p1 ^^^ (-1))) = 0 → Q 0) ∧
((f_wanted &&& (p1 ^^^ (-1))) = 0 → Q 1))
set_option maxHeartbeats 4000000 in
set_option maxRecDepth 100000 in
theorem c_X1_isGone {D : DG} {cyI cyJ cyZ : ClassId} {a_o a_o_fewestKept a_o_row a_f a_f_needs a_f_sideCounts a_f_yardSums a_f_beside a_s a_s_starts a_s_nexts a_s_values : Nat} {o_length : Int32} {o_lifted : Int32} {o_bestYards : Int32} {o_bestHurdles : Int32} {o_yards : Int32} {o_hurdles : Int32} {o_fewestKept : Nat → Int32} {o_row : Nat → Int32} {f_all : Int32} {f_wanted : Int32} {f_mostSides : Int32} {f_needs : Nat → Int32} {f_sideCounts : Nat → Int32} {f_yardSums : Nat → Int32} {f_beside : Nat → Int32} {s_listed : Option Nat} {s_starts : Nat → Int32} {s_nexts : Nat → Int32} {s_values : Nat → Int32} {p1 : Int32} {Q : Int32 → Prop} (h : wp_X1_isGone p1 f_wanted Q) :
    MetI yX1_isGone cX1_isGone 2 (some .boolean) rm_X1_isGone D [(cyI, .int), (cyJ, .long), (cyZ, .boolean)] [.ref a_o, .int p1] (W_Courses cyI cyJ cyZ a_o a_o_fewestKept a_o_row a_f a_f_needs a_f_sideCounts a_f_yardSums a_f_beside a_s a_s_starts a_s_nexts a_s_values o_length o_lifted o_bestYards o_bestHurdles o_yards o_hurdles o_fewestKept o_row f_all f_wanted f_mostSides f_needs f_sideCounts f_yardSums f_beside s_listed s_starts s_nexts s_values) (fun _ : Unit => (W_Courses cyI cyJ cyZ a_o a_o_fewestKept a_o_row a_f a_f_needs a_f_sideCounts a_f_yardSums a_f_beside a_s a_s_starts a_s_nexts a_s_values o_length o_lifted o_bestYards o_bestHurdles o_yards o_hurdles o_fewestKept o_row f_all f_wanted f_mostSides f_needs f_sideCounts f_yardSums f_beside s_listed s_starts s_nexts s_values)) (fun v _ => Q v ) := by
  unfold wp_X1_isGone at h
  refine metZ_of (by decide) (Nat.le_of_ble_eq_true rfl) (fun x cx0 hR0 => ?_)
  have cx : Cx x cX1_isGone 2 RX1 rm_X1_isGone D [(cyI, .int), (cyJ, .long), (cyZ, .boolean)] := cx0
  have hR : ∀ (v : Int32) (pc : Nat) (lv : List (Nat × Value)), decode cX1_isGone pc = .ok (.ireturn, 1) → (v = 0 ∨ v = 1) → Q v → J x 0 0 2 (W_Courses cyI cyJ cyZ a_o a_o_fewestKept a_o_row a_f a_f_needs a_f_sideCounts a_f_yardSums a_f_beside a_s a_s_starts a_s_nexts a_s_values o_length o_lifted o_bestYards o_bestHurdles o_yards o_hurdles o_fewestKept o_row f_all f_wanted f_mostSides f_needs f_sideCounts f_yardSums f_beside s_listed s_starts s_nexts s_values) lv pc [.int v] := (fun v pc lv d hz hq => hR0 v () pc lv d hz hq)
  show J x 0 0 2 (W_Courses cyI cyJ cyZ a_o a_o_fewestKept a_o_row a_f a_f_needs a_f_sideCounts a_f_yardSums a_f_beside a_s a_s_starts a_s_nexts a_s_values o_length o_lifted o_bestYards o_bestHurdles o_yards o_hurdles o_fewestKept o_row f_all f_wanted f_mostSides f_needs f_sideCounts f_yardSums f_beside s_listed s_starts s_nexts s_values) [(0, .ref a_o), (1, .int p1)] 0 []
  refine j_aload_n cx 0 rfl rfl dX1_isGone_0 (pn := 1) rfl ?_
  refine j_get cx inGX1 0 rfl rfl 0 (by decide) q_fl_X1_18 rfl rfl dX1_isGone_1 (pn := 4) rfl ?_
  refine j_getN cx inGX3 3 rfl rfl 5 (by decide) q_fl_X1_105 rfl rfl dX1_isGone_4 (pn := 7) rfl ?_
  refine j_iload_n cx 1 rfl rfl dX1_isGone_7 (pn := 8) rfl ?_
  refine j_iconst cx (v := (-1)) (by decide) dX1_isGone_8 (pn := 9) rfl ?_
  refine j_ixor cx dX1_isGone_9 (pn := 10) rfl ?_
  refine j_iand cx dX1_isGone_10 (pn := 11) rfl ?_
  refine j_if_ne cx 18 dX1_isGone_11 (pn := 14) rfl rfl (fun c1 => ?_) (fun c1 => ?_)
  · have h := h.1 c1
    refine j_iconst cx (v := 0) (by decide) dX1_isGone_18 (pn := 19) rfl ?_
    exact hR 0 19 _ dX1_isGone_19 (Or.inl rfl) h
  · have h := h.2 c1
    refine j_iconst cx (v := 1) (by decide) dX1_isGone_14 (pn := 15) rfl ?_
    refine j_goto cx 19 dX1_isGone_15 rfl ?_
    exact hR 1 19 _ dX1_isGone_19 (Or.inr rfl) h
theorem dX1_waysOn_0 : decode cX1_waysOn 0 = .ok (.aload_n 0, 1) := by decide +kernel
theorem dX1_waysOn_1 : decode cX1_waysOn 1 = .ok (.getfield 18, 3) := by decide +kernel
theorem dX1_waysOn_4 : decode cX1_waysOn 4 = .ok (.iload_n 2, 1) := by decide +kernel
theorem dX1_waysOn_5 : decode cX1_waysOn 5 = .ok (.invokevirtual 93, 3) := by decide +kernel
theorem dX1_waysOn_8 : decode cX1_waysOn 8 = .ok (.istore_n 3, 1) := by decide +kernel
theorem dX1_waysOn_9 : decode cX1_waysOn 9 = .ok (.iconst 0, 1) := by decide +kernel
theorem dX1_waysOn_10 : decode cX1_waysOn 10 = .ok (.istore 4, 2) := by decide +kernel
theorem dX1_waysOn_12 : decode cX1_waysOn 12 = .ok (.aload_n 0, 1) := by decide +kernel
theorem dX1_waysOn_13 : decode cX1_waysOn 13 = .ok (.getfield 22, 3) := by decide +kernel
theorem dX1_waysOn_16 : decode cX1_waysOn 16 = .ok (.getfield 96, 3) := by decide +kernel
theorem dX1_waysOn_19 : decode cX1_waysOn 19 = .ok (.iload_n 1, 1) := by decide +kernel
theorem dX1_waysOn_20 : decode cX1_waysOn 20 = .ok (.iaload, 1) := by decide +kernel
theorem dX1_waysOn_21 : decode cX1_waysOn 21 = .ok (.istore 5, 2) := by decide +kernel
theorem dX1_waysOn_23 : decode cX1_waysOn 23 = .ok (.iload 5, 2) := by decide +kernel
theorem dX1_waysOn_25 : decode cX1_waysOn 25 = .ok (.aload_n 0, 1) := by decide +kernel
theorem dX1_waysOn_26 : decode cX1_waysOn 26 = .ok (.getfield 22, 3) := by decide +kernel
theorem dX1_waysOn_29 : decode cX1_waysOn 29 = .ok (.getfield 96, 3) := by decide +kernel
theorem dX1_waysOn_32 : decode cX1_waysOn 32 = .ok (.iload_n 1, 1) := by decide +kernel
theorem dX1_waysOn_33 : decode cX1_waysOn 33 = .ok (.iconst 1, 1) := by decide +kernel
theorem dX1_waysOn_34 : decode cX1_waysOn 34 = .ok (.iadd, 1) := by decide +kernel
theorem dX1_waysOn_35 : decode cX1_waysOn 35 = .ok (.iaload, 1) := by decide +kernel
theorem dX1_waysOn_36 : decode cX1_waysOn 36 = .ok (.if_icmp .ge 42, 3) := by decide +kernel
theorem dX1_waysOn_39 : decode cX1_waysOn 39 = .ok (.iload_n 3, 1) := by decide +kernel
theorem dX1_waysOn_40 : decode cX1_waysOn 40 = .ok (.aload_n 0, 1) := by decide +kernel
theorem dX1_waysOn_41 : decode cX1_waysOn 41 = .ok (.getfield 22, 3) := by decide +kernel
theorem dX1_waysOn_44 : decode cX1_waysOn 44 = .ok (.getfield 99, 3) := by decide +kernel
theorem dX1_waysOn_47 : decode cX1_waysOn 47 = .ok (.iload 5, 2) := by decide +kernel
theorem dX1_waysOn_49 : decode cX1_waysOn 49 = .ok (.iaload, 1) := by decide +kernel
theorem dX1_waysOn_50 : decode cX1_waysOn 50 = .ok (.iand, 1) := by decide +kernel
theorem dX1_waysOn_51 : decode cX1_waysOn 51 = .ok (.ifCond .eq 21, 3) := by decide +kernel
theorem dX1_waysOn_54 : decode cX1_waysOn 54 = .ok (.iload 4, 2) := by decide +kernel
theorem dX1_waysOn_56 : decode cX1_waysOn 56 = .ok (.aload_n 0, 1) := by decide +kernel
theorem dX1_waysOn_57 : decode cX1_waysOn 57 = .ok (.getfield 22, 3) := by decide +kernel
theorem dX1_waysOn_60 : decode cX1_waysOn 60 = .ok (.getfield 102, 3) := by decide +kernel
theorem dX1_waysOn_63 : decode cX1_waysOn 63 = .ok (.iload 5, 2) := by decide +kernel
theorem dX1_waysOn_65 : decode cX1_waysOn 65 = .ok (.iaload, 1) := by decide +kernel
theorem dX1_waysOn_66 : decode cX1_waysOn 66 = .ok (.iadd, 1) := by decide +kernel
theorem dX1_waysOn_67 : decode cX1_waysOn 67 = .ok (.ldc 133, 2) := by decide +kernel
theorem dX1_waysOn_69 : decode cX1_waysOn 69 = .ok (.irem, 1) := by decide +kernel
theorem dX1_waysOn_70 : decode cX1_waysOn 70 = .ok (.istore 4, 2) := by decide +kernel
theorem dX1_waysOn_72 : decode cX1_waysOn 72 = .ok (.iinc 5 1, 3) := by decide +kernel
theorem dX1_waysOn_75 : decode cX1_waysOn 75 = .ok (.goto (-52), 3) := by decide +kernel
theorem dX1_waysOn_78 : decode cX1_waysOn 78 = .ok (.iload 4, 2) := by decide +kernel
theorem dX1_waysOn_80 : decode cX1_waysOn 80 = .ok (.ireturn, 1) := by decide +kernel
abbrev rm_X1_waysOn : Room := { frames := 1, cells := 0, slots := 0, locals := 21 }
theorem hd_X1_waysOn : yX1_waysOn.cls ≠ "java/lang/invoke/MethodHandle" ∧ yX1_waysOn.cls ≠ "java/lang/invoke/VarHandle" ∧ (parseMethodDescriptor yX1_waysOn.desc).map (fun d => d.parameters.length) = some 2 := by decide +kernel
def bk_X1_waysOn_72 (Q : Int32 → Prop) (B23 : Int32 → Int32 → Prop) (x4 : Int32) (x5 : Int32) : Prop :=
∀ y5 : Int32, y5 = (x5 + 1) →
B23 x4 y5
def bd_X1_waysOn_23 (Q : Int32 → Prop) (B23 : Int32 → Int32 → Prop) (p1 : Int32) (x3 : Int32) (s_starts : Nat → Int32) (s_nexts : Nat → Int32) (s_values : Nat → Int32) (x4 : Int32) (x5 : Int32) : Prop :=
vp_in (p1 + 1) 1025 ∧ (((s_starts (p1 + 1).toNatClampNeg) ≤ x5 → Q x4) ∧
(¬ (s_starts (p1 + 1).toNatClampNeg) ≤ x5 → vp_in x5 4096 ∧ (((x3 &&& (s_nexts x5.toNatClampNeg)) = 0 → bk_X1_waysOn_72 Q B23 x4 x5) ∧
(¬ (x3 &&& (s_nexts x5.toNatClampNeg)) = 0 → vp_in x5 4096 ∧ (∀ y6 : Int32, y6 = ((x4 + (s_values x5.toNatClampNeg)) - (x4 + (s_values x5.toNatClampNeg)) / 1000000007 * 1000000007) →
bk_X1_waysOn_72 Q B23 y6 x5)))))
def lp_X1_waysOn_23 (Q : Int32 → Prop) (p1 : Int32) (x3 : Int32) (s_starts : Nat → Int32) (s_nexts : Nat → Int32) (s_values : Nat → Int32) (x4 : Int32) (x5 : Int32) : Prop :=
∃ I : Nat → Int32 → Int32 → Prop, (∃ n, I n x4 x5) ∧ ∀ n x4 x5, I n x4 x5 → bd_X1_waysOn_23 Q  (fun x4' x5' => ∃ n', n' < n ∧ I n' x4' x5') p1 x3 s_starts s_nexts s_values x4 x5
def wp_X1_waysOn (p1 : Int32) (p2 : Int32) (f_all : Int32) (f_beside : Nat → Int32) (s_starts : Nat → Int32) (s_nexts : Nat → Int32) (s_values : Nat → Int32) (Q : Int32 → Prop) : Prop :=
wp_X3_nextTo p2 f_all f_beside (fun (r1 : Int32) => vp_in p1 1025 ∧ (∀ y2 : Int32, y2 = (s_starts p1.toNatClampNeg) →
lp_X1_waysOn_23 Q p1 r1 s_starts s_nexts s_values 0 y2))
set_option maxHeartbeats 4000000 in
set_option maxRecDepth 100000 in
theorem J_X1_waysOn_72 {x : CX} {D : DG} {cyI cyJ cyZ : ClassId} {a_o a_o_fewestKept a_o_row a_f a_f_needs a_f_sideCounts a_f_yardSums a_f_beside a_s a_s_starts a_s_nexts a_s_values : Nat} {o_length : Int32} {o_lifted : Int32} {o_bestYards : Int32} {o_bestHurdles : Int32} {o_yards : Int32} {o_hurdles : Int32} {o_fewestKept : Nat → Int32} {o_row : Nat → Int32} {f_all : Int32} {f_wanted : Int32} {f_mostSides : Int32} {f_needs : Nat → Int32} {f_sideCounts : Nat → Int32} {f_yardSums : Nat → Int32} {f_beside : Nat → Int32} {s_listed : Option Nat} {s_starts : Nat → Int32} {s_nexts : Nat → Int32} {s_values : Nat → Int32} {p1 : Int32} {x3 : Int32} {x4 : Int32} {x5 : Int32} {Q : Int32 → Prop} {B23 : Int32 → Int32 → Prop} (cx : Cx x cX1_waysOn 6 RX1 rm_X1_waysOn D [(cyI, .int), (cyJ, .long), (cyZ, .boolean)]) (hR : ∀ (v : Int32) (pc : Nat) (lv : List (Nat × Value)), decode cX1_waysOn pc = .ok (.ireturn, 1) → Q v → J x 0 0 6 (W_Courses cyI cyJ cyZ a_o a_o_fewestKept a_o_row a_f a_f_needs a_f_sideCounts a_f_yardSums a_f_beside a_s a_s_starts a_s_nexts a_s_values o_length o_lifted o_bestYards o_bestHurdles o_yards o_hurdles o_fewestKept o_row f_all f_wanted f_mostSides f_needs f_sideCounts f_yardSums f_beside s_listed s_starts s_nexts s_values) lv pc [.int v]) (hB23 : ∀ (x4 : Int32) (x5 : Int32), B23 x4 x5 → J x 0 0 6 (W_Courses cyI cyJ cyZ a_o a_o_fewestKept a_o_row a_f a_f_needs a_f_sideCounts a_f_yardSums a_f_beside a_s a_s_starts a_s_nexts a_s_values o_length o_lifted o_bestYards o_bestHurdles o_yards o_hurdles o_fewestKept o_row f_all f_wanted f_mostSides f_needs f_sideCounts f_yardSums f_beside s_listed s_starts s_nexts s_values) [(0, .ref a_o), (1, .int p1), (3, .int x3), (4, .int x4), (5, .int x5)] 23 []) (h : bk_X1_waysOn_72 Q B23 x4 x5) :
    J x 0 0 6 (W_Courses cyI cyJ cyZ a_o a_o_fewestKept a_o_row a_f a_f_needs a_f_sideCounts a_f_yardSums a_f_beside a_s a_s_starts a_s_nexts a_s_values o_length o_lifted o_bestYards o_bestHurdles o_yards o_hurdles o_fewestKept o_row f_all f_wanted f_mostSides f_needs f_sideCounts f_yardSums f_beside s_listed s_starts s_nexts s_values) [(0, .ref a_o), (1, .int p1), (3, .int x3), (4, .int x4), (5, .int x5)] 72 [] := by
  unfold bk_X1_waysOn_72 at h
  obtain ⟨y5, ey5⟩ : ∃ z : Int32, z = x5 + 1 := ⟨_, rfl⟩
  have h := h y5 ey5
  refine j_iinc cx 4 rfl (cst := 1) (by decide) ey5 [(5, .int y5), (0, .ref a_o), (1, .int p1), (3, .int x3), (4, .int x4)] (by decide) rfl dX1_waysOn_72 (pn := 75) rfl ?_
  refine j_goto cx 23 dX1_waysOn_75 rfl ?_
  refine j_sub [1, 2, 3, 4, 0] [(0, .ref a_o), (1, .int p1), (3, .int x3), (4, .int x4), (5, .int y5)] rfl ?_
  exact hB23 _ _ h
set_option maxHeartbeats 4000000 in
set_option maxRecDepth 100000 in
theorem B_X1_waysOn_23 {x : CX} {D : DG} {cyI cyJ cyZ : ClassId} {a_o a_o_fewestKept a_o_row a_f a_f_needs a_f_sideCounts a_f_yardSums a_f_beside a_s a_s_starts a_s_nexts a_s_values : Nat} {o_length : Int32} {o_lifted : Int32} {o_bestYards : Int32} {o_bestHurdles : Int32} {o_yards : Int32} {o_hurdles : Int32} {o_fewestKept : Nat → Int32} {o_row : Nat → Int32} {f_all : Int32} {f_wanted : Int32} {f_mostSides : Int32} {f_needs : Nat → Int32} {f_sideCounts : Nat → Int32} {f_yardSums : Nat → Int32} {f_beside : Nat → Int32} {s_listed : Option Nat} {s_starts : Nat → Int32} {s_nexts : Nat → Int32} {s_values : Nat → Int32} {p1 : Int32} {x3 : Int32} {x4 : Int32} {x5 : Int32} {Q : Int32 → Prop} {B23 : Int32 → Int32 → Prop} (cx : Cx x cX1_waysOn 6 RX1 rm_X1_waysOn D [(cyI, .int), (cyJ, .long), (cyZ, .boolean)]) (hR : ∀ (v : Int32) (pc : Nat) (lv : List (Nat × Value)), decode cX1_waysOn pc = .ok (.ireturn, 1) → Q v → J x 0 0 6 (W_Courses cyI cyJ cyZ a_o a_o_fewestKept a_o_row a_f a_f_needs a_f_sideCounts a_f_yardSums a_f_beside a_s a_s_starts a_s_nexts a_s_values o_length o_lifted o_bestYards o_bestHurdles o_yards o_hurdles o_fewestKept o_row f_all f_wanted f_mostSides f_needs f_sideCounts f_yardSums f_beside s_listed s_starts s_nexts s_values) lv pc [.int v]) (hB23 : ∀ (x4 : Int32) (x5 : Int32), B23 x4 x5 → J x 0 0 6 (W_Courses cyI cyJ cyZ a_o a_o_fewestKept a_o_row a_f a_f_needs a_f_sideCounts a_f_yardSums a_f_beside a_s a_s_starts a_s_nexts a_s_values o_length o_lifted o_bestYards o_bestHurdles o_yards o_hurdles o_fewestKept o_row f_all f_wanted f_mostSides f_needs f_sideCounts f_yardSums f_beside s_listed s_starts s_nexts s_values) [(0, .ref a_o), (1, .int p1), (3, .int x3), (4, .int x4), (5, .int x5)] 23 []) (h : bd_X1_waysOn_23 Q B23 p1 x3 s_starts s_nexts s_values x4 x5) :
    J x 0 0 6 (W_Courses cyI cyJ cyZ a_o a_o_fewestKept a_o_row a_f a_f_needs a_f_sideCounts a_f_yardSums a_f_beside a_s a_s_starts a_s_nexts a_s_values o_length o_lifted o_bestYards o_bestHurdles o_yards o_hurdles o_fewestKept o_row f_all f_wanted f_mostSides f_needs f_sideCounts f_yardSums f_beside s_listed s_starts s_nexts s_values) [(0, .ref a_o), (1, .int p1), (3, .int x3), (4, .int x4), (5, .int x5)] 23 [] := by
  unfold bd_X1_waysOn_23 at h
  refine j_iload cx 4 rfl dX1_waysOn_23 (pn := 25) rfl ?_
  refine j_aload_n cx 0 rfl rfl dX1_waysOn_25 (pn := 26) rfl ?_
  refine j_get cx inGX1 0 rfl rfl 1 (by decide) q_fl_X1_22 rfl rfl dX1_waysOn_26 (pn := 29) rfl ?_
  refine j_getN cx inGX7 8 rfl rfl 0 (by decide) q_fl_X1_96 rfl rfl dX1_waysOn_29 (pn := 32) rfl ?_
  refine j_iload_n cx 1 rfl rfl dX1_waysOn_32 (pn := 33) rfl ?_
  refine j_iconst cx (v := 1) (by decide) dX1_waysOn_33 (pn := 34) rfl ?_
  refine j_iadd cx dX1_waysOn_34 (pn := 35) rfl ?_
  refine j_iald cx 9 0 rfl rfl h.1 dX1_waysOn_35 (pn := 36) rfl ?_
  have h := h.2
  refine j_icmp_ge cx 78 dX1_waysOn_36 (pn := 39) rfl rfl (fun c3 => ?_) (fun c3 => ?_)
  · have h := h.1 c3
    refine j_iload cx 3 rfl dX1_waysOn_78 (pn := 80) rfl ?_
    exact hR x4 80 _ dX1_waysOn_80 h
  · have h := h.2 c3
    refine j_iload_n cx 2 rfl rfl dX1_waysOn_39 (pn := 40) rfl ?_
    refine j_aload_n cx 0 rfl rfl dX1_waysOn_40 (pn := 41) rfl ?_
    refine j_get cx inGX1 0 rfl rfl 1 (by decide) q_fl_X1_22 rfl rfl dX1_waysOn_41 (pn := 44) rfl ?_
    refine j_getN cx inGX7 8 rfl rfl 1 (by decide) q_fl_X1_99 rfl rfl dX1_waysOn_44 (pn := 47) rfl ?_
    refine j_iload cx 4 rfl dX1_waysOn_47 (pn := 49) rfl ?_
    refine j_iald cx 10 0 rfl rfl h.1 dX1_waysOn_49 (pn := 50) rfl ?_
    have h := h.2
    refine j_iand cx dX1_waysOn_50 (pn := 51) rfl ?_
    refine j_if_eq cx 72 dX1_waysOn_51 (pn := 54) rfl rfl (fun c4 => ?_) (fun c4 => ?_)
    · have h := h.1 c4
      exact J_X1_waysOn_72 cx hR hB23 h
    · have h := h.2 c4
      refine j_iload cx 3 rfl dX1_waysOn_54 (pn := 56) rfl ?_
      refine j_aload_n cx 0 rfl rfl dX1_waysOn_56 (pn := 57) rfl ?_
      refine j_get cx inGX1 0 rfl rfl 1 (by decide) q_fl_X1_22 rfl rfl dX1_waysOn_57 (pn := 60) rfl ?_
      refine j_getN cx inGX7 8 rfl rfl 2 (by decide) q_fl_X1_102 rfl rfl dX1_waysOn_60 (pn := 63) rfl ?_
      refine j_iload cx 4 rfl dX1_waysOn_63 (pn := 65) rfl ?_
      refine j_iald cx 11 0 rfl rfl h.1 dX1_waysOn_65 (pn := 66) rfl ?_
      have h := h.2
      refine j_iadd cx dX1_waysOn_66 (pn := 67) rfl ?_
      refine j_ldc cx q_c_X1_133 dX1_waysOn_67 (pn := 69) rfl ?_
      refine j_irem cx (by decide) dX1_waysOn_69 (pn := 70) rfl ?_
      refine j_topi (fun y6 ey6 => ?_)
      have h := h y6 ey6
      refine j_istore cx [(4, .int y6), (0, .ref a_o), (1, .int p1), (3, .int x3), (5, .int x5)] (by decide) rfl dX1_waysOn_70 (pn := 72) rfl ?_
      refine j_sub [1, 2, 3, 0, 4] [(0, .ref a_o), (1, .int p1), (3, .int x3), (4, .int y6), (5, .int x5)] rfl ?_
      exact J_X1_waysOn_72 cx hR hB23 h
set_option maxHeartbeats 4000000 in
set_option maxRecDepth 100000 in
theorem J_X1_waysOn_23 {x : CX} {D : DG} {cyI cyJ cyZ : ClassId} {a_o a_o_fewestKept a_o_row a_f a_f_needs a_f_sideCounts a_f_yardSums a_f_beside a_s a_s_starts a_s_nexts a_s_values : Nat} {o_length : Int32} {o_lifted : Int32} {o_bestYards : Int32} {o_bestHurdles : Int32} {o_yards : Int32} {o_hurdles : Int32} {o_fewestKept : Nat → Int32} {o_row : Nat → Int32} {f_all : Int32} {f_wanted : Int32} {f_mostSides : Int32} {f_needs : Nat → Int32} {f_sideCounts : Nat → Int32} {f_yardSums : Nat → Int32} {f_beside : Nat → Int32} {s_listed : Option Nat} {s_starts : Nat → Int32} {s_nexts : Nat → Int32} {s_values : Nat → Int32} {p1 : Int32} {x3 : Int32} {x4 : Int32} {x5 : Int32} {Q : Int32 → Prop} (cx : Cx x cX1_waysOn 6 RX1 rm_X1_waysOn D [(cyI, .int), (cyJ, .long), (cyZ, .boolean)]) (hR : ∀ (v : Int32) (pc : Nat) (lv : List (Nat × Value)), decode cX1_waysOn pc = .ok (.ireturn, 1) → Q v → J x 0 0 6 (W_Courses cyI cyJ cyZ a_o a_o_fewestKept a_o_row a_f a_f_needs a_f_sideCounts a_f_yardSums a_f_beside a_s a_s_starts a_s_nexts a_s_values o_length o_lifted o_bestYards o_bestHurdles o_yards o_hurdles o_fewestKept o_row f_all f_wanted f_mostSides f_needs f_sideCounts f_yardSums f_beside s_listed s_starts s_nexts s_values) lv pc [.int v]) (h : lp_X1_waysOn_23 Q  p1 x3 s_starts s_nexts s_values x4 x5) :
    J x 0 0 6 (W_Courses cyI cyJ cyZ a_o a_o_fewestKept a_o_row a_f a_f_needs a_f_sideCounts a_f_yardSums a_f_beside a_s a_s_starts a_s_nexts a_s_values o_length o_lifted o_bestYards o_bestHurdles o_yards o_hurdles o_fewestKept o_row f_all f_wanted f_mostSides f_needs f_sideCounts f_yardSums f_beside s_listed s_starts s_nexts s_values) [(0, .ref a_o), (1, .int p1), (3, .int x3), (4, .int x4), (5, .int x5)] 23 [] := by
  obtain ⟨I, ⟨n, h0⟩, hb⟩ := h
  revert x4 x5
  induction n using Nat.strongRecOn with
  | _ n ih =>
    intro x4 x5 h0
    exact B_X1_waysOn_23 cx hR (fun _ _ hz => by obtain ⟨n2, hlt, hI⟩ := hz; exact ih n2 hlt hI) (hb n x4 x5 h0)
set_option maxHeartbeats 4000000 in
set_option maxRecDepth 100000 in
theorem c_X1_waysOn {D : DG} {cyI cyJ cyZ : ClassId} {a_o a_o_fewestKept a_o_row a_f a_f_needs a_f_sideCounts a_f_yardSums a_f_beside a_s a_s_starts a_s_nexts a_s_values : Nat} {o_length : Int32} {o_lifted : Int32} {o_bestYards : Int32} {o_bestHurdles : Int32} {o_yards : Int32} {o_hurdles : Int32} {o_fewestKept : Nat → Int32} {o_row : Nat → Int32} {f_all : Int32} {f_wanted : Int32} {f_mostSides : Int32} {f_needs : Nat → Int32} {f_sideCounts : Nat → Int32} {f_yardSums : Nat → Int32} {f_beside : Nat → Int32} {s_listed : Option Nat} {s_starts : Nat → Int32} {s_nexts : Nat → Int32} {s_values : Nat → Int32} {p1 : Int32} {p2 : Int32} {Q : Int32 → Prop} (h : wp_X1_waysOn p1 p2 f_all f_beside s_starts s_nexts s_values Q) :
    MetI yX1_waysOn cX1_waysOn 6 (some .int) rm_X1_waysOn D [(cyI, .int), (cyJ, .long), (cyZ, .boolean)] [.ref a_o, .int p1, .int p2] (W_Courses cyI cyJ cyZ a_o a_o_fewestKept a_o_row a_f a_f_needs a_f_sideCounts a_f_yardSums a_f_beside a_s a_s_starts a_s_nexts a_s_values o_length o_lifted o_bestYards o_bestHurdles o_yards o_hurdles o_fewestKept o_row f_all f_wanted f_mostSides f_needs f_sideCounts f_yardSums f_beside s_listed s_starts s_nexts s_values) (fun _ : Unit => (W_Courses cyI cyJ cyZ a_o a_o_fewestKept a_o_row a_f a_f_needs a_f_sideCounts a_f_yardSums a_f_beside a_s a_s_starts a_s_nexts a_s_values o_length o_lifted o_bestYards o_bestHurdles o_yards o_hurdles o_fewestKept o_row f_all f_wanted f_mostSides f_needs f_sideCounts f_yardSums f_beside s_listed s_starts s_nexts s_values)) (fun v _ => Q v ) := by
  unfold wp_X1_waysOn at h
  refine metI_of (by decide) (Nat.le_of_ble_eq_true rfl) (fun x cx0 hR0 => ?_)
  have cx : Cx x cX1_waysOn 6 RX1 rm_X1_waysOn D [(cyI, .int), (cyJ, .long), (cyZ, .boolean)] := cx0
  have hR : ∀ (v : Int32) (pc : Nat) (lv : List (Nat × Value)), decode cX1_waysOn pc = .ok (.ireturn, 1) → Q v → J x 0 0 6 (W_Courses cyI cyJ cyZ a_o a_o_fewestKept a_o_row a_f a_f_needs a_f_sideCounts a_f_yardSums a_f_beside a_s a_s_starts a_s_nexts a_s_values o_length o_lifted o_bestYards o_bestHurdles o_yards o_hurdles o_fewestKept o_row f_all f_wanted f_mostSides f_needs f_sideCounts f_yardSums f_beside s_listed s_starts s_nexts s_values) lv pc [.int v] := (fun v pc lv d hq => hR0 v () pc lv d hq)
  show J x 0 0 6 (W_Courses cyI cyJ cyZ a_o a_o_fewestKept a_o_row a_f a_f_needs a_f_sideCounts a_f_yardSums a_f_beside a_s a_s_starts a_s_nexts a_s_values o_length o_lifted o_bestYards o_bestHurdles o_yards o_hurdles o_fewestKept o_row f_all f_wanted f_mostSides f_needs f_sideCounts f_yardSums f_beside s_listed s_starts s_nexts s_values) [(0, .ref a_o), (1, .int p1), (2, .int p2)] 0 []
  refine j_aload_n cx 0 rfl rfl dX1_waysOn_0 (pn := 1) rfl ?_
  refine j_get cx inGX1 0 rfl rfl 0 (by decide) q_fl_X1_18 rfl rfl dX1_waysOn_1 (pn := 4) rfl ?_
  refine j_iload_n cx 2 rfl rfl dX1_waysOn_4 (pn := 5) rfl ?_
  refine j_callvI cx q_inst_X3_nextTo q_sel_X3_nextTo (b := a_f) (As := [.int p2]) (rest := []) (W_FT cyI cyJ cyZ a_f a_f_needs a_f_sideCounts a_f_yardSums a_f_beside f_all f_wanted f_mostSides f_needs f_sideCounts f_yardSums f_beside) [(a_o, .inr (1, [.ref a_f, .ref a_s, .ref a_o_fewestKept, .ref a_o_row, .int o_length, .int o_lifted, .int o_bestYards, .int o_bestHurdles, .int o_yards, .int o_hurdles])), (a_o_fewestKept, .inl (cyI, 91, .inl o_fewestKept)), (a_o_row, .inl (cyI, 10, .inl o_row)), (a_s, .inr (7, [.ref a_s_starts, .ref a_s_nexts, .ref a_s_values, va_rf s_listed])), (a_s_starts, .inl (cyI, 1025, .inl s_starts)), (a_s_nexts, .inl (cyI, 4096, .inl s_nexts)), (a_s_values, .inl (cyI, 4096, .inl s_values))] (c_X3_nextTo h) ⟨q_code_X3_nextTo, q_ml_X1_93, q_init_X3, hd_X3_nextTo, ⟨Nat.le_of_ble_eq_true rfl, Nat.le_of_ble_eq_true rfl⟩, Nat.le_of_ble_eq_true rfl, Nat.le_of_ble_eq_true rfl⟩ (q0 := 0) rfl rfl rfl [3, 4, 5, 6, 7] [0, 1, 2, 8, 9, 10, 11] [0, 1, 2, 7, 8, 9, 10, 11, 3, 4, 5, 6] rfl rfl rfl rfl rfl (by decide) (fun _ : Unit => (W_Courses cyI cyJ cyZ a_o a_o_fewestKept a_o_row a_f a_f_needs a_f_sideCounts a_f_yardSums a_f_beside a_s a_s_starts a_s_nexts a_s_values o_length o_lifted o_bestYards o_bestHurdles o_yards o_hurdles o_fewestKept o_row f_all f_wanted f_mostSides f_needs f_sideCounts f_yardSums f_beside s_listed s_starts s_nexts s_values)) (fun _ => rfl) (fun _ => rfl) rfl rfl (Nat.le_of_ble_eq_true rfl) dX1_waysOn_5 (pn := 8) rfl (fun r1 _ h => ?_)
  show J x 0 0 6 (W_Courses cyI cyJ cyZ a_o a_o_fewestKept a_o_row a_f a_f_needs a_f_sideCounts a_f_yardSums a_f_beside a_s a_s_starts a_s_nexts a_s_values o_length o_lifted o_bestYards o_bestHurdles o_yards o_hurdles o_fewestKept o_row f_all f_wanted f_mostSides f_needs f_sideCounts f_yardSums f_beside s_listed s_starts s_nexts s_values) [(0, .ref a_o), (1, .int p1), (2, .int p2)] 8 [.int r1]
  refine j_istore_n cx rfl [(3, .int r1), (0, .ref a_o), (1, .int p1), (2, .int p2)] (by decide) rfl dX1_waysOn_8 (pn := 9) rfl ?_
  refine j_iconst cx (v := 0) (by decide) dX1_waysOn_9 (pn := 10) rfl ?_
  refine j_istore cx [(4, .int 0), (3, .int r1), (0, .ref a_o), (1, .int p1), (2, .int p2)] (by decide) rfl dX1_waysOn_10 (pn := 12) rfl ?_
  refine j_aload_n cx 2 rfl rfl dX1_waysOn_12 (pn := 13) rfl ?_
  refine j_get cx inGX1 0 rfl rfl 1 (by decide) q_fl_X1_22 rfl rfl dX1_waysOn_13 (pn := 16) rfl ?_
  refine j_getN cx inGX7 8 rfl rfl 0 (by decide) q_fl_X1_96 rfl rfl dX1_waysOn_16 (pn := 19) rfl ?_
  refine j_iload_n cx 3 rfl rfl dX1_waysOn_19 (pn := 20) rfl ?_
  refine j_iald cx 9 0 rfl rfl h.1 dX1_waysOn_20 (pn := 21) rfl ?_
  have h := h.2
  refine j_topi (fun y2 ey2 => ?_)
  have h := h y2 ey2
  refine j_istore cx [(5, .int y2), (4, .int 0), (3, .int r1), (0, .ref a_o), (1, .int p1), (2, .int p2)] (by decide) rfl dX1_waysOn_21 (pn := 23) rfl ?_
  refine j_sub [3, 4, 2, 1, 0] [(0, .ref a_o), (1, .int p1), (3, .int r1), (4, .int 0), (5, .int y2)] rfl ?_
  exact J_X1_waysOn_23 cx hR h
theorem dX1_waysBehind_0 : decode cX1_waysBehind 0 = .ok (.aload_n 0, 1) := by decide +kernel
theorem dX1_waysBehind_1 : decode cX1_waysBehind 1 = .ok (.getfield 18, 3) := by decide +kernel
theorem dX1_waysBehind_4 : decode cX1_waysBehind 4 = .ok (.getfield 127, 3) := by decide +kernel
theorem dX1_waysBehind_7 : decode cX1_waysBehind 7 = .ok (.iload_n 2, 1) := by decide +kernel
theorem dX1_waysBehind_8 : decode cX1_waysBehind 8 = .ok (.iaload, 1) := by decide +kernel
theorem dX1_waysBehind_9 : decode cX1_waysBehind 9 = .ok (.aload_n 0, 1) := by decide +kernel
theorem dX1_waysBehind_10 : decode cX1_waysBehind 10 = .ok (.getfield 115, 3) := by decide +kernel
theorem dX1_waysBehind_13 : decode cX1_waysBehind 13 = .ok (.if_icmp .le 5, 3) := by decide +kernel
theorem dX1_waysBehind_16 : decode cX1_waysBehind 16 = .ok (.iconst 0, 1) := by decide +kernel
theorem dX1_waysBehind_17 : decode cX1_waysBehind 17 = .ok (.ireturn, 1) := by decide +kernel
theorem dX1_waysBehind_18 : decode cX1_waysBehind 18 = .ok (.aload_n 0, 1) := by decide +kernel
theorem dX1_waysBehind_19 : decode cX1_waysBehind 19 = .ok (.iload_n 1, 1) := by decide +kernel
theorem dX1_waysBehind_20 : decode cX1_waysBehind 20 = .ok (.invokevirtual 82, 3) := by decide +kernel
theorem dX1_waysBehind_23 : decode cX1_waysBehind 23 = .ok (.ifCond .eq 7, 3) := by decide +kernel
theorem dX1_waysBehind_26 : decode cX1_waysBehind 26 = .ok (.iconst 1, 1) := by decide +kernel
theorem dX1_waysBehind_27 : decode cX1_waysBehind 27 = .ok (.goto 4, 3) := by decide +kernel
theorem dX1_waysBehind_30 : decode cX1_waysBehind 30 = .ok (.iconst 0, 1) := by decide +kernel
theorem dX1_waysBehind_31 : decode cX1_waysBehind 31 = .ok (.istore_n 3, 1) := by decide +kernel
theorem dX1_waysBehind_32 : decode cX1_waysBehind 32 = .ok (.aload_n 0, 1) := by decide +kernel
theorem dX1_waysBehind_33 : decode cX1_waysBehind 33 = .ok (.getfield 18, 3) := by decide +kernel
theorem dX1_waysBehind_36 : decode cX1_waysBehind 36 = .ok (.getfield 130, 3) := by decide +kernel
theorem dX1_waysBehind_39 : decode cX1_waysBehind 39 = .ok (.iload_n 2, 1) := by decide +kernel
theorem dX1_waysBehind_40 : decode cX1_waysBehind 40 = .ok (.iaload, 1) := by decide +kernel
theorem dX1_waysBehind_41 : decode cX1_waysBehind 41 = .ok (.aload_n 0, 1) := by decide +kernel
theorem dX1_waysBehind_42 : decode cX1_waysBehind 42 = .ok (.getfield 112, 3) := by decide +kernel
theorem dX1_waysBehind_45 : decode cX1_waysBehind 45 = .ok (.if_icmp .ge 7, 3) := by decide +kernel
theorem dX1_waysBehind_48 : decode cX1_waysBehind 48 = .ok (.iload_n 3, 1) := by decide +kernel
theorem dX1_waysBehind_49 : decode cX1_waysBehind 49 = .ok (.goto 14, 3) := by decide +kernel
theorem dX1_waysBehind_52 : decode cX1_waysBehind 52 = .ok (.iload_n 3, 1) := by decide +kernel
theorem dX1_waysBehind_53 : decode cX1_waysBehind 53 = .ok (.aload_n 0, 1) := by decide +kernel
theorem dX1_waysBehind_54 : decode cX1_waysBehind 54 = .ok (.iload_n 1, 1) := by decide +kernel
theorem dX1_waysBehind_55 : decode cX1_waysBehind 55 = .ok (.iload_n 2, 1) := by decide +kernel
theorem dX1_waysBehind_56 : decode cX1_waysBehind 56 = .ok (.invokevirtual 75, 3) := by decide +kernel
theorem dX1_waysBehind_59 : decode cX1_waysBehind 59 = .ok (.iadd, 1) := by decide +kernel
theorem dX1_waysBehind_60 : decode cX1_waysBehind 60 = .ok (.ldc 133, 2) := by decide +kernel
theorem dX1_waysBehind_62 : decode cX1_waysBehind 62 = .ok (.irem, 1) := by decide +kernel
theorem dX1_waysBehind_63 : decode cX1_waysBehind 63 = .ok (.ireturn, 1) := by decide +kernel
abbrev rm_X1_waysBehind : Room := { frames := 2, cells := 0, slots := 0, locals := 46 }
theorem hd_X1_waysBehind : yX1_waysBehind.cls ≠ "java/lang/invoke/MethodHandle" ∧ yX1_waysBehind.cls ≠ "java/lang/invoke/VarHandle" ∧ (parseMethodDescriptor yX1_waysBehind.desc).map (fun d => d.parameters.length) = some 2 := by decide +kernel
def bk_X1_waysBehind_31 (Q : Int32 → Prop) (p1 : Int32) (p2 : Int32) (o_yards : Int32) (f_all : Int32) (f_yardSums : Nat → Int32) (f_beside : Nat → Int32) (s_starts : Nat → Int32) (s_nexts : Nat → Int32) (s_values : Nat → Int32) (s0 : Int32) : Prop :=
vp_in p2 1024 ∧ ((o_yards ≤ (f_yardSums p2.toNatClampNeg) → wp_X1_waysOn p1 p2 f_all f_beside s_starts s_nexts s_values (fun (r5 : Int32) => Q ((s0 + r5) - (s0 + r5) / 1000000007 * 1000000007))) ∧
(¬ o_yards ≤ (f_yardSums p2.toNatClampNeg) → Q s0))
def wp_X1_waysBehind (p1 : Int32) (p2 : Int32) (o_yards : Int32) (o_hurdles : Int32) (f_all : Int32) (f_wanted : Int32) (f_sideCounts : Nat → Int32) (f_yardSums : Nat → Int32) (f_beside : Nat → Int32) (s_starts : Nat → Int32) (s_nexts : Nat → Int32) (s_values : Nat → Int32) (Q : Int32 → Prop) : Prop :=
vp_in p2 1024 ∧ (((f_sideCounts p2.toNatClampNeg) ≤ o_hurdles → wp_X1_isGone p1 f_wanted (fun (r2 : Int32) => ((r2 = 0 → bk_X1_waysBehind_31 Q p1 p2 o_yards f_all f_yardSums f_beside s_starts s_nexts s_values 0) ∧
(¬ r2 = 0 → bk_X1_waysBehind_31 Q p1 p2 o_yards f_all f_yardSums f_beside s_starts s_nexts s_values 1)))) ∧
(¬ (f_sideCounts p2.toNatClampNeg) ≤ o_hurdles → Q 0))
set_option maxHeartbeats 4000000 in
set_option maxRecDepth 100000 in
theorem J_X1_waysBehind_31 {x : CX} {D : DG} {cyI cyJ cyZ : ClassId} {a_o a_o_fewestKept a_o_row a_f a_f_needs a_f_sideCounts a_f_yardSums a_f_beside a_s a_s_starts a_s_nexts a_s_values : Nat} {o_length : Int32} {o_lifted : Int32} {o_bestYards : Int32} {o_bestHurdles : Int32} {o_yards : Int32} {o_hurdles : Int32} {o_fewestKept : Nat → Int32} {o_row : Nat → Int32} {f_all : Int32} {f_wanted : Int32} {f_mostSides : Int32} {f_needs : Nat → Int32} {f_sideCounts : Nat → Int32} {f_yardSums : Nat → Int32} {f_beside : Nat → Int32} {s_listed : Option Nat} {s_starts : Nat → Int32} {s_nexts : Nat → Int32} {s_values : Nat → Int32} {p1 : Int32} {p2 : Int32} {s0 : Int32} {Q : Int32 → Prop} (cx : Cx x cX1_waysBehind 4 RX1 rm_X1_waysBehind D [(cyI, .int), (cyJ, .long), (cyZ, .boolean)]) (hR : ∀ (v : Int32) (pc : Nat) (lv : List (Nat × Value)), decode cX1_waysBehind pc = .ok (.ireturn, 1) → Q v → J x 0 0 4 (W_Courses cyI cyJ cyZ a_o a_o_fewestKept a_o_row a_f a_f_needs a_f_sideCounts a_f_yardSums a_f_beside a_s a_s_starts a_s_nexts a_s_values o_length o_lifted o_bestYards o_bestHurdles o_yards o_hurdles o_fewestKept o_row f_all f_wanted f_mostSides f_needs f_sideCounts f_yardSums f_beside s_listed s_starts s_nexts s_values) lv pc [.int v]) (h : bk_X1_waysBehind_31 Q  p1 p2 o_yards f_all f_yardSums f_beside s_starts s_nexts s_values s0) :
    J x 0 0 4 (W_Courses cyI cyJ cyZ a_o a_o_fewestKept a_o_row a_f a_f_needs a_f_sideCounts a_f_yardSums a_f_beside a_s a_s_starts a_s_nexts a_s_values o_length o_lifted o_bestYards o_bestHurdles o_yards o_hurdles o_fewestKept o_row f_all f_wanted f_mostSides f_needs f_sideCounts f_yardSums f_beside s_listed s_starts s_nexts s_values) [(0, .ref a_o), (1, .int p1), (2, .int p2)] 31 [.int s0] := by
  unfold bk_X1_waysBehind_31 at h
  refine j_istore_n cx rfl [(3, .int s0), (0, .ref a_o), (1, .int p1), (2, .int p2)] (by decide) rfl dX1_waysBehind_31 (pn := 32) rfl ?_
  refine j_aload_n cx 1 rfl rfl dX1_waysBehind_32 (pn := 33) rfl ?_
  refine j_get cx inGX1 0 rfl rfl 0 (by decide) q_fl_X1_18 rfl rfl dX1_waysBehind_33 (pn := 36) rfl ?_
  refine j_getN cx inGX3 3 rfl rfl 2 (by decide) q_fl_X1_130 rfl rfl dX1_waysBehind_36 (pn := 39) rfl ?_
  refine j_iload_n cx 3 rfl rfl dX1_waysBehind_39 (pn := 40) rfl ?_
  refine j_iald cx 6 0 rfl rfl h.1 dX1_waysBehind_40 (pn := 41) rfl ?_
  have h := h.2
  refine j_aload_n cx 1 rfl rfl dX1_waysBehind_41 (pn := 42) rfl ?_
  refine j_get cx inGX1 0 rfl rfl 8 (by decide) q_fl_X1_112 rfl rfl dX1_waysBehind_42 (pn := 45) rfl ?_
  refine j_icmp_ge cx 52 dX1_waysBehind_45 (pn := 48) rfl rfl (fun c4 => ?_) (fun c4 => ?_)
  · have h := h.1 c4
    refine j_iload_n cx 0 rfl rfl dX1_waysBehind_52 (pn := 53) rfl ?_
    refine j_aload_n cx 1 rfl rfl dX1_waysBehind_53 (pn := 54) rfl ?_
    refine j_iload_n cx 2 rfl rfl dX1_waysBehind_54 (pn := 55) rfl ?_
    refine j_iload_n cx 3 rfl rfl dX1_waysBehind_55 (pn := 56) rfl ?_
    refine j_callvI0 cx q_inst_X1_waysOn q_sel_X1_waysOn (b := a_o) (As := [.int p1, .int p2]) (rest := [.int s0]) (c_X1_waysOn h) ⟨q_code_X1_waysOn, q_ml_X1_75, q_init_X1, hd_X1_waysOn, ⟨Nat.le_of_ble_eq_true rfl, Nat.le_of_ble_eq_true rfl⟩, Nat.le_of_ble_eq_true rfl, Nat.le_of_ble_eq_true rfl⟩ (q0 := 0) rfl rfl rfl rfl (Nat.le_of_ble_eq_true rfl) dX1_waysBehind_56 (pn := 59) rfl (fun r5 _ h => ?_)
    show J x 0 0 4 (W_Courses cyI cyJ cyZ a_o a_o_fewestKept a_o_row a_f a_f_needs a_f_sideCounts a_f_yardSums a_f_beside a_s a_s_starts a_s_nexts a_s_values o_length o_lifted o_bestYards o_bestHurdles o_yards o_hurdles o_fewestKept o_row f_all f_wanted f_mostSides f_needs f_sideCounts f_yardSums f_beside s_listed s_starts s_nexts s_values) [(3, .int s0), (0, .ref a_o), (1, .int p1), (2, .int p2)] 59 [.int r5, .int s0]
    refine j_iadd cx dX1_waysBehind_59 (pn := 60) rfl ?_
    refine j_ldc cx q_c_X1_133 dX1_waysBehind_60 (pn := 62) rfl ?_
    refine j_irem cx (by decide) dX1_waysBehind_62 (pn := 63) rfl ?_
    exact hR ((s0 + r5) - (s0 + r5) / 1000000007 * 1000000007) 63 _ dX1_waysBehind_63 h
  · have h := h.2 c4
    refine j_iload_n cx 0 rfl rfl dX1_waysBehind_48 (pn := 49) rfl ?_
    refine j_goto cx 63 dX1_waysBehind_49 rfl ?_
    exact hR s0 63 _ dX1_waysBehind_63 h
set_option maxHeartbeats 4000000 in
set_option maxRecDepth 100000 in
theorem c_X1_waysBehind {D : DG} {cyI cyJ cyZ : ClassId} {a_o a_o_fewestKept a_o_row a_f a_f_needs a_f_sideCounts a_f_yardSums a_f_beside a_s a_s_starts a_s_nexts a_s_values : Nat} {o_length : Int32} {o_lifted : Int32} {o_bestYards : Int32} {o_bestHurdles : Int32} {o_yards : Int32} {o_hurdles : Int32} {o_fewestKept : Nat → Int32} {o_row : Nat → Int32} {f_all : Int32} {f_wanted : Int32} {f_mostSides : Int32} {f_needs : Nat → Int32} {f_sideCounts : Nat → Int32} {f_yardSums : Nat → Int32} {f_beside : Nat → Int32} {s_listed : Option Nat} {s_starts : Nat → Int32} {s_nexts : Nat → Int32} {s_values : Nat → Int32} {p1 : Int32} {p2 : Int32} {Q : Int32 → Prop} (h : wp_X1_waysBehind p1 p2 o_yards o_hurdles f_all f_wanted f_sideCounts f_yardSums f_beside s_starts s_nexts s_values Q) :
    MetI yX1_waysBehind cX1_waysBehind 4 (some .int) rm_X1_waysBehind D [(cyI, .int), (cyJ, .long), (cyZ, .boolean)] [.ref a_o, .int p1, .int p2] (W_Courses cyI cyJ cyZ a_o a_o_fewestKept a_o_row a_f a_f_needs a_f_sideCounts a_f_yardSums a_f_beside a_s a_s_starts a_s_nexts a_s_values o_length o_lifted o_bestYards o_bestHurdles o_yards o_hurdles o_fewestKept o_row f_all f_wanted f_mostSides f_needs f_sideCounts f_yardSums f_beside s_listed s_starts s_nexts s_values) (fun _ : Unit => (W_Courses cyI cyJ cyZ a_o a_o_fewestKept a_o_row a_f a_f_needs a_f_sideCounts a_f_yardSums a_f_beside a_s a_s_starts a_s_nexts a_s_values o_length o_lifted o_bestYards o_bestHurdles o_yards o_hurdles o_fewestKept o_row f_all f_wanted f_mostSides f_needs f_sideCounts f_yardSums f_beside s_listed s_starts s_nexts s_values)) (fun v _ => Q v ) := by
  unfold wp_X1_waysBehind at h
  refine metI_of (by decide) (Nat.le_of_ble_eq_true rfl) (fun x cx0 hR0 => ?_)
  have cx : Cx x cX1_waysBehind 4 RX1 rm_X1_waysBehind D [(cyI, .int), (cyJ, .long), (cyZ, .boolean)] := cx0
  have hR : ∀ (v : Int32) (pc : Nat) (lv : List (Nat × Value)), decode cX1_waysBehind pc = .ok (.ireturn, 1) → Q v → J x 0 0 4 (W_Courses cyI cyJ cyZ a_o a_o_fewestKept a_o_row a_f a_f_needs a_f_sideCounts a_f_yardSums a_f_beside a_s a_s_starts a_s_nexts a_s_values o_length o_lifted o_bestYards o_bestHurdles o_yards o_hurdles o_fewestKept o_row f_all f_wanted f_mostSides f_needs f_sideCounts f_yardSums f_beside s_listed s_starts s_nexts s_values) lv pc [.int v] := (fun v pc lv d hq => hR0 v () pc lv d hq)
  show J x 0 0 4 (W_Courses cyI cyJ cyZ a_o a_o_fewestKept a_o_row a_f a_f_needs a_f_sideCounts a_f_yardSums a_f_beside a_s a_s_starts a_s_nexts a_s_values o_length o_lifted o_bestYards o_bestHurdles o_yards o_hurdles o_fewestKept o_row f_all f_wanted f_mostSides f_needs f_sideCounts f_yardSums f_beside s_listed s_starts s_nexts s_values) [(0, .ref a_o), (1, .int p1), (2, .int p2)] 0 []
  refine j_aload_n cx 0 rfl rfl dX1_waysBehind_0 (pn := 1) rfl ?_
  refine j_get cx inGX1 0 rfl rfl 0 (by decide) q_fl_X1_18 rfl rfl dX1_waysBehind_1 (pn := 4) rfl ?_
  refine j_getN cx inGX3 3 rfl rfl 1 (by decide) q_fl_X1_127 rfl rfl dX1_waysBehind_4 (pn := 7) rfl ?_
  refine j_iload_n cx 2 rfl rfl dX1_waysBehind_7 (pn := 8) rfl ?_
  refine j_iald cx 5 0 rfl rfl h.1 dX1_waysBehind_8 (pn := 9) rfl ?_
  have h := h.2
  refine j_aload_n cx 0 rfl rfl dX1_waysBehind_9 (pn := 10) rfl ?_
  refine j_get cx inGX1 0 rfl rfl 9 (by decide) q_fl_X1_115 rfl rfl dX1_waysBehind_10 (pn := 13) rfl ?_
  refine j_icmp_le cx 18 dX1_waysBehind_13 (pn := 16) rfl rfl (fun c1 => ?_) (fun c1 => ?_)
  · have h := h.1 c1
    refine j_aload_n cx 0 rfl rfl dX1_waysBehind_18 (pn := 19) rfl ?_
    refine j_iload_n cx 1 rfl rfl dX1_waysBehind_19 (pn := 20) rfl ?_
    refine j_callvI0 cx q_inst_X1_isGone q_sel_X1_isGone (b := a_o) (As := [.int p1]) (rest := []) (c_X1_isGone h) ⟨q_code_X1_isGone, q_ml_X1_82, q_init_X1, hd_X1_isGone, ⟨Nat.le_of_ble_eq_true rfl, Nat.le_of_ble_eq_true rfl⟩, Nat.le_of_ble_eq_true rfl, Nat.le_of_ble_eq_true rfl⟩ (q0 := 0) rfl rfl rfl rfl (Nat.le_of_ble_eq_true rfl) dX1_waysBehind_20 (pn := 23) rfl (fun r2 _ h => ?_)
    show J x 0 0 4 (W_Courses cyI cyJ cyZ a_o a_o_fewestKept a_o_row a_f a_f_needs a_f_sideCounts a_f_yardSums a_f_beside a_s a_s_starts a_s_nexts a_s_values o_length o_lifted o_bestYards o_bestHurdles o_yards o_hurdles o_fewestKept o_row f_all f_wanted f_mostSides f_needs f_sideCounts f_yardSums f_beside s_listed s_starts s_nexts s_values) [(0, .ref a_o), (1, .int p1), (2, .int p2)] 23 [.int r2]
    refine j_if_eq cx 30 dX1_waysBehind_23 (pn := 26) rfl rfl (fun c3 => ?_) (fun c3 => ?_)
    · have h := h.1 c3
      refine j_iconst cx (v := 0) (by decide) dX1_waysBehind_30 (pn := 31) rfl ?_
      exact J_X1_waysBehind_31 cx hR h
    · have h := h.2 c3
      refine j_iconst cx (v := 1) (by decide) dX1_waysBehind_26 (pn := 27) rfl ?_
      refine j_goto cx 31 dX1_waysBehind_27 rfl ?_
      exact J_X1_waysBehind_31 cx hR h
  · have h := h.2 c1
    refine j_iconst cx (v := 0) (by decide) dX1_waysBehind_16 (pn := 17) rfl ?_
    exact hR 0 17 _ dX1_waysBehind_17 h
theorem dX1_leastNeededOn_0 : decode cX1_leastNeededOn 0 = .ok (.aload_n 0, 1) := by decide +kernel
theorem dX1_leastNeededOn_1 : decode cX1_leastNeededOn 1 = .ok (.getfield 18, 3) := by decide +kernel
theorem dX1_leastNeededOn_4 : decode cX1_leastNeededOn 4 = .ok (.iload_n 2, 1) := by decide +kernel
theorem dX1_leastNeededOn_5 : decode cX1_leastNeededOn 5 = .ok (.invokevirtual 93, 3) := by decide +kernel
theorem dX1_leastNeededOn_8 : decode cX1_leastNeededOn 8 = .ok (.istore_n 3, 1) := by decide +kernel
theorem dX1_leastNeededOn_9 : decode cX1_leastNeededOn 9 = .ok (.ldc 78, 2) := by decide +kernel
theorem dX1_leastNeededOn_11 : decode cX1_leastNeededOn 11 = .ok (.istore 4, 2) := by decide +kernel
theorem dX1_leastNeededOn_13 : decode cX1_leastNeededOn 13 = .ok (.aload_n 0, 1) := by decide +kernel
theorem dX1_leastNeededOn_14 : decode cX1_leastNeededOn 14 = .ok (.getfield 22, 3) := by decide +kernel
theorem dX1_leastNeededOn_17 : decode cX1_leastNeededOn 17 = .ok (.getfield 96, 3) := by decide +kernel
theorem dX1_leastNeededOn_20 : decode cX1_leastNeededOn 20 = .ok (.iload_n 1, 1) := by decide +kernel
theorem dX1_leastNeededOn_21 : decode cX1_leastNeededOn 21 = .ok (.iaload, 1) := by decide +kernel
theorem dX1_leastNeededOn_22 : decode cX1_leastNeededOn 22 = .ok (.istore 5, 2) := by decide +kernel
theorem dX1_leastNeededOn_24 : decode cX1_leastNeededOn 24 = .ok (.iload 5, 2) := by decide +kernel
theorem dX1_leastNeededOn_26 : decode cX1_leastNeededOn 26 = .ok (.aload_n 0, 1) := by decide +kernel
theorem dX1_leastNeededOn_27 : decode cX1_leastNeededOn 27 = .ok (.getfield 22, 3) := by decide +kernel
theorem dX1_leastNeededOn_30 : decode cX1_leastNeededOn 30 = .ok (.getfield 96, 3) := by decide +kernel
theorem dX1_leastNeededOn_33 : decode cX1_leastNeededOn 33 = .ok (.iload_n 1, 1) := by decide +kernel
theorem dX1_leastNeededOn_34 : decode cX1_leastNeededOn 34 = .ok (.iconst 1, 1) := by decide +kernel
theorem dX1_leastNeededOn_35 : decode cX1_leastNeededOn 35 = .ok (.iadd, 1) := by decide +kernel
theorem dX1_leastNeededOn_36 : decode cX1_leastNeededOn 36 = .ok (.iaload, 1) := by decide +kernel
theorem dX1_leastNeededOn_37 : decode cX1_leastNeededOn 37 = .ok (.if_icmp .ge 73, 3) := by decide +kernel
theorem dX1_leastNeededOn_40 : decode cX1_leastNeededOn 40 = .ok (.aload_n 0, 1) := by decide +kernel
theorem dX1_leastNeededOn_41 : decode cX1_leastNeededOn 41 = .ok (.getfield 22, 3) := by decide +kernel
theorem dX1_leastNeededOn_44 : decode cX1_leastNeededOn 44 = .ok (.getfield 99, 3) := by decide +kernel
theorem dX1_leastNeededOn_47 : decode cX1_leastNeededOn 47 = .ok (.iload 5, 2) := by decide +kernel
theorem dX1_leastNeededOn_49 : decode cX1_leastNeededOn 49 = .ok (.iaload, 1) := by decide +kernel
theorem dX1_leastNeededOn_50 : decode cX1_leastNeededOn 50 = .ok (.istore 6, 2) := by decide +kernel
theorem dX1_leastNeededOn_52 : decode cX1_leastNeededOn 52 = .ok (.aload_n 0, 1) := by decide +kernel
theorem dX1_leastNeededOn_53 : decode cX1_leastNeededOn 53 = .ok (.getfield 22, 3) := by decide +kernel
theorem dX1_leastNeededOn_56 : decode cX1_leastNeededOn 56 = .ok (.getfield 102, 3) := by decide +kernel
theorem dX1_leastNeededOn_59 : decode cX1_leastNeededOn 59 = .ok (.iload 5, 2) := by decide +kernel
theorem dX1_leastNeededOn_61 : decode cX1_leastNeededOn 61 = .ok (.iaload, 1) := by decide +kernel
theorem dX1_leastNeededOn_62 : decode cX1_leastNeededOn 62 = .ok (.iload 4, 2) := by decide +kernel
theorem dX1_leastNeededOn_64 : decode cX1_leastNeededOn 64 = .ok (.if_icmp .ge 40, 3) := by decide +kernel
theorem dX1_leastNeededOn_67 : decode cX1_leastNeededOn 67 = .ok (.iload_n 3, 1) := by decide +kernel
theorem dX1_leastNeededOn_68 : decode cX1_leastNeededOn 68 = .ok (.iload 6, 2) := by decide +kernel
theorem dX1_leastNeededOn_70 : decode cX1_leastNeededOn 70 = .ok (.iand, 1) := by decide +kernel
theorem dX1_leastNeededOn_71 : decode cX1_leastNeededOn 71 = .ok (.ifCond .eq 33, 3) := by decide +kernel
theorem dX1_leastNeededOn_74 : decode cX1_leastNeededOn 74 = .ok (.iload 4, 2) := by decide +kernel
theorem dX1_leastNeededOn_76 : decode cX1_leastNeededOn 76 = .ok (.aload_n 0, 1) := by decide +kernel
theorem dX1_leastNeededOn_77 : decode cX1_leastNeededOn 77 = .ok (.getfield 18, 3) := by decide +kernel
theorem dX1_leastNeededOn_80 : decode cX1_leastNeededOn 80 = .ok (.getfield 127, 3) := by decide +kernel
theorem dX1_leastNeededOn_83 : decode cX1_leastNeededOn 83 = .ok (.iload 6, 2) := by decide +kernel
theorem dX1_leastNeededOn_85 : decode cX1_leastNeededOn 85 = .ok (.iaload, 1) := by decide +kernel
theorem dX1_leastNeededOn_86 : decode cX1_leastNeededOn 86 = .ok (.aload_n 0, 1) := by decide +kernel
theorem dX1_leastNeededOn_87 : decode cX1_leastNeededOn 87 = .ok (.getfield 22, 3) := by decide +kernel
theorem dX1_leastNeededOn_90 : decode cX1_leastNeededOn 90 = .ok (.getfield 102, 3) := by decide +kernel
theorem dX1_leastNeededOn_93 : decode cX1_leastNeededOn 93 = .ok (.iload 5, 2) := by decide +kernel
theorem dX1_leastNeededOn_95 : decode cX1_leastNeededOn 95 = .ok (.iaload, 1) := by decide +kernel
theorem dX1_leastNeededOn_96 : decode cX1_leastNeededOn 96 = .ok (.invokestatic 134, 3) := by decide +kernel
theorem dX1_leastNeededOn_99 : decode cX1_leastNeededOn 99 = .ok (.invokestatic 58, 3) := by decide +kernel
theorem dX1_leastNeededOn_102 : decode cX1_leastNeededOn 102 = .ok (.istore 4, 2) := by decide +kernel
theorem dX1_leastNeededOn_104 : decode cX1_leastNeededOn 104 = .ok (.iinc 5 1, 3) := by decide +kernel
theorem dX1_leastNeededOn_107 : decode cX1_leastNeededOn 107 = .ok (.goto (-83), 3) := by decide +kernel
theorem dX1_leastNeededOn_110 : decode cX1_leastNeededOn 110 = .ok (.iload 4, 2) := by decide +kernel
theorem dX1_leastNeededOn_112 : decode cX1_leastNeededOn 112 = .ok (.ireturn, 1) := by decide +kernel
abbrev rm_X1_leastNeededOn : Room := { frames := 1, cells := 0, slots := 0, locals := 21 }
theorem hd_X1_leastNeededOn : yX1_leastNeededOn.cls ≠ "java/lang/invoke/MethodHandle" ∧ yX1_leastNeededOn.cls ≠ "java/lang/invoke/VarHandle" ∧ (parseMethodDescriptor yX1_leastNeededOn.desc).map (fun d => d.parameters.length) = some 2 := by decide +kernel
def bk_X1_leastNeededOn_104 (Q : Int32 → Prop) (B24 : Int32 → Int32 → Prop) (x4 : Int32) (x5 : Int32) : Prop :=
∀ y6 : Int32, y6 = (x5 + 1) →
B24 x4 y6
def bd_X1_leastNeededOn_24 (Q : Int32 → Prop) (B24 : Int32 → Int32 → Prop) (p1 : Int32) (x3 : Int32) (f_sideCounts : Nat → Int32) (s_starts : Nat → Int32) (s_nexts : Nat → Int32) (s_values : Nat → Int32) (x4 : Int32) (x5 : Int32) : Prop :=
vp_in (p1 + 1) 1025 ∧ (((s_starts (p1 + 1).toNatClampNeg) ≤ x5 → Q x4) ∧
(¬ (s_starts (p1 + 1).toNatClampNeg) ≤ x5 → vp_in x5 4096 ∧ (∀ y4 : Int32, y4 = (s_nexts x5.toNatClampNeg) →
vp_in x5 4096 ∧ ((x4 ≤ (s_values x5.toNatClampNeg) → bk_X1_leastNeededOn_104 Q B24 x4 x5) ∧
(¬ x4 ≤ (s_values x5.toNatClampNeg) → (((x3 &&& y4) = 0 → bk_X1_leastNeededOn_104 Q B24 x4 x5) ∧
(¬ (x3 &&& y4) = 0 → vp_in y4 1024 ∧ vp_in x5 4096 ∧ (∀ y8 : Int32, y8 = (if (if (f_sideCounts y4.toNatClampNeg) < (s_values x5.toNatClampNeg) then (s_values x5.toNatClampNeg) else (f_sideCounts y4.toNatClampNeg)) < x4 then (if (f_sideCounts y4.toNatClampNeg) < (s_values x5.toNatClampNeg) then (s_values x5.toNatClampNeg) else (f_sideCounts y4.toNatClampNeg)) else x4) →
bk_X1_leastNeededOn_104 Q B24 y8 x5))))))))
def lp_X1_leastNeededOn_24 (Q : Int32 → Prop) (p1 : Int32) (x3 : Int32) (f_sideCounts : Nat → Int32) (s_starts : Nat → Int32) (s_nexts : Nat → Int32) (s_values : Nat → Int32) (x4 : Int32) (x5 : Int32) : Prop :=
∃ I : Nat → Int32 → Int32 → Prop, (∃ n, I n x4 x5) ∧ ∀ n x4 x5, I n x4 x5 → bd_X1_leastNeededOn_24 Q  (fun x4' x5' => ∃ n', n' < n ∧ I n' x4' x5') p1 x3 f_sideCounts s_starts s_nexts s_values x4 x5
def wp_X1_leastNeededOn (p1 : Int32) (p2 : Int32) (f_all : Int32) (f_sideCounts : Nat → Int32) (f_beside : Nat → Int32) (s_starts : Nat → Int32) (s_nexts : Nat → Int32) (s_values : Nat → Int32) (Q : Int32 → Prop) : Prop :=
wp_X3_nextTo p2 f_all f_beside (fun (r1 : Int32) => vp_in p1 1025 ∧ (∀ y2 : Int32, y2 = (s_starts p1.toNatClampNeg) →
lp_X1_leastNeededOn_24 Q p1 r1 f_sideCounts s_starts s_nexts s_values 1048576 y2))
set_option maxHeartbeats 4000000 in
set_option maxRecDepth 100000 in
theorem J_X1_leastNeededOn_104 {x : CX} {D : DG} {cyI cyJ cyZ : ClassId} {a_o a_o_fewestKept a_o_row a_f a_f_needs a_f_sideCounts a_f_yardSums a_f_beside a_s a_s_starts a_s_nexts a_s_values : Nat} {o_length : Int32} {o_lifted : Int32} {o_bestYards : Int32} {o_bestHurdles : Int32} {o_yards : Int32} {o_hurdles : Int32} {o_fewestKept : Nat → Int32} {o_row : Nat → Int32} {f_all : Int32} {f_wanted : Int32} {f_mostSides : Int32} {f_needs : Nat → Int32} {f_sideCounts : Nat → Int32} {f_yardSums : Nat → Int32} {f_beside : Nat → Int32} {s_listed : Option Nat} {s_starts : Nat → Int32} {s_nexts : Nat → Int32} {s_values : Nat → Int32} {p1 : Int32} {x3 : Int32} {x4 : Int32} {x5 : Int32} {Q : Int32 → Prop} {B24 : Int32 → Int32 → Prop} (cx : Cx x cX1_leastNeededOn 7 RX1 rm_X1_leastNeededOn D [(cyI, .int), (cyJ, .long), (cyZ, .boolean)]) (hR : ∀ (v : Int32) (pc : Nat) (lv : List (Nat × Value)), decode cX1_leastNeededOn pc = .ok (.ireturn, 1) → Q v → J x 0 0 7 (W_Courses cyI cyJ cyZ a_o a_o_fewestKept a_o_row a_f a_f_needs a_f_sideCounts a_f_yardSums a_f_beside a_s a_s_starts a_s_nexts a_s_values o_length o_lifted o_bestYards o_bestHurdles o_yards o_hurdles o_fewestKept o_row f_all f_wanted f_mostSides f_needs f_sideCounts f_yardSums f_beside s_listed s_starts s_nexts s_values) lv pc [.int v]) (hB24 : ∀ (x4 : Int32) (x5 : Int32), B24 x4 x5 → J x 0 0 7 (W_Courses cyI cyJ cyZ a_o a_o_fewestKept a_o_row a_f a_f_needs a_f_sideCounts a_f_yardSums a_f_beside a_s a_s_starts a_s_nexts a_s_values o_length o_lifted o_bestYards o_bestHurdles o_yards o_hurdles o_fewestKept o_row f_all f_wanted f_mostSides f_needs f_sideCounts f_yardSums f_beside s_listed s_starts s_nexts s_values) [(0, .ref a_o), (1, .int p1), (3, .int x3), (4, .int x4), (5, .int x5)] 24 []) (h : bk_X1_leastNeededOn_104 Q B24 x4 x5) :
    J x 0 0 7 (W_Courses cyI cyJ cyZ a_o a_o_fewestKept a_o_row a_f a_f_needs a_f_sideCounts a_f_yardSums a_f_beside a_s a_s_starts a_s_nexts a_s_values o_length o_lifted o_bestYards o_bestHurdles o_yards o_hurdles o_fewestKept o_row f_all f_wanted f_mostSides f_needs f_sideCounts f_yardSums f_beside s_listed s_starts s_nexts s_values) [(0, .ref a_o), (1, .int p1), (3, .int x3), (4, .int x4), (5, .int x5)] 104 [] := by
  unfold bk_X1_leastNeededOn_104 at h
  obtain ⟨y6, ey6⟩ : ∃ z : Int32, z = x5 + 1 := ⟨_, rfl⟩
  have h := h y6 ey6
  refine j_iinc cx 4 rfl (cst := 1) (by decide) ey6 [(5, .int y6), (0, .ref a_o), (1, .int p1), (3, .int x3), (4, .int x4)] (by decide) rfl dX1_leastNeededOn_104 (pn := 107) rfl ?_
  refine j_goto cx 24 dX1_leastNeededOn_107 rfl ?_
  refine j_sub [1, 2, 3, 4, 0] [(0, .ref a_o), (1, .int p1), (3, .int x3), (4, .int x4), (5, .int y6)] rfl ?_
  exact hB24 _ _ h
set_option maxHeartbeats 4000000 in
set_option maxRecDepth 100000 in
theorem B_X1_leastNeededOn_24 {x : CX} {D : DG} {cyI cyJ cyZ : ClassId} {a_o a_o_fewestKept a_o_row a_f a_f_needs a_f_sideCounts a_f_yardSums a_f_beside a_s a_s_starts a_s_nexts a_s_values : Nat} {o_length : Int32} {o_lifted : Int32} {o_bestYards : Int32} {o_bestHurdles : Int32} {o_yards : Int32} {o_hurdles : Int32} {o_fewestKept : Nat → Int32} {o_row : Nat → Int32} {f_all : Int32} {f_wanted : Int32} {f_mostSides : Int32} {f_needs : Nat → Int32} {f_sideCounts : Nat → Int32} {f_yardSums : Nat → Int32} {f_beside : Nat → Int32} {s_listed : Option Nat} {s_starts : Nat → Int32} {s_nexts : Nat → Int32} {s_values : Nat → Int32} {p1 : Int32} {x3 : Int32} {x4 : Int32} {x5 : Int32} {Q : Int32 → Prop} {B24 : Int32 → Int32 → Prop} (cx : Cx x cX1_leastNeededOn 7 RX1 rm_X1_leastNeededOn D [(cyI, .int), (cyJ, .long), (cyZ, .boolean)]) (hR : ∀ (v : Int32) (pc : Nat) (lv : List (Nat × Value)), decode cX1_leastNeededOn pc = .ok (.ireturn, 1) → Q v → J x 0 0 7 (W_Courses cyI cyJ cyZ a_o a_o_fewestKept a_o_row a_f a_f_needs a_f_sideCounts a_f_yardSums a_f_beside a_s a_s_starts a_s_nexts a_s_values o_length o_lifted o_bestYards o_bestHurdles o_yards o_hurdles o_fewestKept o_row f_all f_wanted f_mostSides f_needs f_sideCounts f_yardSums f_beside s_listed s_starts s_nexts s_values) lv pc [.int v]) (hB24 : ∀ (x4 : Int32) (x5 : Int32), B24 x4 x5 → J x 0 0 7 (W_Courses cyI cyJ cyZ a_o a_o_fewestKept a_o_row a_f a_f_needs a_f_sideCounts a_f_yardSums a_f_beside a_s a_s_starts a_s_nexts a_s_values o_length o_lifted o_bestYards o_bestHurdles o_yards o_hurdles o_fewestKept o_row f_all f_wanted f_mostSides f_needs f_sideCounts f_yardSums f_beside s_listed s_starts s_nexts s_values) [(0, .ref a_o), (1, .int p1), (3, .int x3), (4, .int x4), (5, .int x5)] 24 []) (h : bd_X1_leastNeededOn_24 Q B24 p1 x3 f_sideCounts s_starts s_nexts s_values x4 x5) :
    J x 0 0 7 (W_Courses cyI cyJ cyZ a_o a_o_fewestKept a_o_row a_f a_f_needs a_f_sideCounts a_f_yardSums a_f_beside a_s a_s_starts a_s_nexts a_s_values o_length o_lifted o_bestYards o_bestHurdles o_yards o_hurdles o_fewestKept o_row f_all f_wanted f_mostSides f_needs f_sideCounts f_yardSums f_beside s_listed s_starts s_nexts s_values) [(0, .ref a_o), (1, .int p1), (3, .int x3), (4, .int x4), (5, .int x5)] 24 [] := by
  unfold bd_X1_leastNeededOn_24 at h
  refine j_iload cx 4 rfl dX1_leastNeededOn_24 (pn := 26) rfl ?_
  refine j_aload_n cx 0 rfl rfl dX1_leastNeededOn_26 (pn := 27) rfl ?_
  refine j_get cx inGX1 0 rfl rfl 1 (by decide) q_fl_X1_22 rfl rfl dX1_leastNeededOn_27 (pn := 30) rfl ?_
  refine j_getN cx inGX7 8 rfl rfl 0 (by decide) q_fl_X1_96 rfl rfl dX1_leastNeededOn_30 (pn := 33) rfl ?_
  refine j_iload_n cx 1 rfl rfl dX1_leastNeededOn_33 (pn := 34) rfl ?_
  refine j_iconst cx (v := 1) (by decide) dX1_leastNeededOn_34 (pn := 35) rfl ?_
  refine j_iadd cx dX1_leastNeededOn_35 (pn := 36) rfl ?_
  refine j_iald cx 9 0 rfl rfl h.1 dX1_leastNeededOn_36 (pn := 37) rfl ?_
  have h := h.2
  refine j_icmp_ge cx 110 dX1_leastNeededOn_37 (pn := 40) rfl rfl (fun c3 => ?_) (fun c3 => ?_)
  · have h := h.1 c3
    refine j_iload cx 3 rfl dX1_leastNeededOn_110 (pn := 112) rfl ?_
    exact hR x4 112 _ dX1_leastNeededOn_112 h
  · have h := h.2 c3
    refine j_aload_n cx 0 rfl rfl dX1_leastNeededOn_40 (pn := 41) rfl ?_
    refine j_get cx inGX1 0 rfl rfl 1 (by decide) q_fl_X1_22 rfl rfl dX1_leastNeededOn_41 (pn := 44) rfl ?_
    refine j_getN cx inGX7 8 rfl rfl 1 (by decide) q_fl_X1_99 rfl rfl dX1_leastNeededOn_44 (pn := 47) rfl ?_
    refine j_iload cx 4 rfl dX1_leastNeededOn_47 (pn := 49) rfl ?_
    refine j_iald cx 10 0 rfl rfl h.1 dX1_leastNeededOn_49 (pn := 50) rfl ?_
    have h := h.2
    refine j_topi (fun y4 ey4 => ?_)
    have h := h y4 ey4
    refine j_istore cx [(6, .int y4), (0, .ref a_o), (1, .int p1), (3, .int x3), (4, .int x4), (5, .int x5)] (by decide) rfl dX1_leastNeededOn_50 (pn := 52) rfl ?_
    refine j_aload_n cx 1 rfl rfl dX1_leastNeededOn_52 (pn := 53) rfl ?_
    refine j_get cx inGX1 0 rfl rfl 1 (by decide) q_fl_X1_22 rfl rfl dX1_leastNeededOn_53 (pn := 56) rfl ?_
    refine j_getN cx inGX7 8 rfl rfl 2 (by decide) q_fl_X1_102 rfl rfl dX1_leastNeededOn_56 (pn := 59) rfl ?_
    refine j_iload cx 5 rfl dX1_leastNeededOn_59 (pn := 61) rfl ?_
    refine j_iald cx 11 0 rfl rfl h.1 dX1_leastNeededOn_61 (pn := 62) rfl ?_
    have h := h.2
    refine j_iload cx 4 rfl dX1_leastNeededOn_62 (pn := 64) rfl ?_
    refine j_icmp_ge cx 104 dX1_leastNeededOn_64 (pn := 67) rfl rfl (fun c5 => ?_) (fun c5 => ?_)
    · have h := h.1 c5
      refine j_sub [1, 2, 3, 4, 5] [(0, .ref a_o), (1, .int p1), (3, .int x3), (4, .int x4), (5, .int x5)] rfl ?_
      exact J_X1_leastNeededOn_104 cx hR hB24 h
    · have h := h.2 c5
      refine j_iload_n cx 3 rfl rfl dX1_leastNeededOn_67 (pn := 68) rfl ?_
      refine j_iload cx 0 rfl dX1_leastNeededOn_68 (pn := 70) rfl ?_
      refine j_iand cx dX1_leastNeededOn_70 (pn := 71) rfl ?_
      refine j_if_eq cx 104 dX1_leastNeededOn_71 (pn := 74) rfl rfl (fun c7 => ?_) (fun c7 => ?_)
      · have h := h.1 c7
        refine j_sub [1, 2, 3, 4, 5] [(0, .ref a_o), (1, .int p1), (3, .int x3), (4, .int x4), (5, .int x5)] rfl ?_
        exact J_X1_leastNeededOn_104 cx hR hB24 h
      · have h := h.2 c7
        refine j_iload cx 4 rfl dX1_leastNeededOn_74 (pn := 76) rfl ?_
        refine j_aload_n cx 1 rfl rfl dX1_leastNeededOn_76 (pn := 77) rfl ?_
        refine j_get cx inGX1 0 rfl rfl 0 (by decide) q_fl_X1_18 rfl rfl dX1_leastNeededOn_77 (pn := 80) rfl ?_
        refine j_getN cx inGX3 3 rfl rfl 1 (by decide) q_fl_X1_127 rfl rfl dX1_leastNeededOn_80 (pn := 83) rfl ?_
        refine j_iload cx 0 rfl dX1_leastNeededOn_83 (pn := 85) rfl ?_
        refine j_iald cx 5 0 rfl rfl h.1 dX1_leastNeededOn_85 (pn := 86) rfl ?_
        have h := h.2
        refine j_aload_n cx 1 rfl rfl dX1_leastNeededOn_86 (pn := 87) rfl ?_
        refine j_get cx inGX1 0 rfl rfl 1 (by decide) q_fl_X1_22 rfl rfl dX1_leastNeededOn_87 (pn := 90) rfl ?_
        refine j_getN cx inGX7 8 rfl rfl 2 (by decide) q_fl_X1_102 rfl rfl dX1_leastNeededOn_90 (pn := 93) rfl ?_
        refine j_iload cx 5 rfl dX1_leastNeededOn_93 (pn := 95) rfl ?_
        refine j_iald cx 11 0 rfl rfl h.1 dX1_leastNeededOn_95 (pn := 96) rfl ?_
        have h := h.2
        refine j_mmax cx q_ml_X1_134 q_stat_J9_max_7cf53 q_init_J9 q_code_J9_max_7cf53 (Nat.le_of_ble_eq_true rfl) (Nat.le_of_ble_eq_true rfl) (Nat.zero_le _) (Nat.zero_le _) dX1_leastNeededOn_96 (pn := 99) rfl ?_
        refine j_mmin cx q_ml_X1_58 q_stat_J9_min_7cf53 q_init_J9 q_code_J9_min_7cf53 (Nat.le_of_ble_eq_true rfl) (Nat.le_of_ble_eq_true rfl) (Nat.zero_le _) (Nat.zero_le _) dX1_leastNeededOn_99 (pn := 102) rfl ?_
        refine j_topi (fun y8 ey8 => ?_)
        have h := h y8 ey8
        refine j_istore cx [(4, .int y8), (6, .int y4), (0, .ref a_o), (1, .int p1), (3, .int x3), (5, .int x5)] (by decide) rfl dX1_leastNeededOn_102 (pn := 104) rfl ?_
        refine j_sub [2, 3, 4, 0, 5] [(0, .ref a_o), (1, .int p1), (3, .int x3), (4, .int y8), (5, .int x5)] rfl ?_
        exact J_X1_leastNeededOn_104 cx hR hB24 h
set_option maxHeartbeats 4000000 in
set_option maxRecDepth 100000 in
theorem J_X1_leastNeededOn_24 {x : CX} {D : DG} {cyI cyJ cyZ : ClassId} {a_o a_o_fewestKept a_o_row a_f a_f_needs a_f_sideCounts a_f_yardSums a_f_beside a_s a_s_starts a_s_nexts a_s_values : Nat} {o_length : Int32} {o_lifted : Int32} {o_bestYards : Int32} {o_bestHurdles : Int32} {o_yards : Int32} {o_hurdles : Int32} {o_fewestKept : Nat → Int32} {o_row : Nat → Int32} {f_all : Int32} {f_wanted : Int32} {f_mostSides : Int32} {f_needs : Nat → Int32} {f_sideCounts : Nat → Int32} {f_yardSums : Nat → Int32} {f_beside : Nat → Int32} {s_listed : Option Nat} {s_starts : Nat → Int32} {s_nexts : Nat → Int32} {s_values : Nat → Int32} {p1 : Int32} {x3 : Int32} {x4 : Int32} {x5 : Int32} {Q : Int32 → Prop} (cx : Cx x cX1_leastNeededOn 7 RX1 rm_X1_leastNeededOn D [(cyI, .int), (cyJ, .long), (cyZ, .boolean)]) (hR : ∀ (v : Int32) (pc : Nat) (lv : List (Nat × Value)), decode cX1_leastNeededOn pc = .ok (.ireturn, 1) → Q v → J x 0 0 7 (W_Courses cyI cyJ cyZ a_o a_o_fewestKept a_o_row a_f a_f_needs a_f_sideCounts a_f_yardSums a_f_beside a_s a_s_starts a_s_nexts a_s_values o_length o_lifted o_bestYards o_bestHurdles o_yards o_hurdles o_fewestKept o_row f_all f_wanted f_mostSides f_needs f_sideCounts f_yardSums f_beside s_listed s_starts s_nexts s_values) lv pc [.int v]) (h : lp_X1_leastNeededOn_24 Q  p1 x3 f_sideCounts s_starts s_nexts s_values x4 x5) :
    J x 0 0 7 (W_Courses cyI cyJ cyZ a_o a_o_fewestKept a_o_row a_f a_f_needs a_f_sideCounts a_f_yardSums a_f_beside a_s a_s_starts a_s_nexts a_s_values o_length o_lifted o_bestYards o_bestHurdles o_yards o_hurdles o_fewestKept o_row f_all f_wanted f_mostSides f_needs f_sideCounts f_yardSums f_beside s_listed s_starts s_nexts s_values) [(0, .ref a_o), (1, .int p1), (3, .int x3), (4, .int x4), (5, .int x5)] 24 [] := by
  obtain ⟨I, ⟨n, h0⟩, hb⟩ := h
  revert x4 x5
  induction n using Nat.strongRecOn with
  | _ n ih =>
    intro x4 x5 h0
    exact B_X1_leastNeededOn_24 cx hR (fun _ _ hz => by obtain ⟨n2, hlt, hI⟩ := hz; exact ih n2 hlt hI) (hb n x4 x5 h0)
set_option maxHeartbeats 4000000 in
set_option maxRecDepth 100000 in
theorem c_X1_leastNeededOn {D : DG} {cyI cyJ cyZ : ClassId} {a_o a_o_fewestKept a_o_row a_f a_f_needs a_f_sideCounts a_f_yardSums a_f_beside a_s a_s_starts a_s_nexts a_s_values : Nat} {o_length : Int32} {o_lifted : Int32} {o_bestYards : Int32} {o_bestHurdles : Int32} {o_yards : Int32} {o_hurdles : Int32} {o_fewestKept : Nat → Int32} {o_row : Nat → Int32} {f_all : Int32} {f_wanted : Int32} {f_mostSides : Int32} {f_needs : Nat → Int32} {f_sideCounts : Nat → Int32} {f_yardSums : Nat → Int32} {f_beside : Nat → Int32} {s_listed : Option Nat} {s_starts : Nat → Int32} {s_nexts : Nat → Int32} {s_values : Nat → Int32} {p1 : Int32} {p2 : Int32} {Q : Int32 → Prop} (h : wp_X1_leastNeededOn p1 p2 f_all f_sideCounts f_beside s_starts s_nexts s_values Q) :
    MetI yX1_leastNeededOn cX1_leastNeededOn 7 (some .int) rm_X1_leastNeededOn D [(cyI, .int), (cyJ, .long), (cyZ, .boolean)] [.ref a_o, .int p1, .int p2] (W_Courses cyI cyJ cyZ a_o a_o_fewestKept a_o_row a_f a_f_needs a_f_sideCounts a_f_yardSums a_f_beside a_s a_s_starts a_s_nexts a_s_values o_length o_lifted o_bestYards o_bestHurdles o_yards o_hurdles o_fewestKept o_row f_all f_wanted f_mostSides f_needs f_sideCounts f_yardSums f_beside s_listed s_starts s_nexts s_values) (fun _ : Unit => (W_Courses cyI cyJ cyZ a_o a_o_fewestKept a_o_row a_f a_f_needs a_f_sideCounts a_f_yardSums a_f_beside a_s a_s_starts a_s_nexts a_s_values o_length o_lifted o_bestYards o_bestHurdles o_yards o_hurdles o_fewestKept o_row f_all f_wanted f_mostSides f_needs f_sideCounts f_yardSums f_beside s_listed s_starts s_nexts s_values)) (fun v _ => Q v ) := by
  unfold wp_X1_leastNeededOn at h
  refine metI_of (by decide) (Nat.le_of_ble_eq_true rfl) (fun x cx0 hR0 => ?_)
  have cx : Cx x cX1_leastNeededOn 7 RX1 rm_X1_leastNeededOn D [(cyI, .int), (cyJ, .long), (cyZ, .boolean)] := cx0
  have hR : ∀ (v : Int32) (pc : Nat) (lv : List (Nat × Value)), decode cX1_leastNeededOn pc = .ok (.ireturn, 1) → Q v → J x 0 0 7 (W_Courses cyI cyJ cyZ a_o a_o_fewestKept a_o_row a_f a_f_needs a_f_sideCounts a_f_yardSums a_f_beside a_s a_s_starts a_s_nexts a_s_values o_length o_lifted o_bestYards o_bestHurdles o_yards o_hurdles o_fewestKept o_row f_all f_wanted f_mostSides f_needs f_sideCounts f_yardSums f_beside s_listed s_starts s_nexts s_values) lv pc [.int v] := (fun v pc lv d hq => hR0 v () pc lv d hq)
  show J x 0 0 7 (W_Courses cyI cyJ cyZ a_o a_o_fewestKept a_o_row a_f a_f_needs a_f_sideCounts a_f_yardSums a_f_beside a_s a_s_starts a_s_nexts a_s_values o_length o_lifted o_bestYards o_bestHurdles o_yards o_hurdles o_fewestKept o_row f_all f_wanted f_mostSides f_needs f_sideCounts f_yardSums f_beside s_listed s_starts s_nexts s_values) [(0, .ref a_o), (1, .int p1), (2, .int p2)] 0 []
  refine j_aload_n cx 0 rfl rfl dX1_leastNeededOn_0 (pn := 1) rfl ?_
  refine j_get cx inGX1 0 rfl rfl 0 (by decide) q_fl_X1_18 rfl rfl dX1_leastNeededOn_1 (pn := 4) rfl ?_
  refine j_iload_n cx 2 rfl rfl dX1_leastNeededOn_4 (pn := 5) rfl ?_
  refine j_callvI cx q_inst_X3_nextTo q_sel_X3_nextTo (b := a_f) (As := [.int p2]) (rest := []) (W_FT cyI cyJ cyZ a_f a_f_needs a_f_sideCounts a_f_yardSums a_f_beside f_all f_wanted f_mostSides f_needs f_sideCounts f_yardSums f_beside) [(a_o, .inr (1, [.ref a_f, .ref a_s, .ref a_o_fewestKept, .ref a_o_row, .int o_length, .int o_lifted, .int o_bestYards, .int o_bestHurdles, .int o_yards, .int o_hurdles])), (a_o_fewestKept, .inl (cyI, 91, .inl o_fewestKept)), (a_o_row, .inl (cyI, 10, .inl o_row)), (a_s, .inr (7, [.ref a_s_starts, .ref a_s_nexts, .ref a_s_values, va_rf s_listed])), (a_s_starts, .inl (cyI, 1025, .inl s_starts)), (a_s_nexts, .inl (cyI, 4096, .inl s_nexts)), (a_s_values, .inl (cyI, 4096, .inl s_values))] (c_X3_nextTo h) ⟨q_code_X3_nextTo, q_ml_X1_93, q_init_X3, hd_X3_nextTo, ⟨Nat.le_of_ble_eq_true rfl, Nat.le_of_ble_eq_true rfl⟩, Nat.le_of_ble_eq_true rfl, Nat.le_of_ble_eq_true rfl⟩ (q0 := 0) rfl rfl rfl [3, 4, 5, 6, 7] [0, 1, 2, 8, 9, 10, 11] [0, 1, 2, 7, 8, 9, 10, 11, 3, 4, 5, 6] rfl rfl rfl rfl rfl (by decide) (fun _ : Unit => (W_Courses cyI cyJ cyZ a_o a_o_fewestKept a_o_row a_f a_f_needs a_f_sideCounts a_f_yardSums a_f_beside a_s a_s_starts a_s_nexts a_s_values o_length o_lifted o_bestYards o_bestHurdles o_yards o_hurdles o_fewestKept o_row f_all f_wanted f_mostSides f_needs f_sideCounts f_yardSums f_beside s_listed s_starts s_nexts s_values)) (fun _ => rfl) (fun _ => rfl) rfl rfl (Nat.le_of_ble_eq_true rfl) dX1_leastNeededOn_5 (pn := 8) rfl (fun r1 _ h => ?_)
  show J x 0 0 7 (W_Courses cyI cyJ cyZ a_o a_o_fewestKept a_o_row a_f a_f_needs a_f_sideCounts a_f_yardSums a_f_beside a_s a_s_starts a_s_nexts a_s_values o_length o_lifted o_bestYards o_bestHurdles o_yards o_hurdles o_fewestKept o_row f_all f_wanted f_mostSides f_needs f_sideCounts f_yardSums f_beside s_listed s_starts s_nexts s_values) [(0, .ref a_o), (1, .int p1), (2, .int p2)] 8 [.int r1]
  refine j_istore_n cx rfl [(3, .int r1), (0, .ref a_o), (1, .int p1), (2, .int p2)] (by decide) rfl dX1_leastNeededOn_8 (pn := 9) rfl ?_
  refine j_ldc cx q_c_X1_78 dX1_leastNeededOn_9 (pn := 11) rfl ?_
  refine j_istore cx [(4, .int 1048576), (3, .int r1), (0, .ref a_o), (1, .int p1), (2, .int p2)] (by decide) rfl dX1_leastNeededOn_11 (pn := 13) rfl ?_
  refine j_aload_n cx 2 rfl rfl dX1_leastNeededOn_13 (pn := 14) rfl ?_
  refine j_get cx inGX1 0 rfl rfl 1 (by decide) q_fl_X1_22 rfl rfl dX1_leastNeededOn_14 (pn := 17) rfl ?_
  refine j_getN cx inGX7 8 rfl rfl 0 (by decide) q_fl_X1_96 rfl rfl dX1_leastNeededOn_17 (pn := 20) rfl ?_
  refine j_iload_n cx 3 rfl rfl dX1_leastNeededOn_20 (pn := 21) rfl ?_
  refine j_iald cx 9 0 rfl rfl h.1 dX1_leastNeededOn_21 (pn := 22) rfl ?_
  have h := h.2
  refine j_topi (fun y2 ey2 => ?_)
  have h := h y2 ey2
  refine j_istore cx [(5, .int y2), (4, .int 1048576), (3, .int r1), (0, .ref a_o), (1, .int p1), (2, .int p2)] (by decide) rfl dX1_leastNeededOn_22 (pn := 24) rfl ?_
  refine j_sub [3, 4, 2, 1, 0] [(0, .ref a_o), (1, .int p1), (3, .int r1), (4, .int 1048576), (5, .int y2)] rfl ?_
  exact J_X1_leastNeededOn_24 cx hR h
theorem dX1_leastLiftedOn_0 : decode cX1_leastLiftedOn 0 = .ok (.aload_n 0, 1) := by decide +kernel
theorem dX1_leastLiftedOn_1 : decode cX1_leastLiftedOn 1 = .ok (.getfield 18, 3) := by decide +kernel
theorem dX1_leastLiftedOn_4 : decode cX1_leastLiftedOn 4 = .ok (.iload_n 2, 1) := by decide +kernel
theorem dX1_leastLiftedOn_5 : decode cX1_leastLiftedOn 5 = .ok (.invokevirtual 93, 3) := by decide +kernel
theorem dX1_leastLiftedOn_8 : decode cX1_leastLiftedOn 8 = .ok (.istore_n 3, 1) := by decide +kernel
theorem dX1_leastLiftedOn_9 : decode cX1_leastLiftedOn 9 = .ok (.ldc 78, 2) := by decide +kernel
theorem dX1_leastLiftedOn_11 : decode cX1_leastLiftedOn 11 = .ok (.istore 4, 2) := by decide +kernel
theorem dX1_leastLiftedOn_13 : decode cX1_leastLiftedOn 13 = .ok (.aload_n 0, 1) := by decide +kernel
theorem dX1_leastLiftedOn_14 : decode cX1_leastLiftedOn 14 = .ok (.getfield 22, 3) := by decide +kernel
theorem dX1_leastLiftedOn_17 : decode cX1_leastLiftedOn 17 = .ok (.getfield 96, 3) := by decide +kernel
theorem dX1_leastLiftedOn_20 : decode cX1_leastLiftedOn 20 = .ok (.iload_n 1, 1) := by decide +kernel
theorem dX1_leastLiftedOn_21 : decode cX1_leastLiftedOn 21 = .ok (.iaload, 1) := by decide +kernel
theorem dX1_leastLiftedOn_22 : decode cX1_leastLiftedOn 22 = .ok (.istore 5, 2) := by decide +kernel
theorem dX1_leastLiftedOn_24 : decode cX1_leastLiftedOn 24 = .ok (.iload 5, 2) := by decide +kernel
theorem dX1_leastLiftedOn_26 : decode cX1_leastLiftedOn 26 = .ok (.aload_n 0, 1) := by decide +kernel
theorem dX1_leastLiftedOn_27 : decode cX1_leastLiftedOn 27 = .ok (.getfield 22, 3) := by decide +kernel
theorem dX1_leastLiftedOn_30 : decode cX1_leastLiftedOn 30 = .ok (.getfield 96, 3) := by decide +kernel
theorem dX1_leastLiftedOn_33 : decode cX1_leastLiftedOn 33 = .ok (.iload_n 1, 1) := by decide +kernel
theorem dX1_leastLiftedOn_34 : decode cX1_leastLiftedOn 34 = .ok (.iconst 1, 1) := by decide +kernel
theorem dX1_leastLiftedOn_35 : decode cX1_leastLiftedOn 35 = .ok (.iadd, 1) := by decide +kernel
theorem dX1_leastLiftedOn_36 : decode cX1_leastLiftedOn 36 = .ok (.iaload, 1) := by decide +kernel
theorem dX1_leastLiftedOn_37 : decode cX1_leastLiftedOn 37 = .ok (.if_icmp .ge 71, 3) := by decide +kernel
theorem dX1_leastLiftedOn_40 : decode cX1_leastLiftedOn 40 = .ok (.aload_n 0, 1) := by decide +kernel
theorem dX1_leastLiftedOn_41 : decode cX1_leastLiftedOn 41 = .ok (.getfield 22, 3) := by decide +kernel
theorem dX1_leastLiftedOn_44 : decode cX1_leastLiftedOn 44 = .ok (.getfield 99, 3) := by decide +kernel
theorem dX1_leastLiftedOn_47 : decode cX1_leastLiftedOn 47 = .ok (.iload 5, 2) := by decide +kernel
theorem dX1_leastLiftedOn_49 : decode cX1_leastLiftedOn 49 = .ok (.iaload, 1) := by decide +kernel
theorem dX1_leastLiftedOn_50 : decode cX1_leastLiftedOn 50 = .ok (.istore 6, 2) := by decide +kernel
theorem dX1_leastLiftedOn_52 : decode cX1_leastLiftedOn 52 = .ok (.aload_n 0, 1) := by decide +kernel
theorem dX1_leastLiftedOn_53 : decode cX1_leastLiftedOn 53 = .ok (.getfield 22, 3) := by decide +kernel
theorem dX1_leastLiftedOn_56 : decode cX1_leastLiftedOn 56 = .ok (.getfield 102, 3) := by decide +kernel
theorem dX1_leastLiftedOn_59 : decode cX1_leastLiftedOn 59 = .ok (.iload 5, 2) := by decide +kernel
theorem dX1_leastLiftedOn_61 : decode cX1_leastLiftedOn 61 = .ok (.iaload, 1) := by decide +kernel
theorem dX1_leastLiftedOn_62 : decode cX1_leastLiftedOn 62 = .ok (.iload 4, 2) := by decide +kernel
theorem dX1_leastLiftedOn_64 : decode cX1_leastLiftedOn 64 = .ok (.if_icmp .ge 38, 3) := by decide +kernel
theorem dX1_leastLiftedOn_67 : decode cX1_leastLiftedOn 67 = .ok (.iload_n 3, 1) := by decide +kernel
theorem dX1_leastLiftedOn_68 : decode cX1_leastLiftedOn 68 = .ok (.iload 6, 2) := by decide +kernel
theorem dX1_leastLiftedOn_70 : decode cX1_leastLiftedOn 70 = .ok (.iand, 1) := by decide +kernel
theorem dX1_leastLiftedOn_71 : decode cX1_leastLiftedOn 71 = .ok (.ifCond .eq 31, 3) := by decide +kernel
theorem dX1_leastLiftedOn_74 : decode cX1_leastLiftedOn 74 = .ok (.iload 4, 2) := by decide +kernel
theorem dX1_leastLiftedOn_76 : decode cX1_leastLiftedOn 76 = .ok (.aload_n 0, 1) := by decide +kernel
theorem dX1_leastLiftedOn_77 : decode cX1_leastLiftedOn 77 = .ok (.getfield 18, 3) := by decide +kernel
theorem dX1_leastLiftedOn_80 : decode cX1_leastLiftedOn 80 = .ok (.iload 6, 2) := by decide +kernel
theorem dX1_leastLiftedOn_82 : decode cX1_leastLiftedOn 82 = .ok (.iload_n 2, 1) := by decide +kernel
theorem dX1_leastLiftedOn_83 : decode cX1_leastLiftedOn 83 = .ok (.invokevirtual 90, 3) := by decide +kernel
theorem dX1_leastLiftedOn_86 : decode cX1_leastLiftedOn 86 = .ok (.aload_n 0, 1) := by decide +kernel
theorem dX1_leastLiftedOn_87 : decode cX1_leastLiftedOn 87 = .ok (.getfield 22, 3) := by decide +kernel
theorem dX1_leastLiftedOn_90 : decode cX1_leastLiftedOn 90 = .ok (.getfield 102, 3) := by decide +kernel
theorem dX1_leastLiftedOn_93 : decode cX1_leastLiftedOn 93 = .ok (.iload 5, 2) := by decide +kernel
theorem dX1_leastLiftedOn_95 : decode cX1_leastLiftedOn 95 = .ok (.iaload, 1) := by decide +kernel
theorem dX1_leastLiftedOn_96 : decode cX1_leastLiftedOn 96 = .ok (.iadd, 1) := by decide +kernel
theorem dX1_leastLiftedOn_97 : decode cX1_leastLiftedOn 97 = .ok (.invokestatic 58, 3) := by decide +kernel
theorem dX1_leastLiftedOn_100 : decode cX1_leastLiftedOn 100 = .ok (.istore 4, 2) := by decide +kernel
theorem dX1_leastLiftedOn_102 : decode cX1_leastLiftedOn 102 = .ok (.iinc 5 1, 3) := by decide +kernel
theorem dX1_leastLiftedOn_105 : decode cX1_leastLiftedOn 105 = .ok (.goto (-81), 3) := by decide +kernel
theorem dX1_leastLiftedOn_108 : decode cX1_leastLiftedOn 108 = .ok (.iload 4, 2) := by decide +kernel
theorem dX1_leastLiftedOn_110 : decode cX1_leastLiftedOn 110 = .ok (.ireturn, 1) := by decide +kernel
abbrev rm_X1_leastLiftedOn : Room := { frames := 2, cells := 0, slots := 0, locals := 42 }
theorem hd_X1_leastLiftedOn : yX1_leastLiftedOn.cls ≠ "java/lang/invoke/MethodHandle" ∧ yX1_leastLiftedOn.cls ≠ "java/lang/invoke/VarHandle" ∧ (parseMethodDescriptor yX1_leastLiftedOn.desc).map (fun d => d.parameters.length) = some 2 := by decide +kernel
def bk_X1_leastLiftedOn_102 (Q : Int32 → Prop) (B24 : Int32 → Int32 → Prop) (x4 : Int32) (x5 : Int32) : Prop :=
∀ y6 : Int32, y6 = (x5 + 1) →
B24 x4 y6
def bd_X1_leastLiftedOn_24 (Q : Int32 → Prop) (B24 : Int32 → Int32 → Prop) (p1 : Int32) (p2 : Int32) (x3 : Int32) (f_needs : Nat → Int32) (s_starts : Nat → Int32) (s_nexts : Nat → Int32) (s_values : Nat → Int32) (x4 : Int32) (x5 : Int32) : Prop :=
vp_in (p1 + 1) 1025 ∧ (((s_starts (p1 + 1).toNatClampNeg) ≤ x5 → Q x4) ∧
(¬ (s_starts (p1 + 1).toNatClampNeg) ≤ x5 → vp_in x5 4096 ∧ (∀ y4 : Int32, y4 = (s_nexts x5.toNatClampNeg) →
vp_in x5 4096 ∧ ((x4 ≤ (s_values x5.toNatClampNeg) → bk_X1_leastLiftedOn_102 Q B24 x4 x5) ∧
(¬ x4 ≤ (s_values x5.toNatClampNeg) → (((x3 &&& y4) = 0 → bk_X1_leastLiftedOn_102 Q B24 x4 x5) ∧
(¬ (x3 &&& y4) = 0 → wp_X3_liftedTo y4 p2 f_needs (fun (r8 : Int32) => vp_in x5 4096 ∧ (∀ y9 : Int32, y9 = (if (r8 + (s_values x5.toNatClampNeg)) < x4 then (r8 + (s_values x5.toNatClampNeg)) else x4) →
bk_X1_leastLiftedOn_102 Q B24 y9 x5)))))))))
def lp_X1_leastLiftedOn_24 (Q : Int32 → Prop) (p1 : Int32) (p2 : Int32) (x3 : Int32) (f_needs : Nat → Int32) (s_starts : Nat → Int32) (s_nexts : Nat → Int32) (s_values : Nat → Int32) (x4 : Int32) (x5 : Int32) : Prop :=
∃ I : Nat → Int32 → Int32 → Prop, (∃ n, I n x4 x5) ∧ ∀ n x4 x5, I n x4 x5 → bd_X1_leastLiftedOn_24 Q  (fun x4' x5' => ∃ n', n' < n ∧ I n' x4' x5') p1 p2 x3 f_needs s_starts s_nexts s_values x4 x5
def wp_X1_leastLiftedOn (p1 : Int32) (p2 : Int32) (f_all : Int32) (f_needs : Nat → Int32) (f_beside : Nat → Int32) (s_starts : Nat → Int32) (s_nexts : Nat → Int32) (s_values : Nat → Int32) (Q : Int32 → Prop) : Prop :=
wp_X3_nextTo p2 f_all f_beside (fun (r1 : Int32) => vp_in p1 1025 ∧ (∀ y2 : Int32, y2 = (s_starts p1.toNatClampNeg) →
lp_X1_leastLiftedOn_24 Q p1 p2 r1 f_needs s_starts s_nexts s_values 1048576 y2))
set_option maxHeartbeats 4000000 in
set_option maxRecDepth 100000 in
theorem J_X1_leastLiftedOn_102 {x : CX} {D : DG} {cyI cyJ cyZ : ClassId} {a_o a_o_fewestKept a_o_row a_f a_f_needs a_f_sideCounts a_f_yardSums a_f_beside a_s a_s_starts a_s_nexts a_s_values : Nat} {o_length : Int32} {o_lifted : Int32} {o_bestYards : Int32} {o_bestHurdles : Int32} {o_yards : Int32} {o_hurdles : Int32} {o_fewestKept : Nat → Int32} {o_row : Nat → Int32} {f_all : Int32} {f_wanted : Int32} {f_mostSides : Int32} {f_needs : Nat → Int32} {f_sideCounts : Nat → Int32} {f_yardSums : Nat → Int32} {f_beside : Nat → Int32} {s_listed : Option Nat} {s_starts : Nat → Int32} {s_nexts : Nat → Int32} {s_values : Nat → Int32} {p1 : Int32} {p2 : Int32} {x3 : Int32} {x4 : Int32} {x5 : Int32} {Q : Int32 → Prop} {B24 : Int32 → Int32 → Prop} (cx : Cx x cX1_leastLiftedOn 7 RX1 rm_X1_leastLiftedOn D [(cyI, .int), (cyJ, .long), (cyZ, .boolean)]) (hR : ∀ (v : Int32) (pc : Nat) (lv : List (Nat × Value)), decode cX1_leastLiftedOn pc = .ok (.ireturn, 1) → Q v → J x 0 0 7 (W_Courses cyI cyJ cyZ a_o a_o_fewestKept a_o_row a_f a_f_needs a_f_sideCounts a_f_yardSums a_f_beside a_s a_s_starts a_s_nexts a_s_values o_length o_lifted o_bestYards o_bestHurdles o_yards o_hurdles o_fewestKept o_row f_all f_wanted f_mostSides f_needs f_sideCounts f_yardSums f_beside s_listed s_starts s_nexts s_values) lv pc [.int v]) (hB24 : ∀ (x4 : Int32) (x5 : Int32), B24 x4 x5 → J x 0 0 7 (W_Courses cyI cyJ cyZ a_o a_o_fewestKept a_o_row a_f a_f_needs a_f_sideCounts a_f_yardSums a_f_beside a_s a_s_starts a_s_nexts a_s_values o_length o_lifted o_bestYards o_bestHurdles o_yards o_hurdles o_fewestKept o_row f_all f_wanted f_mostSides f_needs f_sideCounts f_yardSums f_beside s_listed s_starts s_nexts s_values) [(0, .ref a_o), (1, .int p1), (2, .int p2), (3, .int x3), (4, .int x4), (5, .int x5)] 24 []) (h : bk_X1_leastLiftedOn_102 Q B24 x4 x5) :
    J x 0 0 7 (W_Courses cyI cyJ cyZ a_o a_o_fewestKept a_o_row a_f a_f_needs a_f_sideCounts a_f_yardSums a_f_beside a_s a_s_starts a_s_nexts a_s_values o_length o_lifted o_bestYards o_bestHurdles o_yards o_hurdles o_fewestKept o_row f_all f_wanted f_mostSides f_needs f_sideCounts f_yardSums f_beside s_listed s_starts s_nexts s_values) [(0, .ref a_o), (1, .int p1), (2, .int p2), (3, .int x3), (4, .int x4), (5, .int x5)] 102 [] := by
  unfold bk_X1_leastLiftedOn_102 at h
  obtain ⟨y6, ey6⟩ : ∃ z : Int32, z = x5 + 1 := ⟨_, rfl⟩
  have h := h y6 ey6
  refine j_iinc cx 5 rfl (cst := 1) (by decide) ey6 [(5, .int y6), (0, .ref a_o), (1, .int p1), (2, .int p2), (3, .int x3), (4, .int x4)] (by decide) rfl dX1_leastLiftedOn_102 (pn := 105) rfl ?_
  refine j_goto cx 24 dX1_leastLiftedOn_105 rfl ?_
  refine j_sub [1, 2, 3, 4, 5, 0] [(0, .ref a_o), (1, .int p1), (2, .int p2), (3, .int x3), (4, .int x4), (5, .int y6)] rfl ?_
  exact hB24 _ _ h
set_option maxHeartbeats 4000000 in
set_option maxRecDepth 100000 in
theorem B_X1_leastLiftedOn_24 {x : CX} {D : DG} {cyI cyJ cyZ : ClassId} {a_o a_o_fewestKept a_o_row a_f a_f_needs a_f_sideCounts a_f_yardSums a_f_beside a_s a_s_starts a_s_nexts a_s_values : Nat} {o_length : Int32} {o_lifted : Int32} {o_bestYards : Int32} {o_bestHurdles : Int32} {o_yards : Int32} {o_hurdles : Int32} {o_fewestKept : Nat → Int32} {o_row : Nat → Int32} {f_all : Int32} {f_wanted : Int32} {f_mostSides : Int32} {f_needs : Nat → Int32} {f_sideCounts : Nat → Int32} {f_yardSums : Nat → Int32} {f_beside : Nat → Int32} {s_listed : Option Nat} {s_starts : Nat → Int32} {s_nexts : Nat → Int32} {s_values : Nat → Int32} {p1 : Int32} {p2 : Int32} {x3 : Int32} {x4 : Int32} {x5 : Int32} {Q : Int32 → Prop} {B24 : Int32 → Int32 → Prop} (cx : Cx x cX1_leastLiftedOn 7 RX1 rm_X1_leastLiftedOn D [(cyI, .int), (cyJ, .long), (cyZ, .boolean)]) (hR : ∀ (v : Int32) (pc : Nat) (lv : List (Nat × Value)), decode cX1_leastLiftedOn pc = .ok (.ireturn, 1) → Q v → J x 0 0 7 (W_Courses cyI cyJ cyZ a_o a_o_fewestKept a_o_row a_f a_f_needs a_f_sideCounts a_f_yardSums a_f_beside a_s a_s_starts a_s_nexts a_s_values o_length o_lifted o_bestYards o_bestHurdles o_yards o_hurdles o_fewestKept o_row f_all f_wanted f_mostSides f_needs f_sideCounts f_yardSums f_beside s_listed s_starts s_nexts s_values) lv pc [.int v]) (hB24 : ∀ (x4 : Int32) (x5 : Int32), B24 x4 x5 → J x 0 0 7 (W_Courses cyI cyJ cyZ a_o a_o_fewestKept a_o_row a_f a_f_needs a_f_sideCounts a_f_yardSums a_f_beside a_s a_s_starts a_s_nexts a_s_values o_length o_lifted o_bestYards o_bestHurdles o_yards o_hurdles o_fewestKept o_row f_all f_wanted f_mostSides f_needs f_sideCounts f_yardSums f_beside s_listed s_starts s_nexts s_values) [(0, .ref a_o), (1, .int p1), (2, .int p2), (3, .int x3), (4, .int x4), (5, .int x5)] 24 []) (h : bd_X1_leastLiftedOn_24 Q B24 p1 p2 x3 f_needs s_starts s_nexts s_values x4 x5) :
    J x 0 0 7 (W_Courses cyI cyJ cyZ a_o a_o_fewestKept a_o_row a_f a_f_needs a_f_sideCounts a_f_yardSums a_f_beside a_s a_s_starts a_s_nexts a_s_values o_length o_lifted o_bestYards o_bestHurdles o_yards o_hurdles o_fewestKept o_row f_all f_wanted f_mostSides f_needs f_sideCounts f_yardSums f_beside s_listed s_starts s_nexts s_values) [(0, .ref a_o), (1, .int p1), (2, .int p2), (3, .int x3), (4, .int x4), (5, .int x5)] 24 [] := by
  unfold bd_X1_leastLiftedOn_24 at h
  refine j_iload cx 5 rfl dX1_leastLiftedOn_24 (pn := 26) rfl ?_
  refine j_aload_n cx 0 rfl rfl dX1_leastLiftedOn_26 (pn := 27) rfl ?_
  refine j_get cx inGX1 0 rfl rfl 1 (by decide) q_fl_X1_22 rfl rfl dX1_leastLiftedOn_27 (pn := 30) rfl ?_
  refine j_getN cx inGX7 8 rfl rfl 0 (by decide) q_fl_X1_96 rfl rfl dX1_leastLiftedOn_30 (pn := 33) rfl ?_
  refine j_iload_n cx 1 rfl rfl dX1_leastLiftedOn_33 (pn := 34) rfl ?_
  refine j_iconst cx (v := 1) (by decide) dX1_leastLiftedOn_34 (pn := 35) rfl ?_
  refine j_iadd cx dX1_leastLiftedOn_35 (pn := 36) rfl ?_
  refine j_iald cx 9 0 rfl rfl h.1 dX1_leastLiftedOn_36 (pn := 37) rfl ?_
  have h := h.2
  refine j_icmp_ge cx 108 dX1_leastLiftedOn_37 (pn := 40) rfl rfl (fun c3 => ?_) (fun c3 => ?_)
  · have h := h.1 c3
    refine j_iload cx 4 rfl dX1_leastLiftedOn_108 (pn := 110) rfl ?_
    exact hR x4 110 _ dX1_leastLiftedOn_110 h
  · have h := h.2 c3
    refine j_aload_n cx 0 rfl rfl dX1_leastLiftedOn_40 (pn := 41) rfl ?_
    refine j_get cx inGX1 0 rfl rfl 1 (by decide) q_fl_X1_22 rfl rfl dX1_leastLiftedOn_41 (pn := 44) rfl ?_
    refine j_getN cx inGX7 8 rfl rfl 1 (by decide) q_fl_X1_99 rfl rfl dX1_leastLiftedOn_44 (pn := 47) rfl ?_
    refine j_iload cx 5 rfl dX1_leastLiftedOn_47 (pn := 49) rfl ?_
    refine j_iald cx 10 0 rfl rfl h.1 dX1_leastLiftedOn_49 (pn := 50) rfl ?_
    have h := h.2
    refine j_topi (fun y4 ey4 => ?_)
    have h := h y4 ey4
    refine j_istore cx [(6, .int y4), (0, .ref a_o), (1, .int p1), (2, .int p2), (3, .int x3), (4, .int x4), (5, .int x5)] (by decide) rfl dX1_leastLiftedOn_50 (pn := 52) rfl ?_
    refine j_aload_n cx 1 rfl rfl dX1_leastLiftedOn_52 (pn := 53) rfl ?_
    refine j_get cx inGX1 0 rfl rfl 1 (by decide) q_fl_X1_22 rfl rfl dX1_leastLiftedOn_53 (pn := 56) rfl ?_
    refine j_getN cx inGX7 8 rfl rfl 2 (by decide) q_fl_X1_102 rfl rfl dX1_leastLiftedOn_56 (pn := 59) rfl ?_
    refine j_iload cx 6 rfl dX1_leastLiftedOn_59 (pn := 61) rfl ?_
    refine j_iald cx 11 0 rfl rfl h.1 dX1_leastLiftedOn_61 (pn := 62) rfl ?_
    have h := h.2
    refine j_iload cx 5 rfl dX1_leastLiftedOn_62 (pn := 64) rfl ?_
    refine j_icmp_ge cx 102 dX1_leastLiftedOn_64 (pn := 67) rfl rfl (fun c5 => ?_) (fun c5 => ?_)
    · have h := h.1 c5
      refine j_sub [1, 2, 3, 4, 5, 6] [(0, .ref a_o), (1, .int p1), (2, .int p2), (3, .int x3), (4, .int x4), (5, .int x5)] rfl ?_
      exact J_X1_leastLiftedOn_102 cx hR hB24 h
    · have h := h.2 c5
      refine j_iload_n cx 4 rfl rfl dX1_leastLiftedOn_67 (pn := 68) rfl ?_
      refine j_iload cx 0 rfl dX1_leastLiftedOn_68 (pn := 70) rfl ?_
      refine j_iand cx dX1_leastLiftedOn_70 (pn := 71) rfl ?_
      refine j_if_eq cx 102 dX1_leastLiftedOn_71 (pn := 74) rfl rfl (fun c7 => ?_) (fun c7 => ?_)
      · have h := h.1 c7
        refine j_sub [1, 2, 3, 4, 5, 6] [(0, .ref a_o), (1, .int p1), (2, .int p2), (3, .int x3), (4, .int x4), (5, .int x5)] rfl ?_
        exact J_X1_leastLiftedOn_102 cx hR hB24 h
      · have h := h.2 c7
        refine j_iload cx 5 rfl dX1_leastLiftedOn_74 (pn := 76) rfl ?_
        refine j_aload_n cx 1 rfl rfl dX1_leastLiftedOn_76 (pn := 77) rfl ?_
        refine j_get cx inGX1 0 rfl rfl 0 (by decide) q_fl_X1_18 rfl rfl dX1_leastLiftedOn_77 (pn := 80) rfl ?_
        refine j_iload cx 0 rfl dX1_leastLiftedOn_80 (pn := 82) rfl ?_
        refine j_iload_n cx 3 rfl rfl dX1_leastLiftedOn_82 (pn := 83) rfl ?_
        refine j_callvI cx q_inst_X3_liftedTo q_sel_X3_liftedTo (b := a_f) (As := [.int y4, .int p2]) (rest := [.int x4]) (W_FT cyI cyJ cyZ a_f a_f_needs a_f_sideCounts a_f_yardSums a_f_beside f_all f_wanted f_mostSides f_needs f_sideCounts f_yardSums f_beside) [(a_o, .inr (1, [.ref a_f, .ref a_s, .ref a_o_fewestKept, .ref a_o_row, .int o_length, .int o_lifted, .int o_bestYards, .int o_bestHurdles, .int o_yards, .int o_hurdles])), (a_o_fewestKept, .inl (cyI, 91, .inl o_fewestKept)), (a_o_row, .inl (cyI, 10, .inl o_row)), (a_s, .inr (7, [.ref a_s_starts, .ref a_s_nexts, .ref a_s_values, va_rf s_listed])), (a_s_starts, .inl (cyI, 1025, .inl s_starts)), (a_s_nexts, .inl (cyI, 4096, .inl s_nexts)), (a_s_values, .inl (cyI, 4096, .inl s_values))] (c_X3_liftedTo h) ⟨q_code_X3_liftedTo, q_ml_X1_90, q_init_X3, hd_X3_liftedTo, ⟨Nat.le_of_ble_eq_true rfl, Nat.le_of_ble_eq_true rfl⟩, Nat.le_of_ble_eq_true rfl, Nat.le_of_ble_eq_true rfl⟩ (q0 := 0) rfl rfl rfl [3, 4, 5, 6, 7] [0, 1, 2, 8, 9, 10, 11] [0, 1, 2, 7, 8, 9, 10, 11, 3, 4, 5, 6] rfl rfl rfl rfl rfl (by decide) (fun _ : Unit => (W_Courses cyI cyJ cyZ a_o a_o_fewestKept a_o_row a_f a_f_needs a_f_sideCounts a_f_yardSums a_f_beside a_s a_s_starts a_s_nexts a_s_values o_length o_lifted o_bestYards o_bestHurdles o_yards o_hurdles o_fewestKept o_row f_all f_wanted f_mostSides f_needs f_sideCounts f_yardSums f_beside s_listed s_starts s_nexts s_values)) (fun _ => rfl) (fun _ => rfl) rfl rfl (Nat.le_of_ble_eq_true rfl) dX1_leastLiftedOn_83 (pn := 86) rfl (fun r8 _ h => ?_)
        show J x 0 0 7 (W_Courses cyI cyJ cyZ a_o a_o_fewestKept a_o_row a_f a_f_needs a_f_sideCounts a_f_yardSums a_f_beside a_s a_s_starts a_s_nexts a_s_values o_length o_lifted o_bestYards o_bestHurdles o_yards o_hurdles o_fewestKept o_row f_all f_wanted f_mostSides f_needs f_sideCounts f_yardSums f_beside s_listed s_starts s_nexts s_values) [(6, .int y4), (0, .ref a_o), (1, .int p1), (2, .int p2), (3, .int x3), (4, .int x4), (5, .int x5)] 86 [.int r8, .int x4]
        refine j_aload_n cx 1 rfl rfl dX1_leastLiftedOn_86 (pn := 87) rfl ?_
        refine j_get cx inGX1 0 rfl rfl 1 (by decide) q_fl_X1_22 rfl rfl dX1_leastLiftedOn_87 (pn := 90) rfl ?_
        refine j_getN cx inGX7 8 rfl rfl 2 (by decide) q_fl_X1_102 rfl rfl dX1_leastLiftedOn_90 (pn := 93) rfl ?_
        refine j_iload cx 6 rfl dX1_leastLiftedOn_93 (pn := 95) rfl ?_
        refine j_iald cx 11 0 rfl rfl h.1 dX1_leastLiftedOn_95 (pn := 96) rfl ?_
        have h := h.2
        refine j_iadd cx dX1_leastLiftedOn_96 (pn := 97) rfl ?_
        refine j_mmin cx q_ml_X1_58 q_stat_J9_min_7cf53 q_init_J9 q_code_J9_min_7cf53 (Nat.le_of_ble_eq_true rfl) (Nat.le_of_ble_eq_true rfl) (Nat.zero_le _) (Nat.zero_le _) dX1_leastLiftedOn_97 (pn := 100) rfl ?_
        refine j_topi (fun y9 ey9 => ?_)
        have h := h y9 ey9
        refine j_istore cx [(4, .int y9), (6, .int y4), (0, .ref a_o), (1, .int p1), (2, .int p2), (3, .int x3), (5, .int x5)] (by decide) rfl dX1_leastLiftedOn_100 (pn := 102) rfl ?_
        refine j_sub [2, 3, 4, 5, 0, 6] [(0, .ref a_o), (1, .int p1), (2, .int p2), (3, .int x3), (4, .int y9), (5, .int x5)] rfl ?_
        exact J_X1_leastLiftedOn_102 cx hR hB24 h
set_option maxHeartbeats 4000000 in
set_option maxRecDepth 100000 in
theorem J_X1_leastLiftedOn_24 {x : CX} {D : DG} {cyI cyJ cyZ : ClassId} {a_o a_o_fewestKept a_o_row a_f a_f_needs a_f_sideCounts a_f_yardSums a_f_beside a_s a_s_starts a_s_nexts a_s_values : Nat} {o_length : Int32} {o_lifted : Int32} {o_bestYards : Int32} {o_bestHurdles : Int32} {o_yards : Int32} {o_hurdles : Int32} {o_fewestKept : Nat → Int32} {o_row : Nat → Int32} {f_all : Int32} {f_wanted : Int32} {f_mostSides : Int32} {f_needs : Nat → Int32} {f_sideCounts : Nat → Int32} {f_yardSums : Nat → Int32} {f_beside : Nat → Int32} {s_listed : Option Nat} {s_starts : Nat → Int32} {s_nexts : Nat → Int32} {s_values : Nat → Int32} {p1 : Int32} {p2 : Int32} {x3 : Int32} {x4 : Int32} {x5 : Int32} {Q : Int32 → Prop} (cx : Cx x cX1_leastLiftedOn 7 RX1 rm_X1_leastLiftedOn D [(cyI, .int), (cyJ, .long), (cyZ, .boolean)]) (hR : ∀ (v : Int32) (pc : Nat) (lv : List (Nat × Value)), decode cX1_leastLiftedOn pc = .ok (.ireturn, 1) → Q v → J x 0 0 7 (W_Courses cyI cyJ cyZ a_o a_o_fewestKept a_o_row a_f a_f_needs a_f_sideCounts a_f_yardSums a_f_beside a_s a_s_starts a_s_nexts a_s_values o_length o_lifted o_bestYards o_bestHurdles o_yards o_hurdles o_fewestKept o_row f_all f_wanted f_mostSides f_needs f_sideCounts f_yardSums f_beside s_listed s_starts s_nexts s_values) lv pc [.int v]) (h : lp_X1_leastLiftedOn_24 Q  p1 p2 x3 f_needs s_starts s_nexts s_values x4 x5) :
    J x 0 0 7 (W_Courses cyI cyJ cyZ a_o a_o_fewestKept a_o_row a_f a_f_needs a_f_sideCounts a_f_yardSums a_f_beside a_s a_s_starts a_s_nexts a_s_values o_length o_lifted o_bestYards o_bestHurdles o_yards o_hurdles o_fewestKept o_row f_all f_wanted f_mostSides f_needs f_sideCounts f_yardSums f_beside s_listed s_starts s_nexts s_values) [(0, .ref a_o), (1, .int p1), (2, .int p2), (3, .int x3), (4, .int x4), (5, .int x5)] 24 [] := by
  obtain ⟨I, ⟨n, h0⟩, hb⟩ := h
  revert x4 x5
  induction n using Nat.strongRecOn with
  | _ n ih =>
    intro x4 x5 h0
    exact B_X1_leastLiftedOn_24 cx hR (fun _ _ hz => by obtain ⟨n2, hlt, hI⟩ := hz; exact ih n2 hlt hI) (hb n x4 x5 h0)
set_option maxHeartbeats 4000000 in
set_option maxRecDepth 100000 in
theorem c_X1_leastLiftedOn {D : DG} {cyI cyJ cyZ : ClassId} {a_o a_o_fewestKept a_o_row a_f a_f_needs a_f_sideCounts a_f_yardSums a_f_beside a_s a_s_starts a_s_nexts a_s_values : Nat} {o_length : Int32} {o_lifted : Int32} {o_bestYards : Int32} {o_bestHurdles : Int32} {o_yards : Int32} {o_hurdles : Int32} {o_fewestKept : Nat → Int32} {o_row : Nat → Int32} {f_all : Int32} {f_wanted : Int32} {f_mostSides : Int32} {f_needs : Nat → Int32} {f_sideCounts : Nat → Int32} {f_yardSums : Nat → Int32} {f_beside : Nat → Int32} {s_listed : Option Nat} {s_starts : Nat → Int32} {s_nexts : Nat → Int32} {s_values : Nat → Int32} {p1 : Int32} {p2 : Int32} {Q : Int32 → Prop} (h : wp_X1_leastLiftedOn p1 p2 f_all f_needs f_beside s_starts s_nexts s_values Q) :
    MetI yX1_leastLiftedOn cX1_leastLiftedOn 7 (some .int) rm_X1_leastLiftedOn D [(cyI, .int), (cyJ, .long), (cyZ, .boolean)] [.ref a_o, .int p1, .int p2] (W_Courses cyI cyJ cyZ a_o a_o_fewestKept a_o_row a_f a_f_needs a_f_sideCounts a_f_yardSums a_f_beside a_s a_s_starts a_s_nexts a_s_values o_length o_lifted o_bestYards o_bestHurdles o_yards o_hurdles o_fewestKept o_row f_all f_wanted f_mostSides f_needs f_sideCounts f_yardSums f_beside s_listed s_starts s_nexts s_values) (fun _ : Unit => (W_Courses cyI cyJ cyZ a_o a_o_fewestKept a_o_row a_f a_f_needs a_f_sideCounts a_f_yardSums a_f_beside a_s a_s_starts a_s_nexts a_s_values o_length o_lifted o_bestYards o_bestHurdles o_yards o_hurdles o_fewestKept o_row f_all f_wanted f_mostSides f_needs f_sideCounts f_yardSums f_beside s_listed s_starts s_nexts s_values)) (fun v _ => Q v ) := by
  unfold wp_X1_leastLiftedOn at h
  refine metI_of (by decide) (Nat.le_of_ble_eq_true rfl) (fun x cx0 hR0 => ?_)
  have cx : Cx x cX1_leastLiftedOn 7 RX1 rm_X1_leastLiftedOn D [(cyI, .int), (cyJ, .long), (cyZ, .boolean)] := cx0
  have hR : ∀ (v : Int32) (pc : Nat) (lv : List (Nat × Value)), decode cX1_leastLiftedOn pc = .ok (.ireturn, 1) → Q v → J x 0 0 7 (W_Courses cyI cyJ cyZ a_o a_o_fewestKept a_o_row a_f a_f_needs a_f_sideCounts a_f_yardSums a_f_beside a_s a_s_starts a_s_nexts a_s_values o_length o_lifted o_bestYards o_bestHurdles o_yards o_hurdles o_fewestKept o_row f_all f_wanted f_mostSides f_needs f_sideCounts f_yardSums f_beside s_listed s_starts s_nexts s_values) lv pc [.int v] := (fun v pc lv d hq => hR0 v () pc lv d hq)
  show J x 0 0 7 (W_Courses cyI cyJ cyZ a_o a_o_fewestKept a_o_row a_f a_f_needs a_f_sideCounts a_f_yardSums a_f_beside a_s a_s_starts a_s_nexts a_s_values o_length o_lifted o_bestYards o_bestHurdles o_yards o_hurdles o_fewestKept o_row f_all f_wanted f_mostSides f_needs f_sideCounts f_yardSums f_beside s_listed s_starts s_nexts s_values) [(0, .ref a_o), (1, .int p1), (2, .int p2)] 0 []
  refine j_aload_n cx 0 rfl rfl dX1_leastLiftedOn_0 (pn := 1) rfl ?_
  refine j_get cx inGX1 0 rfl rfl 0 (by decide) q_fl_X1_18 rfl rfl dX1_leastLiftedOn_1 (pn := 4) rfl ?_
  refine j_iload_n cx 2 rfl rfl dX1_leastLiftedOn_4 (pn := 5) rfl ?_
  refine j_callvI cx q_inst_X3_nextTo q_sel_X3_nextTo (b := a_f) (As := [.int p2]) (rest := []) (W_FT cyI cyJ cyZ a_f a_f_needs a_f_sideCounts a_f_yardSums a_f_beside f_all f_wanted f_mostSides f_needs f_sideCounts f_yardSums f_beside) [(a_o, .inr (1, [.ref a_f, .ref a_s, .ref a_o_fewestKept, .ref a_o_row, .int o_length, .int o_lifted, .int o_bestYards, .int o_bestHurdles, .int o_yards, .int o_hurdles])), (a_o_fewestKept, .inl (cyI, 91, .inl o_fewestKept)), (a_o_row, .inl (cyI, 10, .inl o_row)), (a_s, .inr (7, [.ref a_s_starts, .ref a_s_nexts, .ref a_s_values, va_rf s_listed])), (a_s_starts, .inl (cyI, 1025, .inl s_starts)), (a_s_nexts, .inl (cyI, 4096, .inl s_nexts)), (a_s_values, .inl (cyI, 4096, .inl s_values))] (c_X3_nextTo h) ⟨q_code_X3_nextTo, q_ml_X1_93, q_init_X3, hd_X3_nextTo, ⟨Nat.le_of_ble_eq_true rfl, Nat.le_of_ble_eq_true rfl⟩, Nat.le_of_ble_eq_true rfl, Nat.le_of_ble_eq_true rfl⟩ (q0 := 0) rfl rfl rfl [3, 4, 5, 6, 7] [0, 1, 2, 8, 9, 10, 11] [0, 1, 2, 7, 8, 9, 10, 11, 3, 4, 5, 6] rfl rfl rfl rfl rfl (by decide) (fun _ : Unit => (W_Courses cyI cyJ cyZ a_o a_o_fewestKept a_o_row a_f a_f_needs a_f_sideCounts a_f_yardSums a_f_beside a_s a_s_starts a_s_nexts a_s_values o_length o_lifted o_bestYards o_bestHurdles o_yards o_hurdles o_fewestKept o_row f_all f_wanted f_mostSides f_needs f_sideCounts f_yardSums f_beside s_listed s_starts s_nexts s_values)) (fun _ => rfl) (fun _ => rfl) rfl rfl (Nat.le_of_ble_eq_true rfl) dX1_leastLiftedOn_5 (pn := 8) rfl (fun r1 _ h => ?_)
  show J x 0 0 7 (W_Courses cyI cyJ cyZ a_o a_o_fewestKept a_o_row a_f a_f_needs a_f_sideCounts a_f_yardSums a_f_beside a_s a_s_starts a_s_nexts a_s_values o_length o_lifted o_bestYards o_bestHurdles o_yards o_hurdles o_fewestKept o_row f_all f_wanted f_mostSides f_needs f_sideCounts f_yardSums f_beside s_listed s_starts s_nexts s_values) [(0, .ref a_o), (1, .int p1), (2, .int p2)] 8 [.int r1]
  refine j_istore_n cx rfl [(3, .int r1), (0, .ref a_o), (1, .int p1), (2, .int p2)] (by decide) rfl dX1_leastLiftedOn_8 (pn := 9) rfl ?_
  refine j_ldc cx q_c_X1_78 dX1_leastLiftedOn_9 (pn := 11) rfl ?_
  refine j_istore cx [(4, .int 1048576), (3, .int r1), (0, .ref a_o), (1, .int p1), (2, .int p2)] (by decide) rfl dX1_leastLiftedOn_11 (pn := 13) rfl ?_
  refine j_aload_n cx 2 rfl rfl dX1_leastLiftedOn_13 (pn := 14) rfl ?_
  refine j_get cx inGX1 0 rfl rfl 1 (by decide) q_fl_X1_22 rfl rfl dX1_leastLiftedOn_14 (pn := 17) rfl ?_
  refine j_getN cx inGX7 8 rfl rfl 0 (by decide) q_fl_X1_96 rfl rfl dX1_leastLiftedOn_17 (pn := 20) rfl ?_
  refine j_iload_n cx 3 rfl rfl dX1_leastLiftedOn_20 (pn := 21) rfl ?_
  refine j_iald cx 9 0 rfl rfl h.1 dX1_leastLiftedOn_21 (pn := 22) rfl ?_
  have h := h.2
  refine j_topi (fun y2 ey2 => ?_)
  have h := h y2 ey2
  refine j_istore cx [(5, .int y2), (4, .int 1048576), (3, .int r1), (0, .ref a_o), (1, .int p1), (2, .int p2)] (by decide) rfl dX1_leastLiftedOn_22 (pn := 24) rfl ?_
  refine j_sub [3, 4, 5, 2, 1, 0] [(0, .ref a_o), (1, .int p1), (2, .int p2), (3, .int r1), (4, .int 1048576), (5, .int y2)] rfl ?_
  exact J_X1_leastLiftedOn_24 cx hR h
theorem dX1_leastBehind_0 : decode cX1_leastBehind 0 = .ok (.aload_n 0, 1) := by decide +kernel
theorem dX1_leastBehind_1 : decode cX1_leastBehind 1 = .ok (.getfield 18, 3) := by decide +kernel
theorem dX1_leastBehind_4 : decode cX1_leastBehind 4 = .ok (.getfield 127, 3) := by decide +kernel
theorem dX1_leastBehind_7 : decode cX1_leastBehind 7 = .ok (.iload_n 3, 1) := by decide +kernel
theorem dX1_leastBehind_8 : decode cX1_leastBehind 8 = .ok (.iaload, 1) := by decide +kernel
theorem dX1_leastBehind_9 : decode cX1_leastBehind 9 = .ok (.aload_n 0, 1) := by decide +kernel
theorem dX1_leastBehind_10 : decode cX1_leastBehind 10 = .ok (.getfield 115, 3) := by decide +kernel
theorem dX1_leastBehind_13 : decode cX1_leastBehind 13 = .ok (.if_icmp .le 6, 3) := by decide +kernel
theorem dX1_leastBehind_16 : decode cX1_leastBehind 16 = .ok (.ldc 78, 2) := by decide +kernel
theorem dX1_leastBehind_18 : decode cX1_leastBehind 18 = .ok (.ireturn, 1) := by decide +kernel
theorem dX1_leastBehind_19 : decode cX1_leastBehind 19 = .ok (.aload_n 0, 1) := by decide +kernel
theorem dX1_leastBehind_20 : decode cX1_leastBehind 20 = .ok (.iload_n 2, 1) := by decide +kernel
theorem dX1_leastBehind_21 : decode cX1_leastBehind 21 = .ok (.invokevirtual 82, 3) := by decide +kernel
theorem dX1_leastBehind_24 : decode cX1_leastBehind 24 = .ok (.ifCond .eq 5, 3) := by decide +kernel
theorem dX1_leastBehind_27 : decode cX1_leastBehind 27 = .ok (.iconst 0, 1) := by decide +kernel
theorem dX1_leastBehind_28 : decode cX1_leastBehind 28 = .ok (.ireturn, 1) := by decide +kernel
theorem dX1_leastBehind_29 : decode cX1_leastBehind 29 = .ok (.aload_n 0, 1) := by decide +kernel
theorem dX1_leastBehind_30 : decode cX1_leastBehind 30 = .ok (.getfield 18, 3) := by decide +kernel
theorem dX1_leastBehind_33 : decode cX1_leastBehind 33 = .ok (.getfield 130, 3) := by decide +kernel
theorem dX1_leastBehind_36 : decode cX1_leastBehind 36 = .ok (.iload_n 3, 1) := by decide +kernel
theorem dX1_leastBehind_37 : decode cX1_leastBehind 37 = .ok (.iaload, 1) := by decide +kernel
theorem dX1_leastBehind_38 : decode cX1_leastBehind 38 = .ok (.aload_n 0, 1) := by decide +kernel
theorem dX1_leastBehind_39 : decode cX1_leastBehind 39 = .ok (.getfield 112, 3) := by decide +kernel
theorem dX1_leastBehind_42 : decode cX1_leastBehind 42 = .ok (.if_icmp .ge 6, 3) := by decide +kernel
theorem dX1_leastBehind_45 : decode cX1_leastBehind 45 = .ok (.ldc 78, 2) := by decide +kernel
theorem dX1_leastBehind_47 : decode cX1_leastBehind 47 = .ok (.ireturn, 1) := by decide +kernel
theorem dX1_leastBehind_48 : decode cX1_leastBehind 48 = .ok (.iload_n 1, 1) := by decide +kernel
theorem dX1_leastBehind_49 : decode cX1_leastBehind 49 = .ok (.ifCond .ne 12, 3) := by decide +kernel
theorem dX1_leastBehind_52 : decode cX1_leastBehind 52 = .ok (.aload_n 0, 1) := by decide +kernel
theorem dX1_leastBehind_53 : decode cX1_leastBehind 53 = .ok (.iload_n 2, 1) := by decide +kernel
theorem dX1_leastBehind_54 : decode cX1_leastBehind 54 = .ok (.iload_n 3, 1) := by decide +kernel
theorem dX1_leastBehind_55 : decode cX1_leastBehind 55 = .ok (.invokevirtual 50, 3) := by decide +kernel
theorem dX1_leastBehind_58 : decode cX1_leastBehind 58 = .ok (.goto 9, 3) := by decide +kernel
theorem dX1_leastBehind_61 : decode cX1_leastBehind 61 = .ok (.aload_n 0, 1) := by decide +kernel
theorem dX1_leastBehind_62 : decode cX1_leastBehind 62 = .ok (.iload_n 2, 1) := by decide +kernel
theorem dX1_leastBehind_63 : decode cX1_leastBehind 63 = .ok (.iload_n 3, 1) := by decide +kernel
theorem dX1_leastBehind_64 : decode cX1_leastBehind 64 = .ok (.invokevirtual 66, 3) := by decide +kernel
theorem dX1_leastBehind_67 : decode cX1_leastBehind 67 = .ok (.ireturn, 1) := by decide +kernel
abbrev rm_X1_leastBehind : Room := { frames := 3, cells := 0, slots := 0, locals := 68 }
theorem hd_X1_leastBehind : yX1_leastBehind.cls ≠ "java/lang/invoke/MethodHandle" ∧ yX1_leastBehind.cls ≠ "java/lang/invoke/VarHandle" ∧ (parseMethodDescriptor yX1_leastBehind.desc).map (fun d => d.parameters.length) = some 3 := by decide +kernel
def wp_X1_leastBehind (p1 : Int32) (p2 : Int32) (p3 : Int32) (o_yards : Int32) (o_hurdles : Int32) (f_all : Int32) (f_wanted : Int32) (f_needs : Nat → Int32) (f_sideCounts : Nat → Int32) (f_yardSums : Nat → Int32) (f_beside : Nat → Int32) (s_starts : Nat → Int32) (s_nexts : Nat → Int32) (s_values : Nat → Int32) (Q : Int32 → Prop) : Prop :=
vp_in p3 1024 ∧ (((f_sideCounts p3.toNatClampNeg) ≤ o_hurdles → wp_X1_isGone p2 f_wanted (fun (r2 : Int32) => ((r2 = 0 → vp_in p3 1024 ∧ ((o_yards ≤ (f_yardSums p3.toNatClampNeg) → ((¬ p1 = 0 → wp_X1_leastLiftedOn p2 p3 f_all f_needs f_beside s_starts s_nexts s_values (fun (r6 : Int32) => Q r6)) ∧
(p1 = 0 → wp_X1_leastNeededOn p2 p3 f_all f_sideCounts f_beside s_starts s_nexts s_values (fun (r7 : Int32) => Q r7)))) ∧
(¬ o_yards ≤ (f_yardSums p3.toNatClampNeg) → Q 1048576))) ∧
(¬ r2 = 0 → Q 0)))) ∧
(¬ (f_sideCounts p3.toNatClampNeg) ≤ o_hurdles → Q 1048576))
set_option maxHeartbeats 4000000 in
set_option maxRecDepth 100000 in
theorem c_X1_leastBehind {D : DG} {cyI cyJ cyZ : ClassId} {a_o a_o_fewestKept a_o_row a_f a_f_needs a_f_sideCounts a_f_yardSums a_f_beside a_s a_s_starts a_s_nexts a_s_values : Nat} {o_length : Int32} {o_lifted : Int32} {o_bestYards : Int32} {o_bestHurdles : Int32} {o_yards : Int32} {o_hurdles : Int32} {o_fewestKept : Nat → Int32} {o_row : Nat → Int32} {f_all : Int32} {f_wanted : Int32} {f_mostSides : Int32} {f_needs : Nat → Int32} {f_sideCounts : Nat → Int32} {f_yardSums : Nat → Int32} {f_beside : Nat → Int32} {s_listed : Option Nat} {s_starts : Nat → Int32} {s_nexts : Nat → Int32} {s_values : Nat → Int32} {p1 : Int32} {p2 : Int32} {p3 : Int32} {Q : Int32 → Prop} (h : wp_X1_leastBehind p1 p2 p3 o_yards o_hurdles f_all f_wanted f_needs f_sideCounts f_yardSums f_beside s_starts s_nexts s_values Q) :
    MetI yX1_leastBehind cX1_leastBehind 4 (some .int) rm_X1_leastBehind D [(cyI, .int), (cyJ, .long), (cyZ, .boolean)] [.ref a_o, .int p1, .int p2, .int p3] (W_Courses cyI cyJ cyZ a_o a_o_fewestKept a_o_row a_f a_f_needs a_f_sideCounts a_f_yardSums a_f_beside a_s a_s_starts a_s_nexts a_s_values o_length o_lifted o_bestYards o_bestHurdles o_yards o_hurdles o_fewestKept o_row f_all f_wanted f_mostSides f_needs f_sideCounts f_yardSums f_beside s_listed s_starts s_nexts s_values) (fun _ : Unit => (W_Courses cyI cyJ cyZ a_o a_o_fewestKept a_o_row a_f a_f_needs a_f_sideCounts a_f_yardSums a_f_beside a_s a_s_starts a_s_nexts a_s_values o_length o_lifted o_bestYards o_bestHurdles o_yards o_hurdles o_fewestKept o_row f_all f_wanted f_mostSides f_needs f_sideCounts f_yardSums f_beside s_listed s_starts s_nexts s_values)) (fun v _ => Q v ) := by
  unfold wp_X1_leastBehind at h
  refine metI_of (by decide) (Nat.le_of_ble_eq_true rfl) (fun x cx0 hR0 => ?_)
  have cx : Cx x cX1_leastBehind 4 RX1 rm_X1_leastBehind D [(cyI, .int), (cyJ, .long), (cyZ, .boolean)] := cx0
  have hR : ∀ (v : Int32) (pc : Nat) (lv : List (Nat × Value)), decode cX1_leastBehind pc = .ok (.ireturn, 1) → Q v → J x 0 0 4 (W_Courses cyI cyJ cyZ a_o a_o_fewestKept a_o_row a_f a_f_needs a_f_sideCounts a_f_yardSums a_f_beside a_s a_s_starts a_s_nexts a_s_values o_length o_lifted o_bestYards o_bestHurdles o_yards o_hurdles o_fewestKept o_row f_all f_wanted f_mostSides f_needs f_sideCounts f_yardSums f_beside s_listed s_starts s_nexts s_values) lv pc [.int v] := (fun v pc lv d hq => hR0 v () pc lv d hq)
  show J x 0 0 4 (W_Courses cyI cyJ cyZ a_o a_o_fewestKept a_o_row a_f a_f_needs a_f_sideCounts a_f_yardSums a_f_beside a_s a_s_starts a_s_nexts a_s_values o_length o_lifted o_bestYards o_bestHurdles o_yards o_hurdles o_fewestKept o_row f_all f_wanted f_mostSides f_needs f_sideCounts f_yardSums f_beside s_listed s_starts s_nexts s_values) [(0, .ref a_o), (1, .int p1), (2, .int p2), (3, .int p3)] 0 []
  refine j_aload_n cx 0 rfl rfl dX1_leastBehind_0 (pn := 1) rfl ?_
  refine j_get cx inGX1 0 rfl rfl 0 (by decide) q_fl_X1_18 rfl rfl dX1_leastBehind_1 (pn := 4) rfl ?_
  refine j_getN cx inGX3 3 rfl rfl 1 (by decide) q_fl_X1_127 rfl rfl dX1_leastBehind_4 (pn := 7) rfl ?_
  refine j_iload_n cx 3 rfl rfl dX1_leastBehind_7 (pn := 8) rfl ?_
  refine j_iald cx 5 0 rfl rfl h.1 dX1_leastBehind_8 (pn := 9) rfl ?_
  have h := h.2
  refine j_aload_n cx 0 rfl rfl dX1_leastBehind_9 (pn := 10) rfl ?_
  refine j_get cx inGX1 0 rfl rfl 9 (by decide) q_fl_X1_115 rfl rfl dX1_leastBehind_10 (pn := 13) rfl ?_
  refine j_icmp_le cx 19 dX1_leastBehind_13 (pn := 16) rfl rfl (fun c1 => ?_) (fun c1 => ?_)
  · have h := h.1 c1
    refine j_aload_n cx 0 rfl rfl dX1_leastBehind_19 (pn := 20) rfl ?_
    refine j_iload_n cx 2 rfl rfl dX1_leastBehind_20 (pn := 21) rfl ?_
    refine j_callvI0 cx q_inst_X1_isGone q_sel_X1_isGone (b := a_o) (As := [.int p2]) (rest := []) (c_X1_isGone h) ⟨q_code_X1_isGone, q_ml_X1_82, q_init_X1, hd_X1_isGone, ⟨Nat.le_of_ble_eq_true rfl, Nat.le_of_ble_eq_true rfl⟩, Nat.le_of_ble_eq_true rfl, Nat.le_of_ble_eq_true rfl⟩ (q0 := 0) rfl rfl rfl rfl (Nat.le_of_ble_eq_true rfl) dX1_leastBehind_21 (pn := 24) rfl (fun r2 _ h => ?_)
    show J x 0 0 4 (W_Courses cyI cyJ cyZ a_o a_o_fewestKept a_o_row a_f a_f_needs a_f_sideCounts a_f_yardSums a_f_beside a_s a_s_starts a_s_nexts a_s_values o_length o_lifted o_bestYards o_bestHurdles o_yards o_hurdles o_fewestKept o_row f_all f_wanted f_mostSides f_needs f_sideCounts f_yardSums f_beside s_listed s_starts s_nexts s_values) [(0, .ref a_o), (1, .int p1), (2, .int p2), (3, .int p3)] 24 [.int r2]
    refine j_if_eq cx 29 dX1_leastBehind_24 (pn := 27) rfl rfl (fun c3 => ?_) (fun c3 => ?_)
    · have h := h.1 c3
      refine j_aload_n cx 0 rfl rfl dX1_leastBehind_29 (pn := 30) rfl ?_
      refine j_get cx inGX1 0 rfl rfl 0 (by decide) q_fl_X1_18 rfl rfl dX1_leastBehind_30 (pn := 33) rfl ?_
      refine j_getN cx inGX3 3 rfl rfl 2 (by decide) q_fl_X1_130 rfl rfl dX1_leastBehind_33 (pn := 36) rfl ?_
      refine j_iload_n cx 3 rfl rfl dX1_leastBehind_36 (pn := 37) rfl ?_
      refine j_iald cx 6 0 rfl rfl h.1 dX1_leastBehind_37 (pn := 38) rfl ?_
      have h := h.2
      refine j_aload_n cx 0 rfl rfl dX1_leastBehind_38 (pn := 39) rfl ?_
      refine j_get cx inGX1 0 rfl rfl 8 (by decide) q_fl_X1_112 rfl rfl dX1_leastBehind_39 (pn := 42) rfl ?_
      refine j_icmp_ge cx 48 dX1_leastBehind_42 (pn := 45) rfl rfl (fun c4 => ?_) (fun c4 => ?_)
      · have h := h.1 c4
        refine j_iload_n cx 1 rfl rfl dX1_leastBehind_48 (pn := 49) rfl ?_
        refine j_if_ne cx 61 dX1_leastBehind_49 (pn := 52) rfl rfl (fun c5 => ?_) (fun c5 => ?_)
        · have h := h.1 c5
          refine j_aload_n cx 0 rfl rfl dX1_leastBehind_61 (pn := 62) rfl ?_
          refine j_iload_n cx 2 rfl rfl dX1_leastBehind_62 (pn := 63) rfl ?_
          refine j_iload_n cx 3 rfl rfl dX1_leastBehind_63 (pn := 64) rfl ?_
          refine j_callvI0 cx q_inst_X1_leastLiftedOn q_sel_X1_leastLiftedOn (b := a_o) (As := [.int p2, .int p3]) (rest := []) (c_X1_leastLiftedOn h) ⟨q_code_X1_leastLiftedOn, q_ml_X1_66, q_init_X1, hd_X1_leastLiftedOn, ⟨Nat.le_of_ble_eq_true rfl, Nat.le_of_ble_eq_true rfl⟩, Nat.le_of_ble_eq_true rfl, Nat.le_of_ble_eq_true rfl⟩ (q0 := 0) rfl rfl rfl rfl (Nat.le_of_ble_eq_true rfl) dX1_leastBehind_64 (pn := 67) rfl (fun r6 _ h => ?_)
          show J x 0 0 4 (W_Courses cyI cyJ cyZ a_o a_o_fewestKept a_o_row a_f a_f_needs a_f_sideCounts a_f_yardSums a_f_beside a_s a_s_starts a_s_nexts a_s_values o_length o_lifted o_bestYards o_bestHurdles o_yards o_hurdles o_fewestKept o_row f_all f_wanted f_mostSides f_needs f_sideCounts f_yardSums f_beside s_listed s_starts s_nexts s_values) [(0, .ref a_o), (1, .int p1), (2, .int p2), (3, .int p3)] 67 [.int r6]
          exact hR r6 67 _ dX1_leastBehind_67 h
        · have h := h.2 c5
          refine j_aload_n cx 0 rfl rfl dX1_leastBehind_52 (pn := 53) rfl ?_
          refine j_iload_n cx 2 rfl rfl dX1_leastBehind_53 (pn := 54) rfl ?_
          refine j_iload_n cx 3 rfl rfl dX1_leastBehind_54 (pn := 55) rfl ?_
          refine j_callvI0 cx q_inst_X1_leastNeededOn q_sel_X1_leastNeededOn (b := a_o) (As := [.int p2, .int p3]) (rest := []) (c_X1_leastNeededOn h) ⟨q_code_X1_leastNeededOn, q_ml_X1_50, q_init_X1, hd_X1_leastNeededOn, ⟨Nat.le_of_ble_eq_true rfl, Nat.le_of_ble_eq_true rfl⟩, Nat.le_of_ble_eq_true rfl, Nat.le_of_ble_eq_true rfl⟩ (q0 := 0) rfl rfl rfl rfl (Nat.le_of_ble_eq_true rfl) dX1_leastBehind_55 (pn := 58) rfl (fun r7 _ h => ?_)
          show J x 0 0 4 (W_Courses cyI cyJ cyZ a_o a_o_fewestKept a_o_row a_f a_f_needs a_f_sideCounts a_f_yardSums a_f_beside a_s a_s_starts a_s_nexts a_s_values o_length o_lifted o_bestYards o_bestHurdles o_yards o_hurdles o_fewestKept o_row f_all f_wanted f_mostSides f_needs f_sideCounts f_yardSums f_beside s_listed s_starts s_nexts s_values) [(0, .ref a_o), (1, .int p1), (2, .int p2), (3, .int p3)] 58 [.int r7]
          refine j_goto cx 67 dX1_leastBehind_58 rfl ?_
          exact hR r7 67 _ dX1_leastBehind_67 h
      · have h := h.2 c4
        refine j_ldc cx q_c_X1_78 dX1_leastBehind_45 (pn := 47) rfl ?_
        exact hR 1048576 47 _ dX1_leastBehind_47 h
    · have h := h.2 c3
      refine j_iconst cx (v := 0) (by decide) dX1_leastBehind_27 (pn := 28) rfl ?_
      exact hR 0 28 _ dX1_leastBehind_28 h
  · have h := h.2 c1
    refine j_ldc cx q_c_X1_78 dX1_leastBehind_16 (pn := 18) rfl ?_
    exact hR 1048576 18 _ dX1_leastBehind_18 h
theorem dX1_workOut_0 : decode cX1_workOut 0 = .ok (.aload_n 0, 1) := by decide +kernel
theorem dX1_workOut_1 : decode cX1_workOut 1 = .ok (.getfield 22, 3) := by decide +kernel
theorem dX1_workOut_4 : decode cX1_workOut 4 = .ok (.aload_n 0, 1) := by decide +kernel
theorem dX1_workOut_5 : decode cX1_workOut 5 = .ok (.getfield 18, 3) := by decide +kernel
theorem dX1_workOut_8 : decode cX1_workOut 8 = .ok (.invokevirtual 108, 3) := by decide +kernel
theorem dX1_workOut_11 : decode cX1_workOut 11 = .ok (.aload_n 0, 1) := by decide +kernel
theorem dX1_workOut_12 : decode cX1_workOut 12 = .ok (.iload_n 2, 1) := by decide +kernel
theorem dX1_workOut_13 : decode cX1_workOut 13 = .ok (.putfield 112, 3) := by decide +kernel
theorem dX1_workOut_16 : decode cX1_workOut 16 = .ok (.aload_n 0, 1) := by decide +kernel
theorem dX1_workOut_17 : decode cX1_workOut 17 = .ok (.iload_n 3, 1) := by decide +kernel
theorem dX1_workOut_18 : decode cX1_workOut 18 = .ok (.putfield 115, 3) := by decide +kernel
theorem dX1_workOut_21 : decode cX1_workOut 21 = .ok (.aload_n 0, 1) := by decide +kernel
theorem dX1_workOut_22 : decode cX1_workOut 22 = .ok (.getfield 18, 3) := by decide +kernel
theorem dX1_workOut_25 : decode cX1_workOut 25 = .ok (.getfield 118, 3) := by decide +kernel
theorem dX1_workOut_28 : decode cX1_workOut 28 = .ok (.istore 4, 2) := by decide +kernel
theorem dX1_workOut_30 : decode cX1_workOut 30 = .ok (.iload 4, 2) := by decide +kernel
theorem dX1_workOut_32 : decode cX1_workOut 32 = .ok (.ifCond .lt 97, 3) := by decide +kernel
theorem dX1_workOut_35 : decode cX1_workOut 35 = .ok (.aload_n 0, 1) := by decide +kernel
theorem dX1_workOut_36 : decode cX1_workOut 36 = .ok (.getfield 22, 3) := by decide +kernel
theorem dX1_workOut_39 : decode cX1_workOut 39 = .ok (.getfield 96, 3) := by decide +kernel
theorem dX1_workOut_42 : decode cX1_workOut 42 = .ok (.iload 4, 2) := by decide +kernel
theorem dX1_workOut_44 : decode cX1_workOut 44 = .ok (.iaload, 1) := by decide +kernel
theorem dX1_workOut_45 : decode cX1_workOut 45 = .ok (.istore 5, 2) := by decide +kernel
theorem dX1_workOut_47 : decode cX1_workOut 47 = .ok (.iload 5, 2) := by decide +kernel
theorem dX1_workOut_49 : decode cX1_workOut 49 = .ok (.aload_n 0, 1) := by decide +kernel
theorem dX1_workOut_50 : decode cX1_workOut 50 = .ok (.getfield 22, 3) := by decide +kernel
theorem dX1_workOut_53 : decode cX1_workOut 53 = .ok (.getfield 96, 3) := by decide +kernel
theorem dX1_workOut_56 : decode cX1_workOut 56 = .ok (.iload 4, 2) := by decide +kernel
theorem dX1_workOut_58 : decode cX1_workOut 58 = .ok (.iconst 1, 1) := by decide +kernel
theorem dX1_workOut_59 : decode cX1_workOut 59 = .ok (.iadd, 1) := by decide +kernel
theorem dX1_workOut_60 : decode cX1_workOut 60 = .ok (.iaload, 1) := by decide +kernel
theorem dX1_workOut_61 : decode cX1_workOut 61 = .ok (.if_icmp .ge 62, 3) := by decide +kernel
theorem dX1_workOut_64 : decode cX1_workOut 64 = .ok (.aload_n 0, 1) := by decide +kernel
theorem dX1_workOut_65 : decode cX1_workOut 65 = .ok (.getfield 22, 3) := by decide +kernel
theorem dX1_workOut_68 : decode cX1_workOut 68 = .ok (.getfield 99, 3) := by decide +kernel
theorem dX1_workOut_71 : decode cX1_workOut 71 = .ok (.iload 5, 2) := by decide +kernel
theorem dX1_workOut_73 : decode cX1_workOut 73 = .ok (.iaload, 1) := by decide +kernel
theorem dX1_workOut_74 : decode cX1_workOut 74 = .ok (.istore 6, 2) := by decide +kernel
theorem dX1_workOut_76 : decode cX1_workOut 76 = .ok (.aload_n 0, 1) := by decide +kernel
theorem dX1_workOut_77 : decode cX1_workOut 77 = .ok (.getfield 22, 3) := by decide +kernel
theorem dX1_workOut_80 : decode cX1_workOut 80 = .ok (.getfield 102, 3) := by decide +kernel
theorem dX1_workOut_83 : decode cX1_workOut 83 = .ok (.iload 5, 2) := by decide +kernel
theorem dX1_workOut_85 : decode cX1_workOut 85 = .ok (.iload_n 1, 1) := by decide +kernel
theorem dX1_workOut_86 : decode cX1_workOut 86 = .ok (.iconst 2, 1) := by decide +kernel
theorem dX1_workOut_87 : decode cX1_workOut 87 = .ok (.if_icmp .ne 17, 3) := by decide +kernel
theorem dX1_workOut_90 : decode cX1_workOut 90 = .ok (.aload_n 0, 1) := by decide +kernel
theorem dX1_workOut_91 : decode cX1_workOut 91 = .ok (.iload 4, 2) := by decide +kernel
theorem dX1_workOut_93 : decode cX1_workOut 93 = .ok (.iload 6, 2) := by decide +kernel
theorem dX1_workOut_95 : decode cX1_workOut 95 = .ok (.ior, 1) := by decide +kernel
theorem dX1_workOut_96 : decode cX1_workOut 96 = .ok (.iload 6, 2) := by decide +kernel
theorem dX1_workOut_98 : decode cX1_workOut 98 = .ok (.invokevirtual 121, 3) := by decide +kernel
theorem dX1_workOut_101 : decode cX1_workOut 101 = .ok (.goto 15, 3) := by decide +kernel
theorem dX1_workOut_104 : decode cX1_workOut 104 = .ok (.aload_n 0, 1) := by decide +kernel
theorem dX1_workOut_105 : decode cX1_workOut 105 = .ok (.iload_n 1, 1) := by decide +kernel
theorem dX1_workOut_106 : decode cX1_workOut 106 = .ok (.iload 4, 2) := by decide +kernel
theorem dX1_workOut_108 : decode cX1_workOut 108 = .ok (.iload 6, 2) := by decide +kernel
theorem dX1_workOut_110 : decode cX1_workOut 110 = .ok (.ior, 1) := by decide +kernel
theorem dX1_workOut_111 : decode cX1_workOut 111 = .ok (.iload 6, 2) := by decide +kernel
theorem dX1_workOut_113 : decode cX1_workOut 113 = .ok (.invokevirtual 124, 3) := by decide +kernel
theorem dX1_workOut_116 : decode cX1_workOut 116 = .ok (.iastore, 1) := by decide +kernel
theorem dX1_workOut_117 : decode cX1_workOut 117 = .ok (.iinc 5 1, 3) := by decide +kernel
theorem dX1_workOut_120 : decode cX1_workOut 120 = .ok (.goto (-73), 3) := by decide +kernel
theorem dX1_workOut_123 : decode cX1_workOut 123 = .ok (.iinc 4 (-1), 3) := by decide +kernel
theorem dX1_workOut_126 : decode cX1_workOut 126 = .ok (.goto (-96), 3) := by decide +kernel
theorem dX1_workOut_129 : decode cX1_workOut 129 = .ok (.return_, 1) := by decide +kernel
abbrev rm_X1_workOut : Room := { frames := 4, cells := 0, slots := 0, locals := 91 }
theorem hd_X1_workOut : yX1_workOut.cls ≠ "java/lang/invoke/MethodHandle" ∧ yX1_workOut.cls ≠ "java/lang/invoke/VarHandle" ∧ (parseMethodDescriptor yX1_workOut.desc).map (fun d => d.parameters.length) = some 3 := by decide +kernel
def bk_X1_workOut_116 (Q : (Int32 × Int32 × Option Nat × (Nat → Int32) × (Nat → Int32) × (Nat → Int32)) → Prop) (B30 : (Nat → Int32) → Int32 → Prop) (B47 : (Nat → Int32) → Int32 → Prop) (x5 : Int32) (s_values : Nat → Int32) (s0 : Int32) (s1 : Int32) : Prop :=
vp_in s1 4096 ∧ (∀ f9 : Nat → Int32, f9 = (upd s_values s1.toNatClampNeg s0) →
∀ y10 : Int32, y10 = (x5 + 1) →
B47 f9 y10)
def bd_X1_workOut_47 (Q : (Int32 × Int32 × Option Nat × (Nat → Int32) × (Nat → Int32) × (Nat → Int32)) → Prop) (B30 : (Nat → Int32) → Int32 → Prop) (B47 : (Nat → Int32) → Int32 → Prop) (p1 : Int32) (x4 : Int32) (o_yards : Int32) (o_hurdles : Int32) (f_all : Int32) (f_wanted : Int32) (f_needs : Nat → Int32) (f_sideCounts : Nat → Int32) (f_yardSums : Nat → Int32) (f_beside : Nat → Int32) (s_starts : Nat → Int32) (s_nexts : Nat → Int32) (s_values : Nat → Int32) (x5 : Int32) : Prop :=
vp_in (x4 + 1) 1025 ∧ (((s_starts (x4 + 1).toNatClampNeg) ≤ x5 → ∀ y5 : Int32, y5 = (x4 + (-1)) →
B30 s_values y5) ∧
(¬ (s_starts (x4 + 1).toNatClampNeg) ≤ x5 → vp_in x5 4096 ∧ (∀ y6 : Int32, y6 = (s_nexts x5.toNatClampNeg) →
((¬ p1 = 2 → wp_X1_leastBehind p1 (x4 ||| y6) y6 o_yards o_hurdles f_all f_wanted f_needs f_sideCounts f_yardSums f_beside s_starts s_nexts s_values (fun (r8 : Int32) => bk_X1_workOut_116 Q B30 B47 x5 s_values r8 x5)) ∧
(p1 = 2 → wp_X1_waysBehind (x4 ||| y6) y6 o_yards o_hurdles f_all f_wanted f_sideCounts f_yardSums f_beside s_starts s_nexts s_values (fun (r11 : Int32) => bk_X1_workOut_116 Q B30 B47 x5 s_values r11 x5))))))
def lp_X1_workOut_47 (Q : (Int32 × Int32 × Option Nat × (Nat → Int32) × (Nat → Int32) × (Nat → Int32)) → Prop) (B30 : (Nat → Int32) → Int32 → Prop) (p1 : Int32) (x4 : Int32) (o_yards : Int32) (o_hurdles : Int32) (f_all : Int32) (f_wanted : Int32) (f_needs : Nat → Int32) (f_sideCounts : Nat → Int32) (f_yardSums : Nat → Int32) (f_beside : Nat → Int32) (s_starts : Nat → Int32) (s_nexts : Nat → Int32) (s_values : Nat → Int32) (x5 : Int32) : Prop :=
∃ I : Nat → (Nat → Int32) → Int32 → Prop, (∃ n, I n s_values x5) ∧ ∀ n s_values x5, I n s_values x5 → bd_X1_workOut_47 Q B30 (fun s_values' x5' => ∃ n', n' < n ∧ I n' s_values' x5') p1 x4 o_yards o_hurdles f_all f_wanted f_needs f_sideCounts f_yardSums f_beside s_starts s_nexts s_values x5
def bd_X1_workOut_30 (Q : (Int32 × Int32 × Option Nat × (Nat → Int32) × (Nat → Int32) × (Nat → Int32)) → Prop) (B30 : (Nat → Int32) → Int32 → Prop) (p1 : Int32) (o_yards : Int32) (o_hurdles : Int32) (f_all : Int32) (f_wanted : Int32) (f_needs : Nat → Int32) (f_sideCounts : Nat → Int32) (f_yardSums : Nat → Int32) (f_beside : Nat → Int32) (s_listed : Option Nat) (s_starts : Nat → Int32) (s_nexts : Nat → Int32) (s_values : Nat → Int32) (x4 : Int32) : Prop :=
((x4 < 0 → Q (o_yards, o_hurdles, s_listed, s_starts, s_nexts, s_values)) ∧
(¬ x4 < 0 → vp_in x4 1025 ∧ (∀ y3 : Int32, y3 = (s_starts x4.toNatClampNeg) →
lp_X1_workOut_47 Q B30 p1 x4 o_yards o_hurdles f_all f_wanted f_needs f_sideCounts f_yardSums f_beside s_starts s_nexts s_values y3)))
def lp_X1_workOut_30 (Q : (Int32 × Int32 × Option Nat × (Nat → Int32) × (Nat → Int32) × (Nat → Int32)) → Prop) (p1 : Int32) (o_yards : Int32) (o_hurdles : Int32) (f_all : Int32) (f_wanted : Int32) (f_needs : Nat → Int32) (f_sideCounts : Nat → Int32) (f_yardSums : Nat → Int32) (f_beside : Nat → Int32) (s_listed : Option Nat) (s_starts : Nat → Int32) (s_nexts : Nat → Int32) (s_values : Nat → Int32) (x4 : Int32) : Prop :=
∃ I : Nat → (Nat → Int32) → Int32 → Prop, (∃ n, I n s_values x4) ∧ ∀ n s_values x4, I n s_values x4 → bd_X1_workOut_30 Q  (fun s_values' x4' => ∃ n', n' < n ∧ I n' s_values' x4') p1 o_yards o_hurdles f_all f_wanted f_needs f_sideCounts f_yardSums f_beside s_listed s_starts s_nexts s_values x4
def wp_X1_workOut (a_f : Nat) (p1 : Int32) (p2 : Int32) (p3 : Int32) (f_all : Int32) (f_wanted : Int32) (f_needs : Nat → Int32) (f_sideCounts : Nat → Int32) (f_yardSums : Nat → Int32) (f_beside : Nat → Int32) (s_listed : Option Nat) (s_starts : Nat → Int32) (s_nexts : Nat → Int32) (s_values : Nat → Int32) (Q : (Int32 × Int32 × Option Nat × (Nat → Int32) × (Nat → Int32) × (Nat → Int32)) → Prop) : Prop :=
wp_X7_list a_f s_listed s_starts s_nexts f_all f_sideCounts f_beside (fun (u1 : Option Nat × (Nat → Int32) × (Nat → Int32)) => lp_X1_workOut_30 Q p1 p2 p3 f_all f_wanted f_needs f_sideCounts f_yardSums f_beside u1.1 u1.2.1 u1.2.2 s_values f_all)
set_option maxHeartbeats 4000000 in
set_option maxRecDepth 100000 in
theorem J_X1_workOut_116 {x : CX} {D : DG} {cyI cyJ cyZ : ClassId} {a_o a_o_fewestKept a_o_row a_f a_f_needs a_f_sideCounts a_f_yardSums a_f_beside a_s a_s_starts a_s_nexts a_s_values : Nat} {o_length : Int32} {o_lifted : Int32} {o_bestYards : Int32} {o_bestHurdles : Int32} {o_yards : Int32} {o_hurdles : Int32} {o_fewestKept : Nat → Int32} {o_row : Nat → Int32} {f_all : Int32} {f_wanted : Int32} {f_mostSides : Int32} {f_needs : Nat → Int32} {f_sideCounts : Nat → Int32} {f_yardSums : Nat → Int32} {f_beside : Nat → Int32} {s_listed : Option Nat} {s_starts : Nat → Int32} {s_nexts : Nat → Int32} {s_values : Nat → Int32} {p1 : Int32} {x4 : Int32} {x5 : Int32} {s0 : Int32} {s1 : Int32} {Q : (Int32 × Int32 × Option Nat × (Nat → Int32) × (Nat → Int32) × (Nat → Int32)) → Prop} {B30 : (Nat → Int32) → Int32 → Prop} {B47 : (Nat → Int32) → Int32 → Prop} (cx : Cx x cX1_workOut 7 RX1 rm_X1_workOut D [(cyI, .int), (cyJ, .long), (cyZ, .boolean)]) (hR : ∀ (u : Int32 × Int32 × Option Nat × (Nat → Int32) × (Nat → Int32) × (Nat → Int32)) (pc : Nat) (lv : List (Nat × Value)), decode cX1_workOut pc = .ok (.return_, 1) → Q u → J x 0 0 7 (W_Courses cyI cyJ cyZ a_o a_o_fewestKept a_o_row a_f a_f_needs a_f_sideCounts a_f_yardSums a_f_beside a_s a_s_starts a_s_nexts a_s_values o_length o_lifted o_bestYards o_bestHurdles u.1 u.2.1 o_fewestKept o_row f_all f_wanted f_mostSides f_needs f_sideCounts f_yardSums f_beside u.2.2.1 u.2.2.2.1 u.2.2.2.2.1 u.2.2.2.2.2) lv pc []) (hB30 : ∀ (s_values : Nat → Int32) (x4 : Int32), B30 s_values x4 → J x 0 0 7 (W_Courses cyI cyJ cyZ a_o a_o_fewestKept a_o_row a_f a_f_needs a_f_sideCounts a_f_yardSums a_f_beside a_s a_s_starts a_s_nexts a_s_values o_length o_lifted o_bestYards o_bestHurdles o_yards o_hurdles o_fewestKept o_row f_all f_wanted f_mostSides f_needs f_sideCounts f_yardSums f_beside s_listed s_starts s_nexts s_values) [(0, .ref a_o), (1, .int p1), (4, .int x4)] 30 []) (hB47 : ∀ (s_values : Nat → Int32) (x5 : Int32), B47 s_values x5 → J x 0 0 7 (W_Courses cyI cyJ cyZ a_o a_o_fewestKept a_o_row a_f a_f_needs a_f_sideCounts a_f_yardSums a_f_beside a_s a_s_starts a_s_nexts a_s_values o_length o_lifted o_bestYards o_bestHurdles o_yards o_hurdles o_fewestKept o_row f_all f_wanted f_mostSides f_needs f_sideCounts f_yardSums f_beside s_listed s_starts s_nexts s_values) [(0, .ref a_o), (1, .int p1), (4, .int x4), (5, .int x5)] 47 []) (h : bk_X1_workOut_116 Q B30 B47 x5 s_values s0 s1) :
    J x 0 0 7 (W_Courses cyI cyJ cyZ a_o a_o_fewestKept a_o_row a_f a_f_needs a_f_sideCounts a_f_yardSums a_f_beside a_s a_s_starts a_s_nexts a_s_values o_length o_lifted o_bestYards o_bestHurdles o_yards o_hurdles o_fewestKept o_row f_all f_wanted f_mostSides f_needs f_sideCounts f_yardSums f_beside s_listed s_starts s_nexts s_values) [(0, .ref a_o), (1, .int p1), (4, .int x4), (5, .int x5)] 116 [.int s0, .int s1, .ref a_s_values] := by
  unfold bk_X1_workOut_116 at h
  have hin := h.1
  obtain ⟨f9, ef9⟩ : ∃ z, z = upd s_values s1.toNatClampNeg s0 := ⟨_, rfl⟩
  have h := h.2 f9 ef9
  refine j_iast cx 11 0 rfl rfl hin (W_Courses cyI cyJ cyZ a_o a_o_fewestKept a_o_row a_f a_f_needs a_f_sideCounts a_f_yardSums a_f_beside a_s a_s_starts a_s_nexts a_s_values o_length o_lifted o_bestYards o_bestHurdles o_yards o_hurdles o_fewestKept o_row f_all f_wanted f_mostSides f_needs f_sideCounts f_yardSums f_beside s_listed s_starts s_nexts f9) (by subst ef9; rfl) dX1_workOut_116 (pn := 117) rfl ?_
  obtain ⟨y10, ey10⟩ : ∃ z : Int32, z = x5 + 1 := ⟨_, rfl⟩
  have h := h y10 ey10
  refine j_iinc cx 3 rfl (cst := 1) (by decide) ey10 [(5, .int y10), (0, .ref a_o), (1, .int p1), (4, .int x4)] (by decide) rfl dX1_workOut_117 (pn := 120) rfl ?_
  refine j_goto cx 47 dX1_workOut_120 rfl ?_
  refine j_sub [1, 2, 3, 0] [(0, .ref a_o), (1, .int p1), (4, .int x4), (5, .int y10)] rfl ?_
  exact hB47 _ _ h
set_option maxHeartbeats 4000000 in
set_option maxRecDepth 100000 in
theorem B_X1_workOut_47 {x : CX} {D : DG} {cyI cyJ cyZ : ClassId} {a_o a_o_fewestKept a_o_row a_f a_f_needs a_f_sideCounts a_f_yardSums a_f_beside a_s a_s_starts a_s_nexts a_s_values : Nat} {o_length : Int32} {o_lifted : Int32} {o_bestYards : Int32} {o_bestHurdles : Int32} {o_yards : Int32} {o_hurdles : Int32} {o_fewestKept : Nat → Int32} {o_row : Nat → Int32} {f_all : Int32} {f_wanted : Int32} {f_mostSides : Int32} {f_needs : Nat → Int32} {f_sideCounts : Nat → Int32} {f_yardSums : Nat → Int32} {f_beside : Nat → Int32} {s_listed : Option Nat} {s_starts : Nat → Int32} {s_nexts : Nat → Int32} {s_values : Nat → Int32} {p1 : Int32} {x4 : Int32} {x5 : Int32} {Q : (Int32 × Int32 × Option Nat × (Nat → Int32) × (Nat → Int32) × (Nat → Int32)) → Prop} {B30 : (Nat → Int32) → Int32 → Prop} {B47 : (Nat → Int32) → Int32 → Prop} (cx : Cx x cX1_workOut 7 RX1 rm_X1_workOut D [(cyI, .int), (cyJ, .long), (cyZ, .boolean)]) (hR : ∀ (u : Int32 × Int32 × Option Nat × (Nat → Int32) × (Nat → Int32) × (Nat → Int32)) (pc : Nat) (lv : List (Nat × Value)), decode cX1_workOut pc = .ok (.return_, 1) → Q u → J x 0 0 7 (W_Courses cyI cyJ cyZ a_o a_o_fewestKept a_o_row a_f a_f_needs a_f_sideCounts a_f_yardSums a_f_beside a_s a_s_starts a_s_nexts a_s_values o_length o_lifted o_bestYards o_bestHurdles u.1 u.2.1 o_fewestKept o_row f_all f_wanted f_mostSides f_needs f_sideCounts f_yardSums f_beside u.2.2.1 u.2.2.2.1 u.2.2.2.2.1 u.2.2.2.2.2) lv pc []) (hB30 : ∀ (s_values : Nat → Int32) (x4 : Int32), B30 s_values x4 → J x 0 0 7 (W_Courses cyI cyJ cyZ a_o a_o_fewestKept a_o_row a_f a_f_needs a_f_sideCounts a_f_yardSums a_f_beside a_s a_s_starts a_s_nexts a_s_values o_length o_lifted o_bestYards o_bestHurdles o_yards o_hurdles o_fewestKept o_row f_all f_wanted f_mostSides f_needs f_sideCounts f_yardSums f_beside s_listed s_starts s_nexts s_values) [(0, .ref a_o), (1, .int p1), (4, .int x4)] 30 []) (hB47 : ∀ (s_values : Nat → Int32) (x5 : Int32), B47 s_values x5 → J x 0 0 7 (W_Courses cyI cyJ cyZ a_o a_o_fewestKept a_o_row a_f a_f_needs a_f_sideCounts a_f_yardSums a_f_beside a_s a_s_starts a_s_nexts a_s_values o_length o_lifted o_bestYards o_bestHurdles o_yards o_hurdles o_fewestKept o_row f_all f_wanted f_mostSides f_needs f_sideCounts f_yardSums f_beside s_listed s_starts s_nexts s_values) [(0, .ref a_o), (1, .int p1), (4, .int x4), (5, .int x5)] 47 []) (h : bd_X1_workOut_47 Q B30 B47 p1 x4 o_yards o_hurdles f_all f_wanted f_needs f_sideCounts f_yardSums f_beside s_starts s_nexts s_values x5) :
    J x 0 0 7 (W_Courses cyI cyJ cyZ a_o a_o_fewestKept a_o_row a_f a_f_needs a_f_sideCounts a_f_yardSums a_f_beside a_s a_s_starts a_s_nexts a_s_values o_length o_lifted o_bestYards o_bestHurdles o_yards o_hurdles o_fewestKept o_row f_all f_wanted f_mostSides f_needs f_sideCounts f_yardSums f_beside s_listed s_starts s_nexts s_values) [(0, .ref a_o), (1, .int p1), (4, .int x4), (5, .int x5)] 47 [] := by
  unfold bd_X1_workOut_47 at h
  refine j_iload cx 3 rfl dX1_workOut_47 (pn := 49) rfl ?_
  refine j_aload_n cx 0 rfl rfl dX1_workOut_49 (pn := 50) rfl ?_
  refine j_get cx inGX1 0 rfl rfl 1 (by decide) q_fl_X1_22 rfl rfl dX1_workOut_50 (pn := 53) rfl ?_
  refine j_getN cx inGX7 8 rfl rfl 0 (by decide) q_fl_X1_96 rfl rfl dX1_workOut_53 (pn := 56) rfl ?_
  refine j_iload cx 2 rfl dX1_workOut_56 (pn := 58) rfl ?_
  refine j_iconst cx (v := 1) (by decide) dX1_workOut_58 (pn := 59) rfl ?_
  refine j_iadd cx dX1_workOut_59 (pn := 60) rfl ?_
  refine j_iald cx 9 0 rfl rfl h.1 dX1_workOut_60 (pn := 61) rfl ?_
  have h := h.2
  refine j_icmp_ge cx 123 dX1_workOut_61 (pn := 64) rfl rfl (fun c4 => ?_) (fun c4 => ?_)
  · have h := h.1 c4
    obtain ⟨y5, ey5⟩ : ∃ z : Int32, z = x4 + (-1) := ⟨_, rfl⟩
    have h := h y5 ey5
    refine j_iinc cx 2 rfl (cst := (-1)) (by decide) ey5 [(4, .int y5), (0, .ref a_o), (1, .int p1), (5, .int x5)] (by decide) rfl dX1_workOut_123 (pn := 126) rfl ?_
    refine j_goto cx 30 dX1_workOut_126 rfl ?_
    refine j_sub [1, 2, 0] [(0, .ref a_o), (1, .int p1), (4, .int y5)] rfl ?_
    exact hB30 _ _ h
  · have h := h.2 c4
    refine j_aload_n cx 0 rfl rfl dX1_workOut_64 (pn := 65) rfl ?_
    refine j_get cx inGX1 0 rfl rfl 1 (by decide) q_fl_X1_22 rfl rfl dX1_workOut_65 (pn := 68) rfl ?_
    refine j_getN cx inGX7 8 rfl rfl 1 (by decide) q_fl_X1_99 rfl rfl dX1_workOut_68 (pn := 71) rfl ?_
    refine j_iload cx 3 rfl dX1_workOut_71 (pn := 73) rfl ?_
    refine j_iald cx 10 0 rfl rfl h.1 dX1_workOut_73 (pn := 74) rfl ?_
    have h := h.2
    refine j_topi (fun y6 ey6 => ?_)
    have h := h y6 ey6
    refine j_istore cx [(6, .int y6), (0, .ref a_o), (1, .int p1), (4, .int x4), (5, .int x5)] (by decide) rfl dX1_workOut_74 (pn := 76) rfl ?_
    refine j_aload_n cx 1 rfl rfl dX1_workOut_76 (pn := 77) rfl ?_
    refine j_get cx inGX1 0 rfl rfl 1 (by decide) q_fl_X1_22 rfl rfl dX1_workOut_77 (pn := 80) rfl ?_
    refine j_getN cx inGX7 8 rfl rfl 2 (by decide) q_fl_X1_102 rfl rfl dX1_workOut_80 (pn := 83) rfl ?_
    refine j_iload cx 4 rfl dX1_workOut_83 (pn := 85) rfl ?_
    refine j_iload_n cx 2 rfl rfl dX1_workOut_85 (pn := 86) rfl ?_
    refine j_iconst cx (v := 2) (by decide) dX1_workOut_86 (pn := 87) rfl ?_
    refine j_icmp_ne cx 104 dX1_workOut_87 (pn := 90) rfl rfl (fun c7 => ?_) (fun c7 => ?_)
    · have h := h.1 c7
      refine j_aload_n cx 1 rfl rfl dX1_workOut_104 (pn := 105) rfl ?_
      refine j_iload_n cx 2 rfl rfl dX1_workOut_105 (pn := 106) rfl ?_
      refine j_iload cx 3 rfl dX1_workOut_106 (pn := 108) rfl ?_
      refine j_iload cx 0 rfl dX1_workOut_108 (pn := 110) rfl ?_
      refine j_ior cx dX1_workOut_110 (pn := 111) rfl ?_
      refine j_iload cx 0 rfl dX1_workOut_111 (pn := 113) rfl ?_
      refine j_callvI0 cx q_inst_X1_leastBehind q_sel_X1_leastBehind (b := a_o) (As := [.int p1, .int (x4 ||| y6), .int y6]) (rest := [.int x5, .ref a_s_values]) (c_X1_leastBehind h) ⟨q_code_X1_leastBehind, q_ml_X1_124, q_init_X1, hd_X1_leastBehind, ⟨Nat.le_of_ble_eq_true rfl, Nat.le_of_ble_eq_true rfl⟩, Nat.le_of_ble_eq_true rfl, Nat.le_of_ble_eq_true rfl⟩ (q0 := 0) rfl rfl rfl rfl (Nat.le_of_ble_eq_true rfl) dX1_workOut_113 (pn := 116) rfl (fun r8 _ h => ?_)
      show J x 0 0 7 (W_Courses cyI cyJ cyZ a_o a_o_fewestKept a_o_row a_f a_f_needs a_f_sideCounts a_f_yardSums a_f_beside a_s a_s_starts a_s_nexts a_s_values o_length o_lifted o_bestYards o_bestHurdles o_yards o_hurdles o_fewestKept o_row f_all f_wanted f_mostSides f_needs f_sideCounts f_yardSums f_beside s_listed s_starts s_nexts s_values) [(6, .int y6), (0, .ref a_o), (1, .int p1), (4, .int x4), (5, .int x5)] 116 [.int r8, .int x5, .ref a_s_values]
      refine j_sub [1, 2, 3, 4] [(0, .ref a_o), (1, .int p1), (4, .int x4), (5, .int x5)] rfl ?_
      exact J_X1_workOut_116 cx hR hB30 hB47 h
    · have h := h.2 c7
      refine j_aload_n cx 1 rfl rfl dX1_workOut_90 (pn := 91) rfl ?_
      refine j_iload cx 3 rfl dX1_workOut_91 (pn := 93) rfl ?_
      refine j_iload cx 0 rfl dX1_workOut_93 (pn := 95) rfl ?_
      refine j_ior cx dX1_workOut_95 (pn := 96) rfl ?_
      refine j_iload cx 0 rfl dX1_workOut_96 (pn := 98) rfl ?_
      refine j_callvI0 cx q_inst_X1_waysBehind q_sel_X1_waysBehind (b := a_o) (As := [.int (x4 ||| y6), .int y6]) (rest := [.int x5, .ref a_s_values]) (c_X1_waysBehind h) ⟨q_code_X1_waysBehind, q_ml_X1_121, q_init_X1, hd_X1_waysBehind, ⟨Nat.le_of_ble_eq_true rfl, Nat.le_of_ble_eq_true rfl⟩, Nat.le_of_ble_eq_true rfl, Nat.le_of_ble_eq_true rfl⟩ (q0 := 0) rfl rfl rfl rfl (Nat.le_of_ble_eq_true rfl) dX1_workOut_98 (pn := 101) rfl (fun r11 _ h => ?_)
      show J x 0 0 7 (W_Courses cyI cyJ cyZ a_o a_o_fewestKept a_o_row a_f a_f_needs a_f_sideCounts a_f_yardSums a_f_beside a_s a_s_starts a_s_nexts a_s_values o_length o_lifted o_bestYards o_bestHurdles o_yards o_hurdles o_fewestKept o_row f_all f_wanted f_mostSides f_needs f_sideCounts f_yardSums f_beside s_listed s_starts s_nexts s_values) [(6, .int y6), (0, .ref a_o), (1, .int p1), (4, .int x4), (5, .int x5)] 101 [.int r11, .int x5, .ref a_s_values]
      refine j_goto cx 116 dX1_workOut_101 rfl ?_
      refine j_sub [1, 2, 3, 4] [(0, .ref a_o), (1, .int p1), (4, .int x4), (5, .int x5)] rfl ?_
      exact J_X1_workOut_116 cx hR hB30 hB47 h
set_option maxHeartbeats 4000000 in
set_option maxRecDepth 100000 in
theorem J_X1_workOut_47 {x : CX} {D : DG} {cyI cyJ cyZ : ClassId} {a_o a_o_fewestKept a_o_row a_f a_f_needs a_f_sideCounts a_f_yardSums a_f_beside a_s a_s_starts a_s_nexts a_s_values : Nat} {o_length : Int32} {o_lifted : Int32} {o_bestYards : Int32} {o_bestHurdles : Int32} {o_yards : Int32} {o_hurdles : Int32} {o_fewestKept : Nat → Int32} {o_row : Nat → Int32} {f_all : Int32} {f_wanted : Int32} {f_mostSides : Int32} {f_needs : Nat → Int32} {f_sideCounts : Nat → Int32} {f_yardSums : Nat → Int32} {f_beside : Nat → Int32} {s_listed : Option Nat} {s_starts : Nat → Int32} {s_nexts : Nat → Int32} {s_values : Nat → Int32} {p1 : Int32} {x4 : Int32} {x5 : Int32} {Q : (Int32 × Int32 × Option Nat × (Nat → Int32) × (Nat → Int32) × (Nat → Int32)) → Prop} {B30 : (Nat → Int32) → Int32 → Prop} (cx : Cx x cX1_workOut 7 RX1 rm_X1_workOut D [(cyI, .int), (cyJ, .long), (cyZ, .boolean)]) (hR : ∀ (u : Int32 × Int32 × Option Nat × (Nat → Int32) × (Nat → Int32) × (Nat → Int32)) (pc : Nat) (lv : List (Nat × Value)), decode cX1_workOut pc = .ok (.return_, 1) → Q u → J x 0 0 7 (W_Courses cyI cyJ cyZ a_o a_o_fewestKept a_o_row a_f a_f_needs a_f_sideCounts a_f_yardSums a_f_beside a_s a_s_starts a_s_nexts a_s_values o_length o_lifted o_bestYards o_bestHurdles u.1 u.2.1 o_fewestKept o_row f_all f_wanted f_mostSides f_needs f_sideCounts f_yardSums f_beside u.2.2.1 u.2.2.2.1 u.2.2.2.2.1 u.2.2.2.2.2) lv pc []) (hB30 : ∀ (s_values : Nat → Int32) (x4 : Int32), B30 s_values x4 → J x 0 0 7 (W_Courses cyI cyJ cyZ a_o a_o_fewestKept a_o_row a_f a_f_needs a_f_sideCounts a_f_yardSums a_f_beside a_s a_s_starts a_s_nexts a_s_values o_length o_lifted o_bestYards o_bestHurdles o_yards o_hurdles o_fewestKept o_row f_all f_wanted f_mostSides f_needs f_sideCounts f_yardSums f_beside s_listed s_starts s_nexts s_values) [(0, .ref a_o), (1, .int p1), (4, .int x4)] 30 []) (h : lp_X1_workOut_47 Q B30 p1 x4 o_yards o_hurdles f_all f_wanted f_needs f_sideCounts f_yardSums f_beside s_starts s_nexts s_values x5) :
    J x 0 0 7 (W_Courses cyI cyJ cyZ a_o a_o_fewestKept a_o_row a_f a_f_needs a_f_sideCounts a_f_yardSums a_f_beside a_s a_s_starts a_s_nexts a_s_values o_length o_lifted o_bestYards o_bestHurdles o_yards o_hurdles o_fewestKept o_row f_all f_wanted f_mostSides f_needs f_sideCounts f_yardSums f_beside s_listed s_starts s_nexts s_values) [(0, .ref a_o), (1, .int p1), (4, .int x4), (5, .int x5)] 47 [] := by
  obtain ⟨I, ⟨n, h0⟩, hb⟩ := h
  revert s_values x5
  induction n using Nat.strongRecOn with
  | _ n ih =>
    intro s_values x5 h0
    exact B_X1_workOut_47 cx hR hB30 (fun _ _ hz => by obtain ⟨n2, hlt, hI⟩ := hz; exact ih n2 hlt hI) (hb n s_values x5 h0)
set_option maxHeartbeats 4000000 in
set_option maxRecDepth 100000 in
theorem B_X1_workOut_30 {x : CX} {D : DG} {cyI cyJ cyZ : ClassId} {a_o a_o_fewestKept a_o_row a_f a_f_needs a_f_sideCounts a_f_yardSums a_f_beside a_s a_s_starts a_s_nexts a_s_values : Nat} {o_length : Int32} {o_lifted : Int32} {o_bestYards : Int32} {o_bestHurdles : Int32} {o_yards : Int32} {o_hurdles : Int32} {o_fewestKept : Nat → Int32} {o_row : Nat → Int32} {f_all : Int32} {f_wanted : Int32} {f_mostSides : Int32} {f_needs : Nat → Int32} {f_sideCounts : Nat → Int32} {f_yardSums : Nat → Int32} {f_beside : Nat → Int32} {s_listed : Option Nat} {s_starts : Nat → Int32} {s_nexts : Nat → Int32} {s_values : Nat → Int32} {p1 : Int32} {x4 : Int32} {Q : (Int32 × Int32 × Option Nat × (Nat → Int32) × (Nat → Int32) × (Nat → Int32)) → Prop} {B30 : (Nat → Int32) → Int32 → Prop} (cx : Cx x cX1_workOut 7 RX1 rm_X1_workOut D [(cyI, .int), (cyJ, .long), (cyZ, .boolean)]) (hR : ∀ (u : Int32 × Int32 × Option Nat × (Nat → Int32) × (Nat → Int32) × (Nat → Int32)) (pc : Nat) (lv : List (Nat × Value)), decode cX1_workOut pc = .ok (.return_, 1) → Q u → J x 0 0 7 (W_Courses cyI cyJ cyZ a_o a_o_fewestKept a_o_row a_f a_f_needs a_f_sideCounts a_f_yardSums a_f_beside a_s a_s_starts a_s_nexts a_s_values o_length o_lifted o_bestYards o_bestHurdles u.1 u.2.1 o_fewestKept o_row f_all f_wanted f_mostSides f_needs f_sideCounts f_yardSums f_beside u.2.2.1 u.2.2.2.1 u.2.2.2.2.1 u.2.2.2.2.2) lv pc []) (hB30 : ∀ (s_values : Nat → Int32) (x4 : Int32), B30 s_values x4 → J x 0 0 7 (W_Courses cyI cyJ cyZ a_o a_o_fewestKept a_o_row a_f a_f_needs a_f_sideCounts a_f_yardSums a_f_beside a_s a_s_starts a_s_nexts a_s_values o_length o_lifted o_bestYards o_bestHurdles o_yards o_hurdles o_fewestKept o_row f_all f_wanted f_mostSides f_needs f_sideCounts f_yardSums f_beside s_listed s_starts s_nexts s_values) [(0, .ref a_o), (1, .int p1), (4, .int x4)] 30 []) (h : bd_X1_workOut_30 Q B30 p1 o_yards o_hurdles f_all f_wanted f_needs f_sideCounts f_yardSums f_beside s_listed s_starts s_nexts s_values x4) :
    J x 0 0 7 (W_Courses cyI cyJ cyZ a_o a_o_fewestKept a_o_row a_f a_f_needs a_f_sideCounts a_f_yardSums a_f_beside a_s a_s_starts a_s_nexts a_s_values o_length o_lifted o_bestYards o_bestHurdles o_yards o_hurdles o_fewestKept o_row f_all f_wanted f_mostSides f_needs f_sideCounts f_yardSums f_beside s_listed s_starts s_nexts s_values) [(0, .ref a_o), (1, .int p1), (4, .int x4)] 30 [] := by
  unfold bd_X1_workOut_30 at h
  refine j_iload cx 2 rfl dX1_workOut_30 (pn := 32) rfl ?_
  refine j_if_lt cx 129 dX1_workOut_32 (pn := 35) rfl rfl (fun c2 => ?_) (fun c2 => ?_)
  · have h := h.1 c2
    exact hR (o_yards, o_hurdles, s_listed, s_starts, s_nexts, s_values) 129 _ dX1_workOut_129 h
  · have h := h.2 c2
    refine j_aload_n cx 0 rfl rfl dX1_workOut_35 (pn := 36) rfl ?_
    refine j_get cx inGX1 0 rfl rfl 1 (by decide) q_fl_X1_22 rfl rfl dX1_workOut_36 (pn := 39) rfl ?_
    refine j_getN cx inGX7 8 rfl rfl 0 (by decide) q_fl_X1_96 rfl rfl dX1_workOut_39 (pn := 42) rfl ?_
    refine j_iload cx 2 rfl dX1_workOut_42 (pn := 44) rfl ?_
    refine j_iald cx 9 0 rfl rfl h.1 dX1_workOut_44 (pn := 45) rfl ?_
    have h := h.2
    refine j_topi (fun y3 ey3 => ?_)
    have h := h y3 ey3
    refine j_istore cx [(5, .int y3), (0, .ref a_o), (1, .int p1), (4, .int x4)] (by decide) rfl dX1_workOut_45 (pn := 47) rfl ?_
    refine j_sub [1, 2, 3, 0] [(0, .ref a_o), (1, .int p1), (4, .int x4), (5, .int y3)] rfl ?_
    exact J_X1_workOut_47 cx hR hB30 h
set_option maxHeartbeats 4000000 in
set_option maxRecDepth 100000 in
theorem J_X1_workOut_30 {x : CX} {D : DG} {cyI cyJ cyZ : ClassId} {a_o a_o_fewestKept a_o_row a_f a_f_needs a_f_sideCounts a_f_yardSums a_f_beside a_s a_s_starts a_s_nexts a_s_values : Nat} {o_length : Int32} {o_lifted : Int32} {o_bestYards : Int32} {o_bestHurdles : Int32} {o_yards : Int32} {o_hurdles : Int32} {o_fewestKept : Nat → Int32} {o_row : Nat → Int32} {f_all : Int32} {f_wanted : Int32} {f_mostSides : Int32} {f_needs : Nat → Int32} {f_sideCounts : Nat → Int32} {f_yardSums : Nat → Int32} {f_beside : Nat → Int32} {s_listed : Option Nat} {s_starts : Nat → Int32} {s_nexts : Nat → Int32} {s_values : Nat → Int32} {p1 : Int32} {x4 : Int32} {Q : (Int32 × Int32 × Option Nat × (Nat → Int32) × (Nat → Int32) × (Nat → Int32)) → Prop} (cx : Cx x cX1_workOut 7 RX1 rm_X1_workOut D [(cyI, .int), (cyJ, .long), (cyZ, .boolean)]) (hR : ∀ (u : Int32 × Int32 × Option Nat × (Nat → Int32) × (Nat → Int32) × (Nat → Int32)) (pc : Nat) (lv : List (Nat × Value)), decode cX1_workOut pc = .ok (.return_, 1) → Q u → J x 0 0 7 (W_Courses cyI cyJ cyZ a_o a_o_fewestKept a_o_row a_f a_f_needs a_f_sideCounts a_f_yardSums a_f_beside a_s a_s_starts a_s_nexts a_s_values o_length o_lifted o_bestYards o_bestHurdles u.1 u.2.1 o_fewestKept o_row f_all f_wanted f_mostSides f_needs f_sideCounts f_yardSums f_beside u.2.2.1 u.2.2.2.1 u.2.2.2.2.1 u.2.2.2.2.2) lv pc []) (h : lp_X1_workOut_30 Q  p1 o_yards o_hurdles f_all f_wanted f_needs f_sideCounts f_yardSums f_beside s_listed s_starts s_nexts s_values x4) :
    J x 0 0 7 (W_Courses cyI cyJ cyZ a_o a_o_fewestKept a_o_row a_f a_f_needs a_f_sideCounts a_f_yardSums a_f_beside a_s a_s_starts a_s_nexts a_s_values o_length o_lifted o_bestYards o_bestHurdles o_yards o_hurdles o_fewestKept o_row f_all f_wanted f_mostSides f_needs f_sideCounts f_yardSums f_beside s_listed s_starts s_nexts s_values) [(0, .ref a_o), (1, .int p1), (4, .int x4)] 30 [] := by
  obtain ⟨I, ⟨n, h0⟩, hb⟩ := h
  revert s_values x4
  induction n using Nat.strongRecOn with
  | _ n ih =>
    intro s_values x4 h0
    exact B_X1_workOut_30 cx hR (fun _ _ hz => by obtain ⟨n2, hlt, hI⟩ := hz; exact ih n2 hlt hI) (hb n s_values x4 h0)
set_option maxHeartbeats 4000000 in
set_option maxRecDepth 100000 in
theorem c_X1_workOut {D : DG} {cyI cyJ cyZ : ClassId} {a_o a_o_fewestKept a_o_row a_f a_f_needs a_f_sideCounts a_f_yardSums a_f_beside a_s a_s_starts a_s_nexts a_s_values : Nat} {o_length : Int32} {o_lifted : Int32} {o_bestYards : Int32} {o_bestHurdles : Int32} {o_yards : Int32} {o_hurdles : Int32} {o_fewestKept : Nat → Int32} {o_row : Nat → Int32} {f_all : Int32} {f_wanted : Int32} {f_mostSides : Int32} {f_needs : Nat → Int32} {f_sideCounts : Nat → Int32} {f_yardSums : Nat → Int32} {f_beside : Nat → Int32} {s_listed : Option Nat} {s_starts : Nat → Int32} {s_nexts : Nat → Int32} {s_values : Nat → Int32} {p1 : Int32} {p2 : Int32} {p3 : Int32} {Q : (Int32 × Int32 × Option Nat × (Nat → Int32) × (Nat → Int32) × (Nat → Int32)) → Prop} (h : wp_X1_workOut a_f p1 p2 p3 f_all f_wanted f_needs f_sideCounts f_yardSums f_beside s_listed s_starts s_nexts s_values Q) :
    MetV yX1_workOut cX1_workOut 7 (none) rm_X1_workOut D [(cyI, .int), (cyJ, .long), (cyZ, .boolean)] [.ref a_o, .int p1, .int p2, .int p3] (W_Courses cyI cyJ cyZ a_o a_o_fewestKept a_o_row a_f a_f_needs a_f_sideCounts a_f_yardSums a_f_beside a_s a_s_starts a_s_nexts a_s_values o_length o_lifted o_bestYards o_bestHurdles o_yards o_hurdles o_fewestKept o_row f_all f_wanted f_mostSides f_needs f_sideCounts f_yardSums f_beside s_listed s_starts s_nexts s_values) (fun u : Int32 × Int32 × Option Nat × (Nat → Int32) × (Nat → Int32) × (Nat → Int32) => (W_Courses cyI cyJ cyZ a_o a_o_fewestKept a_o_row a_f a_f_needs a_f_sideCounts a_f_yardSums a_f_beside a_s a_s_starts a_s_nexts a_s_values o_length o_lifted o_bestYards o_bestHurdles u.1 u.2.1 o_fewestKept o_row f_all f_wanted f_mostSides f_needs f_sideCounts f_yardSums f_beside u.2.2.1 u.2.2.2.1 u.2.2.2.2.1 u.2.2.2.2.2)) (fun u => Q u) := by
  unfold wp_X1_workOut at h
  refine metV_of (by decide) (Nat.le_of_ble_eq_true rfl) (fun x cx0 hR0 => ?_)
  have cx : Cx x cX1_workOut 7 RX1 rm_X1_workOut D [(cyI, .int), (cyJ, .long), (cyZ, .boolean)] := cx0
  have hR : ∀ (u : Int32 × Int32 × Option Nat × (Nat → Int32) × (Nat → Int32) × (Nat → Int32)) (pc : Nat) (lv : List (Nat × Value)), decode cX1_workOut pc = .ok (.return_, 1) → Q u → J x 0 0 7 (W_Courses cyI cyJ cyZ a_o a_o_fewestKept a_o_row a_f a_f_needs a_f_sideCounts a_f_yardSums a_f_beside a_s a_s_starts a_s_nexts a_s_values o_length o_lifted o_bestYards o_bestHurdles u.1 u.2.1 o_fewestKept o_row f_all f_wanted f_mostSides f_needs f_sideCounts f_yardSums f_beside u.2.2.1 u.2.2.2.1 u.2.2.2.2.1 u.2.2.2.2.2) lv pc [] := (fun u pc lv d hq => hR0 u pc lv d hq)
  show J x 0 0 7 (W_Courses cyI cyJ cyZ a_o a_o_fewestKept a_o_row a_f a_f_needs a_f_sideCounts a_f_yardSums a_f_beside a_s a_s_starts a_s_nexts a_s_values o_length o_lifted o_bestYards o_bestHurdles o_yards o_hurdles o_fewestKept o_row f_all f_wanted f_mostSides f_needs f_sideCounts f_yardSums f_beside s_listed s_starts s_nexts s_values) [(0, .ref a_o), (1, .int p1), (2, .int p2), (3, .int p3)] 0 []
  refine j_aload_n cx 0 rfl rfl dX1_workOut_0 (pn := 1) rfl ?_
  refine j_get cx inGX1 0 rfl rfl 1 (by decide) q_fl_X1_22 rfl rfl dX1_workOut_1 (pn := 4) rfl ?_
  refine j_aload_n cx 0 rfl rfl dX1_workOut_4 (pn := 5) rfl ?_
  refine j_get cx inGX1 0 rfl rfl 0 (by decide) q_fl_X1_18 rfl rfl dX1_workOut_5 (pn := 8) rfl ?_
  refine j_callvV cx q_inst_X7_list q_sel_X7_list (b := a_s) (As := [.ref a_f]) (rest := []) (W_StepsT cyI cyJ cyZ a_s a_s_starts a_s_nexts a_s_values a_f a_f_needs a_f_sideCounts a_f_yardSums a_f_beside s_listed s_starts s_nexts s_values f_all f_wanted f_mostSides f_needs f_sideCounts f_yardSums f_beside) [(a_o, .inr (1, [.ref a_f, .ref a_s, .ref a_o_fewestKept, .ref a_o_row, .int o_length, .int o_lifted, .int o_bestYards, .int o_bestHurdles, .int o_yards, .int o_hurdles])), (a_o_fewestKept, .inl (cyI, 91, .inl o_fewestKept)), (a_o_row, .inl (cyI, 10, .inl o_row))] (c_X7_list h) ⟨q_code_X7_list, q_ml_X1_108, q_init_X7, hd_X7_list, ⟨Nat.le_of_ble_eq_true rfl, Nat.le_of_ble_eq_true rfl⟩, Nat.le_of_ble_eq_true rfl, Nat.le_of_ble_eq_true rfl⟩ (q0 := 0) rfl rfl rfl [8, 9, 10, 11, 3, 4, 5, 6, 7] [0, 1, 2] [0, 1, 2, 7, 8, 9, 10, 11, 3, 4, 5, 6] rfl rfl rfl rfl rfl (by decide) (fun u : Option Nat × (Nat → Int32) × (Nat → Int32) => (W_Courses cyI cyJ cyZ a_o a_o_fewestKept a_o_row a_f a_f_needs a_f_sideCounts a_f_yardSums a_f_beside a_s a_s_starts a_s_nexts a_s_values o_length o_lifted o_bestYards o_bestHurdles o_yards o_hurdles o_fewestKept o_row f_all f_wanted f_mostSides f_needs f_sideCounts f_yardSums f_beside u.1 u.2.1 u.2.2 s_values)) (fun _ => rfl) (fun _ => rfl) rfl rfl (Nat.le_of_ble_eq_true rfl) dX1_workOut_8 (pn := 11) rfl (fun u1 h => ?_)
  show J x 0 0 7 (W_Courses cyI cyJ cyZ a_o a_o_fewestKept a_o_row a_f a_f_needs a_f_sideCounts a_f_yardSums a_f_beside a_s a_s_starts a_s_nexts a_s_values o_length o_lifted o_bestYards o_bestHurdles o_yards o_hurdles o_fewestKept o_row f_all f_wanted f_mostSides f_needs f_sideCounts f_yardSums f_beside u1.1 u1.2.1 u1.2.2 s_values) [(0, .ref a_o), (1, .int p1), (2, .int p2), (3, .int p3)] 11 []
  refine j_aload_n cx 0 rfl rfl dX1_workOut_11 (pn := 12) rfl ?_
  refine j_iload_n cx 2 rfl rfl dX1_workOut_12 (pn := 13) rfl ?_
  refine j_put cx tyX1 tyX1_ok nmX1 inGX1 0 rfl rfl 8 (by decide) q_fl_X1_112 rfl rfl rfl rfl rfl (Nat.le_of_ble_eq_true rfl) (W_Courses cyI cyJ cyZ a_o a_o_fewestKept a_o_row a_f a_f_needs a_f_sideCounts a_f_yardSums a_f_beside a_s a_s_starts a_s_nexts a_s_values o_length o_lifted o_bestYards o_bestHurdles p2 o_hurdles o_fewestKept o_row f_all f_wanted f_mostSides f_needs f_sideCounts f_yardSums f_beside u1.1 u1.2.1 u1.2.2 s_values) rfl dX1_workOut_13 (pn := 16) rfl ?_
  refine j_aload_n cx 0 rfl rfl dX1_workOut_16 (pn := 17) rfl ?_
  refine j_iload_n cx 3 rfl rfl dX1_workOut_17 (pn := 18) rfl ?_
  refine j_put cx tyX1 tyX1_ok nmX1 inGX1 0 rfl rfl 9 (by decide) q_fl_X1_115 rfl rfl rfl rfl rfl (Nat.le_of_ble_eq_true rfl) (W_Courses cyI cyJ cyZ a_o a_o_fewestKept a_o_row a_f a_f_needs a_f_sideCounts a_f_yardSums a_f_beside a_s a_s_starts a_s_nexts a_s_values o_length o_lifted o_bestYards o_bestHurdles p2 p3 o_fewestKept o_row f_all f_wanted f_mostSides f_needs f_sideCounts f_yardSums f_beside u1.1 u1.2.1 u1.2.2 s_values) rfl dX1_workOut_18 (pn := 21) rfl ?_
  refine j_aload_n cx 0 rfl rfl dX1_workOut_21 (pn := 22) rfl ?_
  refine j_get cx inGX1 0 rfl rfl 0 (by decide) q_fl_X1_18 rfl rfl dX1_workOut_22 (pn := 25) rfl ?_
  refine j_getN cx inGX3 3 rfl rfl 4 (by decide) q_fl_X1_118 rfl rfl dX1_workOut_25 (pn := 28) rfl ?_
  refine j_istore cx [(4, .int f_all), (0, .ref a_o), (1, .int p1), (2, .int p2), (3, .int p3)] (by decide) rfl dX1_workOut_28 (pn := 30) rfl ?_
  refine j_sub [1, 2, 0] [(0, .ref a_o), (1, .int p1), (4, .int f_all)] rfl ?_
  exact J_X1_workOut_30 cx hR h
theorem dX1_orNone_0 : decode cX1_orNone 0 = .ok (.iload_n 0, 1) := by decide +kernel
theorem dX1_orNone_1 : decode cX1_orNone 1 = .ok (.ldc 78, 2) := by decide +kernel
theorem dX1_orNone_3 : decode cX1_orNone 3 = .ok (.if_icmp .ge 7, 3) := by decide +kernel
theorem dX1_orNone_6 : decode cX1_orNone 6 = .ok (.iload_n 0, 1) := by decide +kernel
theorem dX1_orNone_7 : decode cX1_orNone 7 = .ok (.goto 4, 3) := by decide +kernel
theorem dX1_orNone_10 : decode cX1_orNone 10 = .ok (.iconst (-1), 1) := by decide +kernel
theorem dX1_orNone_11 : decode cX1_orNone 11 = .ok (.ireturn, 1) := by decide +kernel
abbrev rm_X1_orNone : Room := { frames := 0, cells := 0, slots := 0, locals := 0 }
theorem hd_X1_orNone : yX1_orNone.cls ≠ "java/lang/invoke/MethodHandle" ∧ yX1_orNone.cls ≠ "java/lang/invoke/VarHandle" ∧ (parseMethodDescriptor yX1_orNone.desc).map (fun d => d.parameters.length) = some 1 := by decide +kernel
def wp_X1_orNone (p0 : Int32) (Q : Int32 → Prop) : Prop :=
((1048576 ≤ p0 → Q (-1)) ∧
(¬ 1048576 ≤ p0 → Q p0))
set_option maxHeartbeats 4000000 in
set_option maxRecDepth 100000 in
theorem c_X1_orNone {D : DG} {cyI cyJ cyZ : ClassId} {p0 : Int32} {Q : Int32 → Prop} (h : wp_X1_orNone p0 Q) :
    MetI yX1_orNone cX1_orNone 1 (some .int) rm_X1_orNone D [(cyI, .int), (cyJ, .long), (cyZ, .boolean)] [.int p0] ([] : va_W) (fun _ : Unit => ([] : va_W)) (fun v _ => Q v ) := by
  unfold wp_X1_orNone at h
  refine metI_of (by decide) (Nat.le_of_ble_eq_true rfl) (fun x cx0 hR0 => ?_)
  have cx : Cx x cX1_orNone 1 RX1 rm_X1_orNone D [(cyI, .int), (cyJ, .long), (cyZ, .boolean)] := cx0
  have hR : ∀ (v : Int32) (pc : Nat) (lv : List (Nat × Value)), decode cX1_orNone pc = .ok (.ireturn, 1) → Q v → J x 0 0 1 ([] : va_W) lv pc [.int v] := (fun v pc lv d hq => hR0 v () pc lv d hq)
  show J x 0 0 1 ([] : va_W) [(0, .int p0)] 0 []
  refine j_iload_n cx 0 rfl rfl dX1_orNone_0 (pn := 1) rfl ?_
  refine j_ldc cx q_c_X1_78 dX1_orNone_1 (pn := 3) rfl ?_
  refine j_icmp_ge cx 10 dX1_orNone_3 (pn := 6) rfl rfl (fun c1 => ?_) (fun c1 => ?_)
  · have h := h.1 c1
    refine j_iconst cx (v := (-1)) (by decide) dX1_orNone_10 (pn := 11) rfl ?_
    exact hR (-1) 11 _ dX1_orNone_11 h
  · have h := h.2 c1
    refine j_iload_n cx 0 rfl rfl dX1_orNone_6 (pn := 7) rfl ?_
    refine j_goto cx 11 dX1_orNone_7 rfl ?_
    exact hR p0 11 _ dX1_orNone_11 h
theorem dX1_fewestFor_0 : decode cX1_fewestFor 0 = .ok (.aload_n 0, 1) := by decide +kernel
theorem dX1_fewestFor_1 : decode cX1_fewestFor 1 = .ok (.getfield 9, 3) := by decide +kernel
theorem dX1_fewestFor_4 : decode cX1_fewestFor 4 = .ok (.iload_n 1, 1) := by decide +kernel
theorem dX1_fewestFor_5 : decode cX1_fewestFor 5 = .ok (.iaload, 1) := by decide +kernel
theorem dX1_fewestFor_6 : decode cX1_fewestFor 6 = .ok (.bipush (-2), 2) := by decide +kernel
theorem dX1_fewestFor_8 : decode cX1_fewestFor 8 = .ok (.if_icmp .ne 31, 3) := by decide +kernel
theorem dX1_fewestFor_11 : decode cX1_fewestFor 11 = .ok (.aload_n 0, 1) := by decide +kernel
theorem dX1_fewestFor_12 : decode cX1_fewestFor 12 = .ok (.iconst 0, 1) := by decide +kernel
theorem dX1_fewestFor_13 : decode cX1_fewestFor 13 = .ok (.iload_n 1, 1) := by decide +kernel
theorem dX1_fewestFor_14 : decode cX1_fewestFor 14 = .ok (.aload_n 0, 1) := by decide +kernel
theorem dX1_fewestFor_15 : decode cX1_fewestFor 15 = .ok (.getfield 18, 3) := by decide +kernel
theorem dX1_fewestFor_18 : decode cX1_fewestFor 18 = .ok (.getfield 41, 3) := by decide +kernel
theorem dX1_fewestFor_21 : decode cX1_fewestFor 21 = .ok (.invokevirtual 46, 3) := by decide +kernel
theorem dX1_fewestFor_24 : decode cX1_fewestFor 24 = .ok (.aload_n 0, 1) := by decide +kernel
theorem dX1_fewestFor_25 : decode cX1_fewestFor 25 = .ok (.getfield 9, 3) := by decide +kernel
theorem dX1_fewestFor_28 : decode cX1_fewestFor 28 = .ok (.iload_n 1, 1) := by decide +kernel
theorem dX1_fewestFor_29 : decode cX1_fewestFor 29 = .ok (.aload_n 0, 1) := by decide +kernel
theorem dX1_fewestFor_30 : decode cX1_fewestFor 30 = .ok (.iconst 0, 1) := by decide +kernel
theorem dX1_fewestFor_31 : decode cX1_fewestFor 31 = .ok (.iconst 0, 1) := by decide +kernel
theorem dX1_fewestFor_32 : decode cX1_fewestFor 32 = .ok (.invokevirtual 50, 3) := by decide +kernel
theorem dX1_fewestFor_35 : decode cX1_fewestFor 35 = .ok (.invokestatic 54, 3) := by decide +kernel
theorem dX1_fewestFor_38 : decode cX1_fewestFor 38 = .ok (.iastore, 1) := by decide +kernel
theorem dX1_fewestFor_39 : decode cX1_fewestFor 39 = .ok (.aload_n 0, 1) := by decide +kernel
theorem dX1_fewestFor_40 : decode cX1_fewestFor 40 = .ok (.getfield 9, 3) := by decide +kernel
theorem dX1_fewestFor_43 : decode cX1_fewestFor 43 = .ok (.iload_n 1, 1) := by decide +kernel
theorem dX1_fewestFor_44 : decode cX1_fewestFor 44 = .ok (.iaload, 1) := by decide +kernel
theorem dX1_fewestFor_45 : decode cX1_fewestFor 45 = .ok (.ireturn, 1) := by decide +kernel
abbrev rm_X1_fewestFor : Room := { frames := 5, cells := 0, slots := 0, locals := 117 }
theorem hd_X1_fewestFor : yX1_fewestFor.cls ≠ "java/lang/invoke/MethodHandle" ∧ yX1_fewestFor.cls ≠ "java/lang/invoke/VarHandle" ∧ (parseMethodDescriptor yX1_fewestFor.desc).map (fun d => d.parameters.length) = some 1 := by decide +kernel
def bk_X1_fewestFor_39 (Q : Int32 → (Int32 × Int32 × (Nat → Int32) × Option Nat × (Nat → Int32) × (Nat → Int32) × (Nat → Int32)) → Prop) (p1 : Int32) (o_yards : Int32) (o_hurdles : Int32) (o_fewestKept : Nat → Int32) (s_listed : Option Nat) (s_starts : Nat → Int32) (s_nexts : Nat → Int32) (s_values : Nat → Int32) : Prop :=
vp_in p1 91 ∧ Q (o_fewestKept p1.toNatClampNeg) (o_yards, o_hurdles, o_fewestKept, s_listed, s_starts, s_nexts, s_values)
def wp_X1_fewestFor (a_f : Nat) (p1 : Int32) (o_yards : Int32) (o_hurdles : Int32) (o_fewestKept : Nat → Int32) (f_all : Int32) (f_wanted : Int32) (f_mostSides : Int32) (f_needs : Nat → Int32) (f_sideCounts : Nat → Int32) (f_yardSums : Nat → Int32) (f_beside : Nat → Int32) (s_listed : Option Nat) (s_starts : Nat → Int32) (s_nexts : Nat → Int32) (s_values : Nat → Int32) (Q : Int32 → (Int32 × Int32 × (Nat → Int32) × Option Nat × (Nat → Int32) × (Nat → Int32) × (Nat → Int32)) → Prop) : Prop :=
vp_in p1 91 ∧ ((¬ (o_fewestKept p1.toNatClampNeg) = (-2) → bk_X1_fewestFor_39 Q p1 o_yards o_hurdles o_fewestKept s_listed s_starts s_nexts s_values) ∧
((o_fewestKept p1.toNatClampNeg) = (-2) → wp_X1_workOut a_f 0 p1 f_mostSides f_all f_wanted f_needs f_sideCounts f_yardSums f_beside s_listed s_starts s_nexts s_values (fun (u2 : Int32 × Int32 × Option Nat × (Nat → Int32) × (Nat → Int32) × (Nat → Int32)) => wp_X1_leastNeededOn 0 0 f_all f_sideCounts f_beside u2.2.2.2.1 u2.2.2.2.2.1 u2.2.2.2.2.2 (fun (r3 : Int32) => wp_X1_orNone r3 (fun (r4 : Int32) => vp_in p1 91 ∧ (∀ f5 : Nat → Int32, f5 = (upd o_fewestKept p1.toNatClampNeg r4) →
bk_X1_fewestFor_39 Q p1 u2.1 u2.2.1 f5 u2.2.2.1 u2.2.2.2.1 u2.2.2.2.2.1 u2.2.2.2.2.2))))))
set_option maxHeartbeats 4000000 in
set_option maxRecDepth 100000 in
theorem J_X1_fewestFor_39 {x : CX} {D : DG} {cyI cyJ cyZ : ClassId} {a_o a_o_fewestKept a_o_row a_f a_f_needs a_f_sideCounts a_f_yardSums a_f_beside a_s a_s_starts a_s_nexts a_s_values : Nat} {o_length : Int32} {o_lifted : Int32} {o_bestYards : Int32} {o_bestHurdles : Int32} {o_yards : Int32} {o_hurdles : Int32} {o_fewestKept : Nat → Int32} {o_row : Nat → Int32} {f_all : Int32} {f_wanted : Int32} {f_mostSides : Int32} {f_needs : Nat → Int32} {f_sideCounts : Nat → Int32} {f_yardSums : Nat → Int32} {f_beside : Nat → Int32} {s_listed : Option Nat} {s_starts : Nat → Int32} {s_nexts : Nat → Int32} {s_values : Nat → Int32} {p1 : Int32} {Q : Int32 → (Int32 × Int32 × (Nat → Int32) × Option Nat × (Nat → Int32) × (Nat → Int32) × (Nat → Int32)) → Prop} (cx : Cx x cX1_fewestFor 2 RX1 rm_X1_fewestFor D [(cyI, .int), (cyJ, .long), (cyZ, .boolean)]) (hR : ∀ (v : Int32) (u : Int32 × Int32 × (Nat → Int32) × Option Nat × (Nat → Int32) × (Nat → Int32) × (Nat → Int32)) (pc : Nat) (lv : List (Nat × Value)), decode cX1_fewestFor pc = .ok (.ireturn, 1) → Q v u → J x 0 0 2 (W_Courses cyI cyJ cyZ a_o a_o_fewestKept a_o_row a_f a_f_needs a_f_sideCounts a_f_yardSums a_f_beside a_s a_s_starts a_s_nexts a_s_values o_length o_lifted o_bestYards o_bestHurdles u.1 u.2.1 u.2.2.1 o_row f_all f_wanted f_mostSides f_needs f_sideCounts f_yardSums f_beside u.2.2.2.1 u.2.2.2.2.1 u.2.2.2.2.2.1 u.2.2.2.2.2.2) lv pc [.int v]) (h : bk_X1_fewestFor_39 Q  p1 o_yards o_hurdles o_fewestKept s_listed s_starts s_nexts s_values) :
    J x 0 0 2 (W_Courses cyI cyJ cyZ a_o a_o_fewestKept a_o_row a_f a_f_needs a_f_sideCounts a_f_yardSums a_f_beside a_s a_s_starts a_s_nexts a_s_values o_length o_lifted o_bestYards o_bestHurdles o_yards o_hurdles o_fewestKept o_row f_all f_wanted f_mostSides f_needs f_sideCounts f_yardSums f_beside s_listed s_starts s_nexts s_values) [(0, .ref a_o), (1, .int p1)] 39 [] := by
  unfold bk_X1_fewestFor_39 at h
  refine j_aload_n cx 0 rfl rfl dX1_fewestFor_39 (pn := 40) rfl ?_
  refine j_get cx inGX1 0 rfl rfl 2 (by decide) q_fl_X1_9 rfl rfl dX1_fewestFor_40 (pn := 43) rfl ?_
  refine j_iload_n cx 1 rfl rfl dX1_fewestFor_43 (pn := 44) rfl ?_
  refine j_iald cx 1 0 rfl rfl h.1 dX1_fewestFor_44 (pn := 45) rfl ?_
  have h := h.2
  exact hR (o_fewestKept p1.toNatClampNeg) (o_yards, o_hurdles, o_fewestKept, s_listed, s_starts, s_nexts, s_values) 45 _ dX1_fewestFor_45 h
set_option maxHeartbeats 4000000 in
set_option maxRecDepth 100000 in
theorem c_X1_fewestFor {D : DG} {cyI cyJ cyZ : ClassId} {a_o a_o_fewestKept a_o_row a_f a_f_needs a_f_sideCounts a_f_yardSums a_f_beside a_s a_s_starts a_s_nexts a_s_values : Nat} {o_length : Int32} {o_lifted : Int32} {o_bestYards : Int32} {o_bestHurdles : Int32} {o_yards : Int32} {o_hurdles : Int32} {o_fewestKept : Nat → Int32} {o_row : Nat → Int32} {f_all : Int32} {f_wanted : Int32} {f_mostSides : Int32} {f_needs : Nat → Int32} {f_sideCounts : Nat → Int32} {f_yardSums : Nat → Int32} {f_beside : Nat → Int32} {s_listed : Option Nat} {s_starts : Nat → Int32} {s_nexts : Nat → Int32} {s_values : Nat → Int32} {p1 : Int32} {Q : Int32 → (Int32 × Int32 × (Nat → Int32) × Option Nat × (Nat → Int32) × (Nat → Int32) × (Nat → Int32)) → Prop} (h : wp_X1_fewestFor a_f p1 o_yards o_hurdles o_fewestKept f_all f_wanted f_mostSides f_needs f_sideCounts f_yardSums f_beside s_listed s_starts s_nexts s_values Q) :
    MetI yX1_fewestFor cX1_fewestFor 2 (some .int) rm_X1_fewestFor D [(cyI, .int), (cyJ, .long), (cyZ, .boolean)] [.ref a_o, .int p1] (W_Courses cyI cyJ cyZ a_o a_o_fewestKept a_o_row a_f a_f_needs a_f_sideCounts a_f_yardSums a_f_beside a_s a_s_starts a_s_nexts a_s_values o_length o_lifted o_bestYards o_bestHurdles o_yards o_hurdles o_fewestKept o_row f_all f_wanted f_mostSides f_needs f_sideCounts f_yardSums f_beside s_listed s_starts s_nexts s_values) (fun u : Int32 × Int32 × (Nat → Int32) × Option Nat × (Nat → Int32) × (Nat → Int32) × (Nat → Int32) => (W_Courses cyI cyJ cyZ a_o a_o_fewestKept a_o_row a_f a_f_needs a_f_sideCounts a_f_yardSums a_f_beside a_s a_s_starts a_s_nexts a_s_values o_length o_lifted o_bestYards o_bestHurdles u.1 u.2.1 u.2.2.1 o_row f_all f_wanted f_mostSides f_needs f_sideCounts f_yardSums f_beside u.2.2.2.1 u.2.2.2.2.1 u.2.2.2.2.2.1 u.2.2.2.2.2.2)) (fun v u => Q v u) := by
  unfold wp_X1_fewestFor at h
  refine metI_of (by decide) (Nat.le_of_ble_eq_true rfl) (fun x cx0 hR0 => ?_)
  have cx : Cx x cX1_fewestFor 2 RX1 rm_X1_fewestFor D [(cyI, .int), (cyJ, .long), (cyZ, .boolean)] := cx0
  have hR : ∀ (v : Int32) (u : Int32 × Int32 × (Nat → Int32) × Option Nat × (Nat → Int32) × (Nat → Int32) × (Nat → Int32)) (pc : Nat) (lv : List (Nat × Value)), decode cX1_fewestFor pc = .ok (.ireturn, 1) → Q v u → J x 0 0 2 (W_Courses cyI cyJ cyZ a_o a_o_fewestKept a_o_row a_f a_f_needs a_f_sideCounts a_f_yardSums a_f_beside a_s a_s_starts a_s_nexts a_s_values o_length o_lifted o_bestYards o_bestHurdles u.1 u.2.1 u.2.2.1 o_row f_all f_wanted f_mostSides f_needs f_sideCounts f_yardSums f_beside u.2.2.2.1 u.2.2.2.2.1 u.2.2.2.2.2.1 u.2.2.2.2.2.2) lv pc [.int v] := (fun v u pc lv d hq => hR0 v u pc lv d hq)
  show J x 0 0 2 (W_Courses cyI cyJ cyZ a_o a_o_fewestKept a_o_row a_f a_f_needs a_f_sideCounts a_f_yardSums a_f_beside a_s a_s_starts a_s_nexts a_s_values o_length o_lifted o_bestYards o_bestHurdles o_yards o_hurdles o_fewestKept o_row f_all f_wanted f_mostSides f_needs f_sideCounts f_yardSums f_beside s_listed s_starts s_nexts s_values) [(0, .ref a_o), (1, .int p1)] 0 []
  refine j_aload_n cx 0 rfl rfl dX1_fewestFor_0 (pn := 1) rfl ?_
  refine j_get cx inGX1 0 rfl rfl 2 (by decide) q_fl_X1_9 rfl rfl dX1_fewestFor_1 (pn := 4) rfl ?_
  refine j_iload_n cx 1 rfl rfl dX1_fewestFor_4 (pn := 5) rfl ?_
  refine j_iald cx 1 0 rfl rfl h.1 dX1_fewestFor_5 (pn := 6) rfl ?_
  have h := h.2
  refine j_bipush cx (v := (-2)) (by decide) dX1_fewestFor_6 (pn := 8) rfl ?_
  refine j_icmp_ne cx 39 dX1_fewestFor_8 (pn := 11) rfl rfl (fun c1 => ?_) (fun c1 => ?_)
  · have h := h.1 c1
    exact J_X1_fewestFor_39 cx hR h
  · have h := h.2 c1
    refine j_aload_n cx 0 rfl rfl dX1_fewestFor_11 (pn := 12) rfl ?_
    refine j_iconst cx (v := 0) (by decide) dX1_fewestFor_12 (pn := 13) rfl ?_
    refine j_iload_n cx 1 rfl rfl dX1_fewestFor_13 (pn := 14) rfl ?_
    refine j_aload_n cx 0 rfl rfl dX1_fewestFor_14 (pn := 15) rfl ?_
    refine j_get cx inGX1 0 rfl rfl 0 (by decide) q_fl_X1_18 rfl rfl dX1_fewestFor_15 (pn := 18) rfl ?_
    refine j_getN cx inGX3 3 rfl rfl 6 (by decide) q_fl_X1_41 rfl rfl dX1_fewestFor_18 (pn := 21) rfl ?_
    refine j_callvV0 cx q_inst_X1_workOut q_sel_X1_workOut (b := a_o) (As := [.int 0, .int p1, .int f_mostSides]) (rest := []) (c_X1_workOut h) ⟨q_code_X1_workOut, q_ml_X1_46, q_init_X1, hd_X1_workOut, ⟨Nat.le_of_ble_eq_true rfl, Nat.le_of_ble_eq_true rfl⟩, Nat.le_of_ble_eq_true rfl, Nat.le_of_ble_eq_true rfl⟩ (q0 := 0) rfl rfl rfl rfl (Nat.le_of_ble_eq_true rfl) dX1_fewestFor_21 (pn := 24) rfl (fun u2 h => ?_)
    show J x 0 0 2 (W_Courses cyI cyJ cyZ a_o a_o_fewestKept a_o_row a_f a_f_needs a_f_sideCounts a_f_yardSums a_f_beside a_s a_s_starts a_s_nexts a_s_values o_length o_lifted o_bestYards o_bestHurdles u2.1 u2.2.1 o_fewestKept o_row f_all f_wanted f_mostSides f_needs f_sideCounts f_yardSums f_beside u2.2.2.1 u2.2.2.2.1 u2.2.2.2.2.1 u2.2.2.2.2.2) [(0, .ref a_o), (1, .int p1)] 24 []
    refine j_aload_n cx 0 rfl rfl dX1_fewestFor_24 (pn := 25) rfl ?_
    refine j_get cx inGX1 0 rfl rfl 2 (by decide) q_fl_X1_9 rfl rfl dX1_fewestFor_25 (pn := 28) rfl ?_
    refine j_iload_n cx 1 rfl rfl dX1_fewestFor_28 (pn := 29) rfl ?_
    refine j_aload_n cx 0 rfl rfl dX1_fewestFor_29 (pn := 30) rfl ?_
    refine j_iconst cx (v := 0) (by decide) dX1_fewestFor_30 (pn := 31) rfl ?_
    refine j_iconst cx (v := 0) (by decide) dX1_fewestFor_31 (pn := 32) rfl ?_
    refine j_callvI0 cx q_inst_X1_leastNeededOn q_sel_X1_leastNeededOn (b := a_o) (As := [.int 0, .int 0]) (rest := [.int p1, .ref a_o_fewestKept]) (c_X1_leastNeededOn h) ⟨q_code_X1_leastNeededOn, q_ml_X1_50, q_init_X1, hd_X1_leastNeededOn, ⟨Nat.le_of_ble_eq_true rfl, Nat.le_of_ble_eq_true rfl⟩, Nat.le_of_ble_eq_true rfl, Nat.le_of_ble_eq_true rfl⟩ (q0 := 0) rfl rfl rfl rfl (Nat.le_of_ble_eq_true rfl) dX1_fewestFor_32 (pn := 35) rfl (fun r3 _ h => ?_)
    show J x 0 0 2 (W_Courses cyI cyJ cyZ a_o a_o_fewestKept a_o_row a_f a_f_needs a_f_sideCounts a_f_yardSums a_f_beside a_s a_s_starts a_s_nexts a_s_values o_length o_lifted o_bestYards o_bestHurdles u2.1 u2.2.1 o_fewestKept o_row f_all f_wanted f_mostSides f_needs f_sideCounts f_yardSums f_beside u2.2.2.1 u2.2.2.2.1 u2.2.2.2.2.1 u2.2.2.2.2.2) [(0, .ref a_o), (1, .int p1)] 35 [.int r3, .int p1, .ref a_o_fewestKept]
    refine j_calleI cx q_stat_X1_orNone (As := [.int r3]) (rest := [.int p1, .ref a_o_fewestKept]) (c_X1_orNone h) ⟨q_code_X1_orNone, q_ml_X1_54, q_init_X1, hd_X1_orNone, ⟨Nat.le_of_ble_eq_true rfl, Nat.le_of_ble_eq_true rfl⟩, Nat.le_of_ble_eq_true rfl, Nat.le_of_ble_eq_true rfl⟩ rfl rfl (Nat.le_of_ble_eq_true rfl) dX1_fewestFor_35 (pn := 38) rfl (fun r4 h => ?_)
    show J x 0 0 2 (W_Courses cyI cyJ cyZ a_o a_o_fewestKept a_o_row a_f a_f_needs a_f_sideCounts a_f_yardSums a_f_beside a_s a_s_starts a_s_nexts a_s_values o_length o_lifted o_bestYards o_bestHurdles u2.1 u2.2.1 o_fewestKept o_row f_all f_wanted f_mostSides f_needs f_sideCounts f_yardSums f_beside u2.2.2.1 u2.2.2.2.1 u2.2.2.2.2.1 u2.2.2.2.2.2) [(0, .ref a_o), (1, .int p1)] 38 [.int r4, .int p1, .ref a_o_fewestKept]
    have hin := h.1
    obtain ⟨f5, ef5⟩ : ∃ z, z = upd o_fewestKept p1.toNatClampNeg r4 := ⟨_, rfl⟩
    have h := h.2 f5 ef5
    refine j_iast cx 1 0 rfl rfl hin (W_Courses cyI cyJ cyZ a_o a_o_fewestKept a_o_row a_f a_f_needs a_f_sideCounts a_f_yardSums a_f_beside a_s a_s_starts a_s_nexts a_s_values o_length o_lifted o_bestYards o_bestHurdles u2.1 u2.2.1 f5 o_row f_all f_wanted f_mostSides f_needs f_sideCounts f_yardSums f_beside u2.2.2.1 u2.2.2.2.1 u2.2.2.2.2.1 u2.2.2.2.2.2) (by subst ef5; rfl) dX1_fewestFor_38 (pn := 39) rfl ?_
    exact J_X1_fewestFor_39 cx hR h
theorem dX1_leastNext_0 : decode cX1_leastNext 0 = .ok (.aload_n 0, 1) := by decide +kernel
theorem dX1_leastNext_1 : decode cX1_leastNext 1 = .ok (.getfield 18, 3) := by decide +kernel
theorem dX1_leastNext_4 : decode cX1_leastNext 4 = .ok (.iload_n 2, 1) := by decide +kernel
theorem dX1_leastNext_5 : decode cX1_leastNext 5 = .ok (.invokevirtual 93, 3) := by decide +kernel
theorem dX1_leastNext_8 : decode cX1_leastNext 8 = .ok (.istore 4, 2) := by decide +kernel
theorem dX1_leastNext_10 : decode cX1_leastNext 10 = .ok (.aload_n 0, 1) := by decide +kernel
theorem dX1_leastNext_11 : decode cX1_leastNext 11 = .ok (.getfield 22, 3) := by decide +kernel
theorem dX1_leastNext_14 : decode cX1_leastNext 14 = .ok (.getfield 96, 3) := by decide +kernel
theorem dX1_leastNext_17 : decode cX1_leastNext 17 = .ok (.iload_n 1, 1) := by decide +kernel
theorem dX1_leastNext_18 : decode cX1_leastNext 18 = .ok (.iconst 1, 1) := by decide +kernel
theorem dX1_leastNext_19 : decode cX1_leastNext 19 = .ok (.iadd, 1) := by decide +kernel
theorem dX1_leastNext_20 : decode cX1_leastNext 20 = .ok (.iaload, 1) := by decide +kernel
theorem dX1_leastNext_21 : decode cX1_leastNext 21 = .ok (.iconst 1, 1) := by decide +kernel
theorem dX1_leastNext_22 : decode cX1_leastNext 22 = .ok (.isub, 1) := by decide +kernel
theorem dX1_leastNext_23 : decode cX1_leastNext 23 = .ok (.istore 5, 2) := by decide +kernel
theorem dX1_leastNext_25 : decode cX1_leastNext 25 = .ok (.iload 5, 2) := by decide +kernel
theorem dX1_leastNext_27 : decode cX1_leastNext 27 = .ok (.aload_n 0, 1) := by decide +kernel
theorem dX1_leastNext_28 : decode cX1_leastNext 28 = .ok (.getfield 22, 3) := by decide +kernel
theorem dX1_leastNext_31 : decode cX1_leastNext 31 = .ok (.getfield 96, 3) := by decide +kernel
theorem dX1_leastNext_34 : decode cX1_leastNext 34 = .ok (.iload_n 1, 1) := by decide +kernel
theorem dX1_leastNext_35 : decode cX1_leastNext 35 = .ok (.iaload, 1) := by decide +kernel
theorem dX1_leastNext_36 : decode cX1_leastNext 36 = .ok (.if_icmp .lt 57, 3) := by decide +kernel
theorem dX1_leastNext_39 : decode cX1_leastNext 39 = .ok (.aload_n 0, 1) := by decide +kernel
theorem dX1_leastNext_40 : decode cX1_leastNext 40 = .ok (.getfield 22, 3) := by decide +kernel
theorem dX1_leastNext_43 : decode cX1_leastNext 43 = .ok (.getfield 99, 3) := by decide +kernel
theorem dX1_leastNext_46 : decode cX1_leastNext 46 = .ok (.iload 5, 2) := by decide +kernel
theorem dX1_leastNext_48 : decode cX1_leastNext 48 = .ok (.iaload, 1) := by decide +kernel
theorem dX1_leastNext_49 : decode cX1_leastNext 49 = .ok (.istore 6, 2) := by decide +kernel
theorem dX1_leastNext_51 : decode cX1_leastNext 51 = .ok (.iload 4, 2) := by decide +kernel
theorem dX1_leastNext_53 : decode cX1_leastNext 53 = .ok (.iload 6, 2) := by decide +kernel
theorem dX1_leastNext_55 : decode cX1_leastNext 55 = .ok (.iand, 1) := by decide +kernel
theorem dX1_leastNext_56 : decode cX1_leastNext 56 = .ok (.ifCond .eq 31, 3) := by decide +kernel
theorem dX1_leastNext_59 : decode cX1_leastNext 59 = .ok (.aload_n 0, 1) := by decide +kernel
theorem dX1_leastNext_60 : decode cX1_leastNext 60 = .ok (.getfield 18, 3) := by decide +kernel
theorem dX1_leastNext_63 : decode cX1_leastNext 63 = .ok (.iload 6, 2) := by decide +kernel
theorem dX1_leastNext_65 : decode cX1_leastNext 65 = .ok (.iload_n 2, 1) := by decide +kernel
theorem dX1_leastNext_66 : decode cX1_leastNext 66 = .ok (.invokevirtual 90, 3) := by decide +kernel
theorem dX1_leastNext_69 : decode cX1_leastNext 69 = .ok (.aload_n 0, 1) := by decide +kernel
theorem dX1_leastNext_70 : decode cX1_leastNext 70 = .ok (.getfield 22, 3) := by decide +kernel
theorem dX1_leastNext_73 : decode cX1_leastNext 73 = .ok (.getfield 102, 3) := by decide +kernel
theorem dX1_leastNext_76 : decode cX1_leastNext 76 = .ok (.iload 5, 2) := by decide +kernel
theorem dX1_leastNext_78 : decode cX1_leastNext 78 = .ok (.iaload, 1) := by decide +kernel
theorem dX1_leastNext_79 : decode cX1_leastNext 79 = .ok (.iadd, 1) := by decide +kernel
theorem dX1_leastNext_80 : decode cX1_leastNext 80 = .ok (.iload_n 3, 1) := by decide +kernel
theorem dX1_leastNext_81 : decode cX1_leastNext 81 = .ok (.if_icmp .ne 6, 3) := by decide +kernel
theorem dX1_leastNext_84 : decode cX1_leastNext 84 = .ok (.iload 6, 2) := by decide +kernel
theorem dX1_leastNext_86 : decode cX1_leastNext 86 = .ok (.ireturn, 1) := by decide +kernel
theorem dX1_leastNext_87 : decode cX1_leastNext 87 = .ok (.iinc 5 (-1), 3) := by decide +kernel
theorem dX1_leastNext_90 : decode cX1_leastNext 90 = .ok (.goto (-65), 3) := by decide +kernel
theorem dX1_leastNext_93 : decode cX1_leastNext 93 = .ok (.iconst 0, 1) := by decide +kernel
theorem dX1_leastNext_94 : decode cX1_leastNext 94 = .ok (.ireturn, 1) := by decide +kernel
abbrev rm_X1_leastNext : Room := { frames := 2, cells := 0, slots := 0, locals := 42 }
theorem hd_X1_leastNext : yX1_leastNext.cls ≠ "java/lang/invoke/MethodHandle" ∧ yX1_leastNext.cls ≠ "java/lang/invoke/VarHandle" ∧ (parseMethodDescriptor yX1_leastNext.desc).map (fun d => d.parameters.length) = some 3 := by decide +kernel
def bk_X1_leastNext_87 (Q : Int32 → Prop) (B25 : Int32 → Prop) (x5 : Int32) : Prop :=
∀ y6 : Int32, y6 = (x5 + (-1)) →
B25 y6
def bd_X1_leastNext_25 (Q : Int32 → Prop) (B25 : Int32 → Prop) (p1 : Int32) (p2 : Int32) (p3 : Int32) (x4 : Int32) (f_needs : Nat → Int32) (s_starts : Nat → Int32) (s_nexts : Nat → Int32) (s_values : Nat → Int32) (x5 : Int32) : Prop :=
vp_in p1 1025 ∧ ((x5 < (s_starts p1.toNatClampNeg) → Q 0) ∧
(¬ x5 < (s_starts p1.toNatClampNeg) → vp_in x5 4096 ∧ (∀ y4 : Int32, y4 = (s_nexts x5.toNatClampNeg) →
(((x4 &&& y4) = 0 → bk_X1_leastNext_87 Q B25 x5) ∧
(¬ (x4 &&& y4) = 0 → wp_X3_liftedTo y4 p2 f_needs (fun (r7 : Int32) => vp_in x5 4096 ∧ ((¬ (r7 + (s_values x5.toNatClampNeg)) = p3 → bk_X1_leastNext_87 Q B25 x5) ∧
((r7 + (s_values x5.toNatClampNeg)) = p3 → Q y4))))))))
def lp_X1_leastNext_25 (Q : Int32 → Prop) (p1 : Int32) (p2 : Int32) (p3 : Int32) (x4 : Int32) (f_needs : Nat → Int32) (s_starts : Nat → Int32) (s_nexts : Nat → Int32) (s_values : Nat → Int32) (x5 : Int32) : Prop :=
∃ I : Nat → Int32 → Prop, (∃ n, I n x5) ∧ ∀ n x5, I n x5 → bd_X1_leastNext_25 Q  (fun x5' => ∃ n', n' < n ∧ I n' x5') p1 p2 p3 x4 f_needs s_starts s_nexts s_values x5
def wp_X1_leastNext (p1 : Int32) (p2 : Int32) (p3 : Int32) (f_all : Int32) (f_needs : Nat → Int32) (f_beside : Nat → Int32) (s_starts : Nat → Int32) (s_nexts : Nat → Int32) (s_values : Nat → Int32) (Q : Int32 → Prop) : Prop :=
wp_X3_nextTo p2 f_all f_beside (fun (r1 : Int32) => vp_in (p1 + 1) 1025 ∧ (∀ y2 : Int32, y2 = ((s_starts (p1 + 1).toNatClampNeg) - 1) →
lp_X1_leastNext_25 Q p1 p2 p3 r1 f_needs s_starts s_nexts s_values y2))
set_option maxHeartbeats 4000000 in
set_option maxRecDepth 100000 in
theorem J_X1_leastNext_87 {x : CX} {D : DG} {cyI cyJ cyZ : ClassId} {a_o a_o_fewestKept a_o_row a_f a_f_needs a_f_sideCounts a_f_yardSums a_f_beside a_s a_s_starts a_s_nexts a_s_values : Nat} {o_length : Int32} {o_lifted : Int32} {o_bestYards : Int32} {o_bestHurdles : Int32} {o_yards : Int32} {o_hurdles : Int32} {o_fewestKept : Nat → Int32} {o_row : Nat → Int32} {f_all : Int32} {f_wanted : Int32} {f_mostSides : Int32} {f_needs : Nat → Int32} {f_sideCounts : Nat → Int32} {f_yardSums : Nat → Int32} {f_beside : Nat → Int32} {s_listed : Option Nat} {s_starts : Nat → Int32} {s_nexts : Nat → Int32} {s_values : Nat → Int32} {p1 : Int32} {p2 : Int32} {p3 : Int32} {x4 : Int32} {x5 : Int32} {Q : Int32 → Prop} {B25 : Int32 → Prop} (cx : Cx x cX1_leastNext 7 RX1 rm_X1_leastNext D [(cyI, .int), (cyJ, .long), (cyZ, .boolean)]) (hR : ∀ (v : Int32) (pc : Nat) (lv : List (Nat × Value)), decode cX1_leastNext pc = .ok (.ireturn, 1) → Q v → J x 0 0 7 (W_Courses cyI cyJ cyZ a_o a_o_fewestKept a_o_row a_f a_f_needs a_f_sideCounts a_f_yardSums a_f_beside a_s a_s_starts a_s_nexts a_s_values o_length o_lifted o_bestYards o_bestHurdles o_yards o_hurdles o_fewestKept o_row f_all f_wanted f_mostSides f_needs f_sideCounts f_yardSums f_beside s_listed s_starts s_nexts s_values) lv pc [.int v]) (hB25 : ∀ (x5 : Int32), B25 x5 → J x 0 0 7 (W_Courses cyI cyJ cyZ a_o a_o_fewestKept a_o_row a_f a_f_needs a_f_sideCounts a_f_yardSums a_f_beside a_s a_s_starts a_s_nexts a_s_values o_length o_lifted o_bestYards o_bestHurdles o_yards o_hurdles o_fewestKept o_row f_all f_wanted f_mostSides f_needs f_sideCounts f_yardSums f_beside s_listed s_starts s_nexts s_values) [(0, .ref a_o), (1, .int p1), (2, .int p2), (3, .int p3), (4, .int x4), (5, .int x5)] 25 []) (h : bk_X1_leastNext_87 Q B25 x5) :
    J x 0 0 7 (W_Courses cyI cyJ cyZ a_o a_o_fewestKept a_o_row a_f a_f_needs a_f_sideCounts a_f_yardSums a_f_beside a_s a_s_starts a_s_nexts a_s_values o_length o_lifted o_bestYards o_bestHurdles o_yards o_hurdles o_fewestKept o_row f_all f_wanted f_mostSides f_needs f_sideCounts f_yardSums f_beside s_listed s_starts s_nexts s_values) [(0, .ref a_o), (1, .int p1), (2, .int p2), (3, .int p3), (4, .int x4), (5, .int x5)] 87 [] := by
  unfold bk_X1_leastNext_87 at h
  obtain ⟨y6, ey6⟩ : ∃ z : Int32, z = x5 + (-1) := ⟨_, rfl⟩
  have h := h y6 ey6
  refine j_iinc cx 5 rfl (cst := (-1)) (by decide) ey6 [(5, .int y6), (0, .ref a_o), (1, .int p1), (2, .int p2), (3, .int p3), (4, .int x4)] (by decide) rfl dX1_leastNext_87 (pn := 90) rfl ?_
  refine j_goto cx 25 dX1_leastNext_90 rfl ?_
  refine j_sub [1, 2, 3, 4, 5, 0] [(0, .ref a_o), (1, .int p1), (2, .int p2), (3, .int p3), (4, .int x4), (5, .int y6)] rfl ?_
  exact hB25 _ h
set_option maxHeartbeats 4000000 in
set_option maxRecDepth 100000 in
theorem B_X1_leastNext_25 {x : CX} {D : DG} {cyI cyJ cyZ : ClassId} {a_o a_o_fewestKept a_o_row a_f a_f_needs a_f_sideCounts a_f_yardSums a_f_beside a_s a_s_starts a_s_nexts a_s_values : Nat} {o_length : Int32} {o_lifted : Int32} {o_bestYards : Int32} {o_bestHurdles : Int32} {o_yards : Int32} {o_hurdles : Int32} {o_fewestKept : Nat → Int32} {o_row : Nat → Int32} {f_all : Int32} {f_wanted : Int32} {f_mostSides : Int32} {f_needs : Nat → Int32} {f_sideCounts : Nat → Int32} {f_yardSums : Nat → Int32} {f_beside : Nat → Int32} {s_listed : Option Nat} {s_starts : Nat → Int32} {s_nexts : Nat → Int32} {s_values : Nat → Int32} {p1 : Int32} {p2 : Int32} {p3 : Int32} {x4 : Int32} {x5 : Int32} {Q : Int32 → Prop} {B25 : Int32 → Prop} (cx : Cx x cX1_leastNext 7 RX1 rm_X1_leastNext D [(cyI, .int), (cyJ, .long), (cyZ, .boolean)]) (hR : ∀ (v : Int32) (pc : Nat) (lv : List (Nat × Value)), decode cX1_leastNext pc = .ok (.ireturn, 1) → Q v → J x 0 0 7 (W_Courses cyI cyJ cyZ a_o a_o_fewestKept a_o_row a_f a_f_needs a_f_sideCounts a_f_yardSums a_f_beside a_s a_s_starts a_s_nexts a_s_values o_length o_lifted o_bestYards o_bestHurdles o_yards o_hurdles o_fewestKept o_row f_all f_wanted f_mostSides f_needs f_sideCounts f_yardSums f_beside s_listed s_starts s_nexts s_values) lv pc [.int v]) (hB25 : ∀ (x5 : Int32), B25 x5 → J x 0 0 7 (W_Courses cyI cyJ cyZ a_o a_o_fewestKept a_o_row a_f a_f_needs a_f_sideCounts a_f_yardSums a_f_beside a_s a_s_starts a_s_nexts a_s_values o_length o_lifted o_bestYards o_bestHurdles o_yards o_hurdles o_fewestKept o_row f_all f_wanted f_mostSides f_needs f_sideCounts f_yardSums f_beside s_listed s_starts s_nexts s_values) [(0, .ref a_o), (1, .int p1), (2, .int p2), (3, .int p3), (4, .int x4), (5, .int x5)] 25 []) (h : bd_X1_leastNext_25 Q B25 p1 p2 p3 x4 f_needs s_starts s_nexts s_values x5) :
    J x 0 0 7 (W_Courses cyI cyJ cyZ a_o a_o_fewestKept a_o_row a_f a_f_needs a_f_sideCounts a_f_yardSums a_f_beside a_s a_s_starts a_s_nexts a_s_values o_length o_lifted o_bestYards o_bestHurdles o_yards o_hurdles o_fewestKept o_row f_all f_wanted f_mostSides f_needs f_sideCounts f_yardSums f_beside s_listed s_starts s_nexts s_values) [(0, .ref a_o), (1, .int p1), (2, .int p2), (3, .int p3), (4, .int x4), (5, .int x5)] 25 [] := by
  unfold bd_X1_leastNext_25 at h
  refine j_iload cx 5 rfl dX1_leastNext_25 (pn := 27) rfl ?_
  refine j_aload_n cx 0 rfl rfl dX1_leastNext_27 (pn := 28) rfl ?_
  refine j_get cx inGX1 0 rfl rfl 1 (by decide) q_fl_X1_22 rfl rfl dX1_leastNext_28 (pn := 31) rfl ?_
  refine j_getN cx inGX7 8 rfl rfl 0 (by decide) q_fl_X1_96 rfl rfl dX1_leastNext_31 (pn := 34) rfl ?_
  refine j_iload_n cx 1 rfl rfl dX1_leastNext_34 (pn := 35) rfl ?_
  refine j_iald cx 9 0 rfl rfl h.1 dX1_leastNext_35 (pn := 36) rfl ?_
  have h := h.2
  refine j_icmp_lt cx 93 dX1_leastNext_36 (pn := 39) rfl rfl (fun c3 => ?_) (fun c3 => ?_)
  · have h := h.1 c3
    refine j_iconst cx (v := 0) (by decide) dX1_leastNext_93 (pn := 94) rfl ?_
    exact hR 0 94 _ dX1_leastNext_94 h
  · have h := h.2 c3
    refine j_aload_n cx 0 rfl rfl dX1_leastNext_39 (pn := 40) rfl ?_
    refine j_get cx inGX1 0 rfl rfl 1 (by decide) q_fl_X1_22 rfl rfl dX1_leastNext_40 (pn := 43) rfl ?_
    refine j_getN cx inGX7 8 rfl rfl 1 (by decide) q_fl_X1_99 rfl rfl dX1_leastNext_43 (pn := 46) rfl ?_
    refine j_iload cx 5 rfl dX1_leastNext_46 (pn := 48) rfl ?_
    refine j_iald cx 10 0 rfl rfl h.1 dX1_leastNext_48 (pn := 49) rfl ?_
    have h := h.2
    refine j_topi (fun y4 ey4 => ?_)
    have h := h y4 ey4
    refine j_istore cx [(6, .int y4), (0, .ref a_o), (1, .int p1), (2, .int p2), (3, .int p3), (4, .int x4), (5, .int x5)] (by decide) rfl dX1_leastNext_49 (pn := 51) rfl ?_
    refine j_iload cx 5 rfl dX1_leastNext_51 (pn := 53) rfl ?_
    refine j_iload cx 0 rfl dX1_leastNext_53 (pn := 55) rfl ?_
    refine j_iand cx dX1_leastNext_55 (pn := 56) rfl ?_
    refine j_if_eq cx 87 dX1_leastNext_56 (pn := 59) rfl rfl (fun c5 => ?_) (fun c5 => ?_)
    · have h := h.1 c5
      refine j_sub [1, 2, 3, 4, 5, 6] [(0, .ref a_o), (1, .int p1), (2, .int p2), (3, .int p3), (4, .int x4), (5, .int x5)] rfl ?_
      exact J_X1_leastNext_87 cx hR hB25 h
    · have h := h.2 c5
      refine j_aload_n cx 1 rfl rfl dX1_leastNext_59 (pn := 60) rfl ?_
      refine j_get cx inGX1 0 rfl rfl 0 (by decide) q_fl_X1_18 rfl rfl dX1_leastNext_60 (pn := 63) rfl ?_
      refine j_iload cx 0 rfl dX1_leastNext_63 (pn := 65) rfl ?_
      refine j_iload_n cx 3 rfl rfl dX1_leastNext_65 (pn := 66) rfl ?_
      refine j_callvI cx q_inst_X3_liftedTo q_sel_X3_liftedTo (b := a_f) (As := [.int y4, .int p2]) (rest := []) (W_FT cyI cyJ cyZ a_f a_f_needs a_f_sideCounts a_f_yardSums a_f_beside f_all f_wanted f_mostSides f_needs f_sideCounts f_yardSums f_beside) [(a_o, .inr (1, [.ref a_f, .ref a_s, .ref a_o_fewestKept, .ref a_o_row, .int o_length, .int o_lifted, .int o_bestYards, .int o_bestHurdles, .int o_yards, .int o_hurdles])), (a_o_fewestKept, .inl (cyI, 91, .inl o_fewestKept)), (a_o_row, .inl (cyI, 10, .inl o_row)), (a_s, .inr (7, [.ref a_s_starts, .ref a_s_nexts, .ref a_s_values, va_rf s_listed])), (a_s_starts, .inl (cyI, 1025, .inl s_starts)), (a_s_nexts, .inl (cyI, 4096, .inl s_nexts)), (a_s_values, .inl (cyI, 4096, .inl s_values))] (c_X3_liftedTo h) ⟨q_code_X3_liftedTo, q_ml_X1_90, q_init_X3, hd_X3_liftedTo, ⟨Nat.le_of_ble_eq_true rfl, Nat.le_of_ble_eq_true rfl⟩, Nat.le_of_ble_eq_true rfl, Nat.le_of_ble_eq_true rfl⟩ (q0 := 0) rfl rfl rfl [3, 4, 5, 6, 7] [0, 1, 2, 8, 9, 10, 11] [0, 1, 2, 7, 8, 9, 10, 11, 3, 4, 5, 6] rfl rfl rfl rfl rfl (by decide) (fun _ : Unit => (W_Courses cyI cyJ cyZ a_o a_o_fewestKept a_o_row a_f a_f_needs a_f_sideCounts a_f_yardSums a_f_beside a_s a_s_starts a_s_nexts a_s_values o_length o_lifted o_bestYards o_bestHurdles o_yards o_hurdles o_fewestKept o_row f_all f_wanted f_mostSides f_needs f_sideCounts f_yardSums f_beside s_listed s_starts s_nexts s_values)) (fun _ => rfl) (fun _ => rfl) rfl rfl (Nat.le_of_ble_eq_true rfl) dX1_leastNext_66 (pn := 69) rfl (fun r7 _ h => ?_)
      show J x 0 0 7 (W_Courses cyI cyJ cyZ a_o a_o_fewestKept a_o_row a_f a_f_needs a_f_sideCounts a_f_yardSums a_f_beside a_s a_s_starts a_s_nexts a_s_values o_length o_lifted o_bestYards o_bestHurdles o_yards o_hurdles o_fewestKept o_row f_all f_wanted f_mostSides f_needs f_sideCounts f_yardSums f_beside s_listed s_starts s_nexts s_values) [(6, .int y4), (0, .ref a_o), (1, .int p1), (2, .int p2), (3, .int p3), (4, .int x4), (5, .int x5)] 69 [.int r7]
      refine j_aload_n cx 1 rfl rfl dX1_leastNext_69 (pn := 70) rfl ?_
      refine j_get cx inGX1 0 rfl rfl 1 (by decide) q_fl_X1_22 rfl rfl dX1_leastNext_70 (pn := 73) rfl ?_
      refine j_getN cx inGX7 8 rfl rfl 2 (by decide) q_fl_X1_102 rfl rfl dX1_leastNext_73 (pn := 76) rfl ?_
      refine j_iload cx 6 rfl dX1_leastNext_76 (pn := 78) rfl ?_
      refine j_iald cx 11 0 rfl rfl h.1 dX1_leastNext_78 (pn := 79) rfl ?_
      have h := h.2
      refine j_iadd cx dX1_leastNext_79 (pn := 80) rfl ?_
      refine j_iload_n cx 4 rfl rfl dX1_leastNext_80 (pn := 81) rfl ?_
      refine j_icmp_ne cx 87 dX1_leastNext_81 (pn := 84) rfl rfl (fun c8 => ?_) (fun c8 => ?_)
      · have h := h.1 c8
        refine j_sub [1, 2, 3, 4, 5, 6] [(0, .ref a_o), (1, .int p1), (2, .int p2), (3, .int p3), (4, .int x4), (5, .int x5)] rfl ?_
        exact J_X1_leastNext_87 cx hR hB25 h
      · have h := h.2 c8
        refine j_iload cx 0 rfl dX1_leastNext_84 (pn := 86) rfl ?_
        exact hR y4 86 _ dX1_leastNext_86 h
set_option maxHeartbeats 4000000 in
set_option maxRecDepth 100000 in
theorem J_X1_leastNext_25 {x : CX} {D : DG} {cyI cyJ cyZ : ClassId} {a_o a_o_fewestKept a_o_row a_f a_f_needs a_f_sideCounts a_f_yardSums a_f_beside a_s a_s_starts a_s_nexts a_s_values : Nat} {o_length : Int32} {o_lifted : Int32} {o_bestYards : Int32} {o_bestHurdles : Int32} {o_yards : Int32} {o_hurdles : Int32} {o_fewestKept : Nat → Int32} {o_row : Nat → Int32} {f_all : Int32} {f_wanted : Int32} {f_mostSides : Int32} {f_needs : Nat → Int32} {f_sideCounts : Nat → Int32} {f_yardSums : Nat → Int32} {f_beside : Nat → Int32} {s_listed : Option Nat} {s_starts : Nat → Int32} {s_nexts : Nat → Int32} {s_values : Nat → Int32} {p1 : Int32} {p2 : Int32} {p3 : Int32} {x4 : Int32} {x5 : Int32} {Q : Int32 → Prop} (cx : Cx x cX1_leastNext 7 RX1 rm_X1_leastNext D [(cyI, .int), (cyJ, .long), (cyZ, .boolean)]) (hR : ∀ (v : Int32) (pc : Nat) (lv : List (Nat × Value)), decode cX1_leastNext pc = .ok (.ireturn, 1) → Q v → J x 0 0 7 (W_Courses cyI cyJ cyZ a_o a_o_fewestKept a_o_row a_f a_f_needs a_f_sideCounts a_f_yardSums a_f_beside a_s a_s_starts a_s_nexts a_s_values o_length o_lifted o_bestYards o_bestHurdles o_yards o_hurdles o_fewestKept o_row f_all f_wanted f_mostSides f_needs f_sideCounts f_yardSums f_beside s_listed s_starts s_nexts s_values) lv pc [.int v]) (h : lp_X1_leastNext_25 Q  p1 p2 p3 x4 f_needs s_starts s_nexts s_values x5) :
    J x 0 0 7 (W_Courses cyI cyJ cyZ a_o a_o_fewestKept a_o_row a_f a_f_needs a_f_sideCounts a_f_yardSums a_f_beside a_s a_s_starts a_s_nexts a_s_values o_length o_lifted o_bestYards o_bestHurdles o_yards o_hurdles o_fewestKept o_row f_all f_wanted f_mostSides f_needs f_sideCounts f_yardSums f_beside s_listed s_starts s_nexts s_values) [(0, .ref a_o), (1, .int p1), (2, .int p2), (3, .int p3), (4, .int x4), (5, .int x5)] 25 [] := by
  obtain ⟨I, ⟨n, h0⟩, hb⟩ := h
  revert x5
  induction n using Nat.strongRecOn with
  | _ n ih =>
    intro x5 h0
    exact B_X1_leastNext_25 cx hR (fun _ hz => by obtain ⟨n2, hlt, hI⟩ := hz; exact ih n2 hlt hI) (hb n x5 h0)
set_option maxHeartbeats 4000000 in
set_option maxRecDepth 100000 in
theorem c_X1_leastNext {D : DG} {cyI cyJ cyZ : ClassId} {a_o a_o_fewestKept a_o_row a_f a_f_needs a_f_sideCounts a_f_yardSums a_f_beside a_s a_s_starts a_s_nexts a_s_values : Nat} {o_length : Int32} {o_lifted : Int32} {o_bestYards : Int32} {o_bestHurdles : Int32} {o_yards : Int32} {o_hurdles : Int32} {o_fewestKept : Nat → Int32} {o_row : Nat → Int32} {f_all : Int32} {f_wanted : Int32} {f_mostSides : Int32} {f_needs : Nat → Int32} {f_sideCounts : Nat → Int32} {f_yardSums : Nat → Int32} {f_beside : Nat → Int32} {s_listed : Option Nat} {s_starts : Nat → Int32} {s_nexts : Nat → Int32} {s_values : Nat → Int32} {p1 : Int32} {p2 : Int32} {p3 : Int32} {Q : Int32 → Prop} (h : wp_X1_leastNext p1 p2 p3 f_all f_needs f_beside s_starts s_nexts s_values Q) :
    MetI yX1_leastNext cX1_leastNext 7 (some .int) rm_X1_leastNext D [(cyI, .int), (cyJ, .long), (cyZ, .boolean)] [.ref a_o, .int p1, .int p2, .int p3] (W_Courses cyI cyJ cyZ a_o a_o_fewestKept a_o_row a_f a_f_needs a_f_sideCounts a_f_yardSums a_f_beside a_s a_s_starts a_s_nexts a_s_values o_length o_lifted o_bestYards o_bestHurdles o_yards o_hurdles o_fewestKept o_row f_all f_wanted f_mostSides f_needs f_sideCounts f_yardSums f_beside s_listed s_starts s_nexts s_values) (fun _ : Unit => (W_Courses cyI cyJ cyZ a_o a_o_fewestKept a_o_row a_f a_f_needs a_f_sideCounts a_f_yardSums a_f_beside a_s a_s_starts a_s_nexts a_s_values o_length o_lifted o_bestYards o_bestHurdles o_yards o_hurdles o_fewestKept o_row f_all f_wanted f_mostSides f_needs f_sideCounts f_yardSums f_beside s_listed s_starts s_nexts s_values)) (fun v _ => Q v ) := by
  unfold wp_X1_leastNext at h
  refine metI_of (by decide) (Nat.le_of_ble_eq_true rfl) (fun x cx0 hR0 => ?_)
  have cx : Cx x cX1_leastNext 7 RX1 rm_X1_leastNext D [(cyI, .int), (cyJ, .long), (cyZ, .boolean)] := cx0
  have hR : ∀ (v : Int32) (pc : Nat) (lv : List (Nat × Value)), decode cX1_leastNext pc = .ok (.ireturn, 1) → Q v → J x 0 0 7 (W_Courses cyI cyJ cyZ a_o a_o_fewestKept a_o_row a_f a_f_needs a_f_sideCounts a_f_yardSums a_f_beside a_s a_s_starts a_s_nexts a_s_values o_length o_lifted o_bestYards o_bestHurdles o_yards o_hurdles o_fewestKept o_row f_all f_wanted f_mostSides f_needs f_sideCounts f_yardSums f_beside s_listed s_starts s_nexts s_values) lv pc [.int v] := (fun v pc lv d hq => hR0 v () pc lv d hq)
  show J x 0 0 7 (W_Courses cyI cyJ cyZ a_o a_o_fewestKept a_o_row a_f a_f_needs a_f_sideCounts a_f_yardSums a_f_beside a_s a_s_starts a_s_nexts a_s_values o_length o_lifted o_bestYards o_bestHurdles o_yards o_hurdles o_fewestKept o_row f_all f_wanted f_mostSides f_needs f_sideCounts f_yardSums f_beside s_listed s_starts s_nexts s_values) [(0, .ref a_o), (1, .int p1), (2, .int p2), (3, .int p3)] 0 []
  refine j_aload_n cx 0 rfl rfl dX1_leastNext_0 (pn := 1) rfl ?_
  refine j_get cx inGX1 0 rfl rfl 0 (by decide) q_fl_X1_18 rfl rfl dX1_leastNext_1 (pn := 4) rfl ?_
  refine j_iload_n cx 2 rfl rfl dX1_leastNext_4 (pn := 5) rfl ?_
  refine j_callvI cx q_inst_X3_nextTo q_sel_X3_nextTo (b := a_f) (As := [.int p2]) (rest := []) (W_FT cyI cyJ cyZ a_f a_f_needs a_f_sideCounts a_f_yardSums a_f_beside f_all f_wanted f_mostSides f_needs f_sideCounts f_yardSums f_beside) [(a_o, .inr (1, [.ref a_f, .ref a_s, .ref a_o_fewestKept, .ref a_o_row, .int o_length, .int o_lifted, .int o_bestYards, .int o_bestHurdles, .int o_yards, .int o_hurdles])), (a_o_fewestKept, .inl (cyI, 91, .inl o_fewestKept)), (a_o_row, .inl (cyI, 10, .inl o_row)), (a_s, .inr (7, [.ref a_s_starts, .ref a_s_nexts, .ref a_s_values, va_rf s_listed])), (a_s_starts, .inl (cyI, 1025, .inl s_starts)), (a_s_nexts, .inl (cyI, 4096, .inl s_nexts)), (a_s_values, .inl (cyI, 4096, .inl s_values))] (c_X3_nextTo h) ⟨q_code_X3_nextTo, q_ml_X1_93, q_init_X3, hd_X3_nextTo, ⟨Nat.le_of_ble_eq_true rfl, Nat.le_of_ble_eq_true rfl⟩, Nat.le_of_ble_eq_true rfl, Nat.le_of_ble_eq_true rfl⟩ (q0 := 0) rfl rfl rfl [3, 4, 5, 6, 7] [0, 1, 2, 8, 9, 10, 11] [0, 1, 2, 7, 8, 9, 10, 11, 3, 4, 5, 6] rfl rfl rfl rfl rfl (by decide) (fun _ : Unit => (W_Courses cyI cyJ cyZ a_o a_o_fewestKept a_o_row a_f a_f_needs a_f_sideCounts a_f_yardSums a_f_beside a_s a_s_starts a_s_nexts a_s_values o_length o_lifted o_bestYards o_bestHurdles o_yards o_hurdles o_fewestKept o_row f_all f_wanted f_mostSides f_needs f_sideCounts f_yardSums f_beside s_listed s_starts s_nexts s_values)) (fun _ => rfl) (fun _ => rfl) rfl rfl (Nat.le_of_ble_eq_true rfl) dX1_leastNext_5 (pn := 8) rfl (fun r1 _ h => ?_)
  show J x 0 0 7 (W_Courses cyI cyJ cyZ a_o a_o_fewestKept a_o_row a_f a_f_needs a_f_sideCounts a_f_yardSums a_f_beside a_s a_s_starts a_s_nexts a_s_values o_length o_lifted o_bestYards o_bestHurdles o_yards o_hurdles o_fewestKept o_row f_all f_wanted f_mostSides f_needs f_sideCounts f_yardSums f_beside s_listed s_starts s_nexts s_values) [(0, .ref a_o), (1, .int p1), (2, .int p2), (3, .int p3)] 8 [.int r1]
  refine j_istore cx [(4, .int r1), (0, .ref a_o), (1, .int p1), (2, .int p2), (3, .int p3)] (by decide) rfl dX1_leastNext_8 (pn := 10) rfl ?_
  refine j_aload_n cx 1 rfl rfl dX1_leastNext_10 (pn := 11) rfl ?_
  refine j_get cx inGX1 0 rfl rfl 1 (by decide) q_fl_X1_22 rfl rfl dX1_leastNext_11 (pn := 14) rfl ?_
  refine j_getN cx inGX7 8 rfl rfl 0 (by decide) q_fl_X1_96 rfl rfl dX1_leastNext_14 (pn := 17) rfl ?_
  refine j_iload_n cx 2 rfl rfl dX1_leastNext_17 (pn := 18) rfl ?_
  refine j_iconst cx (v := 1) (by decide) dX1_leastNext_18 (pn := 19) rfl ?_
  refine j_iadd cx dX1_leastNext_19 (pn := 20) rfl ?_
  refine j_iald cx 9 0 rfl rfl h.1 dX1_leastNext_20 (pn := 21) rfl ?_
  have h := h.2
  refine j_iconst cx (v := 1) (by decide) dX1_leastNext_21 (pn := 22) rfl ?_
  refine j_isub cx dX1_leastNext_22 (pn := 23) rfl ?_
  refine j_topi (fun y2 ey2 => ?_)
  have h := h y2 ey2
  refine j_istore cx [(5, .int y2), (4, .int r1), (0, .ref a_o), (1, .int p1), (2, .int p2), (3, .int p3)] (by decide) rfl dX1_leastNext_23 (pn := 25) rfl ?_
  refine j_sub [2, 3, 4, 5, 1, 0] [(0, .ref a_o), (1, .int p1), (2, .int p2), (3, .int p3), (4, .int r1), (5, .int y2)] rfl ?_
  exact J_X1_leastNext_25 cx hR h
theorem dX1_writeRow_0 : decode cX1_writeRow 0 = .ok (.aload_n 0, 1) := by decide +kernel
theorem dX1_writeRow_1 : decode cX1_writeRow 1 = .ok (.iconst 0, 1) := by decide +kernel
theorem dX1_writeRow_2 : decode cX1_writeRow 2 = .ok (.putfield 79, 3) := by decide +kernel
theorem dX1_writeRow_5 : decode cX1_writeRow 5 = .ok (.iconst 0, 1) := by decide +kernel
theorem dX1_writeRow_6 : decode cX1_writeRow 6 = .ok (.istore_n 1, 1) := by decide +kernel
theorem dX1_writeRow_7 : decode cX1_writeRow 7 = .ok (.iconst 0, 1) := by decide +kernel
theorem dX1_writeRow_8 : decode cX1_writeRow 8 = .ok (.istore_n 2, 1) := by decide +kernel
theorem dX1_writeRow_9 : decode cX1_writeRow 9 = .ok (.aload_n 0, 1) := by decide +kernel
theorem dX1_writeRow_10 : decode cX1_writeRow 10 = .ok (.getfield 69, 3) := by decide +kernel
theorem dX1_writeRow_13 : decode cX1_writeRow 13 = .ok (.istore_n 3, 1) := by decide +kernel
theorem dX1_writeRow_14 : decode cX1_writeRow 14 = .ok (.aload_n 0, 1) := by decide +kernel
theorem dX1_writeRow_15 : decode cX1_writeRow 15 = .ok (.getfield 69, 3) := by decide +kernel
theorem dX1_writeRow_18 : decode cX1_writeRow 18 = .ok (.iconst (-1), 1) := by decide +kernel
theorem dX1_writeRow_19 : decode cX1_writeRow 19 = .ok (.if_icmp .eq 81, 3) := by decide +kernel
theorem dX1_writeRow_22 : decode cX1_writeRow 22 = .ok (.aload_n 0, 1) := by decide +kernel
theorem dX1_writeRow_23 : decode cX1_writeRow 23 = .ok (.getfield 79, 3) := by decide +kernel
theorem dX1_writeRow_26 : decode cX1_writeRow 26 = .ok (.bipush 10, 2) := by decide +kernel
theorem dX1_writeRow_28 : decode cX1_writeRow 28 = .ok (.if_icmp .ge 72, 3) := by decide +kernel
theorem dX1_writeRow_31 : decode cX1_writeRow 31 = .ok (.aload_n 0, 1) := by decide +kernel
theorem dX1_writeRow_32 : decode cX1_writeRow 32 = .ok (.getfield 79, 3) := by decide +kernel
theorem dX1_writeRow_35 : decode cX1_writeRow 35 = .ok (.ifCond .eq 11, 3) := by decide +kernel
theorem dX1_writeRow_38 : decode cX1_writeRow 38 = .ok (.aload_n 0, 1) := by decide +kernel
theorem dX1_writeRow_39 : decode cX1_writeRow 39 = .ok (.iload_n 1, 1) := by decide +kernel
theorem dX1_writeRow_40 : decode cX1_writeRow 40 = .ok (.invokevirtual 82, 3) := by decide +kernel
theorem dX1_writeRow_43 : decode cX1_writeRow 43 = .ok (.ifCond .ne 57, 3) := by decide +kernel
theorem dX1_writeRow_46 : decode cX1_writeRow 46 = .ok (.aload_n 0, 1) := by decide +kernel
theorem dX1_writeRow_47 : decode cX1_writeRow 47 = .ok (.iload_n 1, 1) := by decide +kernel
theorem dX1_writeRow_48 : decode cX1_writeRow 48 = .ok (.iload_n 2, 1) := by decide +kernel
theorem dX1_writeRow_49 : decode cX1_writeRow 49 = .ok (.iload_n 3, 1) := by decide +kernel
theorem dX1_writeRow_50 : decode cX1_writeRow 50 = .ok (.invokevirtual 86, 3) := by decide +kernel
theorem dX1_writeRow_53 : decode cX1_writeRow 53 = .ok (.istore 4, 2) := by decide +kernel
theorem dX1_writeRow_55 : decode cX1_writeRow 55 = .ok (.iload_n 3, 1) := by decide +kernel
theorem dX1_writeRow_56 : decode cX1_writeRow 56 = .ok (.aload_n 0, 1) := by decide +kernel
theorem dX1_writeRow_57 : decode cX1_writeRow 57 = .ok (.getfield 18, 3) := by decide +kernel
theorem dX1_writeRow_60 : decode cX1_writeRow 60 = .ok (.iload 4, 2) := by decide +kernel
theorem dX1_writeRow_62 : decode cX1_writeRow 62 = .ok (.iload_n 2, 1) := by decide +kernel
theorem dX1_writeRow_63 : decode cX1_writeRow 63 = .ok (.invokevirtual 90, 3) := by decide +kernel
theorem dX1_writeRow_66 : decode cX1_writeRow 66 = .ok (.isub, 1) := by decide +kernel
theorem dX1_writeRow_67 : decode cX1_writeRow 67 = .ok (.istore_n 3, 1) := by decide +kernel
theorem dX1_writeRow_68 : decode cX1_writeRow 68 = .ok (.aload_n 0, 1) := by decide +kernel
theorem dX1_writeRow_69 : decode cX1_writeRow 69 = .ok (.getfield 15, 3) := by decide +kernel
theorem dX1_writeRow_72 : decode cX1_writeRow 72 = .ok (.aload_n 0, 1) := by decide +kernel
theorem dX1_writeRow_73 : decode cX1_writeRow 73 = .ok (.getfield 79, 3) := by decide +kernel
theorem dX1_writeRow_76 : decode cX1_writeRow 76 = .ok (.iload 4, 2) := by decide +kernel
theorem dX1_writeRow_78 : decode cX1_writeRow 78 = .ok (.iastore, 1) := by decide +kernel
theorem dX1_writeRow_79 : decode cX1_writeRow 79 = .ok (.aload_n 0, 1) := by decide +kernel
theorem dX1_writeRow_80 : decode cX1_writeRow 80 = .ok (.dup, 1) := by decide +kernel
theorem dX1_writeRow_81 : decode cX1_writeRow 81 = .ok (.getfield 79, 3) := by decide +kernel
theorem dX1_writeRow_84 : decode cX1_writeRow 84 = .ok (.iconst 1, 1) := by decide +kernel
theorem dX1_writeRow_85 : decode cX1_writeRow 85 = .ok (.iadd, 1) := by decide +kernel
theorem dX1_writeRow_86 : decode cX1_writeRow 86 = .ok (.putfield 79, 3) := by decide +kernel
theorem dX1_writeRow_89 : decode cX1_writeRow 89 = .ok (.iload_n 1, 1) := by decide +kernel
theorem dX1_writeRow_90 : decode cX1_writeRow 90 = .ok (.iload 4, 2) := by decide +kernel
theorem dX1_writeRow_92 : decode cX1_writeRow 92 = .ok (.ior, 1) := by decide +kernel
theorem dX1_writeRow_93 : decode cX1_writeRow 93 = .ok (.istore_n 1, 1) := by decide +kernel
theorem dX1_writeRow_94 : decode cX1_writeRow 94 = .ok (.iload 4, 2) := by decide +kernel
theorem dX1_writeRow_96 : decode cX1_writeRow 96 = .ok (.istore_n 2, 1) := by decide +kernel
theorem dX1_writeRow_97 : decode cX1_writeRow 97 = .ok (.goto (-83), 3) := by decide +kernel
theorem dX1_writeRow_100 : decode cX1_writeRow 100 = .ok (.return_, 1) := by decide +kernel
abbrev rm_X1_writeRow : Room := { frames := 3, cells := 0, slots := 0, locals := 68 }
theorem hd_X1_writeRow : yX1_writeRow.cls ≠ "java/lang/invoke/MethodHandle" ∧ yX1_writeRow.cls ≠ "java/lang/invoke/VarHandle" ∧ (parseMethodDescriptor yX1_writeRow.desc).map (fun d => d.parameters.length) = some 0 := by decide +kernel
def bk_X1_writeRow_46 (Q : (Int32 × (Nat → Int32)) → Prop) (B14 : Int32 → (Nat → Int32) → Int32 → Int32 → Int32 → Prop) (x1 : Int32) (x2 : Int32) (x3 : Int32) (o_length : Int32) (o_row : Nat → Int32) (f_all : Int32) (f_needs : Nat → Int32) (f_beside : Nat → Int32) (s_starts : Nat → Int32) (s_nexts : Nat → Int32) (s_values : Nat → Int32) : Prop :=
wp_X1_leastNext x1 x2 x3 f_all f_needs f_beside s_starts s_nexts s_values (fun (r4 : Int32) => wp_X3_liftedTo r4 x2 f_needs (fun (r5 : Int32) => ∀ y6 : Int32, y6 = (x3 - r5) →
vp_in o_length 10 ∧ (∀ f7 : Nat → Int32, f7 = (upd o_row o_length.toNatClampNeg r4) →
∀ y8 : Int32, y8 = (o_length + 1) →
∀ y9 : Int32, y9 = (x1 ||| r4) →
B14 y8 f7 y9 r4 y6)))
def bd_X1_writeRow_14 (Q : (Int32 × (Nat → Int32)) → Prop) (B14 : Int32 → (Nat → Int32) → Int32 → Int32 → Int32 → Prop) (o_lifted : Int32) (f_all : Int32) (f_wanted : Int32) (f_needs : Nat → Int32) (f_beside : Nat → Int32) (s_starts : Nat → Int32) (s_nexts : Nat → Int32) (s_values : Nat → Int32) (o_length : Int32) (o_row : Nat → Int32) (x1 : Int32) (x2 : Int32) (x3 : Int32) : Prop :=
((o_lifted = (-1) → Q (o_length, o_row)) ∧
(¬ o_lifted = (-1) → ((10 ≤ o_length → Q (o_length, o_row)) ∧
(¬ 10 ≤ o_length → ((o_length = 0 → bk_X1_writeRow_46 Q B14 x1 x2 x3 o_length o_row f_all f_needs f_beside s_starts s_nexts s_values) ∧
(¬ o_length = 0 → wp_X1_isGone x1 f_wanted (fun (r10 : Int32) => ((¬ r10 = 0 → Q (o_length, o_row)) ∧
(r10 = 0 → bk_X1_writeRow_46 Q B14 x1 x2 x3 o_length o_row f_all f_needs f_beside s_starts s_nexts s_values)))))))))
def lp_X1_writeRow_14 (Q : (Int32 × (Nat → Int32)) → Prop) (o_lifted : Int32) (f_all : Int32) (f_wanted : Int32) (f_needs : Nat → Int32) (f_beside : Nat → Int32) (s_starts : Nat → Int32) (s_nexts : Nat → Int32) (s_values : Nat → Int32) (o_length : Int32) (o_row : Nat → Int32) (x1 : Int32) (x2 : Int32) (x3 : Int32) : Prop :=
∃ I : Nat → Int32 → (Nat → Int32) → Int32 → Int32 → Int32 → Prop, (∃ n, I n o_length o_row x1 x2 x3) ∧ ∀ n o_length o_row x1 x2 x3, I n o_length o_row x1 x2 x3 → bd_X1_writeRow_14 Q  (fun o_length' o_row' x1' x2' x3' => ∃ n', n' < n ∧ I n' o_length' o_row' x1' x2' x3') o_lifted f_all f_wanted f_needs f_beside s_starts s_nexts s_values o_length o_row x1 x2 x3
def wp_X1_writeRow (o_lifted : Int32) (o_row : Nat → Int32) (f_all : Int32) (f_wanted : Int32) (f_needs : Nat → Int32) (f_beside : Nat → Int32) (s_starts : Nat → Int32) (s_nexts : Nat → Int32) (s_values : Nat → Int32) (Q : (Int32 × (Nat → Int32)) → Prop) : Prop :=
lp_X1_writeRow_14 Q o_lifted f_all f_wanted f_needs f_beside s_starts s_nexts s_values 0 o_row 0 0 o_lifted
set_option maxHeartbeats 4000000 in
set_option maxRecDepth 100000 in
theorem J_X1_writeRow_46 {x : CX} {D : DG} {cyI cyJ cyZ : ClassId} {a_o a_o_fewestKept a_o_row a_f a_f_needs a_f_sideCounts a_f_yardSums a_f_beside a_s a_s_starts a_s_nexts a_s_values : Nat} {o_length : Int32} {o_lifted : Int32} {o_bestYards : Int32} {o_bestHurdles : Int32} {o_yards : Int32} {o_hurdles : Int32} {o_fewestKept : Nat → Int32} {o_row : Nat → Int32} {f_all : Int32} {f_wanted : Int32} {f_mostSides : Int32} {f_needs : Nat → Int32} {f_sideCounts : Nat → Int32} {f_yardSums : Nat → Int32} {f_beside : Nat → Int32} {s_listed : Option Nat} {s_starts : Nat → Int32} {s_nexts : Nat → Int32} {s_values : Nat → Int32} {x1 : Int32} {x2 : Int32} {x3 : Int32} {Q : (Int32 × (Nat → Int32)) → Prop} {B14 : Int32 → (Nat → Int32) → Int32 → Int32 → Int32 → Prop} (cx : Cx x cX1_writeRow 5 RX1 rm_X1_writeRow D [(cyI, .int), (cyJ, .long), (cyZ, .boolean)]) (hR : ∀ (u : Int32 × (Nat → Int32)) (pc : Nat) (lv : List (Nat × Value)), decode cX1_writeRow pc = .ok (.return_, 1) → Q u → J x 0 0 5 (W_Courses cyI cyJ cyZ a_o a_o_fewestKept a_o_row a_f a_f_needs a_f_sideCounts a_f_yardSums a_f_beside a_s a_s_starts a_s_nexts a_s_values u.1 o_lifted o_bestYards o_bestHurdles o_yards o_hurdles o_fewestKept u.2 f_all f_wanted f_mostSides f_needs f_sideCounts f_yardSums f_beside s_listed s_starts s_nexts s_values) lv pc []) (hB14 : ∀ (o_length : Int32) (o_row : Nat → Int32) (x1 : Int32) (x2 : Int32) (x3 : Int32), B14 o_length o_row x1 x2 x3 → J x 0 0 5 (W_Courses cyI cyJ cyZ a_o a_o_fewestKept a_o_row a_f a_f_needs a_f_sideCounts a_f_yardSums a_f_beside a_s a_s_starts a_s_nexts a_s_values o_length o_lifted o_bestYards o_bestHurdles o_yards o_hurdles o_fewestKept o_row f_all f_wanted f_mostSides f_needs f_sideCounts f_yardSums f_beside s_listed s_starts s_nexts s_values) [(0, .ref a_o), (1, .int x1), (2, .int x2), (3, .int x3)] 14 []) (h : bk_X1_writeRow_46 Q B14 x1 x2 x3 o_length o_row f_all f_needs f_beside s_starts s_nexts s_values) :
    J x 0 0 5 (W_Courses cyI cyJ cyZ a_o a_o_fewestKept a_o_row a_f a_f_needs a_f_sideCounts a_f_yardSums a_f_beside a_s a_s_starts a_s_nexts a_s_values o_length o_lifted o_bestYards o_bestHurdles o_yards o_hurdles o_fewestKept o_row f_all f_wanted f_mostSides f_needs f_sideCounts f_yardSums f_beside s_listed s_starts s_nexts s_values) [(0, .ref a_o), (1, .int x1), (2, .int x2), (3, .int x3)] 46 [] := by
  unfold bk_X1_writeRow_46 at h
  refine j_aload_n cx 0 rfl rfl dX1_writeRow_46 (pn := 47) rfl ?_
  refine j_iload_n cx 1 rfl rfl dX1_writeRow_47 (pn := 48) rfl ?_
  refine j_iload_n cx 2 rfl rfl dX1_writeRow_48 (pn := 49) rfl ?_
  refine j_iload_n cx 3 rfl rfl dX1_writeRow_49 (pn := 50) rfl ?_
  refine j_callvI0 cx q_inst_X1_leastNext q_sel_X1_leastNext (b := a_o) (As := [.int x1, .int x2, .int x3]) (rest := []) (c_X1_leastNext h) ⟨q_code_X1_leastNext, q_ml_X1_86, q_init_X1, hd_X1_leastNext, ⟨Nat.le_of_ble_eq_true rfl, Nat.le_of_ble_eq_true rfl⟩, Nat.le_of_ble_eq_true rfl, Nat.le_of_ble_eq_true rfl⟩ (q0 := 0) rfl rfl rfl rfl (Nat.le_of_ble_eq_true rfl) dX1_writeRow_50 (pn := 53) rfl (fun r4 _ h => ?_)
  show J x 0 0 5 (W_Courses cyI cyJ cyZ a_o a_o_fewestKept a_o_row a_f a_f_needs a_f_sideCounts a_f_yardSums a_f_beside a_s a_s_starts a_s_nexts a_s_values o_length o_lifted o_bestYards o_bestHurdles o_yards o_hurdles o_fewestKept o_row f_all f_wanted f_mostSides f_needs f_sideCounts f_yardSums f_beside s_listed s_starts s_nexts s_values) [(0, .ref a_o), (1, .int x1), (2, .int x2), (3, .int x3)] 53 [.int r4]
  refine j_istore cx [(4, .int r4), (0, .ref a_o), (1, .int x1), (2, .int x2), (3, .int x3)] (by decide) rfl dX1_writeRow_53 (pn := 55) rfl ?_
  refine j_iload_n cx 4 rfl rfl dX1_writeRow_55 (pn := 56) rfl ?_
  refine j_aload_n cx 1 rfl rfl dX1_writeRow_56 (pn := 57) rfl ?_
  refine j_get cx inGX1 0 rfl rfl 0 (by decide) q_fl_X1_18 rfl rfl dX1_writeRow_57 (pn := 60) rfl ?_
  refine j_iload cx 0 rfl dX1_writeRow_60 (pn := 62) rfl ?_
  refine j_iload_n cx 3 rfl rfl dX1_writeRow_62 (pn := 63) rfl ?_
  refine j_callvI cx q_inst_X3_liftedTo q_sel_X3_liftedTo (b := a_f) (As := [.int r4, .int x2]) (rest := [.int x3]) (W_FT cyI cyJ cyZ a_f a_f_needs a_f_sideCounts a_f_yardSums a_f_beside f_all f_wanted f_mostSides f_needs f_sideCounts f_yardSums f_beside) [(a_o, .inr (1, [.ref a_f, .ref a_s, .ref a_o_fewestKept, .ref a_o_row, .int o_length, .int o_lifted, .int o_bestYards, .int o_bestHurdles, .int o_yards, .int o_hurdles])), (a_o_fewestKept, .inl (cyI, 91, .inl o_fewestKept)), (a_o_row, .inl (cyI, 10, .inl o_row)), (a_s, .inr (7, [.ref a_s_starts, .ref a_s_nexts, .ref a_s_values, va_rf s_listed])), (a_s_starts, .inl (cyI, 1025, .inl s_starts)), (a_s_nexts, .inl (cyI, 4096, .inl s_nexts)), (a_s_values, .inl (cyI, 4096, .inl s_values))] (c_X3_liftedTo h) ⟨q_code_X3_liftedTo, q_ml_X1_90, q_init_X3, hd_X3_liftedTo, ⟨Nat.le_of_ble_eq_true rfl, Nat.le_of_ble_eq_true rfl⟩, Nat.le_of_ble_eq_true rfl, Nat.le_of_ble_eq_true rfl⟩ (q0 := 0) rfl rfl rfl [3, 4, 5, 6, 7] [0, 1, 2, 8, 9, 10, 11] [0, 1, 2, 7, 8, 9, 10, 11, 3, 4, 5, 6] rfl rfl rfl rfl rfl (by decide) (fun _ : Unit => (W_Courses cyI cyJ cyZ a_o a_o_fewestKept a_o_row a_f a_f_needs a_f_sideCounts a_f_yardSums a_f_beside a_s a_s_starts a_s_nexts a_s_values o_length o_lifted o_bestYards o_bestHurdles o_yards o_hurdles o_fewestKept o_row f_all f_wanted f_mostSides f_needs f_sideCounts f_yardSums f_beside s_listed s_starts s_nexts s_values)) (fun _ => rfl) (fun _ => rfl) rfl rfl (Nat.le_of_ble_eq_true rfl) dX1_writeRow_63 (pn := 66) rfl (fun r5 _ h => ?_)
  show J x 0 0 5 (W_Courses cyI cyJ cyZ a_o a_o_fewestKept a_o_row a_f a_f_needs a_f_sideCounts a_f_yardSums a_f_beside a_s a_s_starts a_s_nexts a_s_values o_length o_lifted o_bestYards o_bestHurdles o_yards o_hurdles o_fewestKept o_row f_all f_wanted f_mostSides f_needs f_sideCounts f_yardSums f_beside s_listed s_starts s_nexts s_values) [(4, .int r4), (0, .ref a_o), (1, .int x1), (2, .int x2), (3, .int x3)] 66 [.int r5, .int x3]
  refine j_isub cx dX1_writeRow_66 (pn := 67) rfl ?_
  refine j_topi (fun y6 ey6 => ?_)
  have h := h y6 ey6
  refine j_istore_n cx rfl [(3, .int y6), (4, .int r4), (0, .ref a_o), (1, .int x1), (2, .int x2)] (by decide) rfl dX1_writeRow_67 (pn := 68) rfl ?_
  refine j_aload_n cx 2 rfl rfl dX1_writeRow_68 (pn := 69) rfl ?_
  refine j_get cx inGX1 0 rfl rfl 3 (by decide) q_fl_X1_15 rfl rfl dX1_writeRow_69 (pn := 72) rfl ?_
  refine j_aload_n cx 2 rfl rfl dX1_writeRow_72 (pn := 73) rfl ?_
  refine j_get cx inGX1 0 rfl rfl 4 (by decide) q_fl_X1_79 rfl rfl dX1_writeRow_73 (pn := 76) rfl ?_
  refine j_iload cx 1 rfl dX1_writeRow_76 (pn := 78) rfl ?_
  have hin := h.1
  obtain ⟨f7, ef7⟩ : ∃ z, z = upd o_row o_length.toNatClampNeg r4 := ⟨_, rfl⟩
  have h := h.2 f7 ef7
  refine j_iast cx 2 0 rfl rfl hin (W_Courses cyI cyJ cyZ a_o a_o_fewestKept a_o_row a_f a_f_needs a_f_sideCounts a_f_yardSums a_f_beside a_s a_s_starts a_s_nexts a_s_values o_length o_lifted o_bestYards o_bestHurdles o_yards o_hurdles o_fewestKept f7 f_all f_wanted f_mostSides f_needs f_sideCounts f_yardSums f_beside s_listed s_starts s_nexts s_values) (by subst ef7; rfl) dX1_writeRow_78 (pn := 79) rfl ?_
  refine j_aload_n cx 2 rfl rfl dX1_writeRow_79 (pn := 80) rfl ?_
  refine j_dup cx rfl dX1_writeRow_80 (pn := 81) rfl ?_
  refine j_get cx inGX1 0 rfl rfl 4 (by decide) q_fl_X1_79 rfl rfl dX1_writeRow_81 (pn := 84) rfl ?_
  refine j_iconst cx (v := 1) (by decide) dX1_writeRow_84 (pn := 85) rfl ?_
  refine j_iadd cx dX1_writeRow_85 (pn := 86) rfl ?_
  refine j_topi (fun y8 ey8 => ?_)
  have h := h y8 ey8
  refine j_put cx tyX1 tyX1_ok nmX1 inGX1 0 rfl rfl 4 (by decide) q_fl_X1_79 rfl rfl rfl rfl rfl (Nat.le_of_ble_eq_true rfl) (W_Courses cyI cyJ cyZ a_o a_o_fewestKept a_o_row a_f a_f_needs a_f_sideCounts a_f_yardSums a_f_beside a_s a_s_starts a_s_nexts a_s_values y8 o_lifted o_bestYards o_bestHurdles o_yards o_hurdles o_fewestKept f7 f_all f_wanted f_mostSides f_needs f_sideCounts f_yardSums f_beside s_listed s_starts s_nexts s_values) rfl dX1_writeRow_86 (pn := 89) rfl ?_
  refine j_iload_n cx 3 rfl rfl dX1_writeRow_89 (pn := 90) rfl ?_
  refine j_iload cx 1 rfl dX1_writeRow_90 (pn := 92) rfl ?_
  refine j_ior cx dX1_writeRow_92 (pn := 93) rfl ?_
  refine j_topi (fun y9 ey9 => ?_)
  have h := h y9 ey9
  refine j_istore_n cx rfl [(1, .int y9), (3, .int y6), (4, .int r4), (0, .ref a_o), (2, .int x2)] (by decide) rfl dX1_writeRow_93 (pn := 94) rfl ?_
  refine j_iload cx 2 rfl dX1_writeRow_94 (pn := 96) rfl ?_
  refine j_istore_n cx rfl [(2, .int r4), (1, .int y9), (3, .int y6), (4, .int r4), (0, .ref a_o)] (by decide) rfl dX1_writeRow_96 (pn := 97) rfl ?_
  refine j_goto cx 14 dX1_writeRow_97 rfl ?_
  refine j_sub [4, 1, 0, 2] [(0, .ref a_o), (1, .int y9), (2, .int r4), (3, .int y6)] rfl ?_
  exact hB14 _ _ _ _ _ h
set_option maxHeartbeats 4000000 in
set_option maxRecDepth 100000 in
theorem B_X1_writeRow_14 {x : CX} {D : DG} {cyI cyJ cyZ : ClassId} {a_o a_o_fewestKept a_o_row a_f a_f_needs a_f_sideCounts a_f_yardSums a_f_beside a_s a_s_starts a_s_nexts a_s_values : Nat} {o_length : Int32} {o_lifted : Int32} {o_bestYards : Int32} {o_bestHurdles : Int32} {o_yards : Int32} {o_hurdles : Int32} {o_fewestKept : Nat → Int32} {o_row : Nat → Int32} {f_all : Int32} {f_wanted : Int32} {f_mostSides : Int32} {f_needs : Nat → Int32} {f_sideCounts : Nat → Int32} {f_yardSums : Nat → Int32} {f_beside : Nat → Int32} {s_listed : Option Nat} {s_starts : Nat → Int32} {s_nexts : Nat → Int32} {s_values : Nat → Int32} {x1 : Int32} {x2 : Int32} {x3 : Int32} {Q : (Int32 × (Nat → Int32)) → Prop} {B14 : Int32 → (Nat → Int32) → Int32 → Int32 → Int32 → Prop} (cx : Cx x cX1_writeRow 5 RX1 rm_X1_writeRow D [(cyI, .int), (cyJ, .long), (cyZ, .boolean)]) (hR : ∀ (u : Int32 × (Nat → Int32)) (pc : Nat) (lv : List (Nat × Value)), decode cX1_writeRow pc = .ok (.return_, 1) → Q u → J x 0 0 5 (W_Courses cyI cyJ cyZ a_o a_o_fewestKept a_o_row a_f a_f_needs a_f_sideCounts a_f_yardSums a_f_beside a_s a_s_starts a_s_nexts a_s_values u.1 o_lifted o_bestYards o_bestHurdles o_yards o_hurdles o_fewestKept u.2 f_all f_wanted f_mostSides f_needs f_sideCounts f_yardSums f_beside s_listed s_starts s_nexts s_values) lv pc []) (hB14 : ∀ (o_length : Int32) (o_row : Nat → Int32) (x1 : Int32) (x2 : Int32) (x3 : Int32), B14 o_length o_row x1 x2 x3 → J x 0 0 5 (W_Courses cyI cyJ cyZ a_o a_o_fewestKept a_o_row a_f a_f_needs a_f_sideCounts a_f_yardSums a_f_beside a_s a_s_starts a_s_nexts a_s_values o_length o_lifted o_bestYards o_bestHurdles o_yards o_hurdles o_fewestKept o_row f_all f_wanted f_mostSides f_needs f_sideCounts f_yardSums f_beside s_listed s_starts s_nexts s_values) [(0, .ref a_o), (1, .int x1), (2, .int x2), (3, .int x3)] 14 []) (h : bd_X1_writeRow_14 Q B14 o_lifted f_all f_wanted f_needs f_beside s_starts s_nexts s_values o_length o_row x1 x2 x3) :
    J x 0 0 5 (W_Courses cyI cyJ cyZ a_o a_o_fewestKept a_o_row a_f a_f_needs a_f_sideCounts a_f_yardSums a_f_beside a_s a_s_starts a_s_nexts a_s_values o_length o_lifted o_bestYards o_bestHurdles o_yards o_hurdles o_fewestKept o_row f_all f_wanted f_mostSides f_needs f_sideCounts f_yardSums f_beside s_listed s_starts s_nexts s_values) [(0, .ref a_o), (1, .int x1), (2, .int x2), (3, .int x3)] 14 [] := by
  unfold bd_X1_writeRow_14 at h
  refine j_aload_n cx 0 rfl rfl dX1_writeRow_14 (pn := 15) rfl ?_
  refine j_get cx inGX1 0 rfl rfl 5 (by decide) q_fl_X1_69 rfl rfl dX1_writeRow_15 (pn := 18) rfl ?_
  refine j_iconst cx (v := (-1)) (by decide) dX1_writeRow_18 (pn := 19) rfl ?_
  refine j_icmp_eq cx 100 dX1_writeRow_19 (pn := 22) rfl rfl (fun c1 => ?_) (fun c1 => ?_)
  · have h := h.1 c1
    exact hR (o_length, o_row) 100 _ dX1_writeRow_100 h
  · have h := h.2 c1
    refine j_aload_n cx 0 rfl rfl dX1_writeRow_22 (pn := 23) rfl ?_
    refine j_get cx inGX1 0 rfl rfl 4 (by decide) q_fl_X1_79 rfl rfl dX1_writeRow_23 (pn := 26) rfl ?_
    refine j_bipush cx (v := 10) (by decide) dX1_writeRow_26 (pn := 28) rfl ?_
    refine j_icmp_ge cx 100 dX1_writeRow_28 (pn := 31) rfl rfl (fun c2 => ?_) (fun c2 => ?_)
    · have h := h.1 c2
      exact hR (o_length, o_row) 100 _ dX1_writeRow_100 h
    · have h := h.2 c2
      refine j_aload_n cx 0 rfl rfl dX1_writeRow_31 (pn := 32) rfl ?_
      refine j_get cx inGX1 0 rfl rfl 4 (by decide) q_fl_X1_79 rfl rfl dX1_writeRow_32 (pn := 35) rfl ?_
      refine j_if_eq cx 46 dX1_writeRow_35 (pn := 38) rfl rfl (fun c3 => ?_) (fun c3 => ?_)
      · have h := h.1 c3
        exact J_X1_writeRow_46 cx hR hB14 h
      · have h := h.2 c3
        refine j_aload_n cx 0 rfl rfl dX1_writeRow_38 (pn := 39) rfl ?_
        refine j_iload_n cx 1 rfl rfl dX1_writeRow_39 (pn := 40) rfl ?_
        refine j_callvI0 cx q_inst_X1_isGone q_sel_X1_isGone (b := a_o) (As := [.int x1]) (rest := []) (c_X1_isGone h) ⟨q_code_X1_isGone, q_ml_X1_82, q_init_X1, hd_X1_isGone, ⟨Nat.le_of_ble_eq_true rfl, Nat.le_of_ble_eq_true rfl⟩, Nat.le_of_ble_eq_true rfl, Nat.le_of_ble_eq_true rfl⟩ (q0 := 0) rfl rfl rfl rfl (Nat.le_of_ble_eq_true rfl) dX1_writeRow_40 (pn := 43) rfl (fun r10 _ h => ?_)
        show J x 0 0 5 (W_Courses cyI cyJ cyZ a_o a_o_fewestKept a_o_row a_f a_f_needs a_f_sideCounts a_f_yardSums a_f_beside a_s a_s_starts a_s_nexts a_s_values o_length o_lifted o_bestYards o_bestHurdles o_yards o_hurdles o_fewestKept o_row f_all f_wanted f_mostSides f_needs f_sideCounts f_yardSums f_beside s_listed s_starts s_nexts s_values) [(0, .ref a_o), (1, .int x1), (2, .int x2), (3, .int x3)] 43 [.int r10]
        refine j_if_ne cx 100 dX1_writeRow_43 (pn := 46) rfl rfl (fun c11 => ?_) (fun c11 => ?_)
        · have h := h.1 c11
          exact hR (o_length, o_row) 100 _ dX1_writeRow_100 h
        · have h := h.2 c11
          exact J_X1_writeRow_46 cx hR hB14 h
set_option maxHeartbeats 4000000 in
set_option maxRecDepth 100000 in
theorem J_X1_writeRow_14 {x : CX} {D : DG} {cyI cyJ cyZ : ClassId} {a_o a_o_fewestKept a_o_row a_f a_f_needs a_f_sideCounts a_f_yardSums a_f_beside a_s a_s_starts a_s_nexts a_s_values : Nat} {o_length : Int32} {o_lifted : Int32} {o_bestYards : Int32} {o_bestHurdles : Int32} {o_yards : Int32} {o_hurdles : Int32} {o_fewestKept : Nat → Int32} {o_row : Nat → Int32} {f_all : Int32} {f_wanted : Int32} {f_mostSides : Int32} {f_needs : Nat → Int32} {f_sideCounts : Nat → Int32} {f_yardSums : Nat → Int32} {f_beside : Nat → Int32} {s_listed : Option Nat} {s_starts : Nat → Int32} {s_nexts : Nat → Int32} {s_values : Nat → Int32} {x1 : Int32} {x2 : Int32} {x3 : Int32} {Q : (Int32 × (Nat → Int32)) → Prop} (cx : Cx x cX1_writeRow 5 RX1 rm_X1_writeRow D [(cyI, .int), (cyJ, .long), (cyZ, .boolean)]) (hR : ∀ (u : Int32 × (Nat → Int32)) (pc : Nat) (lv : List (Nat × Value)), decode cX1_writeRow pc = .ok (.return_, 1) → Q u → J x 0 0 5 (W_Courses cyI cyJ cyZ a_o a_o_fewestKept a_o_row a_f a_f_needs a_f_sideCounts a_f_yardSums a_f_beside a_s a_s_starts a_s_nexts a_s_values u.1 o_lifted o_bestYards o_bestHurdles o_yards o_hurdles o_fewestKept u.2 f_all f_wanted f_mostSides f_needs f_sideCounts f_yardSums f_beside s_listed s_starts s_nexts s_values) lv pc []) (h : lp_X1_writeRow_14 Q  o_lifted f_all f_wanted f_needs f_beside s_starts s_nexts s_values o_length o_row x1 x2 x3) :
    J x 0 0 5 (W_Courses cyI cyJ cyZ a_o a_o_fewestKept a_o_row a_f a_f_needs a_f_sideCounts a_f_yardSums a_f_beside a_s a_s_starts a_s_nexts a_s_values o_length o_lifted o_bestYards o_bestHurdles o_yards o_hurdles o_fewestKept o_row f_all f_wanted f_mostSides f_needs f_sideCounts f_yardSums f_beside s_listed s_starts s_nexts s_values) [(0, .ref a_o), (1, .int x1), (2, .int x2), (3, .int x3)] 14 [] := by
  obtain ⟨I, ⟨n, h0⟩, hb⟩ := h
  revert o_length o_row x1 x2 x3
  induction n using Nat.strongRecOn with
  | _ n ih =>
    intro o_length o_row x1 x2 x3 h0
    exact B_X1_writeRow_14 cx hR (fun _ _ _ _ _ hz => by obtain ⟨n2, hlt, hI⟩ := hz; exact ih n2 hlt hI) (hb n o_length o_row x1 x2 x3 h0)
set_option maxHeartbeats 4000000 in
set_option maxRecDepth 100000 in
theorem c_X1_writeRow {D : DG} {cyI cyJ cyZ : ClassId} {a_o a_o_fewestKept a_o_row a_f a_f_needs a_f_sideCounts a_f_yardSums a_f_beside a_s a_s_starts a_s_nexts a_s_values : Nat} {o_length : Int32} {o_lifted : Int32} {o_bestYards : Int32} {o_bestHurdles : Int32} {o_yards : Int32} {o_hurdles : Int32} {o_fewestKept : Nat → Int32} {o_row : Nat → Int32} {f_all : Int32} {f_wanted : Int32} {f_mostSides : Int32} {f_needs : Nat → Int32} {f_sideCounts : Nat → Int32} {f_yardSums : Nat → Int32} {f_beside : Nat → Int32} {s_listed : Option Nat} {s_starts : Nat → Int32} {s_nexts : Nat → Int32} {s_values : Nat → Int32} {Q : (Int32 × (Nat → Int32)) → Prop} (h : wp_X1_writeRow o_lifted o_row f_all f_wanted f_needs f_beside s_starts s_nexts s_values Q) :
    MetV yX1_writeRow cX1_writeRow 5 (none) rm_X1_writeRow D [(cyI, .int), (cyJ, .long), (cyZ, .boolean)] [.ref a_o] (W_Courses cyI cyJ cyZ a_o a_o_fewestKept a_o_row a_f a_f_needs a_f_sideCounts a_f_yardSums a_f_beside a_s a_s_starts a_s_nexts a_s_values o_length o_lifted o_bestYards o_bestHurdles o_yards o_hurdles o_fewestKept o_row f_all f_wanted f_mostSides f_needs f_sideCounts f_yardSums f_beside s_listed s_starts s_nexts s_values) (fun u : Int32 × (Nat → Int32) => (W_Courses cyI cyJ cyZ a_o a_o_fewestKept a_o_row a_f a_f_needs a_f_sideCounts a_f_yardSums a_f_beside a_s a_s_starts a_s_nexts a_s_values u.1 o_lifted o_bestYards o_bestHurdles o_yards o_hurdles o_fewestKept u.2 f_all f_wanted f_mostSides f_needs f_sideCounts f_yardSums f_beside s_listed s_starts s_nexts s_values)) (fun u => Q u) := by
  unfold wp_X1_writeRow at h
  refine metV_of (by decide) (Nat.le_of_ble_eq_true rfl) (fun x cx0 hR0 => ?_)
  have cx : Cx x cX1_writeRow 5 RX1 rm_X1_writeRow D [(cyI, .int), (cyJ, .long), (cyZ, .boolean)] := cx0
  have hR : ∀ (u : Int32 × (Nat → Int32)) (pc : Nat) (lv : List (Nat × Value)), decode cX1_writeRow pc = .ok (.return_, 1) → Q u → J x 0 0 5 (W_Courses cyI cyJ cyZ a_o a_o_fewestKept a_o_row a_f a_f_needs a_f_sideCounts a_f_yardSums a_f_beside a_s a_s_starts a_s_nexts a_s_values u.1 o_lifted o_bestYards o_bestHurdles o_yards o_hurdles o_fewestKept u.2 f_all f_wanted f_mostSides f_needs f_sideCounts f_yardSums f_beside s_listed s_starts s_nexts s_values) lv pc [] := (fun u pc lv d hq => hR0 u pc lv d hq)
  show J x 0 0 5 (W_Courses cyI cyJ cyZ a_o a_o_fewestKept a_o_row a_f a_f_needs a_f_sideCounts a_f_yardSums a_f_beside a_s a_s_starts a_s_nexts a_s_values o_length o_lifted o_bestYards o_bestHurdles o_yards o_hurdles o_fewestKept o_row f_all f_wanted f_mostSides f_needs f_sideCounts f_yardSums f_beside s_listed s_starts s_nexts s_values) [(0, .ref a_o)] 0 []
  refine j_aload_n cx 0 rfl rfl dX1_writeRow_0 (pn := 1) rfl ?_
  refine j_iconst cx (v := 0) (by decide) dX1_writeRow_1 (pn := 2) rfl ?_
  refine j_put cx tyX1 tyX1_ok nmX1 inGX1 0 rfl rfl 4 (by decide) q_fl_X1_79 rfl rfl rfl rfl rfl (Nat.le_of_ble_eq_true rfl) (W_Courses cyI cyJ cyZ a_o a_o_fewestKept a_o_row a_f a_f_needs a_f_sideCounts a_f_yardSums a_f_beside a_s a_s_starts a_s_nexts a_s_values 0 o_lifted o_bestYards o_bestHurdles o_yards o_hurdles o_fewestKept o_row f_all f_wanted f_mostSides f_needs f_sideCounts f_yardSums f_beside s_listed s_starts s_nexts s_values) rfl dX1_writeRow_2 (pn := 5) rfl ?_
  refine j_iconst cx (v := 0) (by decide) dX1_writeRow_5 (pn := 6) rfl ?_
  refine j_istore_n cx rfl [(1, .int 0), (0, .ref a_o)] (by decide) rfl dX1_writeRow_6 (pn := 7) rfl ?_
  refine j_iconst cx (v := 0) (by decide) dX1_writeRow_7 (pn := 8) rfl ?_
  refine j_istore_n cx rfl [(2, .int 0), (1, .int 0), (0, .ref a_o)] (by decide) rfl dX1_writeRow_8 (pn := 9) rfl ?_
  refine j_aload_n cx 2 rfl rfl dX1_writeRow_9 (pn := 10) rfl ?_
  refine j_get cx inGX1 0 rfl rfl 5 (by decide) q_fl_X1_69 rfl rfl dX1_writeRow_10 (pn := 13) rfl ?_
  refine j_istore_n cx rfl [(3, .int o_lifted), (2, .int 0), (1, .int 0), (0, .ref a_o)] (by decide) rfl dX1_writeRow_13 (pn := 14) rfl ?_
  refine j_sub [3, 2, 1, 0] [(0, .ref a_o), (1, .int 0), (2, .int 0), (3, .int o_lifted)] rfl ?_
  exact J_X1_writeRow_14 cx hR h
