theorem dX1_findBest_0 : decode cX1_findBest 0 = .ok (.iload_n 2, 1) := by decide +kernel
theorem dX1_findBest_1 : decode cX1_findBest 1 = .ok (.aload_n 0, 1) := by decide +kernel
theorem dX1_findBest_2 : decode cX1_findBest 2 = .ok (.getfield 18, 3) := by decide +kernel
theorem dX1_findBest_5 : decode cX1_findBest 5 = .ok (.getfield 41, 3) := by decide +kernel
theorem dX1_findBest_8 : decode cX1_findBest 8 = .ok (.invokestatic 58, 3) := by decide +kernel
theorem dX1_findBest_11 : decode cX1_findBest 11 = .ok (.istore_n 3, 1) := by decide +kernel
theorem dX1_findBest_12 : decode cX1_findBest 12 = .ok (.aload_n 0, 1) := by decide +kernel
theorem dX1_findBest_13 : decode cX1_findBest 13 = .ok (.getfield 32, 3) := by decide +kernel
theorem dX1_findBest_16 : decode cX1_findBest 16 = .ok (.iload_n 1, 1) := by decide +kernel
theorem dX1_findBest_17 : decode cX1_findBest 17 = .ok (.if_icmp .ne 11, 3) := by decide +kernel
theorem dX1_findBest_20 : decode cX1_findBest 20 = .ok (.aload_n 0, 1) := by decide +kernel
theorem dX1_findBest_21 : decode cX1_findBest 21 = .ok (.getfield 63, 3) := by decide +kernel
theorem dX1_findBest_24 : decode cX1_findBest 24 = .ok (.iload_n 3, 1) := by decide +kernel
theorem dX1_findBest_25 : decode cX1_findBest 25 = .ok (.if_icmp .eq 37, 3) := by decide +kernel
theorem dX1_findBest_28 : decode cX1_findBest 28 = .ok (.aload_n 0, 1) := by decide +kernel
theorem dX1_findBest_29 : decode cX1_findBest 29 = .ok (.iconst 1, 1) := by decide +kernel
theorem dX1_findBest_30 : decode cX1_findBest 30 = .ok (.iload_n 1, 1) := by decide +kernel
theorem dX1_findBest_31 : decode cX1_findBest 31 = .ok (.iload_n 3, 1) := by decide +kernel
theorem dX1_findBest_32 : decode cX1_findBest 32 = .ok (.invokevirtual 46, 3) := by decide +kernel
theorem dX1_findBest_35 : decode cX1_findBest 35 = .ok (.aload_n 0, 1) := by decide +kernel
theorem dX1_findBest_36 : decode cX1_findBest 36 = .ok (.aload_n 0, 1) := by decide +kernel
theorem dX1_findBest_37 : decode cX1_findBest 37 = .ok (.iconst 0, 1) := by decide +kernel
theorem dX1_findBest_38 : decode cX1_findBest 38 = .ok (.iconst 0, 1) := by decide +kernel
theorem dX1_findBest_39 : decode cX1_findBest 39 = .ok (.invokevirtual 66, 3) := by decide +kernel
theorem dX1_findBest_42 : decode cX1_findBest 42 = .ok (.invokestatic 54, 3) := by decide +kernel
theorem dX1_findBest_45 : decode cX1_findBest 45 = .ok (.putfield 69, 3) := by decide +kernel
theorem dX1_findBest_48 : decode cX1_findBest 48 = .ok (.aload_n 0, 1) := by decide +kernel
theorem dX1_findBest_49 : decode cX1_findBest 49 = .ok (.iload_n 1, 1) := by decide +kernel
theorem dX1_findBest_50 : decode cX1_findBest 50 = .ok (.putfield 32, 3) := by decide +kernel
theorem dX1_findBest_53 : decode cX1_findBest 53 = .ok (.aload_n 0, 1) := by decide +kernel
theorem dX1_findBest_54 : decode cX1_findBest 54 = .ok (.iload_n 3, 1) := by decide +kernel
theorem dX1_findBest_55 : decode cX1_findBest 55 = .ok (.putfield 63, 3) := by decide +kernel
theorem dX1_findBest_58 : decode cX1_findBest 58 = .ok (.aload_n 0, 1) := by decide +kernel
theorem dX1_findBest_59 : decode cX1_findBest 59 = .ok (.invokevirtual 72, 3) := by decide +kernel
theorem dX1_findBest_62 : decode cX1_findBest 62 = .ok (.return_, 1) := by decide +kernel
abbrev rm_X1_findBest : Room := { frames := 5, cells := 0, slots := 0, locals := 117 }
theorem hd_X1_findBest : yX1_findBest.cls ≠ "java/lang/invoke/MethodHandle" ∧ yX1_findBest.cls ≠ "java/lang/invoke/VarHandle" ∧ (parseMethodDescriptor yX1_findBest.desc).map (fun d => d.parameters.length) = some 2 := by decide +kernel
def bk_X1_findBest_28 (Q : (Int32 × Int32 × Int32 × Int32 × Int32 × Int32 × (Nat → Int32) × Option Nat × (Nat → Int32) × (Nat → Int32) × (Nat → Int32)) → Prop) (a_f : Nat) (p1 : Int32) (x3 : Int32) (o_row : Nat → Int32) (f_all : Int32) (f_wanted : Int32) (f_needs : Nat → Int32) (f_sideCounts : Nat → Int32) (f_yardSums : Nat → Int32) (f_beside : Nat → Int32) (s_listed : Option Nat) (s_starts : Nat → Int32) (s_nexts : Nat → Int32) (s_values : Nat → Int32) : Prop :=
wp_X1_workOut a_f 1 p1 x3 f_all f_wanted f_needs f_sideCounts f_yardSums f_beside s_listed s_starts s_nexts s_values (fun (u3 : Int32 × Int32 × Option Nat × (Nat → Int32) × (Nat → Int32) × (Nat → Int32)) => wp_X1_leastLiftedOn 0 0 f_all f_needs f_beside u3.2.2.2.1 u3.2.2.2.2.1 u3.2.2.2.2.2 (fun (r4 : Int32) => wp_X1_orNone r4 (fun (r5 : Int32) => wp_X1_writeRow r5 o_row f_all f_wanted f_needs f_beside u3.2.2.2.1 u3.2.2.2.2.1 u3.2.2.2.2.2 (fun (u6 : Int32 × (Nat → Int32)) => Q (u6.1, r5, p1, x3, u3.1, u3.2.1, u6.2, u3.2.2.1, u3.2.2.2.1, u3.2.2.2.2.1, u3.2.2.2.2.2)))))
def wp_X1_findBest (a_f : Nat) (p1 : Int32) (p2 : Int32) (o_length : Int32) (o_lifted : Int32) (o_bestYards : Int32) (o_bestHurdles : Int32) (o_yards : Int32) (o_hurdles : Int32) (o_row : Nat → Int32) (f_all : Int32) (f_wanted : Int32) (f_mostSides : Int32) (f_needs : Nat → Int32) (f_sideCounts : Nat → Int32) (f_yardSums : Nat → Int32) (f_beside : Nat → Int32) (s_listed : Option Nat) (s_starts : Nat → Int32) (s_nexts : Nat → Int32) (s_values : Nat → Int32) (Q : (Int32 × Int32 × Int32 × Int32 × Int32 × Int32 × (Nat → Int32) × Option Nat × (Nat → Int32) × (Nat → Int32) × (Nat → Int32)) → Prop) : Prop :=
∀ y1 : Int32, y1 = (if f_mostSides < p2 then f_mostSides else p2) →
((¬ o_bestYards = p1 → bk_X1_findBest_28 Q a_f p1 y1 o_row f_all f_wanted f_needs f_sideCounts f_yardSums f_beside s_listed s_starts s_nexts s_values) ∧
(o_bestYards = p1 → ((o_bestHurdles = y1 → Q (o_length, o_lifted, o_bestYards, o_bestHurdles, o_yards, o_hurdles, o_row, s_listed, s_starts, s_nexts, s_values)) ∧
(¬ o_bestHurdles = y1 → bk_X1_findBest_28 Q a_f p1 y1 o_row f_all f_wanted f_needs f_sideCounts f_yardSums f_beside s_listed s_starts s_nexts s_values))))
set_option maxHeartbeats 4000000 in
set_option maxRecDepth 100000 in
theorem J_X1_findBest_28 {x : CX} {D : DG} {cyI cyJ cyZ : ClassId} {a_o a_o_fewestKept a_o_row a_f a_f_needs a_f_sideCounts a_f_yardSums a_f_beside a_s a_s_starts a_s_nexts a_s_values : Nat} {o_length : Int32} {o_lifted : Int32} {o_bestYards : Int32} {o_bestHurdles : Int32} {o_yards : Int32} {o_hurdles : Int32} {o_fewestKept : Nat → Int32} {o_row : Nat → Int32} {f_all : Int32} {f_wanted : Int32} {f_mostSides : Int32} {f_needs : Nat → Int32} {f_sideCounts : Nat → Int32} {f_yardSums : Nat → Int32} {f_beside : Nat → Int32} {s_listed : Option Nat} {s_starts : Nat → Int32} {s_nexts : Nat → Int32} {s_values : Nat → Int32} {p1 : Int32} {x3 : Int32} {Q : (Int32 × Int32 × Int32 × Int32 × Int32 × Int32 × (Nat → Int32) × Option Nat × (Nat → Int32) × (Nat → Int32) × (Nat → Int32)) → Prop} (cx : Cx x cX1_findBest 4 RX1 rm_X1_findBest D [(cyI, .int), (cyJ, .long), (cyZ, .boolean)]) (hR : ∀ (u : Int32 × Int32 × Int32 × Int32 × Int32 × Int32 × (Nat → Int32) × Option Nat × (Nat → Int32) × (Nat → Int32) × (Nat → Int32)) (pc : Nat) (lv : List (Nat × Value)), decode cX1_findBest pc = .ok (.return_, 1) → Q u → J x 0 0 4 (W_Courses cyI cyJ cyZ a_o a_o_fewestKept a_o_row a_f a_f_needs a_f_sideCounts a_f_yardSums a_f_beside a_s a_s_starts a_s_nexts a_s_values u.1 u.2.1 u.2.2.1 u.2.2.2.1 u.2.2.2.2.1 u.2.2.2.2.2.1 o_fewestKept u.2.2.2.2.2.2.1 f_all f_wanted f_mostSides f_needs f_sideCounts f_yardSums f_beside u.2.2.2.2.2.2.2.1 u.2.2.2.2.2.2.2.2.1 u.2.2.2.2.2.2.2.2.2.1 u.2.2.2.2.2.2.2.2.2.2) lv pc []) (h : bk_X1_findBest_28 Q  a_f p1 x3 o_row f_all f_wanted f_needs f_sideCounts f_yardSums f_beside s_listed s_starts s_nexts s_values) :
    J x 0 0 4 (W_Courses cyI cyJ cyZ a_o a_o_fewestKept a_o_row a_f a_f_needs a_f_sideCounts a_f_yardSums a_f_beside a_s a_s_starts a_s_nexts a_s_values o_length o_lifted o_bestYards o_bestHurdles o_yards o_hurdles o_fewestKept o_row f_all f_wanted f_mostSides f_needs f_sideCounts f_yardSums f_beside s_listed s_starts s_nexts s_values) [(0, .ref a_o), (1, .int p1), (3, .int x3)] 28 [] := by
  unfold bk_X1_findBest_28 at h
  refine j_aload_n cx 0 rfl rfl dX1_findBest_28 (pn := 29) rfl ?_
  refine j_iconst cx (v := 1) (by decide) dX1_findBest_29 (pn := 30) rfl ?_
  refine j_iload_n cx 1 rfl rfl dX1_findBest_30 (pn := 31) rfl ?_
  refine j_iload_n cx 2 rfl rfl dX1_findBest_31 (pn := 32) rfl ?_
  refine j_callvV0 cx q_inst_X1_workOut q_sel_X1_workOut (b := a_o) (As := [.int 1, .int p1, .int x3]) (rest := []) (c_X1_workOut h) ⟨q_code_X1_workOut, q_ml_X1_46, q_init_X1, hd_X1_workOut, ⟨Nat.le_of_ble_eq_true rfl, Nat.le_of_ble_eq_true rfl⟩, Nat.le_of_ble_eq_true rfl, Nat.le_of_ble_eq_true rfl⟩ (q0 := 0) rfl rfl rfl rfl (Nat.le_of_ble_eq_true rfl) dX1_findBest_32 (pn := 35) rfl (fun u3 h => ?_)
  show J x 0 0 4 (W_Courses cyI cyJ cyZ a_o a_o_fewestKept a_o_row a_f a_f_needs a_f_sideCounts a_f_yardSums a_f_beside a_s a_s_starts a_s_nexts a_s_values o_length o_lifted o_bestYards o_bestHurdles u3.1 u3.2.1 o_fewestKept o_row f_all f_wanted f_mostSides f_needs f_sideCounts f_yardSums f_beside u3.2.2.1 u3.2.2.2.1 u3.2.2.2.2.1 u3.2.2.2.2.2) [(0, .ref a_o), (1, .int p1), (3, .int x3)] 35 []
  refine j_aload_n cx 0 rfl rfl dX1_findBest_35 (pn := 36) rfl ?_
  refine j_aload_n cx 0 rfl rfl dX1_findBest_36 (pn := 37) rfl ?_
  refine j_iconst cx (v := 0) (by decide) dX1_findBest_37 (pn := 38) rfl ?_
  refine j_iconst cx (v := 0) (by decide) dX1_findBest_38 (pn := 39) rfl ?_
  refine j_callvI0 cx q_inst_X1_leastLiftedOn q_sel_X1_leastLiftedOn (b := a_o) (As := [.int 0, .int 0]) (rest := [.ref a_o]) (c_X1_leastLiftedOn h) ⟨q_code_X1_leastLiftedOn, q_ml_X1_66, q_init_X1, hd_X1_leastLiftedOn, ⟨Nat.le_of_ble_eq_true rfl, Nat.le_of_ble_eq_true rfl⟩, Nat.le_of_ble_eq_true rfl, Nat.le_of_ble_eq_true rfl⟩ (q0 := 0) rfl rfl rfl rfl (Nat.le_of_ble_eq_true rfl) dX1_findBest_39 (pn := 42) rfl (fun r4 _ h => ?_)
  show J x 0 0 4 (W_Courses cyI cyJ cyZ a_o a_o_fewestKept a_o_row a_f a_f_needs a_f_sideCounts a_f_yardSums a_f_beside a_s a_s_starts a_s_nexts a_s_values o_length o_lifted o_bestYards o_bestHurdles u3.1 u3.2.1 o_fewestKept o_row f_all f_wanted f_mostSides f_needs f_sideCounts f_yardSums f_beside u3.2.2.1 u3.2.2.2.1 u3.2.2.2.2.1 u3.2.2.2.2.2) [(0, .ref a_o), (1, .int p1), (3, .int x3)] 42 [.int r4, .ref a_o]
  refine j_calleI cx q_stat_X1_orNone (As := [.int r4]) (rest := [.ref a_o]) (c_X1_orNone h) ⟨q_code_X1_orNone, q_ml_X1_54, q_init_X1, hd_X1_orNone, ⟨Nat.le_of_ble_eq_true rfl, Nat.le_of_ble_eq_true rfl⟩, Nat.le_of_ble_eq_true rfl, Nat.le_of_ble_eq_true rfl⟩ rfl rfl (Nat.le_of_ble_eq_true rfl) dX1_findBest_42 (pn := 45) rfl (fun r5 h => ?_)
  show J x 0 0 4 (W_Courses cyI cyJ cyZ a_o a_o_fewestKept a_o_row a_f a_f_needs a_f_sideCounts a_f_yardSums a_f_beside a_s a_s_starts a_s_nexts a_s_values o_length o_lifted o_bestYards o_bestHurdles u3.1 u3.2.1 o_fewestKept o_row f_all f_wanted f_mostSides f_needs f_sideCounts f_yardSums f_beside u3.2.2.1 u3.2.2.2.1 u3.2.2.2.2.1 u3.2.2.2.2.2) [(0, .ref a_o), (1, .int p1), (3, .int x3)] 45 [.int r5, .ref a_o]
  refine j_put cx tyX1 tyX1_ok nmX1 inGX1 0 rfl rfl 5 (by decide) q_fl_X1_69 rfl rfl rfl rfl rfl (Nat.le_of_ble_eq_true rfl) (W_Courses cyI cyJ cyZ a_o a_o_fewestKept a_o_row a_f a_f_needs a_f_sideCounts a_f_yardSums a_f_beside a_s a_s_starts a_s_nexts a_s_values o_length r5 o_bestYards o_bestHurdles u3.1 u3.2.1 o_fewestKept o_row f_all f_wanted f_mostSides f_needs f_sideCounts f_yardSums f_beside u3.2.2.1 u3.2.2.2.1 u3.2.2.2.2.1 u3.2.2.2.2.2) rfl dX1_findBest_45 (pn := 48) rfl ?_
  refine j_aload_n cx 0 rfl rfl dX1_findBest_48 (pn := 49) rfl ?_
  refine j_iload_n cx 1 rfl rfl dX1_findBest_49 (pn := 50) rfl ?_
  refine j_put cx tyX1 tyX1_ok nmX1 inGX1 0 rfl rfl 6 (by decide) q_fl_X1_32 rfl rfl rfl rfl rfl (Nat.le_of_ble_eq_true rfl) (W_Courses cyI cyJ cyZ a_o a_o_fewestKept a_o_row a_f a_f_needs a_f_sideCounts a_f_yardSums a_f_beside a_s a_s_starts a_s_nexts a_s_values o_length r5 p1 o_bestHurdles u3.1 u3.2.1 o_fewestKept o_row f_all f_wanted f_mostSides f_needs f_sideCounts f_yardSums f_beside u3.2.2.1 u3.2.2.2.1 u3.2.2.2.2.1 u3.2.2.2.2.2) rfl dX1_findBest_50 (pn := 53) rfl ?_
  refine j_aload_n cx 0 rfl rfl dX1_findBest_53 (pn := 54) rfl ?_
  refine j_iload_n cx 2 rfl rfl dX1_findBest_54 (pn := 55) rfl ?_
  refine j_put cx tyX1 tyX1_ok nmX1 inGX1 0 rfl rfl 7 (by decide) q_fl_X1_63 rfl rfl rfl rfl rfl (Nat.le_of_ble_eq_true rfl) (W_Courses cyI cyJ cyZ a_o a_o_fewestKept a_o_row a_f a_f_needs a_f_sideCounts a_f_yardSums a_f_beside a_s a_s_starts a_s_nexts a_s_values o_length r5 p1 x3 u3.1 u3.2.1 o_fewestKept o_row f_all f_wanted f_mostSides f_needs f_sideCounts f_yardSums f_beside u3.2.2.1 u3.2.2.2.1 u3.2.2.2.2.1 u3.2.2.2.2.2) rfl dX1_findBest_55 (pn := 58) rfl ?_
  refine j_aload_n cx 0 rfl rfl dX1_findBest_58 (pn := 59) rfl ?_
  refine j_callvV0 cx q_inst_X1_writeRow q_sel_X1_writeRow (b := a_o) (As := []) (rest := []) (c_X1_writeRow h) ⟨q_code_X1_writeRow, q_ml_X1_72, q_init_X1, hd_X1_writeRow, ⟨Nat.le_of_ble_eq_true rfl, Nat.le_of_ble_eq_true rfl⟩, Nat.le_of_ble_eq_true rfl, Nat.le_of_ble_eq_true rfl⟩ (q0 := 0) rfl rfl rfl rfl (Nat.le_of_ble_eq_true rfl) dX1_findBest_59 (pn := 62) rfl (fun u6 h => ?_)
  show J x 0 0 4 (W_Courses cyI cyJ cyZ a_o a_o_fewestKept a_o_row a_f a_f_needs a_f_sideCounts a_f_yardSums a_f_beside a_s a_s_starts a_s_nexts a_s_values u6.1 r5 p1 x3 u3.1 u3.2.1 o_fewestKept u6.2 f_all f_wanted f_mostSides f_needs f_sideCounts f_yardSums f_beside u3.2.2.1 u3.2.2.2.1 u3.2.2.2.2.1 u3.2.2.2.2.2) [(0, .ref a_o), (1, .int p1), (3, .int x3)] 62 []
  exact hR (u6.1, r5, p1, x3, u3.1, u3.2.1, u6.2, u3.2.2.1, u3.2.2.2.1, u3.2.2.2.2.1, u3.2.2.2.2.2) 62 _ dX1_findBest_62 h
set_option maxHeartbeats 4000000 in
set_option maxRecDepth 100000 in
theorem c_X1_findBest {D : DG} {cyI cyJ cyZ : ClassId} {a_o a_o_fewestKept a_o_row a_f a_f_needs a_f_sideCounts a_f_yardSums a_f_beside a_s a_s_starts a_s_nexts a_s_values : Nat} {o_length : Int32} {o_lifted : Int32} {o_bestYards : Int32} {o_bestHurdles : Int32} {o_yards : Int32} {o_hurdles : Int32} {o_fewestKept : Nat → Int32} {o_row : Nat → Int32} {f_all : Int32} {f_wanted : Int32} {f_mostSides : Int32} {f_needs : Nat → Int32} {f_sideCounts : Nat → Int32} {f_yardSums : Nat → Int32} {f_beside : Nat → Int32} {s_listed : Option Nat} {s_starts : Nat → Int32} {s_nexts : Nat → Int32} {s_values : Nat → Int32} {p1 : Int32} {p2 : Int32} {Q : (Int32 × Int32 × Int32 × Int32 × Int32 × Int32 × (Nat → Int32) × Option Nat × (Nat → Int32) × (Nat → Int32) × (Nat → Int32)) → Prop} (h : wp_X1_findBest a_f p1 p2 o_length o_lifted o_bestYards o_bestHurdles o_yards o_hurdles o_row f_all f_wanted f_mostSides f_needs f_sideCounts f_yardSums f_beside s_listed s_starts s_nexts s_values Q) :
    MetV yX1_findBest cX1_findBest 4 (none) rm_X1_findBest D [(cyI, .int), (cyJ, .long), (cyZ, .boolean)] [.ref a_o, .int p1, .int p2] (W_Courses cyI cyJ cyZ a_o a_o_fewestKept a_o_row a_f a_f_needs a_f_sideCounts a_f_yardSums a_f_beside a_s a_s_starts a_s_nexts a_s_values o_length o_lifted o_bestYards o_bestHurdles o_yards o_hurdles o_fewestKept o_row f_all f_wanted f_mostSides f_needs f_sideCounts f_yardSums f_beside s_listed s_starts s_nexts s_values) (fun u : Int32 × Int32 × Int32 × Int32 × Int32 × Int32 × (Nat → Int32) × Option Nat × (Nat → Int32) × (Nat → Int32) × (Nat → Int32) => (W_Courses cyI cyJ cyZ a_o a_o_fewestKept a_o_row a_f a_f_needs a_f_sideCounts a_f_yardSums a_f_beside a_s a_s_starts a_s_nexts a_s_values u.1 u.2.1 u.2.2.1 u.2.2.2.1 u.2.2.2.2.1 u.2.2.2.2.2.1 o_fewestKept u.2.2.2.2.2.2.1 f_all f_wanted f_mostSides f_needs f_sideCounts f_yardSums f_beside u.2.2.2.2.2.2.2.1 u.2.2.2.2.2.2.2.2.1 u.2.2.2.2.2.2.2.2.2.1 u.2.2.2.2.2.2.2.2.2.2)) (fun u => Q u) := by
  unfold wp_X1_findBest at h
  refine metV_of (by decide) (Nat.le_of_ble_eq_true rfl) (fun x cx0 hR0 => ?_)
  have cx : Cx x cX1_findBest 4 RX1 rm_X1_findBest D [(cyI, .int), (cyJ, .long), (cyZ, .boolean)] := cx0
  have hR : ∀ (u : Int32 × Int32 × Int32 × Int32 × Int32 × Int32 × (Nat → Int32) × Option Nat × (Nat → Int32) × (Nat → Int32) × (Nat → Int32)) (pc : Nat) (lv : List (Nat × Value)), decode cX1_findBest pc = .ok (.return_, 1) → Q u → J x 0 0 4 (W_Courses cyI cyJ cyZ a_o a_o_fewestKept a_o_row a_f a_f_needs a_f_sideCounts a_f_yardSums a_f_beside a_s a_s_starts a_s_nexts a_s_values u.1 u.2.1 u.2.2.1 u.2.2.2.1 u.2.2.2.2.1 u.2.2.2.2.2.1 o_fewestKept u.2.2.2.2.2.2.1 f_all f_wanted f_mostSides f_needs f_sideCounts f_yardSums f_beside u.2.2.2.2.2.2.2.1 u.2.2.2.2.2.2.2.2.1 u.2.2.2.2.2.2.2.2.2.1 u.2.2.2.2.2.2.2.2.2.2) lv pc [] := (fun u pc lv d hq => hR0 u pc lv d hq)
  show J x 0 0 4 (W_Courses cyI cyJ cyZ a_o a_o_fewestKept a_o_row a_f a_f_needs a_f_sideCounts a_f_yardSums a_f_beside a_s a_s_starts a_s_nexts a_s_values o_length o_lifted o_bestYards o_bestHurdles o_yards o_hurdles o_fewestKept o_row f_all f_wanted f_mostSides f_needs f_sideCounts f_yardSums f_beside s_listed s_starts s_nexts s_values) [(0, .ref a_o), (1, .int p1), (2, .int p2)] 0 []
  refine j_iload_n cx 2 rfl rfl dX1_findBest_0 (pn := 1) rfl ?_
  refine j_aload_n cx 0 rfl rfl dX1_findBest_1 (pn := 2) rfl ?_
  refine j_get cx inGX1 0 rfl rfl 0 (by decide) q_fl_X1_18 rfl rfl dX1_findBest_2 (pn := 5) rfl ?_
  refine j_getN cx inGX3 3 rfl rfl 6 (by decide) q_fl_X1_41 rfl rfl dX1_findBest_5 (pn := 8) rfl ?_
  refine j_mmin cx q_ml_X1_58 q_stat_J9_min_7cf53 q_init_J9 q_code_J9_min_7cf53 (Nat.le_of_ble_eq_true rfl) (Nat.le_of_ble_eq_true rfl) (Nat.zero_le _) (Nat.zero_le _) dX1_findBest_8 (pn := 11) rfl ?_
  refine j_topi (fun y1 ey1 => ?_)
  have h := h y1 ey1
  refine j_istore_n cx rfl [(3, .int y1), (0, .ref a_o), (1, .int p1), (2, .int p2)] (by decide) rfl dX1_findBest_11 (pn := 12) rfl ?_
  refine j_aload_n cx 1 rfl rfl dX1_findBest_12 (pn := 13) rfl ?_
  refine j_get cx inGX1 0 rfl rfl 6 (by decide) q_fl_X1_32 rfl rfl dX1_findBest_13 (pn := 16) rfl ?_
  refine j_iload_n cx 2 rfl rfl dX1_findBest_16 (pn := 17) rfl ?_
  refine j_icmp_ne cx 28 dX1_findBest_17 (pn := 20) rfl rfl (fun c2 => ?_) (fun c2 => ?_)
  · have h := h.1 c2
    refine j_sub [1, 2, 0] [(0, .ref a_o), (1, .int p1), (3, .int y1)] rfl ?_
    exact J_X1_findBest_28 cx hR h
  · have h := h.2 c2
    refine j_aload_n cx 1 rfl rfl dX1_findBest_20 (pn := 21) rfl ?_
    refine j_get cx inGX1 0 rfl rfl 7 (by decide) q_fl_X1_63 rfl rfl dX1_findBest_21 (pn := 24) rfl ?_
    refine j_iload_n cx 0 rfl rfl dX1_findBest_24 (pn := 25) rfl ?_
    refine j_icmp_eq cx 62 dX1_findBest_25 (pn := 28) rfl rfl (fun c7 => ?_) (fun c7 => ?_)
    · have h := h.1 c7
      exact hR (o_length, o_lifted, o_bestYards, o_bestHurdles, o_yards, o_hurdles, o_row, s_listed, s_starts, s_nexts, s_values) 62 _ dX1_findBest_62 h
    · have h := h.2 c7
      refine j_sub [1, 2, 0] [(0, .ref a_o), (1, .int p1), (3, .int y1)] rfl ?_
      exact J_X1_findBest_28 cx hR h
theorem dX1_ways_0 : decode cX1_ways 0 = .ok (.aload_n 0, 1) := by decide +kernel
theorem dX1_ways_1 : decode cX1_ways 1 = .ok (.iconst 2, 1) := by decide +kernel
theorem dX1_ways_2 : decode cX1_ways 2 = .ok (.iload_n 1, 1) := by decide +kernel
theorem dX1_ways_3 : decode cX1_ways 3 = .ok (.iload_n 2, 1) := by decide +kernel
theorem dX1_ways_4 : decode cX1_ways 4 = .ok (.invokevirtual 46, 3) := by decide +kernel
theorem dX1_ways_7 : decode cX1_ways 7 = .ok (.aload_n 0, 1) := by decide +kernel
theorem dX1_ways_8 : decode cX1_ways 8 = .ok (.iconst 0, 1) := by decide +kernel
theorem dX1_ways_9 : decode cX1_ways 9 = .ok (.iconst 0, 1) := by decide +kernel
theorem dX1_ways_10 : decode cX1_ways 10 = .ok (.invokevirtual 75, 3) := by decide +kernel
theorem dX1_ways_13 : decode cX1_ways 13 = .ok (.ireturn, 1) := by decide +kernel
abbrev rm_X1_ways : Room := { frames := 5, cells := 0, slots := 0, locals := 117 }
theorem hd_X1_ways : yX1_ways.cls ≠ "java/lang/invoke/MethodHandle" ∧ yX1_ways.cls ≠ "java/lang/invoke/VarHandle" ∧ (parseMethodDescriptor yX1_ways.desc).map (fun d => d.parameters.length) = some 2 := by decide +kernel
def wp_X1_ways (a_f : Nat) (p1 : Int32) (p2 : Int32) (f_all : Int32) (f_wanted : Int32) (f_needs : Nat → Int32) (f_sideCounts : Nat → Int32) (f_yardSums : Nat → Int32) (f_beside : Nat → Int32) (s_listed : Option Nat) (s_starts : Nat → Int32) (s_nexts : Nat → Int32) (s_values : Nat → Int32) (Q : Int32 → (Int32 × Int32 × Option Nat × (Nat → Int32) × (Nat → Int32) × (Nat → Int32)) → Prop) : Prop :=
wp_X1_workOut a_f 2 p1 p2 f_all f_wanted f_needs f_sideCounts f_yardSums f_beside s_listed s_starts s_nexts s_values (fun (u1 : Int32 × Int32 × Option Nat × (Nat → Int32) × (Nat → Int32) × (Nat → Int32)) => wp_X1_waysOn 0 0 f_all f_beside u1.2.2.2.1 u1.2.2.2.2.1 u1.2.2.2.2.2 (fun (r2 : Int32) => Q r2 (u1.1, u1.2.1, u1.2.2.1, u1.2.2.2.1, u1.2.2.2.2.1, u1.2.2.2.2.2)))
set_option maxHeartbeats 4000000 in
set_option maxRecDepth 100000 in
theorem c_X1_ways {D : DG} {cyI cyJ cyZ : ClassId} {a_o a_o_fewestKept a_o_row a_f a_f_needs a_f_sideCounts a_f_yardSums a_f_beside a_s a_s_starts a_s_nexts a_s_values : Nat} {o_length : Int32} {o_lifted : Int32} {o_bestYards : Int32} {o_bestHurdles : Int32} {o_yards : Int32} {o_hurdles : Int32} {o_fewestKept : Nat → Int32} {o_row : Nat → Int32} {f_all : Int32} {f_wanted : Int32} {f_mostSides : Int32} {f_needs : Nat → Int32} {f_sideCounts : Nat → Int32} {f_yardSums : Nat → Int32} {f_beside : Nat → Int32} {s_listed : Option Nat} {s_starts : Nat → Int32} {s_nexts : Nat → Int32} {s_values : Nat → Int32} {p1 : Int32} {p2 : Int32} {Q : Int32 → (Int32 × Int32 × Option Nat × (Nat → Int32) × (Nat → Int32) × (Nat → Int32)) → Prop} (h : wp_X1_ways a_f p1 p2 f_all f_wanted f_needs f_sideCounts f_yardSums f_beside s_listed s_starts s_nexts s_values Q) :
    MetI yX1_ways cX1_ways 3 (some .int) rm_X1_ways D [(cyI, .int), (cyJ, .long), (cyZ, .boolean)] [.ref a_o, .int p1, .int p2] (W_Courses cyI cyJ cyZ a_o a_o_fewestKept a_o_row a_f a_f_needs a_f_sideCounts a_f_yardSums a_f_beside a_s a_s_starts a_s_nexts a_s_values o_length o_lifted o_bestYards o_bestHurdles o_yards o_hurdles o_fewestKept o_row f_all f_wanted f_mostSides f_needs f_sideCounts f_yardSums f_beside s_listed s_starts s_nexts s_values) (fun u : Int32 × Int32 × Option Nat × (Nat → Int32) × (Nat → Int32) × (Nat → Int32) => (W_Courses cyI cyJ cyZ a_o a_o_fewestKept a_o_row a_f a_f_needs a_f_sideCounts a_f_yardSums a_f_beside a_s a_s_starts a_s_nexts a_s_values o_length o_lifted o_bestYards o_bestHurdles u.1 u.2.1 o_fewestKept o_row f_all f_wanted f_mostSides f_needs f_sideCounts f_yardSums f_beside u.2.2.1 u.2.2.2.1 u.2.2.2.2.1 u.2.2.2.2.2)) (fun v u => Q v u) := by
  unfold wp_X1_ways at h
  refine metI_of (by decide) (Nat.le_of_ble_eq_true rfl) (fun x cx0 hR0 => ?_)
  have cx : Cx x cX1_ways 3 RX1 rm_X1_ways D [(cyI, .int), (cyJ, .long), (cyZ, .boolean)] := cx0
  have hR : ∀ (v : Int32) (u : Int32 × Int32 × Option Nat × (Nat → Int32) × (Nat → Int32) × (Nat → Int32)) (pc : Nat) (lv : List (Nat × Value)), decode cX1_ways pc = .ok (.ireturn, 1) → Q v u → J x 0 0 3 (W_Courses cyI cyJ cyZ a_o a_o_fewestKept a_o_row a_f a_f_needs a_f_sideCounts a_f_yardSums a_f_beside a_s a_s_starts a_s_nexts a_s_values o_length o_lifted o_bestYards o_bestHurdles u.1 u.2.1 o_fewestKept o_row f_all f_wanted f_mostSides f_needs f_sideCounts f_yardSums f_beside u.2.2.1 u.2.2.2.1 u.2.2.2.2.1 u.2.2.2.2.2) lv pc [.int v] := (fun v u pc lv d hq => hR0 v u pc lv d hq)
  show J x 0 0 3 (W_Courses cyI cyJ cyZ a_o a_o_fewestKept a_o_row a_f a_f_needs a_f_sideCounts a_f_yardSums a_f_beside a_s a_s_starts a_s_nexts a_s_values o_length o_lifted o_bestYards o_bestHurdles o_yards o_hurdles o_fewestKept o_row f_all f_wanted f_mostSides f_needs f_sideCounts f_yardSums f_beside s_listed s_starts s_nexts s_values) [(0, .ref a_o), (1, .int p1), (2, .int p2)] 0 []
  refine j_aload_n cx 0 rfl rfl dX1_ways_0 (pn := 1) rfl ?_
  refine j_iconst cx (v := 2) (by decide) dX1_ways_1 (pn := 2) rfl ?_
  refine j_iload_n cx 1 rfl rfl dX1_ways_2 (pn := 3) rfl ?_
  refine j_iload_n cx 2 rfl rfl dX1_ways_3 (pn := 4) rfl ?_
  refine j_callvV0 cx q_inst_X1_workOut q_sel_X1_workOut (b := a_o) (As := [.int 2, .int p1, .int p2]) (rest := []) (c_X1_workOut h) ⟨q_code_X1_workOut, q_ml_X1_46, q_init_X1, hd_X1_workOut, ⟨Nat.le_of_ble_eq_true rfl, Nat.le_of_ble_eq_true rfl⟩, Nat.le_of_ble_eq_true rfl, Nat.le_of_ble_eq_true rfl⟩ (q0 := 0) rfl rfl rfl rfl (Nat.le_of_ble_eq_true rfl) dX1_ways_4 (pn := 7) rfl (fun u1 h => ?_)
  show J x 0 0 3 (W_Courses cyI cyJ cyZ a_o a_o_fewestKept a_o_row a_f a_f_needs a_f_sideCounts a_f_yardSums a_f_beside a_s a_s_starts a_s_nexts a_s_values o_length o_lifted o_bestYards o_bestHurdles u1.1 u1.2.1 o_fewestKept o_row f_all f_wanted f_mostSides f_needs f_sideCounts f_yardSums f_beside u1.2.2.1 u1.2.2.2.1 u1.2.2.2.2.1 u1.2.2.2.2.2) [(0, .ref a_o), (1, .int p1), (2, .int p2)] 7 []
  refine j_aload_n cx 0 rfl rfl dX1_ways_7 (pn := 8) rfl ?_
  refine j_iconst cx (v := 0) (by decide) dX1_ways_8 (pn := 9) rfl ?_
  refine j_iconst cx (v := 0) (by decide) dX1_ways_9 (pn := 10) rfl ?_
  refine j_callvI0 cx q_inst_X1_waysOn q_sel_X1_waysOn (b := a_o) (As := [.int 0, .int 0]) (rest := []) (c_X1_waysOn h) ⟨q_code_X1_waysOn, q_ml_X1_75, q_init_X1, hd_X1_waysOn, ⟨Nat.le_of_ble_eq_true rfl, Nat.le_of_ble_eq_true rfl⟩, Nat.le_of_ble_eq_true rfl, Nat.le_of_ble_eq_true rfl⟩ (q0 := 0) rfl rfl rfl rfl (Nat.le_of_ble_eq_true rfl) dX1_ways_10 (pn := 13) rfl (fun r2 _ h => ?_)
  show J x 0 0 3 (W_Courses cyI cyJ cyZ a_o a_o_fewestKept a_o_row a_f a_f_needs a_f_sideCounts a_f_yardSums a_f_beside a_s a_s_starts a_s_nexts a_s_values o_length o_lifted o_bestYards o_bestHurdles u1.1 u1.2.1 o_fewestKept o_row f_all f_wanted f_mostSides f_needs f_sideCounts f_yardSums f_beside u1.2.2.1 u1.2.2.2.1 u1.2.2.2.2.1 u1.2.2.2.2.2) [(0, .ref a_o), (1, .int p1), (2, .int p2)] 13 [.int r2]
  exact hR r2 (u1.1, u1.2.1, u1.2.2.1, u1.2.2.2.1, u1.2.2.2.2.1, u1.2.2.2.2.2) 13 _ dX1_ways_13 h
