theorem dJ0_coder_7d493_0 : decode cJ0_coder_7d493 0 = .ok (.getstatic 38, 3) := by decide +kernel
theorem dJ0_coder_7d493_3 : decode cJ0_coder_7d493 3 = .ok (.ifCond .eq 10, 3) := by decide +kernel
theorem dJ0_coder_7d493_6 : decode cJ0_coder_7d493 6 = .ok (.aload_n 0, 1) := by decide +kernel
theorem dJ0_coder_7d493_7 : decode cJ0_coder_7d493 7 = .ok (.getfield 15, 3) := by decide +kernel
theorem dJ0_coder_7d493_10 : decode cJ0_coder_7d493 10 = .ok (.goto 4, 3) := by decide +kernel
theorem dJ0_coder_7d493_13 : decode cJ0_coder_7d493 13 = .ok (.iconst 1, 1) := by decide +kernel
theorem dJ0_coder_7d493_14 : decode cJ0_coder_7d493 14 = .ok (.ireturn, 1) := by decide +kernel
theorem hd_J0_coder_7d493 : yJ0_coder_7d493.cls ≠ "java/lang/invoke/MethodHandle" ∧ yJ0_coder_7d493.cls ≠ "java/lang/invoke/VarHandle" ∧ (parseMethodDescriptor yJ0_coder_7d493.desc).map (fun d => d.parameters.length) = some 0 := by decide +kernel
theorem dJ0_length_8abf5_0 : decode cJ0_length_8abf5 0 = .ok (.aload_n 0, 1) := by decide +kernel
theorem dJ0_length_8abf5_1 : decode cJ0_length_8abf5 1 = .ok (.getfield 9, 3) := by decide +kernel
theorem dJ0_length_8abf5_4 : decode cJ0_length_8abf5 4 = .ok (.arraylength, 1) := by decide +kernel
theorem dJ0_length_8abf5_5 : decode cJ0_length_8abf5 5 = .ok (.aload_n 0, 1) := by decide +kernel
theorem dJ0_length_8abf5_6 : decode cJ0_length_8abf5 6 = .ok (.invokevirtual 335, 3) := by decide +kernel
theorem dJ0_length_8abf5_9 : decode cJ0_length_8abf5 9 = .ok (.ishr, 1) := by decide +kernel
theorem dJ0_length_8abf5_10 : decode cJ0_length_8abf5 10 = .ok (.ireturn, 1) := by decide +kernel
theorem hd_J0_length_8abf5 : yJ0_length_8abf5.cls ≠ "java/lang/invoke/MethodHandle" ∧ yJ0_length_8abf5.cls ≠ "java/lang/invoke/VarHandle" ∧ (parseMethodDescriptor yJ0_length_8abf5.desc).map (fun d => d.parameters.length) = some 0 := by decide +kernel
theorem dJ0_isLatin1_aae02_0 : decode cJ0_isLatin1_aae02 0 = .ok (.getstatic 38, 3) := by decide +kernel
theorem dJ0_isLatin1_aae02_3 : decode cJ0_isLatin1_aae02 3 = .ok (.ifCond .eq 14, 3) := by decide +kernel
theorem dJ0_isLatin1_aae02_6 : decode cJ0_isLatin1_aae02 6 = .ok (.aload_n 0, 1) := by decide +kernel
theorem dJ0_isLatin1_aae02_7 : decode cJ0_isLatin1_aae02 7 = .ok (.getfield 15, 3) := by decide +kernel
theorem dJ0_isLatin1_aae02_10 : decode cJ0_isLatin1_aae02 10 = .ok (.ifCond .ne 7, 3) := by decide +kernel
theorem dJ0_isLatin1_aae02_13 : decode cJ0_isLatin1_aae02 13 = .ok (.iconst 1, 1) := by decide +kernel
theorem dJ0_isLatin1_aae02_14 : decode cJ0_isLatin1_aae02 14 = .ok (.goto 4, 3) := by decide +kernel
theorem dJ0_isLatin1_aae02_17 : decode cJ0_isLatin1_aae02 17 = .ok (.iconst 0, 1) := by decide +kernel
theorem dJ0_isLatin1_aae02_18 : decode cJ0_isLatin1_aae02 18 = .ok (.ireturn, 1) := by decide +kernel
theorem hd_J0_isLatin1_aae02 : yJ0_isLatin1_aae02.cls ≠ "java/lang/invoke/MethodHandle" ∧ yJ0_isLatin1_aae02.cls ≠ "java/lang/invoke/VarHandle" ∧ (parseMethodDescriptor yJ0_isLatin1_aae02.desc).map (fun d => d.parameters.length) = some 0 := by decide +kernel
theorem dJ3_checkIndex_8e157_0 : decode cJ3_checkIndex_8e157 0 = .ok (.iload_n 0, 1) := by decide +kernel
theorem dJ3_checkIndex_8e157_1 : decode cJ3_checkIndex_8e157 1 = .ok (.ifCond .lt 8, 3) := by decide +kernel
theorem dJ3_checkIndex_8e157_4 : decode cJ3_checkIndex_8e157 4 = .ok (.iload_n 0, 1) := by decide +kernel
theorem dJ3_checkIndex_8e157_5 : decode cJ3_checkIndex_8e157 5 = .ok (.iload_n 1, 1) := by decide +kernel
theorem dJ3_checkIndex_8e157_6 : decode cJ3_checkIndex_8e157 6 = .ok (.if_icmp .lt 10, 3) := by decide +kernel
theorem dJ3_checkIndex_8e157_9 : decode cJ3_checkIndex_8e157 9 = .ok (.aload_n 2, 1) := by decide +kernel
theorem dJ3_checkIndex_8e157_10 : decode cJ3_checkIndex_8e157 10 = .ok (.iload_n 0, 1) := by decide +kernel
theorem dJ3_checkIndex_8e157_11 : decode cJ3_checkIndex_8e157 11 = .ok (.iload_n 1, 1) := by decide +kernel
theorem dJ3_checkIndex_8e157_12 : decode cJ3_checkIndex_8e157 12 = .ok (.invokestatic 95, 3) := by decide +kernel
theorem dJ3_checkIndex_8e157_15 : decode cJ3_checkIndex_8e157 15 = .ok (.athrow, 1) := by decide +kernel
theorem dJ3_checkIndex_8e157_16 : decode cJ3_checkIndex_8e157 16 = .ok (.iload_n 0, 1) := by decide +kernel
theorem dJ3_checkIndex_8e157_17 : decode cJ3_checkIndex_8e157 17 = .ok (.ireturn, 1) := by decide +kernel
theorem hd_J3_checkIndex_8e157 : yJ3_checkIndex_8e157.cls ≠ "java/lang/invoke/MethodHandle" ∧ yJ3_checkIndex_8e157.cls ≠ "java/lang/invoke/VarHandle" ∧ (parseMethodDescriptor yJ3_checkIndex_8e157.desc).map (fun d => d.parameters.length) = some 3 := by decide +kernel
theorem dJ0_checkIndex_df160_0 : decode cJ0_checkIndex_df160 0 = .ok (.iload_n 0, 1) := by decide +kernel
theorem dJ0_checkIndex_df160_1 : decode cJ0_checkIndex_df160 1 = .ok (.iload_n 1, 1) := by decide +kernel
theorem dJ0_checkIndex_df160_2 : decode cJ0_checkIndex_df160 2 = .ok (.getstatic 1053, 3) := by decide +kernel
theorem dJ0_checkIndex_df160_5 : decode cJ0_checkIndex_df160 5 = .ok (.invokestatic 1059, 3) := by decide +kernel
theorem dJ0_checkIndex_df160_8 : decode cJ0_checkIndex_df160 8 = .ok (.pop, 1) := by decide +kernel
theorem dJ0_checkIndex_df160_9 : decode cJ0_checkIndex_df160 9 = .ok (.return_, 1) := by decide +kernel
theorem hd_J0_checkIndex_df160 : yJ0_checkIndex_df160.cls ≠ "java/lang/invoke/MethodHandle" ∧ yJ0_checkIndex_df160.cls ≠ "java/lang/invoke/VarHandle" ∧ (parseMethodDescriptor yJ0_checkIndex_df160.desc).map (fun d => d.parameters.length) = some 2 := by decide +kernel
theorem dJ1_charAt_3b067_0 : decode cJ1_charAt_3b067 0 = .ok (.iload_n 1, 1) := by decide +kernel
theorem dJ1_charAt_3b067_1 : decode cJ1_charAt_3b067 1 = .ok (.aload_n 0, 1) := by decide +kernel
theorem dJ1_charAt_3b067_2 : decode cJ1_charAt_3b067 2 = .ok (.arraylength, 1) := by decide +kernel
theorem dJ1_charAt_3b067_3 : decode cJ1_charAt_3b067 3 = .ok (.invokestatic 9, 3) := by decide +kernel
theorem dJ1_charAt_3b067_6 : decode cJ1_charAt_3b067 6 = .ok (.aload_n 0, 1) := by decide +kernel
theorem dJ1_charAt_3b067_7 : decode cJ1_charAt_3b067 7 = .ok (.iload_n 1, 1) := by decide +kernel
theorem dJ1_charAt_3b067_8 : decode cJ1_charAt_3b067 8 = .ok (.baload, 1) := by decide +kernel
theorem dJ1_charAt_3b067_9 : decode cJ1_charAt_3b067 9 = .ok (.sipush 255, 3) := by decide +kernel
theorem dJ1_charAt_3b067_12 : decode cJ1_charAt_3b067 12 = .ok (.iand, 1) := by decide +kernel
theorem dJ1_charAt_3b067_13 : decode cJ1_charAt_3b067 13 = .ok (.i2c, 1) := by decide +kernel
theorem dJ1_charAt_3b067_14 : decode cJ1_charAt_3b067 14 = .ok (.ireturn, 1) := by decide +kernel
theorem hd_J1_charAt_3b067 : yJ1_charAt_3b067.cls ≠ "java/lang/invoke/MethodHandle" ∧ yJ1_charAt_3b067.cls ≠ "java/lang/invoke/VarHandle" ∧ (parseMethodDescriptor yJ1_charAt_3b067.desc).map (fun d => d.parameters.length) = some 2 := by decide +kernel
theorem dJ0_charAt_5068e_0 : decode cJ0_charAt_5068e 0 = .ok (.aload_n 0, 1) := by decide +kernel
theorem dJ0_charAt_5068e_1 : decode cJ0_charAt_5068e 1 = .ok (.invokevirtual 492, 3) := by decide +kernel
theorem dJ0_charAt_5068e_4 : decode cJ0_charAt_5068e 4 = .ok (.ifCond .eq 12, 3) := by decide +kernel
theorem dJ0_charAt_5068e_7 : decode cJ0_charAt_5068e 7 = .ok (.aload_n 0, 1) := by decide +kernel
theorem dJ0_charAt_5068e_8 : decode cJ0_charAt_5068e 8 = .ok (.getfield 9, 3) := by decide +kernel
theorem dJ0_charAt_5068e_11 : decode cJ0_charAt_5068e 11 = .ok (.iload_n 1, 1) := by decide +kernel
theorem dJ0_charAt_5068e_12 : decode cJ0_charAt_5068e 12 = .ok (.invokestatic 495, 3) := by decide +kernel
theorem dJ0_charAt_5068e_15 : decode cJ0_charAt_5068e 15 = .ok (.ireturn, 1) := by decide +kernel
theorem dJ0_charAt_5068e_16 : decode cJ0_charAt_5068e 16 = .ok (.aload_n 0, 1) := by decide +kernel
theorem dJ0_charAt_5068e_17 : decode cJ0_charAt_5068e 17 = .ok (.getfield 9, 3) := by decide +kernel
theorem dJ0_charAt_5068e_20 : decode cJ0_charAt_5068e 20 = .ok (.iload_n 1, 1) := by decide +kernel
theorem dJ0_charAt_5068e_21 : decode cJ0_charAt_5068e 21 = .ok (.invokestatic 498, 3) := by decide +kernel
theorem dJ0_charAt_5068e_24 : decode cJ0_charAt_5068e 24 = .ok (.ireturn, 1) := by decide +kernel
theorem hd_J0_charAt_5068e : yJ0_charAt_5068e.cls ≠ "java/lang/invoke/MethodHandle" ∧ yJ0_charAt_5068e.cls ≠ "java/lang/invoke/VarHandle" ∧ (parseMethodDescriptor yJ0_charAt_5068e.desc).map (fun d => d.parameters.length) = some 1 := by decide +kernel
abbrev rm_J0_coder_7d493 : Room := { frames := 0, cells := 0, slots := 0, locals := 0 }
abbrev rm_J0_isLatin1_aae02 : Room := { frames := 0, cells := 0, slots := 0, locals := 0 }
abbrev rm_J3_checkIndex_8e157 : Room := { frames := 0, cells := 0, slots := 0, locals := 0 }
abbrev rm_J0_length_8abf5 : Room := { frames := 1, cells := 0, slots := 0, locals := 20 }
abbrev rm_J0_checkIndex_df160 : Room := { frames := 1, cells := 0, slots := 0, locals := 22 }
abbrev rm_J1_charAt_3b067 : Room := { frames := 2, cells := 0, slots := 0, locals := 43 }
abbrev rm_J0_charAt_5068e : Room := { frames := 3, cells := 0, slots := 0, locals := 64 }
def chS (i j : Nat) : Int32 := (((bytS.getD i []).getD j 0 &&& 255).toUInt32 % 65536).toInt32
theorem chS_ok : ∀ i, i < nS → ∀ j, j < lenS.getD i 0 → narrow .char (.int (chS i j)) = .int (chS i j) := by decide +kernel
theorem lenS_ok : ∀ i, i < nS → Int32.ofNat (lenS.getD i 0) >>> ((0 : Int32) &&& 31) = Int32.ofNat (lenS.getD i 0) := by decide +kernel
set_option maxHeartbeats 4000000 in
set_option maxRecDepth 100000 in
theorem c_J0_coder_7d493 {D : DG} {cyI cyJ cyZ : ClassId} {i : Nat} {Q : Int32 → Prop} (hi : i < nS) (h : Q 0) : MetI yJ0_coder_7d493 cJ0_coder_7d493 1 (some .byte) rm_J0_coder_7d493 D [(cyI, .int), (cyJ, .long), (cyZ, .boolean)] [.ref (D.2.1 i)] [] (fun _ : Unit => []) (fun v _ => Q v) := by
  refine metN_of (by decide) (Nat.le_of_ble_eq_true rfl) (fun x cx0 hR => ?_)
  have cx : Cx x cJ0_coder_7d493 1 RJ0 rm_J0_coder_7d493 D [(cyI, .int), (cyJ, .long), (cyZ, .boolean)] := cx0
  show J x 0 0 1 [] [(0, .ref (D.2.1 i))] 0 []
  refine j_getsC cx q_fl_J0_38 dJ0_coder_7d493_0 (pn := 3) rfl ?_
  refine j_if_eq cx 13 dJ0_coder_7d493_3 (pn := 6) rfl rfl (fun z => absurd z (by decide)) (fun _ => ?_)
  refine j_aload_n cx 0 rfl rfl dJ0_coder_7d493_6 (pn := 7) rfl ?_
  refine j_scod cx hi q_fl_J0_15 dJ0_coder_7d493_7 (pn := 10) rfl ?_
  refine j_goto cx 14 dJ0_coder_7d493_10 rfl ?_
  exact hR 0 () 14 _ dJ0_coder_7d493_14 rfl h
set_option maxHeartbeats 4000000 in
set_option maxRecDepth 100000 in
theorem c_J0_length_8abf5 {D : DG} {cyI cyJ cyZ : ClassId} {i : Nat} {Q : Int32 → Prop} (hi : i < nS) (h : Q (Int32.ofNat (lenS.getD i 0))) : MetI yJ0_length_8abf5 cJ0_length_8abf5 1 (some .int) rm_J0_length_8abf5 D [(cyI, .int), (cyJ, .long), (cyZ, .boolean)] [.ref (D.2.1 i)] [] (fun _ : Unit => []) (fun v _ => Q v) := by
  refine metI_of (by decide) (Nat.le_of_ble_eq_true rfl) (fun x cx0 hR => ?_)
  have cx : Cx x cJ0_length_8abf5 1 RJ0 rm_J0_length_8abf5 D [(cyI, .int), (cyJ, .long), (cyZ, .boolean)] := cx0
  show J x 0 0 1 [] [(0, .ref (D.2.1 i))] 0 []
  refine j_aload_n cx 0 rfl rfl dJ0_length_8abf5_0 (pn := 1) rfl ?_
  refine j_sval cx hi q_fl_J0_9 dJ0_length_8abf5_1 (pn := 4) rfl ?_
  refine j_stlen cx hi dJ0_length_8abf5_4 (pn := 5) rfl ?_
  refine j_aload_n cx 0 rfl rfl dJ0_length_8abf5_5 (pn := 6) rfl ?_
  refine j_callkI cx q_inst_J0_coder_7d493 q_sel_J0_coder_7d493 hi rfl (As := []) (rest := [.int (Int32.ofNat (lenS.getD i 0))]) (c_J0_coder_7d493 (Q := fun r => r = 0) hi rfl) ⟨q_code_J0_coder_7d493, q_ml_J0_335, q_init_J0, hd_J0_coder_7d493, ⟨Nat.le_of_ble_eq_true rfl, Nat.le_of_ble_eq_true rfl⟩, Nat.le_of_ble_eq_true rfl, Nat.le_of_ble_eq_true rfl⟩ rfl rfl (Nat.le_of_ble_eq_true rfl) dJ0_length_8abf5_6 (pn := 9) rfl (fun r hr => ?_)
  subst hr
  show J x 0 0 1 [] [(0, .ref (D.2.1 i))] 9 [.int 0, .int (Int32.ofNat (lenS.getD i 0))]
  refine j_ishr cx dJ0_length_8abf5_9 (pn := 10) rfl ?_
  rw [lenS_ok i hi]
  exact hR _ () 10 _ dJ0_length_8abf5_10 h
set_option maxHeartbeats 4000000 in
set_option maxRecDepth 100000 in
theorem c_J0_isLatin1_aae02 {D : DG} {cyI cyJ cyZ : ClassId} {i : Nat} {Q : Int32 → Prop} (hi : i < nS) (h : Q 1) : MetI yJ0_isLatin1_aae02 cJ0_isLatin1_aae02 1 (some .boolean) rm_J0_isLatin1_aae02 D [(cyI, .int), (cyJ, .long), (cyZ, .boolean)] [.ref (D.2.1 i)] [] (fun _ : Unit => []) (fun v _ => Q v) := by
  refine metN_of (by decide) (Nat.le_of_ble_eq_true rfl) (fun x cx0 hR => ?_)
  have cx : Cx x cJ0_isLatin1_aae02 1 RJ0 rm_J0_isLatin1_aae02 D [(cyI, .int), (cyJ, .long), (cyZ, .boolean)] := cx0
  show J x 0 0 1 [] [(0, .ref (D.2.1 i))] 0 []
  refine j_getsC cx q_fl_J0_38 dJ0_isLatin1_aae02_0 (pn := 3) rfl ?_
  refine j_if_eq cx 17 dJ0_isLatin1_aae02_3 (pn := 6) rfl rfl (fun z => absurd z (by decide)) (fun _ => ?_)
  refine j_aload_n cx 0 rfl rfl dJ0_isLatin1_aae02_6 (pn := 7) rfl ?_
  refine j_scod cx hi q_fl_J0_15 dJ0_isLatin1_aae02_7 (pn := 10) rfl ?_
  refine j_if_ne cx 17 dJ0_isLatin1_aae02_10 (pn := 13) rfl rfl (fun z => absurd rfl z) (fun _ => ?_)
  refine j_iconst cx (v := 1) (by decide) dJ0_isLatin1_aae02_13 (pn := 14) rfl ?_
  refine j_goto cx 18 dJ0_isLatin1_aae02_14 rfl ?_
  exact hR 1 () 18 _ dJ0_isLatin1_aae02_18 rfl h
set_option maxHeartbeats 4000000 in
set_option maxRecDepth 100000 in
theorem c_J3_checkIndex_8e157 {D : DG} {cyI cyJ cyZ : ClassId} {i n : Int32} {r : Option Nat} {Q : Int32 → Prop} (h0 : ¬ i < 0) (h1 : i < n) (h : Q i) : MetI yJ3_checkIndex_8e157 cJ3_checkIndex_8e157 3 (some .int) rm_J3_checkIndex_8e157 D [(cyI, .int), (cyJ, .long), (cyZ, .boolean)] [.int i, .int n, va_rf r] [] (fun _ : Unit => []) (fun v _ => Q v) := by
  cases r <;>
  · refine metI_of (by decide) (Nat.le_of_ble_eq_true rfl) (fun x cx0 hR => ?_)
    have cx : Cx x cJ3_checkIndex_8e157 3 RJ3 rm_J3_checkIndex_8e157 D [(cyI, .int), (cyJ, .long), (cyZ, .boolean)] := cx0
    refine j_sub [0, 1] [(0, .int i), (1, .int n)] rfl ?_
    refine j_iload_n cx 0 rfl rfl dJ3_checkIndex_8e157_0 (pn := 1) rfl ?_
    refine j_if_lt cx 9 dJ3_checkIndex_8e157_1 (pn := 4) rfl rfl (fun z => absurd z h0) (fun _ => ?_)
    refine j_iload_n cx 0 rfl rfl dJ3_checkIndex_8e157_4 (pn := 5) rfl ?_
    refine j_iload_n cx 1 rfl rfl dJ3_checkIndex_8e157_5 (pn := 6) rfl ?_
    refine j_icmp_lt cx 16 dJ3_checkIndex_8e157_6 (pn := 9) rfl rfl (fun _ => ?_) (fun z => absurd h1 z)
    refine j_iload_n cx 0 rfl rfl dJ3_checkIndex_8e157_16 (pn := 17) rfl ?_
    exact hR i () 17 _ dJ3_checkIndex_8e157_17 h
set_option maxHeartbeats 4000000 in
set_option maxRecDepth 100000 in
theorem c_J0_checkIndex_df160 {D : DG} {cyI cyJ cyZ : ClassId} {i n : Int32} {Q : Prop} (h0 : ¬ i < 0) (h1 : i < n) (h : Q) : MetV yJ0_checkIndex_df160 cJ0_checkIndex_df160 2 none rm_J0_checkIndex_df160 D [(cyI, .int), (cyJ, .long), (cyZ, .boolean)] [.int i, .int n] [] (fun _ : Unit => []) (fun _ => Q) := by
  refine metV_of (by decide) (Nat.le_of_ble_eq_true rfl) (fun x cx0 hR => ?_)
  have cx : Cx x cJ0_checkIndex_df160 2 RJ0 rm_J0_checkIndex_df160 D [(cyI, .int), (cyJ, .long), (cyZ, .boolean)] := cx0
  show J x 0 0 2 [] [(0, .int i), (1, .int n)] 0 []
  refine j_iload_n cx 0 rfl rfl dJ0_checkIndex_df160_0 (pn := 1) rfl ?_
  refine j_iload_n cx 1 rfl rfl dJ0_checkIndex_df160_1 (pn := 2) rfl ?_
  refine j_getsF cx q_fl_J0_1053 dJ0_checkIndex_df160_2 (pn := 5) rfl (fun r => ?_)
  refine j_calleI cx q_stat_J3_checkIndex_8e157 (As := [.int i, .int n, va_rf r]) (rest := []) (c_J3_checkIndex_8e157 (Q := fun _ => True) h0 h1 trivial) ⟨q_code_J3_checkIndex_8e157, q_ml_J0_1059, q_init_J3, hd_J3_checkIndex_8e157, ⟨Nat.le_of_ble_eq_true rfl, Nat.le_of_ble_eq_true rfl⟩, Nat.le_of_ble_eq_true rfl, Nat.le_of_ble_eq_true rfl⟩ rfl rfl (Nat.le_of_ble_eq_true rfl) dJ0_checkIndex_df160_5 (pn := 8) rfl (fun v _ => ?_)
  show J x 0 0 2 [] [(0, .int i), (1, .int n)] 8 [.int v]
  refine j_pop cx rfl dJ0_checkIndex_df160_8 (pn := 9) rfl ?_
  exact hR () 9 _ dJ0_checkIndex_df160_9 h
set_option maxHeartbeats 4000000 in
set_option maxRecDepth 100000 in
theorem c_J1_charAt_3b067 {D : DG} {cyI cyJ cyZ : ClassId} {i : Nat} {j : Int32} {Q : Int32 → Prop} (hi : i < nS) (hin : vp_in j (lenS.getD i 0)) (hn : ¬ j < 0) (hlt : j < Int32.ofNat (lenS.getD i 0)) (h : Q (chS i j.toNatClampNeg)) : MetI yJ1_charAt_3b067 cJ1_charAt_3b067 2 (some .char) rm_J1_charAt_3b067 D [(cyI, .int), (cyJ, .long), (cyZ, .boolean)] [.ref (D.2.2 i), .int j] [] (fun _ : Unit => []) (fun v _ => Q v) := by
  refine metN_of (by decide) (Nat.le_of_ble_eq_true rfl) (fun x cx0 hR => ?_)
  have cx : Cx x cJ1_charAt_3b067 2 RJ1 rm_J1_charAt_3b067 D [(cyI, .int), (cyJ, .long), (cyZ, .boolean)] := cx0
  show J x 0 0 2 [] [(0, .ref (D.2.2 i)), (1, .int j)] 0 []
  refine j_iload_n cx 1 rfl rfl dJ1_charAt_3b067_0 (pn := 1) rfl ?_
  refine j_aload_n cx 0 rfl rfl dJ1_charAt_3b067_1 (pn := 2) rfl ?_
  refine j_stlen cx hi dJ1_charAt_3b067_2 (pn := 3) rfl ?_
  refine j_calleV cx q_stat_J0_checkIndex_df160 (As := [.int j, .int (Int32.ofNat (lenS.getD i 0))]) (rest := []) (c_J0_checkIndex_df160 (Q := True) hn hlt trivial) ⟨q_code_J0_checkIndex_df160, q_ml_J1_9, q_init_J0, hd_J0_checkIndex_df160, ⟨Nat.le_of_ble_eq_true rfl, Nat.le_of_ble_eq_true rfl⟩, Nat.le_of_ble_eq_true rfl, Nat.le_of_ble_eq_true rfl⟩ rfl rfl (Nat.le_of_ble_eq_true rfl) dJ1_charAt_3b067_3 (pn := 6) rfl (fun _ => ?_)
  show J x 0 0 2 [] [(0, .ref (D.2.2 i)), (1, .int j)] 6 []
  refine j_aload_n cx 0 rfl rfl dJ1_charAt_3b067_6 (pn := 7) rfl ?_
  refine j_iload_n cx 1 rfl rfl dJ1_charAt_3b067_7 (pn := 8) rfl ?_
  refine j_stb cx hi hin dJ1_charAt_3b067_8 (pn := 9) rfl ?_
  refine j_sipush cx (v := 255) (by decide) dJ1_charAt_3b067_9 (pn := 12) rfl ?_
  refine j_iand cx dJ1_charAt_3b067_12 (pn := 13) rfl ?_
  refine j_i2c cx dJ1_charAt_3b067_13 (pn := 14) rfl ?_
  exact hR _ () 14 _ dJ1_charAt_3b067_14 (chS_ok i hi j.toNatClampNeg (Nat.not_le.mp fun q => hin (Or.inr q))) h
theorem lenS_lt {i : Nat} {j : Int32} (hi : i < nS) (hin : vp_in j (lenS.getD i 0)) : j < Int32.ofNat (lenS.getD i 0) := by
  have h1 : ¬ j < 0 := fun z => hin (Or.inl z)
  have h2 : j.toNatClampNeg < lenS.getD i 0 := Nat.not_le.mp fun q => hin (Or.inr q)
  have h3 : ∀ i, i < nS → lenS.getD i 0 < 100 := by decide +kernel
  have h4 := h3 i hi
  rw [Int32.lt_iff_toInt_lt] at h1 ⊢
  rw [Int32.toInt_ofNat_of_lt (by omega)]
  rw [Int32.toInt_zero] at h1
  have h5 : (j.toNatClampNeg : Int) = j.toInt := by
    show ((j.toInt.toNat : Nat) : Int) = j.toInt
    omega
  omega

set_option maxHeartbeats 4000000 in
set_option maxRecDepth 100000 in
theorem c_J0_charAt_5068e {D : DG} {cyI cyJ cyZ : ClassId} {i : Nat} {j : Int32} {Q : Int32 → Prop} (hi : i < nS) (hin : vp_in j (lenS.getD i 0)) (h : Q (chS i j.toNatClampNeg)) : MetI yJ0_charAt_5068e cJ0_charAt_5068e 2 (some .char) rm_J0_charAt_5068e D [(cyI, .int), (cyJ, .long), (cyZ, .boolean)] [.ref (D.2.1 i), .int j] [] (fun _ : Unit => []) (fun v _ => Q v) := by
  refine metN_of (by decide) (Nat.le_of_ble_eq_true rfl) (fun x cx0 hR => ?_)
  have cx : Cx x cJ0_charAt_5068e 2 RJ0 rm_J0_charAt_5068e D [(cyI, .int), (cyJ, .long), (cyZ, .boolean)] := cx0
  show J x 0 0 2 [] [(0, .ref (D.2.1 i)), (1, .int j)] 0 []
  refine j_aload_n cx 0 rfl rfl dJ0_charAt_5068e_0 (pn := 1) rfl ?_
  refine j_callkI cx q_inst_J0_isLatin1_aae02 q_sel_J0_isLatin1_aae02 hi rfl (As := []) (rest := []) (c_J0_isLatin1_aae02 (Q := fun r => r = 1) hi rfl) ⟨q_code_J0_isLatin1_aae02, q_ml_J0_492, q_init_J0, hd_J0_isLatin1_aae02, ⟨Nat.le_of_ble_eq_true rfl, Nat.le_of_ble_eq_true rfl⟩, Nat.le_of_ble_eq_true rfl, Nat.le_of_ble_eq_true rfl⟩ rfl rfl (Nat.le_of_ble_eq_true rfl) dJ0_charAt_5068e_1 (pn := 4) rfl (fun r hr => ?_)
  subst hr
  show J x 0 0 2 [] [(0, .ref (D.2.1 i)), (1, .int j)] 4 [.int 1]
  refine j_if_eq cx 16 dJ0_charAt_5068e_4 (pn := 7) rfl rfl (fun z => absurd z (by decide)) (fun _ => ?_)
  refine j_aload_n cx 0 rfl rfl dJ0_charAt_5068e_7 (pn := 8) rfl ?_
  refine j_sval cx hi q_fl_J0_9 dJ0_charAt_5068e_8 (pn := 11) rfl ?_
  refine j_iload_n cx 1 rfl rfl dJ0_charAt_5068e_11 (pn := 12) rfl ?_
  refine j_calleI cx q_stat_J1_charAt_3b067 (As := [.ref (D.2.2 i), .int j]) (rest := []) (c_J1_charAt_3b067 (Q := fun r => r = chS i j.toNatClampNeg) hi hin (fun z => hin (Or.inl z)) (lenS_lt hi hin) rfl) ⟨q_code_J1_charAt_3b067, q_ml_J0_495, q_init_J1, hd_J1_charAt_3b067, ⟨Nat.le_of_ble_eq_true rfl, Nat.le_of_ble_eq_true rfl⟩, Nat.le_of_ble_eq_true rfl, Nat.le_of_ble_eq_true rfl⟩ rfl rfl (Nat.le_of_ble_eq_true rfl) dJ0_charAt_5068e_12 (pn := 15) rfl (fun r hr => ?_)
  subst hr
  show J x 0 0 2 [] [(0, .ref (D.2.1 i)), (1, .int j)] 15 [.int (chS i j.toNatClampNeg)]
  exact hR _ () 15 _ dJ0_charAt_5068e_15 (chS_ok i hi j.toNatClampNeg (Nat.not_le.mp fun q => hin (Or.inr q))) h
