theorem dJ6_bitCount_0f7a4_0 : decode cJ6_bitCount_0f7a4 0 = .ok (.iload_n 0, 1) := by decide +kernel
theorem dJ6_bitCount_0f7a4_1 : decode cJ6_bitCount_0f7a4 1 = .ok (.iload_n 0, 1) := by decide +kernel
theorem dJ6_bitCount_0f7a4_2 : decode cJ6_bitCount_0f7a4 2 = .ok (.iconst 1, 1) := by decide +kernel
theorem dJ6_bitCount_0f7a4_3 : decode cJ6_bitCount_0f7a4 3 = .ok (.iushr, 1) := by decide +kernel
theorem dJ6_bitCount_0f7a4_4 : decode cJ6_bitCount_0f7a4 4 = .ok (.ldc_w 265, 3) := by decide +kernel
theorem dJ6_bitCount_0f7a4_7 : decode cJ6_bitCount_0f7a4 7 = .ok (.iand, 1) := by decide +kernel
theorem dJ6_bitCount_0f7a4_8 : decode cJ6_bitCount_0f7a4 8 = .ok (.isub, 1) := by decide +kernel
theorem dJ6_bitCount_0f7a4_9 : decode cJ6_bitCount_0f7a4 9 = .ok (.istore_n 0, 1) := by decide +kernel
theorem dJ6_bitCount_0f7a4_10 : decode cJ6_bitCount_0f7a4 10 = .ok (.iload_n 0, 1) := by decide +kernel
theorem dJ6_bitCount_0f7a4_11 : decode cJ6_bitCount_0f7a4 11 = .ok (.ldc_w 266, 3) := by decide +kernel
theorem dJ6_bitCount_0f7a4_14 : decode cJ6_bitCount_0f7a4 14 = .ok (.iand, 1) := by decide +kernel
theorem dJ6_bitCount_0f7a4_15 : decode cJ6_bitCount_0f7a4 15 = .ok (.iload_n 0, 1) := by decide +kernel
theorem dJ6_bitCount_0f7a4_16 : decode cJ6_bitCount_0f7a4 16 = .ok (.iconst 2, 1) := by decide +kernel
theorem dJ6_bitCount_0f7a4_17 : decode cJ6_bitCount_0f7a4 17 = .ok (.iushr, 1) := by decide +kernel
theorem dJ6_bitCount_0f7a4_18 : decode cJ6_bitCount_0f7a4 18 = .ok (.ldc_w 266, 3) := by decide +kernel
theorem dJ6_bitCount_0f7a4_21 : decode cJ6_bitCount_0f7a4 21 = .ok (.iand, 1) := by decide +kernel
theorem dJ6_bitCount_0f7a4_22 : decode cJ6_bitCount_0f7a4 22 = .ok (.iadd, 1) := by decide +kernel
theorem dJ6_bitCount_0f7a4_23 : decode cJ6_bitCount_0f7a4 23 = .ok (.istore_n 0, 1) := by decide +kernel
theorem dJ6_bitCount_0f7a4_24 : decode cJ6_bitCount_0f7a4 24 = .ok (.iload_n 0, 1) := by decide +kernel
theorem dJ6_bitCount_0f7a4_25 : decode cJ6_bitCount_0f7a4 25 = .ok (.iload_n 0, 1) := by decide +kernel
theorem dJ6_bitCount_0f7a4_26 : decode cJ6_bitCount_0f7a4 26 = .ok (.iconst 4, 1) := by decide +kernel
theorem dJ6_bitCount_0f7a4_27 : decode cJ6_bitCount_0f7a4 27 = .ok (.iushr, 1) := by decide +kernel
theorem dJ6_bitCount_0f7a4_28 : decode cJ6_bitCount_0f7a4 28 = .ok (.iadd, 1) := by decide +kernel
theorem dJ6_bitCount_0f7a4_29 : decode cJ6_bitCount_0f7a4 29 = .ok (.ldc_w 267, 3) := by decide +kernel
theorem dJ6_bitCount_0f7a4_32 : decode cJ6_bitCount_0f7a4 32 = .ok (.iand, 1) := by decide +kernel
theorem dJ6_bitCount_0f7a4_33 : decode cJ6_bitCount_0f7a4 33 = .ok (.istore_n 0, 1) := by decide +kernel
theorem dJ6_bitCount_0f7a4_34 : decode cJ6_bitCount_0f7a4 34 = .ok (.iload_n 0, 1) := by decide +kernel
theorem dJ6_bitCount_0f7a4_35 : decode cJ6_bitCount_0f7a4 35 = .ok (.iload_n 0, 1) := by decide +kernel
theorem dJ6_bitCount_0f7a4_36 : decode cJ6_bitCount_0f7a4 36 = .ok (.bipush 8, 2) := by decide +kernel
theorem dJ6_bitCount_0f7a4_38 : decode cJ6_bitCount_0f7a4 38 = .ok (.iushr, 1) := by decide +kernel
theorem dJ6_bitCount_0f7a4_39 : decode cJ6_bitCount_0f7a4 39 = .ok (.iadd, 1) := by decide +kernel
theorem dJ6_bitCount_0f7a4_40 : decode cJ6_bitCount_0f7a4 40 = .ok (.istore_n 0, 1) := by decide +kernel
theorem dJ6_bitCount_0f7a4_41 : decode cJ6_bitCount_0f7a4 41 = .ok (.iload_n 0, 1) := by decide +kernel
theorem dJ6_bitCount_0f7a4_42 : decode cJ6_bitCount_0f7a4 42 = .ok (.iload_n 0, 1) := by decide +kernel
theorem dJ6_bitCount_0f7a4_43 : decode cJ6_bitCount_0f7a4 43 = .ok (.bipush 16, 2) := by decide +kernel
theorem dJ6_bitCount_0f7a4_45 : decode cJ6_bitCount_0f7a4 45 = .ok (.iushr, 1) := by decide +kernel
theorem dJ6_bitCount_0f7a4_46 : decode cJ6_bitCount_0f7a4 46 = .ok (.iadd, 1) := by decide +kernel
theorem dJ6_bitCount_0f7a4_47 : decode cJ6_bitCount_0f7a4 47 = .ok (.istore_n 0, 1) := by decide +kernel
theorem dJ6_bitCount_0f7a4_48 : decode cJ6_bitCount_0f7a4 48 = .ok (.iload_n 0, 1) := by decide +kernel
theorem dJ6_bitCount_0f7a4_49 : decode cJ6_bitCount_0f7a4 49 = .ok (.bipush 63, 2) := by decide +kernel
theorem dJ6_bitCount_0f7a4_51 : decode cJ6_bitCount_0f7a4 51 = .ok (.iand, 1) := by decide +kernel
theorem dJ6_bitCount_0f7a4_52 : decode cJ6_bitCount_0f7a4 52 = .ok (.ireturn, 1) := by decide +kernel
abbrev rm_J6_bitCount_0f7a4 : Room := { frames := 0, cells := 0, slots := 0, locals := 0 }
theorem hd_J6_bitCount_0f7a4 : yJ6_bitCount_0f7a4.cls ≠ "java/lang/invoke/MethodHandle" ∧ yJ6_bitCount_0f7a4.cls ≠ "java/lang/invoke/VarHandle" ∧ (parseMethodDescriptor yJ6_bitCount_0f7a4.desc).map (fun d => d.parameters.length) = some 1 := by decide +kernel
def wp_J6_bitCount_0f7a4 (p0 : Int32) (Q : Int32 → Prop) : Prop :=
∀ y1 : Int32, y1 = (p0 - (((Int32.toUInt32 p0 >>> (Int32.toUInt32 1 &&& Int32.toUInt32 31)).toInt32) &&& 1431655765)) →
∀ y2 : Int32, y2 = ((y1 &&& 858993459) + (((Int32.toUInt32 y1 >>> (Int32.toUInt32 2 &&& Int32.toUInt32 31)).toInt32) &&& 858993459)) →
∀ y3 : Int32, y3 = ((y2 + ((Int32.toUInt32 y2 >>> (Int32.toUInt32 4 &&& Int32.toUInt32 31)).toInt32)) &&& 252645135) →
∀ y4 : Int32, y4 = (y3 + ((Int32.toUInt32 y3 >>> (Int32.toUInt32 8 &&& Int32.toUInt32 31)).toInt32)) →
∀ y5 : Int32, y5 = (y4 + ((Int32.toUInt32 y4 >>> (Int32.toUInt32 16 &&& Int32.toUInt32 31)).toInt32)) →
Q (y5 &&& 63)
set_option maxHeartbeats 4000000 in
set_option maxRecDepth 100000 in
theorem c_J6_bitCount_0f7a4 {D : DG} {cyI cyJ cyZ : ClassId} {p0 : Int32} {Q : Int32 → Prop} (h : wp_J6_bitCount_0f7a4 p0 Q) :
    MetI yJ6_bitCount_0f7a4 cJ6_bitCount_0f7a4 1 (some .int) rm_J6_bitCount_0f7a4 D [(cyI, .int), (cyJ, .long), (cyZ, .boolean)] [.int p0] ([] : va_W) (fun _ : Unit => ([] : va_W)) (fun v _ => Q v ) := by
  unfold wp_J6_bitCount_0f7a4 at h
  refine metI_of (by decide) (Nat.le_of_ble_eq_true rfl) (fun x cx0 hR0 => ?_)
  have cx : Cx x cJ6_bitCount_0f7a4 1 RJ6 rm_J6_bitCount_0f7a4 D [(cyI, .int), (cyJ, .long), (cyZ, .boolean)] := cx0
  have hR : ∀ (v : Int32) (pc : Nat) (lv : List (Nat × Value)), decode cJ6_bitCount_0f7a4 pc = .ok (.ireturn, 1) → Q v → J x 0 0 1 ([] : va_W) lv pc [.int v] := (fun v pc lv d hq => hR0 v () pc lv d hq)
  show J x 0 0 1 ([] : va_W) [(0, .int p0)] 0 []
  refine j_iload_n cx 0 rfl rfl dJ6_bitCount_0f7a4_0 (pn := 1) rfl ?_
  refine j_iload_n cx 0 rfl rfl dJ6_bitCount_0f7a4_1 (pn := 2) rfl ?_
  refine j_iconst cx (v := 1) (by decide) dJ6_bitCount_0f7a4_2 (pn := 3) rfl ?_
  refine j_iushr cx dJ6_bitCount_0f7a4_3 (pn := 4) rfl ?_
  refine j_ldcw cx q_c_J6_265 dJ6_bitCount_0f7a4_4 (pn := 7) rfl ?_
  refine j_iand cx dJ6_bitCount_0f7a4_7 (pn := 8) rfl ?_
  refine j_isub cx dJ6_bitCount_0f7a4_8 (pn := 9) rfl ?_
  refine j_topi (fun y1 ey1 => ?_)
  have h := h y1 ey1
  refine j_istore_n cx rfl [(0, .int y1)] (by decide) rfl dJ6_bitCount_0f7a4_9 (pn := 10) rfl ?_
  refine j_iload_n cx 0 rfl rfl dJ6_bitCount_0f7a4_10 (pn := 11) rfl ?_
  refine j_ldcw cx q_c_J6_266 dJ6_bitCount_0f7a4_11 (pn := 14) rfl ?_
  refine j_iand cx dJ6_bitCount_0f7a4_14 (pn := 15) rfl ?_
  refine j_iload_n cx 0 rfl rfl dJ6_bitCount_0f7a4_15 (pn := 16) rfl ?_
  refine j_iconst cx (v := 2) (by decide) dJ6_bitCount_0f7a4_16 (pn := 17) rfl ?_
  refine j_iushr cx dJ6_bitCount_0f7a4_17 (pn := 18) rfl ?_
  refine j_ldcw cx q_c_J6_266 dJ6_bitCount_0f7a4_18 (pn := 21) rfl ?_
  refine j_iand cx dJ6_bitCount_0f7a4_21 (pn := 22) rfl ?_
  refine j_iadd cx dJ6_bitCount_0f7a4_22 (pn := 23) rfl ?_
  refine j_topi (fun y2 ey2 => ?_)
  have h := h y2 ey2
  refine j_istore_n cx rfl [(0, .int y2)] (by decide) rfl dJ6_bitCount_0f7a4_23 (pn := 24) rfl ?_
  refine j_iload_n cx 0 rfl rfl dJ6_bitCount_0f7a4_24 (pn := 25) rfl ?_
  refine j_iload_n cx 0 rfl rfl dJ6_bitCount_0f7a4_25 (pn := 26) rfl ?_
  refine j_iconst cx (v := 4) (by decide) dJ6_bitCount_0f7a4_26 (pn := 27) rfl ?_
  refine j_iushr cx dJ6_bitCount_0f7a4_27 (pn := 28) rfl ?_
  refine j_iadd cx dJ6_bitCount_0f7a4_28 (pn := 29) rfl ?_
  refine j_ldcw cx q_c_J6_267 dJ6_bitCount_0f7a4_29 (pn := 32) rfl ?_
  refine j_iand cx dJ6_bitCount_0f7a4_32 (pn := 33) rfl ?_
  refine j_topi (fun y3 ey3 => ?_)
  have h := h y3 ey3
  refine j_istore_n cx rfl [(0, .int y3)] (by decide) rfl dJ6_bitCount_0f7a4_33 (pn := 34) rfl ?_
  refine j_iload_n cx 0 rfl rfl dJ6_bitCount_0f7a4_34 (pn := 35) rfl ?_
  refine j_iload_n cx 0 rfl rfl dJ6_bitCount_0f7a4_35 (pn := 36) rfl ?_
  refine j_bipush cx (v := 8) (by decide) dJ6_bitCount_0f7a4_36 (pn := 38) rfl ?_
  refine j_iushr cx dJ6_bitCount_0f7a4_38 (pn := 39) rfl ?_
  refine j_iadd cx dJ6_bitCount_0f7a4_39 (pn := 40) rfl ?_
  refine j_topi (fun y4 ey4 => ?_)
  have h := h y4 ey4
  refine j_istore_n cx rfl [(0, .int y4)] (by decide) rfl dJ6_bitCount_0f7a4_40 (pn := 41) rfl ?_
  refine j_iload_n cx 0 rfl rfl dJ6_bitCount_0f7a4_41 (pn := 42) rfl ?_
  refine j_iload_n cx 0 rfl rfl dJ6_bitCount_0f7a4_42 (pn := 43) rfl ?_
  refine j_bipush cx (v := 16) (by decide) dJ6_bitCount_0f7a4_43 (pn := 45) rfl ?_
  refine j_iushr cx dJ6_bitCount_0f7a4_45 (pn := 46) rfl ?_
  refine j_iadd cx dJ6_bitCount_0f7a4_46 (pn := 47) rfl ?_
  refine j_topi (fun y5 ey5 => ?_)
  have h := h y5 ey5
  refine j_istore_n cx rfl [(0, .int y5)] (by decide) rfl dJ6_bitCount_0f7a4_47 (pn := 48) rfl ?_
  refine j_iload_n cx 0 rfl rfl dJ6_bitCount_0f7a4_48 (pn := 49) rfl ?_
  refine j_bipush cx (v := 63) (by decide) dJ6_bitCount_0f7a4_49 (pn := 51) rfl ?_
  refine j_iand cx dJ6_bitCount_0f7a4_51 (pn := 52) rfl ?_
  exact hR (y5 &&& 63) 52 _ dJ6_bitCount_0f7a4_52 h
theorem dJ7_fill_53178_0 : decode cJ7_fill_53178 0 = .ok (.iconst 0, 1) := by decide +kernel
theorem dJ7_fill_53178_1 : decode cJ7_fill_53178 1 = .ok (.istore_n 2, 1) := by decide +kernel
theorem dJ7_fill_53178_2 : decode cJ7_fill_53178 2 = .ok (.aload_n 0, 1) := by decide +kernel
theorem dJ7_fill_53178_3 : decode cJ7_fill_53178 3 = .ok (.arraylength, 1) := by decide +kernel
theorem dJ7_fill_53178_4 : decode cJ7_fill_53178 4 = .ok (.istore_n 3, 1) := by decide +kernel
theorem dJ7_fill_53178_5 : decode cJ7_fill_53178 5 = .ok (.iload_n 2, 1) := by decide +kernel
theorem dJ7_fill_53178_6 : decode cJ7_fill_53178 6 = .ok (.iload_n 3, 1) := by decide +kernel
theorem dJ7_fill_53178_7 : decode cJ7_fill_53178 7 = .ok (.if_icmp .ge 13, 3) := by decide +kernel
theorem dJ7_fill_53178_10 : decode cJ7_fill_53178 10 = .ok (.aload_n 0, 1) := by decide +kernel
theorem dJ7_fill_53178_11 : decode cJ7_fill_53178 11 = .ok (.iload_n 2, 1) := by decide +kernel
theorem dJ7_fill_53178_12 : decode cJ7_fill_53178 12 = .ok (.iload_n 1, 1) := by decide +kernel
theorem dJ7_fill_53178_13 : decode cJ7_fill_53178 13 = .ok (.iastore, 1) := by decide +kernel
theorem dJ7_fill_53178_14 : decode cJ7_fill_53178 14 = .ok (.iinc 2 1, 3) := by decide +kernel
theorem dJ7_fill_53178_17 : decode cJ7_fill_53178 17 = .ok (.goto (-12), 3) := by decide +kernel
theorem dJ7_fill_53178_20 : decode cJ7_fill_53178 20 = .ok (.return_, 1) := by decide +kernel
abbrev rm_J7_fill_53178 : Room := { frames := 0, cells := 0, slots := 0, locals := 0 }
theorem hd_J7_fill_53178 : yJ7_fill_53178.cls ≠ "java/lang/invoke/MethodHandle" ∧ yJ7_fill_53178.cls ≠ "java/lang/invoke/VarHandle" ∧ (parseMethodDescriptor yJ7_fill_53178.desc).map (fun d => d.parameters.length) = some 2 := by decide +kernel
def bd_J7_fill_53178_5 (Q : ((Nat → Int32)) → Prop) (B5 : (Nat → Int32) → Int32 → Prop) (n_arr : Nat) (p1 : Int32) (x3 : Int32) (arr : Nat → Int32) (x2 : Int32) : Prop :=
((x3 ≤ x2 → Q arr) ∧
(¬ x3 ≤ x2 → vp_in x2 n_arr ∧ (∀ f3 : Nat → Int32, f3 = (upd arr x2.toNatClampNeg p1) →
∀ y4 : Int32, y4 = (x2 + 1) →
B5 f3 y4)))
def lp_J7_fill_53178_5 (Q : ((Nat → Int32)) → Prop) (n_arr : Nat) (p1 : Int32) (x3 : Int32) (arr : Nat → Int32) (x2 : Int32) : Prop :=
∃ I : Nat → (Nat → Int32) → Int32 → Prop, (∃ n, I n arr x2) ∧ ∀ n arr x2, I n arr x2 → bd_J7_fill_53178_5 Q  (fun arr' x2' => ∃ n', n' < n ∧ I n' arr' x2') n_arr p1 x3 arr x2
def wp_J7_fill_53178 (n_arr : Nat) (p1 : Int32) (arr : Nat → Int32) (Q : ((Nat → Int32)) → Prop) : Prop :=
∀ y1 : Int32, y1 = (Int32.ofNat n_arr) →
lp_J7_fill_53178_5 Q n_arr p1 y1 arr 0
set_option maxHeartbeats 4000000 in
set_option maxRecDepth 100000 in
theorem B_J7_fill_53178_5 {x : CX} {D : DG} {cyI cyJ cyZ : ClassId} {n_arr : Nat} {a_arr : Nat} {arr : Nat → Int32} {p1 : Int32} {x2 : Int32} {x3 : Int32} {Q : ((Nat → Int32)) → Prop} {B5 : (Nat → Int32) → Int32 → Prop} (cx : Cx x cJ7_fill_53178 4 RJ7 rm_J7_fill_53178 D [(cyI, .int), (cyJ, .long), (cyZ, .boolean)]) (hR : ∀ (u : (Nat → Int32)) (pc : Nat) (lv : List (Nat × Value)), decode cJ7_fill_53178 pc = .ok (.return_, 1) → Q u → J x 0 0 4 (W_Arr cyI cyJ cyZ n_arr a_arr u) lv pc []) (hB5 : ∀ (arr : Nat → Int32) (x2 : Int32), B5 arr x2 → J x 0 0 4 (W_Arr cyI cyJ cyZ n_arr a_arr arr) [(0, .ref a_arr), (1, .int p1), (2, .int x2), (3, .int x3)] 5 []) (h : bd_J7_fill_53178_5 Q B5 n_arr p1 x3 arr x2) :
    J x 0 0 4 (W_Arr cyI cyJ cyZ n_arr a_arr arr) [(0, .ref a_arr), (1, .int p1), (2, .int x2), (3, .int x3)] 5 [] := by
  unfold bd_J7_fill_53178_5 at h
  refine j_iload_n cx 2 rfl rfl dJ7_fill_53178_5 (pn := 6) rfl ?_
  refine j_iload_n cx 3 rfl rfl dJ7_fill_53178_6 (pn := 7) rfl ?_
  refine j_icmp_ge cx 20 dJ7_fill_53178_7 (pn := 10) rfl rfl (fun c2 => ?_) (fun c2 => ?_)
  · have h := h.1 c2
    exact hR arr 20 _ dJ7_fill_53178_20 h
  · have h := h.2 c2
    refine j_aload_n cx 0 rfl rfl dJ7_fill_53178_10 (pn := 11) rfl ?_
    refine j_iload_n cx 2 rfl rfl dJ7_fill_53178_11 (pn := 12) rfl ?_
    refine j_iload_n cx 1 rfl rfl dJ7_fill_53178_12 (pn := 13) rfl ?_
    have hin := h.1
    obtain ⟨f3, ef3⟩ : ∃ z, z = upd arr x2.toNatClampNeg p1 := ⟨_, rfl⟩
    have h := h.2 f3 ef3
    refine j_iast cx 0 0 rfl rfl hin (W_Arr cyI cyJ cyZ n_arr a_arr f3) (by subst ef3; rfl) dJ7_fill_53178_13 (pn := 14) rfl ?_
    obtain ⟨y4, ey4⟩ : ∃ z : Int32, z = x2 + 1 := ⟨_, rfl⟩
    have h := h y4 ey4
    refine j_iinc cx 2 rfl (cst := 1) (by decide) ey4 [(2, .int y4), (0, .ref a_arr), (1, .int p1), (3, .int x3)] (by decide) rfl dJ7_fill_53178_14 (pn := 17) rfl ?_
    refine j_goto cx 5 dJ7_fill_53178_17 rfl ?_
    refine j_sub [1, 2, 0, 3] [(0, .ref a_arr), (1, .int p1), (2, .int y4), (3, .int x3)] rfl ?_
    exact hB5 _ _ h
set_option maxHeartbeats 4000000 in
set_option maxRecDepth 100000 in
theorem J_J7_fill_53178_5 {x : CX} {D : DG} {cyI cyJ cyZ : ClassId} {n_arr : Nat} {a_arr : Nat} {arr : Nat → Int32} {p1 : Int32} {x2 : Int32} {x3 : Int32} {Q : ((Nat → Int32)) → Prop} (cx : Cx x cJ7_fill_53178 4 RJ7 rm_J7_fill_53178 D [(cyI, .int), (cyJ, .long), (cyZ, .boolean)]) (hR : ∀ (u : (Nat → Int32)) (pc : Nat) (lv : List (Nat × Value)), decode cJ7_fill_53178 pc = .ok (.return_, 1) → Q u → J x 0 0 4 (W_Arr cyI cyJ cyZ n_arr a_arr u) lv pc []) (h : lp_J7_fill_53178_5 Q  n_arr p1 x3 arr x2) :
    J x 0 0 4 (W_Arr cyI cyJ cyZ n_arr a_arr arr) [(0, .ref a_arr), (1, .int p1), (2, .int x2), (3, .int x3)] 5 [] := by
  obtain ⟨I, ⟨n, h0⟩, hb⟩ := h
  revert arr x2
  induction n using Nat.strongRecOn with
  | _ n ih =>
    intro arr x2 h0
    exact B_J7_fill_53178_5 cx hR (fun _ _ hz => by obtain ⟨n2, hlt, hI⟩ := hz; exact ih n2 hlt hI) (hb n arr x2 h0)
set_option maxHeartbeats 4000000 in
set_option maxRecDepth 100000 in
theorem c_J7_fill_53178 {D : DG} {cyI cyJ cyZ : ClassId} {n_arr : Nat} {a_arr : Nat} {arr : Nat → Int32} {p1 : Int32} {Q : ((Nat → Int32)) → Prop} (h : wp_J7_fill_53178 n_arr p1 arr Q) :
    MetV yJ7_fill_53178 cJ7_fill_53178 4 (none) rm_J7_fill_53178 D [(cyI, .int), (cyJ, .long), (cyZ, .boolean)] [.ref a_arr, .int p1] (W_Arr cyI cyJ cyZ n_arr a_arr arr) (fun u : (Nat → Int32) => (W_Arr cyI cyJ cyZ n_arr a_arr u)) (fun u => Q u) := by
  unfold wp_J7_fill_53178 at h
  refine metV_of (by decide) (Nat.le_of_ble_eq_true rfl) (fun x cx0 hR0 => ?_)
  have cx : Cx x cJ7_fill_53178 4 RJ7 rm_J7_fill_53178 D [(cyI, .int), (cyJ, .long), (cyZ, .boolean)] := cx0
  have hR : ∀ (u : (Nat → Int32)) (pc : Nat) (lv : List (Nat × Value)), decode cJ7_fill_53178 pc = .ok (.return_, 1) → Q u → J x 0 0 4 (W_Arr cyI cyJ cyZ n_arr a_arr u) lv pc [] := (fun u pc lv d hq => hR0 u pc lv d hq)
  show J x 0 0 4 (W_Arr cyI cyJ cyZ n_arr a_arr arr) [(0, .ref a_arr), (1, .int p1)] 0 []
  refine j_iconst cx (v := 0) (by decide) dJ7_fill_53178_0 (pn := 1) rfl ?_
  refine j_istore_n cx rfl [(2, .int 0), (0, .ref a_arr), (1, .int p1)] (by decide) rfl dJ7_fill_53178_1 (pn := 2) rfl ?_
  refine j_aload_n cx 1 rfl rfl dJ7_fill_53178_2 (pn := 3) rfl ?_
  refine j_alen cx (v := Int32.ofNat n_arr) 0 0 rfl rfl rfl dJ7_fill_53178_3 (pn := 4) rfl ?_
  refine j_topi (fun y1 ey1 => ?_)
  have h := h y1 ey1
  refine j_istore_n cx rfl [(3, .int y1), (2, .int 0), (0, .ref a_arr), (1, .int p1)] (by decide) rfl dJ7_fill_53178_4 (pn := 5) rfl ?_
  refine j_sub [2, 3, 1, 0] [(0, .ref a_arr), (1, .int p1), (2, .int 0), (3, .int y1)] rfl ?_
  exact J_J7_fill_53178_5 cx hR h
