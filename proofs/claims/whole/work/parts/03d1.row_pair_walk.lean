theorem dX2_put_0 : decode cX2_put 0 = .ok (.aload_n 0, 1) := by decide +kernel
theorem dX2_put_1 : decode cX2_put 1 = .ok (.getfield 15, 3) := by decide +kernel
theorem dX2_put_4 : decode cX2_put 4 = .ok (.bipush 20, 2) := by decide +kernel
theorem dX2_put_6 : decode cX2_put 6 = .ok (.if_icmp .ge 23, 3) := by decide +kernel
theorem dX2_put_9 : decode cX2_put 9 = .ok (.aload_n 0, 1) := by decide +kernel
theorem dX2_put_10 : decode cX2_put 10 = .ok (.getfield 9, 3) := by decide +kernel
theorem dX2_put_13 : decode cX2_put 13 = .ok (.aload_n 0, 1) := by decide +kernel
theorem dX2_put_14 : decode cX2_put 14 = .ok (.getfield 15, 3) := by decide +kernel
theorem dX2_put_17 : decode cX2_put 17 = .ok (.iload_n 1, 1) := by decide +kernel
theorem dX2_put_18 : decode cX2_put 18 = .ok (.iastore, 1) := by decide +kernel
theorem dX2_put_19 : decode cX2_put 19 = .ok (.aload_n 0, 1) := by decide +kernel
theorem dX2_put_20 : decode cX2_put 20 = .ok (.dup, 1) := by decide +kernel
theorem dX2_put_21 : decode cX2_put 21 = .ok (.getfield 15, 3) := by decide +kernel
theorem dX2_put_24 : decode cX2_put 24 = .ok (.iconst 1, 1) := by decide +kernel
theorem dX2_put_25 : decode cX2_put 25 = .ok (.iadd, 1) := by decide +kernel
theorem dX2_put_26 : decode cX2_put 26 = .ok (.putfield 15, 3) := by decide +kernel
theorem dX2_put_29 : decode cX2_put 29 = .ok (.return_, 1) := by decide +kernel
abbrev rm_X2_put : Room := { frames := 0, cells := 0, slots := 0, locals := 0 }
theorem hd_X2_put : yX2_put.cls ≠ "java/lang/invoke/MethodHandle" ∧ yX2_put.cls ≠ "java/lang/invoke/VarHandle" ∧ (parseMethodDescriptor yX2_put.desc).map (fun d => d.parameters.length) = some 1 := by decide +kernel
def wp_X2_put (p1 : Int32) (w_nights : Int32) (w_folds : Nat → Int32) (Q : (Int32 × (Nat → Int32)) → Prop) : Prop :=
((20 ≤ w_nights → Q (w_nights, w_folds)) ∧
(¬ 20 ≤ w_nights → vp_in w_nights 20 ∧ (∀ f2 : Nat → Int32, f2 = (upd w_folds w_nights.toNatClampNeg p1) →
∀ y3 : Int32, y3 = (w_nights + 1) →
Q (y3, f2))))
set_option maxHeartbeats 4000000 in
set_option maxRecDepth 100000 in
theorem c_X2_put {D : DG} {cyI cyJ cyZ : ClassId} {a_w a_w_folds : Nat} {w_nights : Int32} {w_folds : Nat → Int32} {p1 : Int32} {Q : (Int32 × (Nat → Int32)) → Prop} (h : wp_X2_put p1 w_nights w_folds Q) :
    MetV yX2_put cX2_put 2 (none) rm_X2_put D [(cyI, .int), (cyJ, .long), (cyZ, .boolean)] [.ref a_w, .int p1] (W_Row cyI cyJ cyZ a_w a_w_folds w_nights w_folds) (fun u : Int32 × (Nat → Int32) => (W_Row cyI cyJ cyZ a_w a_w_folds u.1 u.2)) (fun u => Q u) := by
  unfold wp_X2_put at h
  refine metV_of (by decide) (Nat.le_of_ble_eq_true rfl) (fun x cx0 hR0 => ?_)
  have cx : Cx x cX2_put 2 RX2 rm_X2_put D [(cyI, .int), (cyJ, .long), (cyZ, .boolean)] := cx0
  have hR : ∀ (u : Int32 × (Nat → Int32)) (pc : Nat) (lv : List (Nat × Value)), decode cX2_put pc = .ok (.return_, 1) → Q u → J x 0 0 2 (W_Row cyI cyJ cyZ a_w a_w_folds u.1 u.2) lv pc [] := (fun u pc lv d hq => hR0 u pc lv d hq)
  show J x 0 0 2 (W_Row cyI cyJ cyZ a_w a_w_folds w_nights w_folds) [(0, .ref a_w), (1, .int p1)] 0 []
  refine j_aload_n cx 0 rfl rfl dX2_put_0 (pn := 1) rfl ?_
  refine j_get cx inGX2 0 rfl rfl 1 (by decide) q_fl_X2_15 rfl rfl dX2_put_1 (pn := 4) rfl ?_
  refine j_bipush cx (v := 20) (by decide) dX2_put_4 (pn := 6) rfl ?_
  refine j_icmp_ge cx 29 dX2_put_6 (pn := 9) rfl rfl (fun c1 => ?_) (fun c1 => ?_)
  · have h := h.1 c1
    exact hR (w_nights, w_folds) 29 _ dX2_put_29 h
  · have h := h.2 c1
    refine j_aload_n cx 0 rfl rfl dX2_put_9 (pn := 10) rfl ?_
    refine j_get cx inGX2 0 rfl rfl 0 (by decide) q_fl_X2_9 rfl rfl dX2_put_10 (pn := 13) rfl ?_
    refine j_aload_n cx 0 rfl rfl dX2_put_13 (pn := 14) rfl ?_
    refine j_get cx inGX2 0 rfl rfl 1 (by decide) q_fl_X2_15 rfl rfl dX2_put_14 (pn := 17) rfl ?_
    refine j_iload_n cx 1 rfl rfl dX2_put_17 (pn := 18) rfl ?_
    have hin := h.1
    obtain ⟨f2, ef2⟩ : ∃ z, z = upd w_folds w_nights.toNatClampNeg p1 := ⟨_, rfl⟩
    have h := h.2 f2 ef2
    refine j_iast cx 1 0 rfl rfl hin (W_Row cyI cyJ cyZ a_w a_w_folds w_nights f2) (by subst ef2; rfl) dX2_put_18 (pn := 19) rfl ?_
    refine j_aload_n cx 0 rfl rfl dX2_put_19 (pn := 20) rfl ?_
    refine j_dup cx rfl dX2_put_20 (pn := 21) rfl ?_
    refine j_get cx inGX2 0 rfl rfl 1 (by decide) q_fl_X2_15 rfl rfl dX2_put_21 (pn := 24) rfl ?_
    refine j_iconst cx (v := 1) (by decide) dX2_put_24 (pn := 25) rfl ?_
    refine j_iadd cx dX2_put_25 (pn := 26) rfl ?_
    refine j_topi (fun y3 ey3 => ?_)
    have h := h y3 ey3
    refine j_put cx tyX2 tyX2_ok nmX2 inGX2 0 rfl rfl 1 (by decide) q_fl_X2_15 rfl rfl rfl rfl rfl (Nat.le_of_ble_eq_true rfl) (W_Row cyI cyJ cyZ a_w a_w_folds y3 f2) rfl dX2_put_26 (pn := 29) rfl ?_
    exact hR (y3, f2) 29 _ dX2_put_29 h
theorem dX2_isFresh_0 : decode cX2_isFresh 0 = .ok (.iload_n 2, 1) := by decide +kernel
theorem dX2_isFresh_1 : decode cX2_isFresh 1 = .ok (.ifCond .ne 7, 3) := by decide +kernel
theorem dX2_isFresh_4 : decode cX2_isFresh 4 = .ok (.iconst 0, 1) := by decide +kernel
theorem dX2_isFresh_5 : decode cX2_isFresh 5 = .ok (.goto 10, 3) := by decide +kernel
theorem dX2_isFresh_8 : decode cX2_isFresh 8 = .ok (.iconst 0, 1) := by decide +kernel
theorem dX2_isFresh_9 : decode cX2_isFresh 9 = .ok (.iload_n 1, 1) := by decide +kernel
theorem dX2_isFresh_10 : decode cX2_isFresh 10 = .ok (.iload_n 2, 1) := by decide +kernel
theorem dX2_isFresh_11 : decode cX2_isFresh 11 = .ok (.isub, 1) := by decide +kernel
theorem dX2_isFresh_12 : decode cX2_isFresh 12 = .ok (.invokestatic 57, 3) := by decide +kernel
theorem dX2_isFresh_15 : decode cX2_isFresh 15 = .ok (.istore_n 3, 1) := by decide +kernel
theorem dX2_isFresh_16 : decode cX2_isFresh 16 = .ok (.iload_n 3, 1) := by decide +kernel
theorem dX2_isFresh_17 : decode cX2_isFresh 17 = .ok (.istore 4, 2) := by decide +kernel
theorem dX2_isFresh_19 : decode cX2_isFresh 19 = .ok (.iload 4, 2) := by decide +kernel
theorem dX2_isFresh_21 : decode cX2_isFresh 21 = .ok (.iload_n 1, 1) := by decide +kernel
theorem dX2_isFresh_22 : decode cX2_isFresh 22 = .ok (.if_icmp .ge 28, 3) := by decide +kernel
theorem dX2_isFresh_25 : decode cX2_isFresh 25 = .ok (.aload_n 0, 1) := by decide +kernel
theorem dX2_isFresh_26 : decode cX2_isFresh 26 = .ok (.getfield 9, 3) := by decide +kernel
theorem dX2_isFresh_29 : decode cX2_isFresh 29 = .ok (.iload 4, 2) := by decide +kernel
theorem dX2_isFresh_31 : decode cX2_isFresh 31 = .ok (.iaload, 1) := by decide +kernel
theorem dX2_isFresh_32 : decode cX2_isFresh 32 = .ok (.aload_n 0, 1) := by decide +kernel
theorem dX2_isFresh_33 : decode cX2_isFresh 33 = .ok (.getfield 9, 3) := by decide +kernel
theorem dX2_isFresh_36 : decode cX2_isFresh 36 = .ok (.iload_n 1, 1) := by decide +kernel
theorem dX2_isFresh_37 : decode cX2_isFresh 37 = .ok (.iaload, 1) := by decide +kernel
theorem dX2_isFresh_38 : decode cX2_isFresh 38 = .ok (.iand, 1) := by decide +kernel
theorem dX2_isFresh_39 : decode cX2_isFresh 39 = .ok (.ifCond .eq 5, 3) := by decide +kernel
theorem dX2_isFresh_42 : decode cX2_isFresh 42 = .ok (.iconst 0, 1) := by decide +kernel
theorem dX2_isFresh_43 : decode cX2_isFresh 43 = .ok (.ireturn, 1) := by decide +kernel
theorem dX2_isFresh_44 : decode cX2_isFresh 44 = .ok (.iinc 4 1, 3) := by decide +kernel
theorem dX2_isFresh_47 : decode cX2_isFresh 47 = .ok (.goto (-28), 3) := by decide +kernel
theorem dX2_isFresh_50 : decode cX2_isFresh 50 = .ok (.iconst 1, 1) := by decide +kernel
theorem dX2_isFresh_51 : decode cX2_isFresh 51 = .ok (.ireturn, 1) := by decide +kernel
abbrev rm_X2_isFresh : Room := { frames := 1, cells := 0, slots := 0, locals := 21 }
theorem hd_X2_isFresh : yX2_isFresh.cls ≠ "java/lang/invoke/MethodHandle" ∧ yX2_isFresh.cls ≠ "java/lang/invoke/VarHandle" ∧ (parseMethodDescriptor yX2_isFresh.desc).map (fun d => d.parameters.length) = some 2 := by decide +kernel
def bd_X2_isFresh_19 (Q : Int32 → Prop) (B19 : Int32 → Prop) (p1 : Int32) (w_folds : Nat → Int32) (x4 : Int32) : Prop :=
((p1 ≤ x4 → Q 1) ∧
(¬ p1 ≤ x4 → vp_in x4 20 ∧ vp_in p1 20 ∧ ((((w_folds x4.toNatClampNeg) &&& (w_folds p1.toNatClampNeg)) = 0 → ∀ y4 : Int32, y4 = (x4 + 1) →
B19 y4) ∧
(¬ ((w_folds x4.toNatClampNeg) &&& (w_folds p1.toNatClampNeg)) = 0 → Q 0))))
def lp_X2_isFresh_19 (Q : Int32 → Prop) (p1 : Int32) (w_folds : Nat → Int32) (x4 : Int32) : Prop :=
∃ I : Nat → Int32 → Prop, (∃ n, I n x4) ∧ ∀ n x4, I n x4 → bd_X2_isFresh_19 Q  (fun x4' => ∃ n', n' < n ∧ I n' x4') p1 w_folds x4
def bk_X2_isFresh_15 (Q : Int32 → Prop) (p1 : Int32) (w_folds : Nat → Int32) (s0 : Int32) : Prop :=
lp_X2_isFresh_19 Q p1 w_folds s0
def wp_X2_isFresh (p1 : Int32) (p2 : Int32) (w_folds : Nat → Int32) (Q : Int32 → Prop) : Prop :=
((¬ p2 = 0 → bk_X2_isFresh_15 Q p1 w_folds (if 0 < (p1 - p2) then (p1 - p2) else 0)) ∧
(p2 = 0 → bk_X2_isFresh_15 Q p1 w_folds 0))
set_option maxHeartbeats 4000000 in
set_option maxRecDepth 100000 in
theorem B_X2_isFresh_19 {x : CX} {D : DG} {cyI cyJ cyZ : ClassId} {a_w a_w_folds : Nat} {w_nights : Int32} {w_folds : Nat → Int32} {p1 : Int32} {x4 : Int32} {Q : Int32 → Prop} {B19 : Int32 → Prop} (cx : Cx x cX2_isFresh 5 RX2 rm_X2_isFresh D [(cyI, .int), (cyJ, .long), (cyZ, .boolean)]) (hR : ∀ (v : Int32) (pc : Nat) (lv : List (Nat × Value)), decode cX2_isFresh pc = .ok (.ireturn, 1) → (v = 0 ∨ v = 1) → Q v → J x 0 0 5 (W_Row cyI cyJ cyZ a_w a_w_folds w_nights w_folds) lv pc [.int v]) (hB19 : ∀ (x4 : Int32), B19 x4 → J x 0 0 5 (W_Row cyI cyJ cyZ a_w a_w_folds w_nights w_folds) [(0, .ref a_w), (1, .int p1), (4, .int x4)] 19 []) (h : bd_X2_isFresh_19 Q B19 p1 w_folds x4) :
    J x 0 0 5 (W_Row cyI cyJ cyZ a_w a_w_folds w_nights w_folds) [(0, .ref a_w), (1, .int p1), (4, .int x4)] 19 [] := by
  unfold bd_X2_isFresh_19 at h
  refine j_iload cx 2 rfl dX2_isFresh_19 (pn := 21) rfl ?_
  refine j_iload_n cx 1 rfl rfl dX2_isFresh_21 (pn := 22) rfl ?_
  refine j_icmp_ge cx 50 dX2_isFresh_22 (pn := 25) rfl rfl (fun c2 => ?_) (fun c2 => ?_)
  · have h := h.1 c2
    refine j_iconst cx (v := 1) (by decide) dX2_isFresh_50 (pn := 51) rfl ?_
    exact hR 1 51 _ dX2_isFresh_51 (Or.inr rfl) h
  · have h := h.2 c2
    refine j_aload_n cx 0 rfl rfl dX2_isFresh_25 (pn := 26) rfl ?_
    refine j_get cx inGX2 0 rfl rfl 0 (by decide) q_fl_X2_9 rfl rfl dX2_isFresh_26 (pn := 29) rfl ?_
    refine j_iload cx 2 rfl dX2_isFresh_29 (pn := 31) rfl ?_
    refine j_iald cx 1 0 rfl rfl h.1 dX2_isFresh_31 (pn := 32) rfl ?_
    have h := h.2
    refine j_aload_n cx 0 rfl rfl dX2_isFresh_32 (pn := 33) rfl ?_
    refine j_get cx inGX2 0 rfl rfl 0 (by decide) q_fl_X2_9 rfl rfl dX2_isFresh_33 (pn := 36) rfl ?_
    refine j_iload_n cx 1 rfl rfl dX2_isFresh_36 (pn := 37) rfl ?_
    refine j_iald cx 1 0 rfl rfl h.1 dX2_isFresh_37 (pn := 38) rfl ?_
    have h := h.2
    refine j_iand cx dX2_isFresh_38 (pn := 39) rfl ?_
    refine j_if_eq cx 44 dX2_isFresh_39 (pn := 42) rfl rfl (fun c3 => ?_) (fun c3 => ?_)
    · have h := h.1 c3
      obtain ⟨y4, ey4⟩ : ∃ z : Int32, z = x4 + 1 := ⟨_, rfl⟩
      have h := h y4 ey4
      refine j_iinc cx 2 rfl (cst := 1) (by decide) ey4 [(4, .int y4), (0, .ref a_w), (1, .int p1)] (by decide) rfl dX2_isFresh_44 (pn := 47) rfl ?_
      refine j_goto cx 19 dX2_isFresh_47 rfl ?_
      refine j_sub [1, 2, 0] [(0, .ref a_w), (1, .int p1), (4, .int y4)] rfl ?_
      exact hB19 _ h
    · have h := h.2 c3
      refine j_iconst cx (v := 0) (by decide) dX2_isFresh_42 (pn := 43) rfl ?_
      exact hR 0 43 _ dX2_isFresh_43 (Or.inl rfl) h
set_option maxHeartbeats 4000000 in
set_option maxRecDepth 100000 in
theorem J_X2_isFresh_19 {x : CX} {D : DG} {cyI cyJ cyZ : ClassId} {a_w a_w_folds : Nat} {w_nights : Int32} {w_folds : Nat → Int32} {p1 : Int32} {x4 : Int32} {Q : Int32 → Prop} (cx : Cx x cX2_isFresh 5 RX2 rm_X2_isFresh D [(cyI, .int), (cyJ, .long), (cyZ, .boolean)]) (hR : ∀ (v : Int32) (pc : Nat) (lv : List (Nat × Value)), decode cX2_isFresh pc = .ok (.ireturn, 1) → (v = 0 ∨ v = 1) → Q v → J x 0 0 5 (W_Row cyI cyJ cyZ a_w a_w_folds w_nights w_folds) lv pc [.int v]) (h : lp_X2_isFresh_19 Q  p1 w_folds x4) :
    J x 0 0 5 (W_Row cyI cyJ cyZ a_w a_w_folds w_nights w_folds) [(0, .ref a_w), (1, .int p1), (4, .int x4)] 19 [] := by
  obtain ⟨I, ⟨n, h0⟩, hb⟩ := h
  revert x4
  induction n using Nat.strongRecOn with
  | _ n ih =>
    intro x4 h0
    exact B_X2_isFresh_19 cx hR (fun _ hz => by obtain ⟨n2, hlt, hI⟩ := hz; exact ih n2 hlt hI) (hb n x4 h0)
set_option maxHeartbeats 4000000 in
set_option maxRecDepth 100000 in
theorem J_X2_isFresh_15 {x : CX} {D : DG} {cyI cyJ cyZ : ClassId} {a_w a_w_folds : Nat} {w_nights : Int32} {w_folds : Nat → Int32} {p1 : Int32} {s0 : Int32} {Q : Int32 → Prop} (cx : Cx x cX2_isFresh 5 RX2 rm_X2_isFresh D [(cyI, .int), (cyJ, .long), (cyZ, .boolean)]) (hR : ∀ (v : Int32) (pc : Nat) (lv : List (Nat × Value)), decode cX2_isFresh pc = .ok (.ireturn, 1) → (v = 0 ∨ v = 1) → Q v → J x 0 0 5 (W_Row cyI cyJ cyZ a_w a_w_folds w_nights w_folds) lv pc [.int v]) (h : bk_X2_isFresh_15 Q  p1 w_folds s0) :
    J x 0 0 5 (W_Row cyI cyJ cyZ a_w a_w_folds w_nights w_folds) [(0, .ref a_w), (1, .int p1)] 15 [.int s0] := by
  unfold bk_X2_isFresh_15 at h
  refine j_istore_n cx rfl [(3, .int s0), (0, .ref a_w), (1, .int p1)] (by decide) rfl dX2_isFresh_15 (pn := 16) rfl ?_
  refine j_iload_n cx 0 rfl rfl dX2_isFresh_16 (pn := 17) rfl ?_
  refine j_istore cx [(4, .int s0), (3, .int s0), (0, .ref a_w), (1, .int p1)] (by decide) rfl dX2_isFresh_17 (pn := 19) rfl ?_
  refine j_sub [2, 3, 0] [(0, .ref a_w), (1, .int p1), (4, .int s0)] rfl ?_
  exact J_X2_isFresh_19 cx hR h
set_option maxHeartbeats 4000000 in
set_option maxRecDepth 100000 in
theorem c_X2_isFresh {D : DG} {cyI cyJ cyZ : ClassId} {a_w a_w_folds : Nat} {w_nights : Int32} {w_folds : Nat → Int32} {p1 : Int32} {p2 : Int32} {Q : Int32 → Prop} (h : wp_X2_isFresh p1 p2 w_folds Q) :
    MetI yX2_isFresh cX2_isFresh 5 (some .boolean) rm_X2_isFresh D [(cyI, .int), (cyJ, .long), (cyZ, .boolean)] [.ref a_w, .int p1, .int p2] (W_Row cyI cyJ cyZ a_w a_w_folds w_nights w_folds) (fun _ : Unit => (W_Row cyI cyJ cyZ a_w a_w_folds w_nights w_folds)) (fun v _ => Q v ) := by
  unfold wp_X2_isFresh at h
  refine metZ_of (by decide) (Nat.le_of_ble_eq_true rfl) (fun x cx0 hR0 => ?_)
  have cx : Cx x cX2_isFresh 5 RX2 rm_X2_isFresh D [(cyI, .int), (cyJ, .long), (cyZ, .boolean)] := cx0
  have hR : ∀ (v : Int32) (pc : Nat) (lv : List (Nat × Value)), decode cX2_isFresh pc = .ok (.ireturn, 1) → (v = 0 ∨ v = 1) → Q v → J x 0 0 5 (W_Row cyI cyJ cyZ a_w a_w_folds w_nights w_folds) lv pc [.int v] := (fun v pc lv d hz hq => hR0 v () pc lv d hz hq)
  show J x 0 0 5 (W_Row cyI cyJ cyZ a_w a_w_folds w_nights w_folds) [(0, .ref a_w), (1, .int p1), (2, .int p2)] 0 []
  refine j_iload_n cx 2 rfl rfl dX2_isFresh_0 (pn := 1) rfl ?_
  refine j_if_ne cx 8 dX2_isFresh_1 (pn := 4) rfl rfl (fun c1 => ?_) (fun c1 => ?_)
  · have h := h.1 c1
    refine j_iconst cx (v := 0) (by decide) dX2_isFresh_8 (pn := 9) rfl ?_
    refine j_iload_n cx 1 rfl rfl dX2_isFresh_9 (pn := 10) rfl ?_
    refine j_iload_n cx 2 rfl rfl dX2_isFresh_10 (pn := 11) rfl ?_
    refine j_isub cx dX2_isFresh_11 (pn := 12) rfl ?_
    refine j_mmax cx q_ml_X2_57 q_stat_J9_max_7cf53 q_init_J9 q_code_J9_max_7cf53 (Nat.le_of_ble_eq_true rfl) (Nat.le_of_ble_eq_true rfl) (Nat.zero_le _) (Nat.zero_le _) dX2_isFresh_12 (pn := 15) rfl ?_
    refine j_sub [0, 1] [(0, .ref a_w), (1, .int p1)] rfl ?_
    exact J_X2_isFresh_15 cx hR h
  · have h := h.2 c1
    refine j_iconst cx (v := 0) (by decide) dX2_isFresh_4 (pn := 5) rfl ?_
    refine j_goto cx 15 dX2_isFresh_5 rfl ?_
    refine j_sub [0, 1] [(0, .ref a_w), (1, .int p1)] rfl ?_
    exact J_X2_isFresh_15 cx hR h
theorem dX2_reasonOf_0 : decode cX2_reasonOf 0 = .ok (.aload_n 0, 1) := by decide +kernel
theorem dX2_reasonOf_1 : decode cX2_reasonOf 1 = .ok (.getfield 9, 3) := by decide +kernel
theorem dX2_reasonOf_4 : decode cX2_reasonOf 4 = .ok (.iload_n 1, 1) := by decide +kernel
theorem dX2_reasonOf_5 : decode cX2_reasonOf 5 = .ok (.iaload, 1) := by decide +kernel
theorem dX2_reasonOf_6 : decode cX2_reasonOf 6 = .ok (.istore 4, 2) := by decide +kernel
theorem dX2_reasonOf_8 : decode cX2_reasonOf 8 = .ok (.aload_n 3, 1) := by decide +kernel
theorem dX2_reasonOf_9 : decode cX2_reasonOf 9 = .ok (.iload 4, 2) := by decide +kernel
theorem dX2_reasonOf_11 : decode cX2_reasonOf 11 = .ok (.invokevirtual 23, 3) := by decide +kernel
theorem dX2_reasonOf_14 : decode cX2_reasonOf 14 = .ok (.ifCond .ne 5, 3) := by decide +kernel
theorem dX2_reasonOf_17 : decode cX2_reasonOf 17 = .ok (.iconst 0, 1) := by decide +kernel
theorem dX2_reasonOf_18 : decode cX2_reasonOf 18 = .ok (.ireturn, 1) := by decide +kernel
theorem dX2_reasonOf_19 : decode cX2_reasonOf 19 = .ok (.aload_n 3, 1) := by decide +kernel
theorem dX2_reasonOf_20 : decode cX2_reasonOf 20 = .ok (.getfield 29, 3) := by decide +kernel
theorem dX2_reasonOf_23 : decode cX2_reasonOf 23 = .ok (.iload 4, 2) := by decide +kernel
theorem dX2_reasonOf_25 : decode cX2_reasonOf 25 = .ok (.iaload, 1) := by decide +kernel
theorem dX2_reasonOf_26 : decode cX2_reasonOf 26 = .ok (.aload_n 2, 1) := by decide +kernel
theorem dX2_reasonOf_27 : decode cX2_reasonOf 27 = .ok (.getfield 32, 3) := by decide +kernel
theorem dX2_reasonOf_30 : decode cX2_reasonOf 30 = .ok (.if_icmp .le 5, 3) := by decide +kernel
theorem dX2_reasonOf_33 : decode cX2_reasonOf 33 = .ok (.iconst 1, 1) := by decide +kernel
theorem dX2_reasonOf_34 : decode cX2_reasonOf 34 = .ok (.ireturn, 1) := by decide +kernel
theorem dX2_reasonOf_35 : decode cX2_reasonOf 35 = .ok (.aload_n 3, 1) := by decide +kernel
theorem dX2_reasonOf_36 : decode cX2_reasonOf 36 = .ok (.getfield 37, 3) := by decide +kernel
theorem dX2_reasonOf_39 : decode cX2_reasonOf 39 = .ok (.iload 4, 2) := by decide +kernel
theorem dX2_reasonOf_41 : decode cX2_reasonOf 41 = .ok (.iaload, 1) := by decide +kernel
theorem dX2_reasonOf_42 : decode cX2_reasonOf 42 = .ok (.aload_n 2, 1) := by decide +kernel
theorem dX2_reasonOf_43 : decode cX2_reasonOf 43 = .ok (.iload_n 1, 1) := by decide +kernel
theorem dX2_reasonOf_44 : decode cX2_reasonOf 44 = .ok (.invokevirtual 40, 3) := by decide +kernel
theorem dX2_reasonOf_47 : decode cX2_reasonOf 47 = .ok (.if_icmp .ge 5, 3) := by decide +kernel
theorem dX2_reasonOf_50 : decode cX2_reasonOf 50 = .ok (.iconst 2, 1) := by decide +kernel
theorem dX2_reasonOf_51 : decode cX2_reasonOf 51 = .ok (.ireturn, 1) := by decide +kernel
theorem dX2_reasonOf_52 : decode cX2_reasonOf 52 = .ok (.iload_n 1, 1) := by decide +kernel
theorem dX2_reasonOf_53 : decode cX2_reasonOf 53 = .ok (.ifCond .ne 5, 3) := by decide +kernel
theorem dX2_reasonOf_56 : decode cX2_reasonOf 56 = .ok (.iconst (-1), 1) := by decide +kernel
theorem dX2_reasonOf_57 : decode cX2_reasonOf 57 = .ok (.ireturn, 1) := by decide +kernel
theorem dX2_reasonOf_58 : decode cX2_reasonOf 58 = .ok (.aload_n 0, 1) := by decide +kernel
theorem dX2_reasonOf_59 : decode cX2_reasonOf 59 = .ok (.getfield 9, 3) := by decide +kernel
theorem dX2_reasonOf_62 : decode cX2_reasonOf 62 = .ok (.iload_n 1, 1) := by decide +kernel
theorem dX2_reasonOf_63 : decode cX2_reasonOf 63 = .ok (.iconst 1, 1) := by decide +kernel
theorem dX2_reasonOf_64 : decode cX2_reasonOf 64 = .ok (.isub, 1) := by decide +kernel
theorem dX2_reasonOf_65 : decode cX2_reasonOf 65 = .ok (.iaload, 1) := by decide +kernel
theorem dX2_reasonOf_66 : decode cX2_reasonOf 66 = .ok (.istore 5, 2) := by decide +kernel
theorem dX2_reasonOf_68 : decode cX2_reasonOf 68 = .ok (.aload_n 2, 1) := by decide +kernel
theorem dX2_reasonOf_69 : decode cX2_reasonOf 69 = .ok (.iload_n 1, 1) := by decide +kernel
theorem dX2_reasonOf_70 : decode cX2_reasonOf 70 = .ok (.invokevirtual 44, 3) := by decide +kernel
theorem dX2_reasonOf_73 : decode cX2_reasonOf 73 = .ok (.ifCond .eq 16, 3) := by decide +kernel
theorem dX2_reasonOf_76 : decode cX2_reasonOf 76 = .ok (.iload 4, 2) := by decide +kernel
theorem dX2_reasonOf_78 : decode cX2_reasonOf 78 = .ok (.iload 5, 2) := by decide +kernel
theorem dX2_reasonOf_80 : decode cX2_reasonOf 80 = .ok (.if_icmp .ne 7, 3) := by decide +kernel
theorem dX2_reasonOf_83 : decode cX2_reasonOf 83 = .ok (.iconst (-1), 1) := by decide +kernel
theorem dX2_reasonOf_84 : decode cX2_reasonOf 84 = .ok (.goto 4, 3) := by decide +kernel
theorem dX2_reasonOf_87 : decode cX2_reasonOf 87 = .ok (.iconst 3, 1) := by decide +kernel
theorem dX2_reasonOf_88 : decode cX2_reasonOf 88 = .ok (.ireturn, 1) := by decide +kernel
theorem dX2_reasonOf_89 : decode cX2_reasonOf 89 = .ok (.aload_n 3, 1) := by decide +kernel
theorem dX2_reasonOf_90 : decode cX2_reasonOf 90 = .ok (.getfield 47, 3) := by decide +kernel
theorem dX2_reasonOf_93 : decode cX2_reasonOf 93 = .ok (.iload 4, 2) := by decide +kernel
theorem dX2_reasonOf_95 : decode cX2_reasonOf 95 = .ok (.iload 5, 2) := by decide +kernel
theorem dX2_reasonOf_97 : decode cX2_reasonOf 97 = .ok (.iconst (-1), 1) := by decide +kernel
theorem dX2_reasonOf_98 : decode cX2_reasonOf 98 = .ok (.ixor, 1) := by decide +kernel
theorem dX2_reasonOf_99 : decode cX2_reasonOf 99 = .ok (.iand, 1) := by decide +kernel
theorem dX2_reasonOf_100 : decode cX2_reasonOf 100 = .ok (.iaload, 1) := by decide +kernel
theorem dX2_reasonOf_101 : decode cX2_reasonOf 101 = .ok (.iload 5, 2) := by decide +kernel
theorem dX2_reasonOf_103 : decode cX2_reasonOf 103 = .ok (.iand, 1) := by decide +kernel
theorem dX2_reasonOf_104 : decode cX2_reasonOf 104 = .ok (.iload 4, 2) := by decide +kernel
theorem dX2_reasonOf_106 : decode cX2_reasonOf 106 = .ok (.iconst (-1), 1) := by decide +kernel
theorem dX2_reasonOf_107 : decode cX2_reasonOf 107 = .ok (.ixor, 1) := by decide +kernel
theorem dX2_reasonOf_108 : decode cX2_reasonOf 108 = .ok (.iand, 1) := by decide +kernel
theorem dX2_reasonOf_109 : decode cX2_reasonOf 109 = .ok (.ifCond .ne 5, 3) := by decide +kernel
theorem dX2_reasonOf_112 : decode cX2_reasonOf 112 = .ok (.iconst 4, 1) := by decide +kernel
theorem dX2_reasonOf_113 : decode cX2_reasonOf 113 = .ok (.ireturn, 1) := by decide +kernel
theorem dX2_reasonOf_114 : decode cX2_reasonOf 114 = .ok (.aload_n 0, 1) := by decide +kernel
theorem dX2_reasonOf_115 : decode cX2_reasonOf 115 = .ok (.iload_n 1, 1) := by decide +kernel
theorem dX2_reasonOf_116 : decode cX2_reasonOf 116 = .ok (.aload_n 2, 1) := by decide +kernel
theorem dX2_reasonOf_117 : decode cX2_reasonOf 117 = .ok (.getfield 50, 3) := by decide +kernel
theorem dX2_reasonOf_120 : decode cX2_reasonOf 120 = .ok (.invokevirtual 53, 3) := by decide +kernel
theorem dX2_reasonOf_123 : decode cX2_reasonOf 123 = .ok (.ifCond .eq 7, 3) := by decide +kernel
theorem dX2_reasonOf_126 : decode cX2_reasonOf 126 = .ok (.iconst (-1), 1) := by decide +kernel
theorem dX2_reasonOf_127 : decode cX2_reasonOf 127 = .ok (.goto 4, 3) := by decide +kernel
theorem dX2_reasonOf_130 : decode cX2_reasonOf 130 = .ok (.iconst 5, 1) := by decide +kernel
theorem dX2_reasonOf_131 : decode cX2_reasonOf 131 = .ok (.ireturn, 1) := by decide +kernel
abbrev rm_X2_reasonOf : Room := { frames := 2, cells := 0, slots := 0, locals := 45 }
theorem hd_X2_reasonOf : yX2_reasonOf.cls ≠ "java/lang/invoke/MethodHandle" ∧ yX2_reasonOf.cls ≠ "java/lang/invoke/VarHandle" ∧ (parseMethodDescriptor yX2_reasonOf.desc).map (fun d => d.parameters.length) = some 3 := by decide +kernel
def wp_X2_reasonOf (p1 : Int32) (w_folds : Nat → Int32) (g_hurdles : Int32) (g_wantCount : Int32) (g_rest : Int32) (g_frozen : Int32) (g_wants : Nat → Int32) (f_sideCounts : Nat → Int32) (f_yardSums : Nat → Int32) (f_beside : Nat → Int32) (Q : Int32 → Prop) : Prop :=
vp_in p1 20 ∧ (∀ y1 : Int32, y1 = (w_folds p1.toNatClampNeg) →
wp_X3_isFold y1 f_sideCounts (fun (r2 : Int32) => ((¬ r2 = 0 → vp_in y1 1024 ∧ (((f_sideCounts y1.toNatClampNeg) ≤ g_hurdles → vp_in y1 1024 ∧ wp_X4_wantOf p1 g_wantCount g_wants (fun (r5 : Int32) => ((r5 ≤ (f_yardSums y1.toNatClampNeg) → ((¬ p1 = 0 → vp_in (p1 - 1) 20 ∧ (∀ y8 : Int32, y8 = (w_folds (p1 - 1).toNatClampNeg) →
wp_X4_isFrozen p1 g_frozen (fun (r9 : Int32) => ((r9 = 0 → vp_in (y1 &&& (y8 ^^^ (-1))) 1024 ∧ ((¬ (((f_beside (y1 &&& (y8 ^^^ (-1))).toNatClampNeg) &&& y8) &&& (y1 ^^^ (-1))) = 0 → wp_X2_isFresh p1 g_rest w_folds (fun (r12 : Int32) => ((r12 = 0 → Q 5) ∧
(¬ r12 = 0 → Q (-1))))) ∧
((((f_beside (y1 &&& (y8 ^^^ (-1))).toNatClampNeg) &&& y8) &&& (y1 ^^^ (-1))) = 0 → Q 4))) ∧
(¬ r9 = 0 → ((¬ y1 = y8 → Q 3) ∧
(y1 = y8 → Q (-1)))))))) ∧
(p1 = 0 → Q (-1)))) ∧
(¬ r5 ≤ (f_yardSums y1.toNatClampNeg) → Q 2)))) ∧
(¬ (f_sideCounts y1.toNatClampNeg) ≤ g_hurdles → Q 1))) ∧
(r2 = 0 → Q 0))))
set_option maxHeartbeats 4000000 in
set_option maxRecDepth 100000 in
theorem c_X2_reasonOf {D : DG} {cyI cyJ cyZ : ClassId} {a_w a_w_folds a_g a_g_kinds a_g_wants a_f a_f_needs a_f_sideCounts a_f_yardSums a_f_beside : Nat} {w_nights : Int32} {w_folds : Nat → Int32} {g_columns : Int32} {g_rows : Int32} {g_hedges : Int32} {g_hurdles : Int32} {g_wantCount : Int32} {g_rest : Int32} {g_frozen : Int32} {g_kinds : Nat → Int32} {g_wants : Nat → Int32} {f_all : Int32} {f_wanted : Int32} {f_mostSides : Int32} {f_needs : Nat → Int32} {f_sideCounts : Nat → Int32} {f_yardSums : Nat → Int32} {f_beside : Nat → Int32} {p1 : Int32} {Q : Int32 → Prop} (h : wp_X2_reasonOf p1 w_folds g_hurdles g_wantCount g_rest g_frozen g_wants f_sideCounts f_yardSums f_beside Q) :
    MetI yX2_reasonOf cX2_reasonOf 6 (some .int) rm_X2_reasonOf D [(cyI, .int), (cyJ, .long), (cyZ, .boolean)] [.ref a_w, .int p1, .ref a_g, .ref a_f] (W_RowGT cyI cyJ cyZ a_w a_w_folds a_g a_g_kinds a_g_wants a_f a_f_needs a_f_sideCounts a_f_yardSums a_f_beside w_nights w_folds g_columns g_rows g_hedges g_hurdles g_wantCount g_rest g_frozen g_kinds g_wants f_all f_wanted f_mostSides f_needs f_sideCounts f_yardSums f_beside) (fun _ : Unit => (W_RowGT cyI cyJ cyZ a_w a_w_folds a_g a_g_kinds a_g_wants a_f a_f_needs a_f_sideCounts a_f_yardSums a_f_beside w_nights w_folds g_columns g_rows g_hedges g_hurdles g_wantCount g_rest g_frozen g_kinds g_wants f_all f_wanted f_mostSides f_needs f_sideCounts f_yardSums f_beside)) (fun v _ => Q v ) := by
  unfold wp_X2_reasonOf at h
  refine metI_of (by decide) (Nat.le_of_ble_eq_true rfl) (fun x cx0 hR0 => ?_)
  have cx : Cx x cX2_reasonOf 6 RX2 rm_X2_reasonOf D [(cyI, .int), (cyJ, .long), (cyZ, .boolean)] := cx0
  have hR : ∀ (v : Int32) (pc : Nat) (lv : List (Nat × Value)), decode cX2_reasonOf pc = .ok (.ireturn, 1) → Q v → J x 0 0 6 (W_RowGT cyI cyJ cyZ a_w a_w_folds a_g a_g_kinds a_g_wants a_f a_f_needs a_f_sideCounts a_f_yardSums a_f_beside w_nights w_folds g_columns g_rows g_hedges g_hurdles g_wantCount g_rest g_frozen g_kinds g_wants f_all f_wanted f_mostSides f_needs f_sideCounts f_yardSums f_beside) lv pc [.int v] := (fun v pc lv d hq => hR0 v () pc lv d hq)
  show J x 0 0 6 (W_RowGT cyI cyJ cyZ a_w a_w_folds a_g a_g_kinds a_g_wants a_f a_f_needs a_f_sideCounts a_f_yardSums a_f_beside w_nights w_folds g_columns g_rows g_hedges g_hurdles g_wantCount g_rest g_frozen g_kinds g_wants f_all f_wanted f_mostSides f_needs f_sideCounts f_yardSums f_beside) [(0, .ref a_w), (1, .int p1), (2, .ref a_g), (3, .ref a_f)] 0 []
  refine j_aload_n cx 0 rfl rfl dX2_reasonOf_0 (pn := 1) rfl ?_
  refine j_get cx inGX2 0 rfl rfl 0 (by decide) q_fl_X2_9 rfl rfl dX2_reasonOf_1 (pn := 4) rfl ?_
  refine j_iload_n cx 1 rfl rfl dX2_reasonOf_4 (pn := 5) rfl ?_
  refine j_iald cx 1 0 rfl rfl h.1 dX2_reasonOf_5 (pn := 6) rfl ?_
  have h := h.2
  refine j_topi (fun y1 ey1 => ?_)
  have h := h y1 ey1
  refine j_istore cx [(4, .int y1), (0, .ref a_w), (1, .int p1), (2, .ref a_g), (3, .ref a_f)] (by decide) rfl dX2_reasonOf_6 (pn := 8) rfl ?_
  refine j_aload_n cx 4 rfl rfl dX2_reasonOf_8 (pn := 9) rfl ?_
  refine j_iload cx 0 rfl dX2_reasonOf_9 (pn := 11) rfl ?_
  refine j_callvI cx q_inst_X3_isFold q_sel_X3_isFold (b := a_f) (As := [.int y1]) (rest := []) (W_FT cyI cyJ cyZ a_f a_f_needs a_f_sideCounts a_f_yardSums a_f_beside f_all f_wanted f_mostSides f_needs f_sideCounts f_yardSums f_beside) [(a_w, .inr (2, [.ref a_w_folds, .int w_nights])), (a_w_folds, .inl (cyI, 20, .inl w_folds)), (a_g, .inr (4, [.ref a_g_kinds, .ref a_g_wants, .int g_columns, .int g_rows, .int g_hedges, .int g_hurdles, .int g_wantCount, .int g_rest, .int g_frozen])), (a_g_kinds, .inl (cyI, 10, .inl g_kinds)), (a_g_wants, .inl (cyI, 7, .inl g_wants))] (c_X3_isFold h) ⟨q_code_X3_isFold, q_ml_X2_23, q_init_X3, hd_X3_isFold, ⟨Nat.le_of_ble_eq_true rfl, Nat.le_of_ble_eq_true rfl⟩, Nat.le_of_ble_eq_true rfl, Nat.le_of_ble_eq_true rfl⟩ (q0 := 0) rfl rfl rfl [5, 6, 7, 8, 9] [0, 1, 2, 3, 4] [0, 1, 2, 3, 4, 5, 6, 7, 8, 9] rfl rfl rfl rfl rfl (by decide) (fun _ : Unit => (W_RowGT cyI cyJ cyZ a_w a_w_folds a_g a_g_kinds a_g_wants a_f a_f_needs a_f_sideCounts a_f_yardSums a_f_beside w_nights w_folds g_columns g_rows g_hedges g_hurdles g_wantCount g_rest g_frozen g_kinds g_wants f_all f_wanted f_mostSides f_needs f_sideCounts f_yardSums f_beside)) (fun _ => rfl) (fun _ => rfl) rfl rfl (Nat.le_of_ble_eq_true rfl) dX2_reasonOf_11 (pn := 14) rfl (fun r2 _ h => ?_)
  show J x 0 0 6 (W_RowGT cyI cyJ cyZ a_w a_w_folds a_g a_g_kinds a_g_wants a_f a_f_needs a_f_sideCounts a_f_yardSums a_f_beside w_nights w_folds g_columns g_rows g_hedges g_hurdles g_wantCount g_rest g_frozen g_kinds g_wants f_all f_wanted f_mostSides f_needs f_sideCounts f_yardSums f_beside) [(4, .int y1), (0, .ref a_w), (1, .int p1), (2, .ref a_g), (3, .ref a_f)] 14 [.int r2]
  refine j_if_ne cx 19 dX2_reasonOf_14 (pn := 17) rfl rfl (fun c3 => ?_) (fun c3 => ?_)
  · have h := h.1 c3
    refine j_aload_n cx 4 rfl rfl dX2_reasonOf_19 (pn := 20) rfl ?_
    refine j_getN cx inGX3 5 rfl rfl 1 (by decide) q_fl_X2_29 rfl rfl dX2_reasonOf_20 (pn := 23) rfl ?_
    refine j_iload cx 0 rfl dX2_reasonOf_23 (pn := 25) rfl ?_
    refine j_iald cx 7 0 rfl rfl h.1 dX2_reasonOf_25 (pn := 26) rfl ?_
    have h := h.2
    refine j_aload_n cx 3 rfl rfl dX2_reasonOf_26 (pn := 27) rfl ?_
    refine j_getN cx inGX4 2 rfl rfl 5 (by decide) q_fl_X2_32 rfl rfl dX2_reasonOf_27 (pn := 30) rfl ?_
    refine j_icmp_le cx 35 dX2_reasonOf_30 (pn := 33) rfl rfl (fun c4 => ?_) (fun c4 => ?_)
    · have h := h.1 c4
      refine j_aload_n cx 4 rfl rfl dX2_reasonOf_35 (pn := 36) rfl ?_
      refine j_getN cx inGX3 5 rfl rfl 2 (by decide) q_fl_X2_37 rfl rfl dX2_reasonOf_36 (pn := 39) rfl ?_
      refine j_iload cx 0 rfl dX2_reasonOf_39 (pn := 41) rfl ?_
      refine j_iald cx 8 0 rfl rfl h.1 dX2_reasonOf_41 (pn := 42) rfl ?_
      have h := h.2
      refine j_aload_n cx 3 rfl rfl dX2_reasonOf_42 (pn := 43) rfl ?_
      refine j_iload_n cx 2 rfl rfl dX2_reasonOf_43 (pn := 44) rfl ?_
      refine j_callvI cx q_inst_X4_wantOf q_sel_X4_wantOf (b := a_g) (As := [.int p1]) (rest := [.int (f_yardSums y1.toNatClampNeg)]) (W_Ground cyI cyJ cyZ a_g a_g_kinds a_g_wants g_columns g_rows g_hedges g_hurdles g_wantCount g_rest g_frozen g_kinds g_wants) [(a_w, .inr (2, [.ref a_w_folds, .int w_nights])), (a_w_folds, .inl (cyI, 20, .inl w_folds)), (a_f, .inr (3, [.ref a_f_needs, .ref a_f_sideCounts, .ref a_f_yardSums, .ref a_f_beside, .int f_all, .int f_wanted, .int f_mostSides])), (a_f_needs, .inl (cyI, 1024, .inl f_needs)), (a_f_sideCounts, .inl (cyI, 1024, .inl f_sideCounts)), (a_f_yardSums, .inl (cyI, 1024, .inl f_yardSums)), (a_f_beside, .inl (cyI, 1024, .inl f_beside))] (c_X4_wantOf h) ⟨q_code_X4_wantOf, q_ml_X2_40, q_init_X4, hd_X4_wantOf, ⟨Nat.le_of_ble_eq_true rfl, Nat.le_of_ble_eq_true rfl⟩, Nat.le_of_ble_eq_true rfl, Nat.le_of_ble_eq_true rfl⟩ (q0 := 0) rfl rfl rfl [2, 3, 4] [0, 1, 5, 6, 7, 8, 9] [0, 1, 7, 8, 9, 2, 3, 4, 5, 6] rfl rfl rfl rfl rfl (by decide) (fun _ : Unit => (W_RowGT cyI cyJ cyZ a_w a_w_folds a_g a_g_kinds a_g_wants a_f a_f_needs a_f_sideCounts a_f_yardSums a_f_beside w_nights w_folds g_columns g_rows g_hedges g_hurdles g_wantCount g_rest g_frozen g_kinds g_wants f_all f_wanted f_mostSides f_needs f_sideCounts f_yardSums f_beside)) (fun _ => rfl) (fun _ => rfl) rfl rfl (Nat.le_of_ble_eq_true rfl) dX2_reasonOf_44 (pn := 47) rfl (fun r5 _ h => ?_)
      show J x 0 0 6 (W_RowGT cyI cyJ cyZ a_w a_w_folds a_g a_g_kinds a_g_wants a_f a_f_needs a_f_sideCounts a_f_yardSums a_f_beside w_nights w_folds g_columns g_rows g_hedges g_hurdles g_wantCount g_rest g_frozen g_kinds g_wants f_all f_wanted f_mostSides f_needs f_sideCounts f_yardSums f_beside) [(4, .int y1), (0, .ref a_w), (1, .int p1), (2, .ref a_g), (3, .ref a_f)] 47 [.int r5, .int (f_yardSums y1.toNatClampNeg)]
      refine j_icmp_ge cx 52 dX2_reasonOf_47 (pn := 50) rfl rfl (fun c6 => ?_) (fun c6 => ?_)
      · have h := h.1 c6
        refine j_iload_n cx 2 rfl rfl dX2_reasonOf_52 (pn := 53) rfl ?_
        refine j_if_ne cx 58 dX2_reasonOf_53 (pn := 56) rfl rfl (fun c7 => ?_) (fun c7 => ?_)
        · have h := h.1 c7
          refine j_aload_n cx 1 rfl rfl dX2_reasonOf_58 (pn := 59) rfl ?_
          refine j_get cx inGX2 0 rfl rfl 0 (by decide) q_fl_X2_9 rfl rfl dX2_reasonOf_59 (pn := 62) rfl ?_
          refine j_iload_n cx 2 rfl rfl dX2_reasonOf_62 (pn := 63) rfl ?_
          refine j_iconst cx (v := 1) (by decide) dX2_reasonOf_63 (pn := 64) rfl ?_
          refine j_isub cx dX2_reasonOf_64 (pn := 65) rfl ?_
          refine j_iald cx 1 0 rfl rfl h.1 dX2_reasonOf_65 (pn := 66) rfl ?_
          have h := h.2
          refine j_topi (fun y8 ey8 => ?_)
          have h := h y8 ey8
          refine j_istore cx [(5, .int y8), (4, .int y1), (0, .ref a_w), (1, .int p1), (2, .ref a_g), (3, .ref a_f)] (by decide) rfl dX2_reasonOf_66 (pn := 68) rfl ?_
          refine j_aload_n cx 4 rfl rfl dX2_reasonOf_68 (pn := 69) rfl ?_
          refine j_iload_n cx 3 rfl rfl dX2_reasonOf_69 (pn := 70) rfl ?_
          refine j_callvI cx q_inst_X4_isFrozen q_sel_X4_isFrozen (b := a_g) (As := [.int p1]) (rest := []) (W_Ground cyI cyJ cyZ a_g a_g_kinds a_g_wants g_columns g_rows g_hedges g_hurdles g_wantCount g_rest g_frozen g_kinds g_wants) [(a_w, .inr (2, [.ref a_w_folds, .int w_nights])), (a_w_folds, .inl (cyI, 20, .inl w_folds)), (a_f, .inr (3, [.ref a_f_needs, .ref a_f_sideCounts, .ref a_f_yardSums, .ref a_f_beside, .int f_all, .int f_wanted, .int f_mostSides])), (a_f_needs, .inl (cyI, 1024, .inl f_needs)), (a_f_sideCounts, .inl (cyI, 1024, .inl f_sideCounts)), (a_f_yardSums, .inl (cyI, 1024, .inl f_yardSums)), (a_f_beside, .inl (cyI, 1024, .inl f_beside))] (c_X4_isFrozen h) ⟨q_code_X4_isFrozen, q_ml_X2_44, q_init_X4, hd_X4_isFrozen, ⟨Nat.le_of_ble_eq_true rfl, Nat.le_of_ble_eq_true rfl⟩, Nat.le_of_ble_eq_true rfl, Nat.le_of_ble_eq_true rfl⟩ (q0 := 0) rfl rfl rfl [2, 3, 4] [0, 1, 5, 6, 7, 8, 9] [0, 1, 7, 8, 9, 2, 3, 4, 5, 6] rfl rfl rfl rfl rfl (by decide) (fun _ : Unit => (W_RowGT cyI cyJ cyZ a_w a_w_folds a_g a_g_kinds a_g_wants a_f a_f_needs a_f_sideCounts a_f_yardSums a_f_beside w_nights w_folds g_columns g_rows g_hedges g_hurdles g_wantCount g_rest g_frozen g_kinds g_wants f_all f_wanted f_mostSides f_needs f_sideCounts f_yardSums f_beside)) (fun _ => rfl) (fun _ => rfl) rfl rfl (Nat.le_of_ble_eq_true rfl) dX2_reasonOf_70 (pn := 73) rfl (fun r9 _ h => ?_)
          show J x 0 0 6 (W_RowGT cyI cyJ cyZ a_w a_w_folds a_g a_g_kinds a_g_wants a_f a_f_needs a_f_sideCounts a_f_yardSums a_f_beside w_nights w_folds g_columns g_rows g_hedges g_hurdles g_wantCount g_rest g_frozen g_kinds g_wants f_all f_wanted f_mostSides f_needs f_sideCounts f_yardSums f_beside) [(5, .int y8), (4, .int y1), (0, .ref a_w), (1, .int p1), (2, .ref a_g), (3, .ref a_f)] 73 [.int r9]
          refine j_if_eq cx 89 dX2_reasonOf_73 (pn := 76) rfl rfl (fun c10 => ?_) (fun c10 => ?_)
          · have h := h.1 c10
            refine j_aload_n cx 5 rfl rfl dX2_reasonOf_89 (pn := 90) rfl ?_
            refine j_getN cx inGX3 5 rfl rfl 3 (by decide) q_fl_X2_47 rfl rfl dX2_reasonOf_90 (pn := 93) rfl ?_
            refine j_iload cx 1 rfl dX2_reasonOf_93 (pn := 95) rfl ?_
            refine j_iload cx 0 rfl dX2_reasonOf_95 (pn := 97) rfl ?_
            refine j_iconst cx (v := (-1)) (by decide) dX2_reasonOf_97 (pn := 98) rfl ?_
            refine j_ixor cx dX2_reasonOf_98 (pn := 99) rfl ?_
            refine j_iand cx dX2_reasonOf_99 (pn := 100) rfl ?_
            refine j_iald cx 9 0 rfl rfl h.1 dX2_reasonOf_100 (pn := 101) rfl ?_
            have h := h.2
            refine j_iload cx 0 rfl dX2_reasonOf_101 (pn := 103) rfl ?_
            refine j_iand cx dX2_reasonOf_103 (pn := 104) rfl ?_
            refine j_iload cx 1 rfl dX2_reasonOf_104 (pn := 106) rfl ?_
            refine j_iconst cx (v := (-1)) (by decide) dX2_reasonOf_106 (pn := 107) rfl ?_
            refine j_ixor cx dX2_reasonOf_107 (pn := 108) rfl ?_
            refine j_iand cx dX2_reasonOf_108 (pn := 109) rfl ?_
            refine j_if_ne cx 114 dX2_reasonOf_109 (pn := 112) rfl rfl (fun c11 => ?_) (fun c11 => ?_)
            · have h := h.1 c11
              refine j_aload_n cx 2 rfl rfl dX2_reasonOf_114 (pn := 115) rfl ?_
              refine j_iload_n cx 3 rfl rfl dX2_reasonOf_115 (pn := 116) rfl ?_
              refine j_aload_n cx 4 rfl rfl dX2_reasonOf_116 (pn := 117) rfl ?_
              refine j_getN cx inGX4 2 rfl rfl 7 (by decide) q_fl_X2_50 rfl rfl dX2_reasonOf_117 (pn := 120) rfl ?_
              refine j_callvI cx q_inst_X2_isFresh q_sel_X2_isFresh (b := a_w) (As := [.int p1, .int g_rest]) (rest := []) (W_Row cyI cyJ cyZ a_w a_w_folds w_nights w_folds) [(a_g, .inr (4, [.ref a_g_kinds, .ref a_g_wants, .int g_columns, .int g_rows, .int g_hedges, .int g_hurdles, .int g_wantCount, .int g_rest, .int g_frozen])), (a_g_kinds, .inl (cyI, 10, .inl g_kinds)), (a_g_wants, .inl (cyI, 7, .inl g_wants)), (a_f, .inr (3, [.ref a_f_needs, .ref a_f_sideCounts, .ref a_f_yardSums, .ref a_f_beside, .int f_all, .int f_wanted, .int f_mostSides])), (a_f_needs, .inl (cyI, 1024, .inl f_needs)), (a_f_sideCounts, .inl (cyI, 1024, .inl f_sideCounts)), (a_f_yardSums, .inl (cyI, 1024, .inl f_yardSums)), (a_f_beside, .inl (cyI, 1024, .inl f_beside))] (c_X2_isFresh h) ⟨q_code_X2_isFresh, q_ml_X2_53, q_init_X2, hd_X2_isFresh, ⟨Nat.le_of_ble_eq_true rfl, Nat.le_of_ble_eq_true rfl⟩, Nat.le_of_ble_eq_true rfl, Nat.le_of_ble_eq_true rfl⟩ (q0 := 0) rfl rfl rfl [0, 1] [2, 3, 4, 5, 6, 7, 8, 9] [8, 9, 0, 1, 2, 3, 4, 5, 6, 7] rfl rfl rfl rfl rfl (by decide) (fun _ : Unit => (W_RowGT cyI cyJ cyZ a_w a_w_folds a_g a_g_kinds a_g_wants a_f a_f_needs a_f_sideCounts a_f_yardSums a_f_beside w_nights w_folds g_columns g_rows g_hedges g_hurdles g_wantCount g_rest g_frozen g_kinds g_wants f_all f_wanted f_mostSides f_needs f_sideCounts f_yardSums f_beside)) (fun _ => rfl) (fun _ => rfl) rfl rfl (Nat.le_of_ble_eq_true rfl) dX2_reasonOf_120 (pn := 123) rfl (fun r12 _ h => ?_)
              show J x 0 0 6 (W_RowGT cyI cyJ cyZ a_w a_w_folds a_g a_g_kinds a_g_wants a_f a_f_needs a_f_sideCounts a_f_yardSums a_f_beside w_nights w_folds g_columns g_rows g_hedges g_hurdles g_wantCount g_rest g_frozen g_kinds g_wants f_all f_wanted f_mostSides f_needs f_sideCounts f_yardSums f_beside) [(5, .int y8), (4, .int y1), (0, .ref a_w), (1, .int p1), (2, .ref a_g), (3, .ref a_f)] 123 [.int r12]
              refine j_if_eq cx 130 dX2_reasonOf_123 (pn := 126) rfl rfl (fun c13 => ?_) (fun c13 => ?_)
              · have h := h.1 c13
                refine j_iconst cx (v := 5) (by decide) dX2_reasonOf_130 (pn := 131) rfl ?_
                exact hR 5 131 _ dX2_reasonOf_131 h
              · have h := h.2 c13
                refine j_iconst cx (v := (-1)) (by decide) dX2_reasonOf_126 (pn := 127) rfl ?_
                refine j_goto cx 131 dX2_reasonOf_127 rfl ?_
                exact hR (-1) 131 _ dX2_reasonOf_131 h
            · have h := h.2 c11
              refine j_iconst cx (v := 4) (by decide) dX2_reasonOf_112 (pn := 113) rfl ?_
              exact hR 4 113 _ dX2_reasonOf_113 h
          · have h := h.2 c10
            refine j_iload cx 1 rfl dX2_reasonOf_76 (pn := 78) rfl ?_
            refine j_iload cx 0 rfl dX2_reasonOf_78 (pn := 80) rfl ?_
            refine j_icmp_ne cx 87 dX2_reasonOf_80 (pn := 83) rfl rfl (fun c14 => ?_) (fun c14 => ?_)
            · have h := h.1 c14
              refine j_iconst cx (v := 3) (by decide) dX2_reasonOf_87 (pn := 88) rfl ?_
              exact hR 3 88 _ dX2_reasonOf_88 h
            · have h := h.2 c14
              refine j_iconst cx (v := (-1)) (by decide) dX2_reasonOf_83 (pn := 84) rfl ?_
              refine j_goto cx 88 dX2_reasonOf_84 rfl ?_
              exact hR (-1) 88 _ dX2_reasonOf_88 h
        · have h := h.2 c7
          refine j_iconst cx (v := (-1)) (by decide) dX2_reasonOf_56 (pn := 57) rfl ?_
          exact hR (-1) 57 _ dX2_reasonOf_57 h
      · have h := h.2 c6
        refine j_iconst cx (v := 2) (by decide) dX2_reasonOf_50 (pn := 51) rfl ?_
        exact hR 2 51 _ dX2_reasonOf_51 h
    · have h := h.2 c4
      refine j_iconst cx (v := 1) (by decide) dX2_reasonOf_33 (pn := 34) rfl ?_
      exact hR 1 34 _ dX2_reasonOf_34 h
  · have h := h.2 c3
    refine j_iconst cx (v := 0) (by decide) dX2_reasonOf_17 (pn := 18) rfl ?_
    exact hR 0 18 _ dX2_reasonOf_18 h
theorem dX2_firstBad_0 : decode cX2_firstBad 0 = .ok (.iconst 0, 1) := by decide +kernel
theorem dX2_firstBad_1 : decode cX2_firstBad 1 = .ok (.istore_n 3, 1) := by decide +kernel
theorem dX2_firstBad_2 : decode cX2_firstBad 2 = .ok (.iload_n 3, 1) := by decide +kernel
theorem dX2_firstBad_3 : decode cX2_firstBad 3 = .ok (.aload_n 0, 1) := by decide +kernel
theorem dX2_firstBad_4 : decode cX2_firstBad 4 = .ok (.getfield 15, 3) := by decide +kernel
theorem dX2_firstBad_7 : decode cX2_firstBad 7 = .ok (.if_icmp .ge 22, 3) := by decide +kernel
theorem dX2_firstBad_10 : decode cX2_firstBad 10 = .ok (.aload_n 0, 1) := by decide +kernel
theorem dX2_firstBad_11 : decode cX2_firstBad 11 = .ok (.iload_n 3, 1) := by decide +kernel
theorem dX2_firstBad_12 : decode cX2_firstBad 12 = .ok (.aload_n 1, 1) := by decide +kernel
theorem dX2_firstBad_13 : decode cX2_firstBad 13 = .ok (.aload_n 2, 1) := by decide +kernel
theorem dX2_firstBad_14 : decode cX2_firstBad 14 = .ok (.invokevirtual 19, 3) := by decide +kernel
theorem dX2_firstBad_17 : decode cX2_firstBad 17 = .ok (.iconst (-1), 1) := by decide +kernel
theorem dX2_firstBad_18 : decode cX2_firstBad 18 = .ok (.if_icmp .eq 5, 3) := by decide +kernel
theorem dX2_firstBad_21 : decode cX2_firstBad 21 = .ok (.iload_n 3, 1) := by decide +kernel
theorem dX2_firstBad_22 : decode cX2_firstBad 22 = .ok (.ireturn, 1) := by decide +kernel
theorem dX2_firstBad_23 : decode cX2_firstBad 23 = .ok (.iinc 3 1, 3) := by decide +kernel
theorem dX2_firstBad_26 : decode cX2_firstBad 26 = .ok (.goto (-24), 3) := by decide +kernel
theorem dX2_firstBad_29 : decode cX2_firstBad 29 = .ok (.iconst (-1), 1) := by decide +kernel
theorem dX2_firstBad_30 : decode cX2_firstBad 30 = .ok (.ireturn, 1) := by decide +kernel
abbrev rm_X2_firstBad : Room := { frames := 3, cells := 0, slots := 0, locals := 70 }
theorem hd_X2_firstBad : yX2_firstBad.cls ≠ "java/lang/invoke/MethodHandle" ∧ yX2_firstBad.cls ≠ "java/lang/invoke/VarHandle" ∧ (parseMethodDescriptor yX2_firstBad.desc).map (fun d => d.parameters.length) = some 2 := by decide +kernel
def bd_X2_firstBad_2 (Q : Int32 → Prop) (B2 : Int32 → Prop) (w_nights : Int32) (w_folds : Nat → Int32) (g_hurdles : Int32) (g_wantCount : Int32) (g_rest : Int32) (g_frozen : Int32) (g_wants : Nat → Int32) (f_sideCounts : Nat → Int32) (f_yardSums : Nat → Int32) (f_beside : Nat → Int32) (x3 : Int32) : Prop :=
((w_nights ≤ x3 → Q (-1)) ∧
(¬ w_nights ≤ x3 → wp_X2_reasonOf x3 w_folds g_hurdles g_wantCount g_rest g_frozen g_wants f_sideCounts f_yardSums f_beside (fun (r2 : Int32) => ((r2 = (-1) → ∀ y4 : Int32, y4 = (x3 + 1) →
B2 y4) ∧
(¬ r2 = (-1) → Q x3)))))
def lp_X2_firstBad_2 (Q : Int32 → Prop) (w_nights : Int32) (w_folds : Nat → Int32) (g_hurdles : Int32) (g_wantCount : Int32) (g_rest : Int32) (g_frozen : Int32) (g_wants : Nat → Int32) (f_sideCounts : Nat → Int32) (f_yardSums : Nat → Int32) (f_beside : Nat → Int32) (x3 : Int32) : Prop :=
∃ I : Nat → Int32 → Prop, (∃ n, I n x3) ∧ ∀ n x3, I n x3 → bd_X2_firstBad_2 Q  (fun x3' => ∃ n', n' < n ∧ I n' x3') w_nights w_folds g_hurdles g_wantCount g_rest g_frozen g_wants f_sideCounts f_yardSums f_beside x3
def wp_X2_firstBad (w_nights : Int32) (w_folds : Nat → Int32) (g_hurdles : Int32) (g_wantCount : Int32) (g_rest : Int32) (g_frozen : Int32) (g_wants : Nat → Int32) (f_sideCounts : Nat → Int32) (f_yardSums : Nat → Int32) (f_beside : Nat → Int32) (Q : Int32 → Prop) : Prop :=
lp_X2_firstBad_2 Q w_nights w_folds g_hurdles g_wantCount g_rest g_frozen g_wants f_sideCounts f_yardSums f_beside 0
set_option maxHeartbeats 4000000 in
set_option maxRecDepth 100000 in
theorem B_X2_firstBad_2 {x : CX} {D : DG} {cyI cyJ cyZ : ClassId} {a_w a_w_folds a_g a_g_kinds a_g_wants a_f a_f_needs a_f_sideCounts a_f_yardSums a_f_beside : Nat} {w_nights : Int32} {w_folds : Nat → Int32} {g_columns : Int32} {g_rows : Int32} {g_hedges : Int32} {g_hurdles : Int32} {g_wantCount : Int32} {g_rest : Int32} {g_frozen : Int32} {g_kinds : Nat → Int32} {g_wants : Nat → Int32} {f_all : Int32} {f_wanted : Int32} {f_mostSides : Int32} {f_needs : Nat → Int32} {f_sideCounts : Nat → Int32} {f_yardSums : Nat → Int32} {f_beside : Nat → Int32} {x3 : Int32} {Q : Int32 → Prop} {B2 : Int32 → Prop} (cx : Cx x cX2_firstBad 4 RX2 rm_X2_firstBad D [(cyI, .int), (cyJ, .long), (cyZ, .boolean)]) (hR : ∀ (v : Int32) (pc : Nat) (lv : List (Nat × Value)), decode cX2_firstBad pc = .ok (.ireturn, 1) → Q v → J x 0 0 4 (W_RowGT cyI cyJ cyZ a_w a_w_folds a_g a_g_kinds a_g_wants a_f a_f_needs a_f_sideCounts a_f_yardSums a_f_beside w_nights w_folds g_columns g_rows g_hedges g_hurdles g_wantCount g_rest g_frozen g_kinds g_wants f_all f_wanted f_mostSides f_needs f_sideCounts f_yardSums f_beside) lv pc [.int v]) (hB2 : ∀ (x3 : Int32), B2 x3 → J x 0 0 4 (W_RowGT cyI cyJ cyZ a_w a_w_folds a_g a_g_kinds a_g_wants a_f a_f_needs a_f_sideCounts a_f_yardSums a_f_beside w_nights w_folds g_columns g_rows g_hedges g_hurdles g_wantCount g_rest g_frozen g_kinds g_wants f_all f_wanted f_mostSides f_needs f_sideCounts f_yardSums f_beside) [(0, .ref a_w), (1, .ref a_g), (2, .ref a_f), (3, .int x3)] 2 []) (h : bd_X2_firstBad_2 Q B2 w_nights w_folds g_hurdles g_wantCount g_rest g_frozen g_wants f_sideCounts f_yardSums f_beside x3) :
    J x 0 0 4 (W_RowGT cyI cyJ cyZ a_w a_w_folds a_g a_g_kinds a_g_wants a_f a_f_needs a_f_sideCounts a_f_yardSums a_f_beside w_nights w_folds g_columns g_rows g_hedges g_hurdles g_wantCount g_rest g_frozen g_kinds g_wants f_all f_wanted f_mostSides f_needs f_sideCounts f_yardSums f_beside) [(0, .ref a_w), (1, .ref a_g), (2, .ref a_f), (3, .int x3)] 2 [] := by
  unfold bd_X2_firstBad_2 at h
  refine j_iload_n cx 3 rfl rfl dX2_firstBad_2 (pn := 3) rfl ?_
  refine j_aload_n cx 0 rfl rfl dX2_firstBad_3 (pn := 4) rfl ?_
  refine j_get cx inGX2 0 rfl rfl 1 (by decide) q_fl_X2_15 rfl rfl dX2_firstBad_4 (pn := 7) rfl ?_
  refine j_icmp_ge cx 29 dX2_firstBad_7 (pn := 10) rfl rfl (fun c1 => ?_) (fun c1 => ?_)
  · have h := h.1 c1
    refine j_iconst cx (v := (-1)) (by decide) dX2_firstBad_29 (pn := 30) rfl ?_
    exact hR (-1) 30 _ dX2_firstBad_30 h
  · have h := h.2 c1
    refine j_aload_n cx 0 rfl rfl dX2_firstBad_10 (pn := 11) rfl ?_
    refine j_iload_n cx 3 rfl rfl dX2_firstBad_11 (pn := 12) rfl ?_
    refine j_aload_n cx 1 rfl rfl dX2_firstBad_12 (pn := 13) rfl ?_
    refine j_aload_n cx 2 rfl rfl dX2_firstBad_13 (pn := 14) rfl ?_
    refine j_callvI0 cx q_inst_X2_reasonOf q_sel_X2_reasonOf (b := a_w) (As := [.int x3, .ref a_g, .ref a_f]) (rest := []) (c_X2_reasonOf h) ⟨q_code_X2_reasonOf, q_ml_X2_19, q_init_X2, hd_X2_reasonOf, ⟨Nat.le_of_ble_eq_true rfl, Nat.le_of_ble_eq_true rfl⟩, Nat.le_of_ble_eq_true rfl, Nat.le_of_ble_eq_true rfl⟩ (q0 := 0) rfl rfl rfl rfl (Nat.le_of_ble_eq_true rfl) dX2_firstBad_14 (pn := 17) rfl (fun r2 _ h => ?_)
    show J x 0 0 4 (W_RowGT cyI cyJ cyZ a_w a_w_folds a_g a_g_kinds a_g_wants a_f a_f_needs a_f_sideCounts a_f_yardSums a_f_beside w_nights w_folds g_columns g_rows g_hedges g_hurdles g_wantCount g_rest g_frozen g_kinds g_wants f_all f_wanted f_mostSides f_needs f_sideCounts f_yardSums f_beside) [(0, .ref a_w), (1, .ref a_g), (2, .ref a_f), (3, .int x3)] 17 [.int r2]
    refine j_iconst cx (v := (-1)) (by decide) dX2_firstBad_17 (pn := 18) rfl ?_
    refine j_icmp_eq cx 23 dX2_firstBad_18 (pn := 21) rfl rfl (fun c3 => ?_) (fun c3 => ?_)
    · have h := h.1 c3
      obtain ⟨y4, ey4⟩ : ∃ z : Int32, z = x3 + 1 := ⟨_, rfl⟩
      have h := h y4 ey4
      refine j_iinc cx 3 rfl (cst := 1) (by decide) ey4 [(3, .int y4), (0, .ref a_w), (1, .ref a_g), (2, .ref a_f)] (by decide) rfl dX2_firstBad_23 (pn := 26) rfl ?_
      refine j_goto cx 2 dX2_firstBad_26 rfl ?_
      refine j_sub [1, 2, 3, 0] [(0, .ref a_w), (1, .ref a_g), (2, .ref a_f), (3, .int y4)] rfl ?_
      exact hB2 _ h
    · have h := h.2 c3
      refine j_iload_n cx 3 rfl rfl dX2_firstBad_21 (pn := 22) rfl ?_
      exact hR x3 22 _ dX2_firstBad_22 h
set_option maxHeartbeats 4000000 in
set_option maxRecDepth 100000 in
theorem J_X2_firstBad_2 {x : CX} {D : DG} {cyI cyJ cyZ : ClassId} {a_w a_w_folds a_g a_g_kinds a_g_wants a_f a_f_needs a_f_sideCounts a_f_yardSums a_f_beside : Nat} {w_nights : Int32} {w_folds : Nat → Int32} {g_columns : Int32} {g_rows : Int32} {g_hedges : Int32} {g_hurdles : Int32} {g_wantCount : Int32} {g_rest : Int32} {g_frozen : Int32} {g_kinds : Nat → Int32} {g_wants : Nat → Int32} {f_all : Int32} {f_wanted : Int32} {f_mostSides : Int32} {f_needs : Nat → Int32} {f_sideCounts : Nat → Int32} {f_yardSums : Nat → Int32} {f_beside : Nat → Int32} {x3 : Int32} {Q : Int32 → Prop} (cx : Cx x cX2_firstBad 4 RX2 rm_X2_firstBad D [(cyI, .int), (cyJ, .long), (cyZ, .boolean)]) (hR : ∀ (v : Int32) (pc : Nat) (lv : List (Nat × Value)), decode cX2_firstBad pc = .ok (.ireturn, 1) → Q v → J x 0 0 4 (W_RowGT cyI cyJ cyZ a_w a_w_folds a_g a_g_kinds a_g_wants a_f a_f_needs a_f_sideCounts a_f_yardSums a_f_beside w_nights w_folds g_columns g_rows g_hedges g_hurdles g_wantCount g_rest g_frozen g_kinds g_wants f_all f_wanted f_mostSides f_needs f_sideCounts f_yardSums f_beside) lv pc [.int v]) (h : lp_X2_firstBad_2 Q  w_nights w_folds g_hurdles g_wantCount g_rest g_frozen g_wants f_sideCounts f_yardSums f_beside x3) :
    J x 0 0 4 (W_RowGT cyI cyJ cyZ a_w a_w_folds a_g a_g_kinds a_g_wants a_f a_f_needs a_f_sideCounts a_f_yardSums a_f_beside w_nights w_folds g_columns g_rows g_hedges g_hurdles g_wantCount g_rest g_frozen g_kinds g_wants f_all f_wanted f_mostSides f_needs f_sideCounts f_yardSums f_beside) [(0, .ref a_w), (1, .ref a_g), (2, .ref a_f), (3, .int x3)] 2 [] := by
  obtain ⟨I, ⟨n, h0⟩, hb⟩ := h
  revert x3
  induction n using Nat.strongRecOn with
  | _ n ih =>
    intro x3 h0
    exact B_X2_firstBad_2 cx hR (fun _ hz => by obtain ⟨n2, hlt, hI⟩ := hz; exact ih n2 hlt hI) (hb n x3 h0)
set_option maxHeartbeats 4000000 in
set_option maxRecDepth 100000 in
theorem c_X2_firstBad {D : DG} {cyI cyJ cyZ : ClassId} {a_w a_w_folds a_g a_g_kinds a_g_wants a_f a_f_needs a_f_sideCounts a_f_yardSums a_f_beside : Nat} {w_nights : Int32} {w_folds : Nat → Int32} {g_columns : Int32} {g_rows : Int32} {g_hedges : Int32} {g_hurdles : Int32} {g_wantCount : Int32} {g_rest : Int32} {g_frozen : Int32} {g_kinds : Nat → Int32} {g_wants : Nat → Int32} {f_all : Int32} {f_wanted : Int32} {f_mostSides : Int32} {f_needs : Nat → Int32} {f_sideCounts : Nat → Int32} {f_yardSums : Nat → Int32} {f_beside : Nat → Int32} {Q : Int32 → Prop} (h : wp_X2_firstBad w_nights w_folds g_hurdles g_wantCount g_rest g_frozen g_wants f_sideCounts f_yardSums f_beside Q) :
    MetI yX2_firstBad cX2_firstBad 4 (some .int) rm_X2_firstBad D [(cyI, .int), (cyJ, .long), (cyZ, .boolean)] [.ref a_w, .ref a_g, .ref a_f] (W_RowGT cyI cyJ cyZ a_w a_w_folds a_g a_g_kinds a_g_wants a_f a_f_needs a_f_sideCounts a_f_yardSums a_f_beside w_nights w_folds g_columns g_rows g_hedges g_hurdles g_wantCount g_rest g_frozen g_kinds g_wants f_all f_wanted f_mostSides f_needs f_sideCounts f_yardSums f_beside) (fun _ : Unit => (W_RowGT cyI cyJ cyZ a_w a_w_folds a_g a_g_kinds a_g_wants a_f a_f_needs a_f_sideCounts a_f_yardSums a_f_beside w_nights w_folds g_columns g_rows g_hedges g_hurdles g_wantCount g_rest g_frozen g_kinds g_wants f_all f_wanted f_mostSides f_needs f_sideCounts f_yardSums f_beside)) (fun v _ => Q v ) := by
  unfold wp_X2_firstBad at h
  refine metI_of (by decide) (Nat.le_of_ble_eq_true rfl) (fun x cx0 hR0 => ?_)
  have cx : Cx x cX2_firstBad 4 RX2 rm_X2_firstBad D [(cyI, .int), (cyJ, .long), (cyZ, .boolean)] := cx0
  have hR : ∀ (v : Int32) (pc : Nat) (lv : List (Nat × Value)), decode cX2_firstBad pc = .ok (.ireturn, 1) → Q v → J x 0 0 4 (W_RowGT cyI cyJ cyZ a_w a_w_folds a_g a_g_kinds a_g_wants a_f a_f_needs a_f_sideCounts a_f_yardSums a_f_beside w_nights w_folds g_columns g_rows g_hedges g_hurdles g_wantCount g_rest g_frozen g_kinds g_wants f_all f_wanted f_mostSides f_needs f_sideCounts f_yardSums f_beside) lv pc [.int v] := (fun v pc lv d hq => hR0 v () pc lv d hq)
  show J x 0 0 4 (W_RowGT cyI cyJ cyZ a_w a_w_folds a_g a_g_kinds a_g_wants a_f a_f_needs a_f_sideCounts a_f_yardSums a_f_beside w_nights w_folds g_columns g_rows g_hedges g_hurdles g_wantCount g_rest g_frozen g_kinds g_wants f_all f_wanted f_mostSides f_needs f_sideCounts f_yardSums f_beside) [(0, .ref a_w), (1, .ref a_g), (2, .ref a_f)] 0 []
  refine j_iconst cx (v := 0) (by decide) dX2_firstBad_0 (pn := 1) rfl ?_
  refine j_istore_n cx rfl [(3, .int 0), (0, .ref a_w), (1, .ref a_g), (2, .ref a_f)] (by decide) rfl dX2_firstBad_1 (pn := 2) rfl ?_
  refine j_sub [1, 2, 3, 0] [(0, .ref a_w), (1, .ref a_g), (2, .ref a_f), (3, .int 0)] rfl ?_
  exact J_X2_firstBad_2 cx hR h
theorem dX5_findSecond_0 : decode cX5_findSecond 0 = .ok (.aload_n 1, 1) := by decide +kernel
theorem dX5_findSecond_1 : decode cX5_findSecond 1 = .ok (.getfield 21, 3) := by decide +kernel
theorem dX5_findSecond_4 : decode cX5_findSecond 4 = .ok (.iload_n 2, 1) := by decide +kernel
theorem dX5_findSecond_5 : decode cX5_findSecond 5 = .ok (.iconst (-1), 1) := by decide +kernel
theorem dX5_findSecond_6 : decode cX5_findSecond 6 = .ok (.ixor, 1) := by decide +kernel
theorem dX5_findSecond_7 : decode cX5_findSecond 7 = .ok (.iand, 1) := by decide +kernel
theorem dX5_findSecond_8 : decode cX5_findSecond 8 = .ok (.istore 4, 2) := by decide +kernel
theorem dX5_findSecond_10 : decode cX5_findSecond 10 = .ok (.iload 4, 2) := by decide +kernel
theorem dX5_findSecond_12 : decode cX5_findSecond 12 = .ok (.istore 5, 2) := by decide +kernel
theorem dX5_findSecond_14 : decode cX5_findSecond 14 = .ok (.iload 5, 2) := by decide +kernel
theorem dX5_findSecond_16 : decode cX5_findSecond 16 = .ok (.ifCond .le 105, 3) := by decide +kernel
theorem dX5_findSecond_19 : decode cX5_findSecond 19 = .ok (.aload_n 1, 1) := by decide +kernel
theorem dX5_findSecond_20 : decode cX5_findSecond 20 = .ok (.iload 5, 2) := by decide +kernel
theorem dX5_findSecond_22 : decode cX5_findSecond 22 = .ok (.invokevirtual 26, 3) := by decide +kernel
theorem dX5_findSecond_25 : decode cX5_findSecond 25 = .ok (.ifCond .eq 84, 3) := by decide +kernel
theorem dX5_findSecond_28 : decode cX5_findSecond 28 = .ok (.aload_n 1, 1) := by decide +kernel
theorem dX5_findSecond_29 : decode cX5_findSecond 29 = .ok (.getfield 30, 3) := by decide +kernel
theorem dX5_findSecond_32 : decode cX5_findSecond 32 = .ok (.iload 5, 2) := by decide +kernel
theorem dX5_findSecond_34 : decode cX5_findSecond 34 = .ok (.iaload, 1) := by decide +kernel
theorem dX5_findSecond_35 : decode cX5_findSecond 35 = .ok (.iload_n 3, 1) := by decide +kernel
theorem dX5_findSecond_36 : decode cX5_findSecond 36 = .ok (.if_icmp .lt 73, 3) := by decide +kernel
theorem dX5_findSecond_39 : decode cX5_findSecond 39 = .ok (.aload_n 1, 1) := by decide +kernel
theorem dX5_findSecond_40 : decode cX5_findSecond 40 = .ok (.getfield 38, 3) := by decide +kernel
theorem dX5_findSecond_43 : decode cX5_findSecond 43 = .ok (.iload_n 2, 1) := by decide +kernel
theorem dX5_findSecond_44 : decode cX5_findSecond 44 = .ok (.iaload, 1) := by decide +kernel
theorem dX5_findSecond_45 : decode cX5_findSecond 45 = .ok (.aload_n 1, 1) := by decide +kernel
theorem dX5_findSecond_46 : decode cX5_findSecond 46 = .ok (.getfield 38, 3) := by decide +kernel
theorem dX5_findSecond_49 : decode cX5_findSecond 49 = .ok (.iload 5, 2) := by decide +kernel
theorem dX5_findSecond_51 : decode cX5_findSecond 51 = .ok (.iaload, 1) := by decide +kernel
theorem dX5_findSecond_52 : decode cX5_findSecond 52 = .ok (.ior, 1) := by decide +kernel
theorem dX5_findSecond_53 : decode cX5_findSecond 53 = .ok (.invokestatic 41, 3) := by decide +kernel
theorem dX5_findSecond_56 : decode cX5_findSecond 56 = .ok (.istore 6, 2) := by decide +kernel
theorem dX5_findSecond_58 : decode cX5_findSecond 58 = .ok (.aload_n 0, 1) := by decide +kernel
theorem dX5_findSecond_59 : decode cX5_findSecond 59 = .ok (.getfield 18, 3) := by decide +kernel
theorem dX5_findSecond_62 : decode cX5_findSecond 62 = .ok (.iconst (-1), 1) := by decide +kernel
theorem dX5_findSecond_63 : decode cX5_findSecond 63 = .ok (.if_icmp .eq 29, 3) := by decide +kernel
theorem dX5_findSecond_66 : decode cX5_findSecond 66 = .ok (.iload 6, 2) := by decide +kernel
theorem dX5_findSecond_68 : decode cX5_findSecond 68 = .ok (.aload_n 0, 1) := by decide +kernel
theorem dX5_findSecond_69 : decode cX5_findSecond 69 = .ok (.getfield 18, 3) := by decide +kernel
theorem dX5_findSecond_72 : decode cX5_findSecond 72 = .ok (.if_icmp .lt 20, 3) := by decide +kernel
theorem dX5_findSecond_75 : decode cX5_findSecond 75 = .ok (.iload 6, 2) := by decide +kernel
theorem dX5_findSecond_77 : decode cX5_findSecond 77 = .ok (.aload_n 0, 1) := by decide +kernel
theorem dX5_findSecond_78 : decode cX5_findSecond 78 = .ok (.getfield 18, 3) := by decide +kernel
theorem dX5_findSecond_81 : decode cX5_findSecond 81 = .ok (.if_icmp .ne 28, 3) := by decide +kernel
theorem dX5_findSecond_84 : decode cX5_findSecond 84 = .ok (.aload_n 0, 1) := by decide +kernel
theorem dX5_findSecond_85 : decode cX5_findSecond 85 = .ok (.getfield 9, 3) := by decide +kernel
theorem dX5_findSecond_88 : decode cX5_findSecond 88 = .ok (.iload_n 2, 1) := by decide +kernel
theorem dX5_findSecond_89 : decode cX5_findSecond 89 = .ok (.if_icmp .ne 20, 3) := by decide +kernel
theorem dX5_findSecond_92 : decode cX5_findSecond 92 = .ok (.aload_n 0, 1) := by decide +kernel
theorem dX5_findSecond_93 : decode cX5_findSecond 93 = .ok (.iload_n 2, 1) := by decide +kernel
theorem dX5_findSecond_94 : decode cX5_findSecond 94 = .ok (.putfield 9, 3) := by decide +kernel
theorem dX5_findSecond_97 : decode cX5_findSecond 97 = .ok (.aload_n 0, 1) := by decide +kernel
theorem dX5_findSecond_98 : decode cX5_findSecond 98 = .ok (.iload 5, 2) := by decide +kernel
theorem dX5_findSecond_100 : decode cX5_findSecond 100 = .ok (.putfield 15, 3) := by decide +kernel
theorem dX5_findSecond_103 : decode cX5_findSecond 103 = .ok (.aload_n 0, 1) := by decide +kernel
theorem dX5_findSecond_104 : decode cX5_findSecond 104 = .ok (.iload 6, 2) := by decide +kernel
theorem dX5_findSecond_106 : decode cX5_findSecond 106 = .ok (.putfield 18, 3) := by decide +kernel
theorem dX5_findSecond_109 : decode cX5_findSecond 109 = .ok (.iload 5, 2) := by decide +kernel
theorem dX5_findSecond_111 : decode cX5_findSecond 111 = .ok (.iconst 1, 1) := by decide +kernel
theorem dX5_findSecond_112 : decode cX5_findSecond 112 = .ok (.isub, 1) := by decide +kernel
theorem dX5_findSecond_113 : decode cX5_findSecond 113 = .ok (.iload 4, 2) := by decide +kernel
theorem dX5_findSecond_115 : decode cX5_findSecond 115 = .ok (.iand, 1) := by decide +kernel
theorem dX5_findSecond_116 : decode cX5_findSecond 116 = .ok (.istore 5, 2) := by decide +kernel
theorem dX5_findSecond_118 : decode cX5_findSecond 118 = .ok (.goto (-104), 3) := by decide +kernel
theorem dX5_findSecond_121 : decode cX5_findSecond 121 = .ok (.return_, 1) := by decide +kernel
abbrev rm_X5_findSecond : Room := { frames := 1, cells := 0, slots := 0, locals := 21 }
theorem hd_X5_findSecond : yX5_findSecond.cls ≠ "java/lang/invoke/MethodHandle" ∧ yX5_findSecond.cls ≠ "java/lang/invoke/VarHandle" ∧ (parseMethodDescriptor yX5_findSecond.desc).map (fun d => d.parameters.length) = some 3 := by decide +kernel
def bk_X5_findSecond_109 (Q : Int32 × Int32 × Int32 → Prop) (B14 : Int32 → Int32 → Int32 → Int32 → Prop) (x4 : Int32) (x5 : Int32) (p_first : Int32) (p_second : Int32) (p_needed : Int32) : Prop :=
∀ y5 : Int32, y5 = ((x5 - 1) &&& x4) →
B14 p_first p_second p_needed y5
def bk_X5_findSecond_92 (Q : Int32 × Int32 × Int32 → Prop) (B14 : Int32 → Int32 → Int32 → Int32 → Prop) (p2 : Int32) (x4 : Int32) (x5 : Int32) (x6 : Int32) : Prop :=
bk_X5_findSecond_109 Q B14 x4 x5 p2 x5 x6
def bd_X5_findSecond_14 (Q : Int32 × Int32 × Int32 → Prop) (B14 : Int32 → Int32 → Int32 → Int32 → Prop) (p2 : Int32) (p3 : Int32) (x4 : Int32) (f_needs : Nat → Int32) (f_sideCounts : Nat → Int32) (f_yardSums : Nat → Int32) (p_first : Int32) (p_second : Int32) (p_needed : Int32) (x5 : Int32) : Prop :=
((x5 ≤ 0 → Q (p_first, p_second, p_needed)) ∧
(¬ x5 ≤ 0 → wp_X3_isFold x5 f_sideCounts (fun (r3 : Int32) => ((r3 = 0 → bk_X5_findSecond_109 Q B14 x4 x5 p_first p_second p_needed) ∧
(¬ r3 = 0 → vp_in x5 1024 ∧ (((f_yardSums x5.toNatClampNeg) < p3 → bk_X5_findSecond_109 Q B14 x4 x5 p_first p_second p_needed) ∧
(¬ (f_yardSums x5.toNatClampNeg) < p3 → vp_in p2 1024 ∧ vp_in x5 1024 ∧ wp_J6_bitCount_0f7a4 ((f_needs p2.toNatClampNeg) ||| (f_needs x5.toNatClampNeg)) (fun (r7 : Int32) => ((p_needed = (-1) → bk_X5_findSecond_92 Q B14 p2 x4 x5 r7) ∧
(¬ p_needed = (-1) → ((r7 < p_needed → bk_X5_findSecond_92 Q B14 p2 x4 x5 r7) ∧
(¬ r7 < p_needed → ((¬ r7 = p_needed → bk_X5_findSecond_109 Q B14 x4 x5 p_first p_second p_needed) ∧
(r7 = p_needed → ((¬ p_first = p2 → bk_X5_findSecond_109 Q B14 x4 x5 p_first p_second p_needed) ∧
(p_first = p2 → bk_X5_findSecond_92 Q B14 p2 x4 x5 r7))))))))))))))))
def lp_X5_findSecond_14 (Q : Int32 × Int32 × Int32 → Prop) (p2 : Int32) (p3 : Int32) (x4 : Int32) (f_needs : Nat → Int32) (f_sideCounts : Nat → Int32) (f_yardSums : Nat → Int32) (p_first : Int32) (p_second : Int32) (p_needed : Int32) (x5 : Int32) : Prop :=
∃ I : Nat → Int32 → Int32 → Int32 → Int32 → Prop, (∃ n, I n p_first p_second p_needed x5) ∧ ∀ n p_first p_second p_needed x5, I n p_first p_second p_needed x5 → bd_X5_findSecond_14 Q  (fun p_first' p_second' p_needed' x5' => ∃ n', n' < n ∧ I n' p_first' p_second' p_needed' x5') p2 p3 x4 f_needs f_sideCounts f_yardSums p_first p_second p_needed x5
def wp_X5_findSecond (p2 : Int32) (p3 : Int32) (p_first : Int32) (p_second : Int32) (p_needed : Int32) (f_all : Int32) (f_needs : Nat → Int32) (f_sideCounts : Nat → Int32) (f_yardSums : Nat → Int32) (Q : Int32 × Int32 × Int32 → Prop) : Prop :=
∀ y1 : Int32, y1 = (f_all &&& (p2 ^^^ (-1))) →
lp_X5_findSecond_14 Q p2 p3 y1 f_needs f_sideCounts f_yardSums p_first p_second p_needed y1
set_option maxHeartbeats 4000000 in
set_option maxRecDepth 100000 in
theorem J_X5_findSecond_109 {x : CX} {D : DG} {cyI cyJ cyZ : ClassId} {a_p a_f a_f_needs a_f_sideCounts a_f_yardSums a_f_beside : Nat} {p_first : Int32} {p_second : Int32} {p_needed : Int32} {f_all : Int32} {f_wanted : Int32} {f_mostSides : Int32} {f_needs : Nat → Int32} {f_sideCounts : Nat → Int32} {f_yardSums : Nat → Int32} {f_beside : Nat → Int32} {p2 : Int32} {p3 : Int32} {x4 : Int32} {x5 : Int32} {Q : Int32 × Int32 × Int32 → Prop} {B14 : Int32 → Int32 → Int32 → Int32 → Prop} (cx : Cx x cX5_findSecond 7 RX5 rm_X5_findSecond D [(cyI, .int), (cyJ, .long), (cyZ, .boolean)]) (hR : ∀ (u : Int32 × Int32 × Int32) (pc : Nat) (lv : List (Nat × Value)), decode cX5_findSecond pc = .ok (.return_, 1) → Q u → J x 0 0 7 (W_Pair cyI cyJ cyZ a_p a_f a_f_needs a_f_sideCounts a_f_yardSums a_f_beside u.1 u.2.1 u.2.2 f_all f_wanted f_mostSides f_needs f_sideCounts f_yardSums f_beside) lv pc []) (hB14 : ∀ (p_first : Int32) (p_second : Int32) (p_needed : Int32) (x5 : Int32), B14 p_first p_second p_needed x5 → J x 0 0 7 (W_Pair cyI cyJ cyZ a_p a_f a_f_needs a_f_sideCounts a_f_yardSums a_f_beside p_first p_second p_needed f_all f_wanted f_mostSides f_needs f_sideCounts f_yardSums f_beside) [(0, .ref a_p), (1, .ref a_f), (2, .int p2), (3, .int p3), (4, .int x4), (5, .int x5)] 14 []) (h : bk_X5_findSecond_109 Q B14 x4 x5 p_first p_second p_needed) :
    J x 0 0 7 (W_Pair cyI cyJ cyZ a_p a_f a_f_needs a_f_sideCounts a_f_yardSums a_f_beside p_first p_second p_needed f_all f_wanted f_mostSides f_needs f_sideCounts f_yardSums f_beside) [(0, .ref a_p), (1, .ref a_f), (2, .int p2), (3, .int p3), (4, .int x4), (5, .int x5)] 109 [] := by
  unfold bk_X5_findSecond_109 at h
  refine j_iload cx 5 rfl dX5_findSecond_109 (pn := 111) rfl ?_
  refine j_iconst cx (v := 1) (by decide) dX5_findSecond_111 (pn := 112) rfl ?_
  refine j_isub cx dX5_findSecond_112 (pn := 113) rfl ?_
  refine j_iload cx 4 rfl dX5_findSecond_113 (pn := 115) rfl ?_
  refine j_iand cx dX5_findSecond_115 (pn := 116) rfl ?_
  refine j_topi (fun y5 ey5 => ?_)
  have h := h y5 ey5
  refine j_istore cx [(5, .int y5), (0, .ref a_p), (1, .ref a_f), (2, .int p2), (3, .int p3), (4, .int x4)] (by decide) rfl dX5_findSecond_116 (pn := 118) rfl ?_
  refine j_goto cx 14 dX5_findSecond_118 rfl ?_
  refine j_sub [1, 2, 3, 4, 5, 0] [(0, .ref a_p), (1, .ref a_f), (2, .int p2), (3, .int p3), (4, .int x4), (5, .int y5)] rfl ?_
  exact hB14 _ _ _ _ h
set_option maxHeartbeats 4000000 in
set_option maxRecDepth 100000 in
theorem J_X5_findSecond_92 {x : CX} {D : DG} {cyI cyJ cyZ : ClassId} {a_p a_f a_f_needs a_f_sideCounts a_f_yardSums a_f_beside : Nat} {p_first : Int32} {p_second : Int32} {p_needed : Int32} {f_all : Int32} {f_wanted : Int32} {f_mostSides : Int32} {f_needs : Nat → Int32} {f_sideCounts : Nat → Int32} {f_yardSums : Nat → Int32} {f_beside : Nat → Int32} {p2 : Int32} {p3 : Int32} {x4 : Int32} {x5 : Int32} {x6 : Int32} {Q : Int32 × Int32 × Int32 → Prop} {B14 : Int32 → Int32 → Int32 → Int32 → Prop} (cx : Cx x cX5_findSecond 7 RX5 rm_X5_findSecond D [(cyI, .int), (cyJ, .long), (cyZ, .boolean)]) (hR : ∀ (u : Int32 × Int32 × Int32) (pc : Nat) (lv : List (Nat × Value)), decode cX5_findSecond pc = .ok (.return_, 1) → Q u → J x 0 0 7 (W_Pair cyI cyJ cyZ a_p a_f a_f_needs a_f_sideCounts a_f_yardSums a_f_beside u.1 u.2.1 u.2.2 f_all f_wanted f_mostSides f_needs f_sideCounts f_yardSums f_beside) lv pc []) (hB14 : ∀ (p_first : Int32) (p_second : Int32) (p_needed : Int32) (x5 : Int32), B14 p_first p_second p_needed x5 → J x 0 0 7 (W_Pair cyI cyJ cyZ a_p a_f a_f_needs a_f_sideCounts a_f_yardSums a_f_beside p_first p_second p_needed f_all f_wanted f_mostSides f_needs f_sideCounts f_yardSums f_beside) [(0, .ref a_p), (1, .ref a_f), (2, .int p2), (3, .int p3), (4, .int x4), (5, .int x5)] 14 []) (h : bk_X5_findSecond_92 Q B14 p2 x4 x5 x6) :
    J x 0 0 7 (W_Pair cyI cyJ cyZ a_p a_f a_f_needs a_f_sideCounts a_f_yardSums a_f_beside p_first p_second p_needed f_all f_wanted f_mostSides f_needs f_sideCounts f_yardSums f_beside) [(0, .ref a_p), (1, .ref a_f), (2, .int p2), (3, .int p3), (4, .int x4), (5, .int x5), (6, .int x6)] 92 [] := by
  unfold bk_X5_findSecond_92 at h
  refine j_aload_n cx 0 rfl rfl dX5_findSecond_92 (pn := 93) rfl ?_
  refine j_iload_n cx 2 rfl rfl dX5_findSecond_93 (pn := 94) rfl ?_
  refine j_put cx tyX5 tyX5_ok nmX5 inGX5 0 rfl rfl 0 (by decide) q_fl_X5_9 rfl rfl rfl rfl rfl (Nat.le_of_ble_eq_true rfl) (W_Pair cyI cyJ cyZ a_p a_f a_f_needs a_f_sideCounts a_f_yardSums a_f_beside p2 p_second p_needed f_all f_wanted f_mostSides f_needs f_sideCounts f_yardSums f_beside) rfl dX5_findSecond_94 (pn := 97) rfl ?_
  refine j_aload_n cx 0 rfl rfl dX5_findSecond_97 (pn := 98) rfl ?_
  refine j_iload cx 5 rfl dX5_findSecond_98 (pn := 100) rfl ?_
  refine j_put cx tyX5 tyX5_ok nmX5 inGX5 0 rfl rfl 1 (by decide) q_fl_X5_15 rfl rfl rfl rfl rfl (Nat.le_of_ble_eq_true rfl) (W_Pair cyI cyJ cyZ a_p a_f a_f_needs a_f_sideCounts a_f_yardSums a_f_beside p2 x5 p_needed f_all f_wanted f_mostSides f_needs f_sideCounts f_yardSums f_beside) rfl dX5_findSecond_100 (pn := 103) rfl ?_
  refine j_aload_n cx 0 rfl rfl dX5_findSecond_103 (pn := 104) rfl ?_
  refine j_iload cx 6 rfl dX5_findSecond_104 (pn := 106) rfl ?_
  refine j_put cx tyX5 tyX5_ok nmX5 inGX5 0 rfl rfl 2 (by decide) q_fl_X5_18 rfl rfl rfl rfl rfl (Nat.le_of_ble_eq_true rfl) (W_Pair cyI cyJ cyZ a_p a_f a_f_needs a_f_sideCounts a_f_yardSums a_f_beside p2 x5 x6 f_all f_wanted f_mostSides f_needs f_sideCounts f_yardSums f_beside) rfl dX5_findSecond_106 (pn := 109) rfl ?_
  refine j_sub [0, 1, 2, 3, 4, 5] [(0, .ref a_p), (1, .ref a_f), (2, .int p2), (3, .int p3), (4, .int x4), (5, .int x5)] rfl ?_
  exact J_X5_findSecond_109 cx hR hB14 h
set_option maxHeartbeats 4000000 in
set_option maxRecDepth 100000 in
theorem B_X5_findSecond_14 {x : CX} {D : DG} {cyI cyJ cyZ : ClassId} {a_p a_f a_f_needs a_f_sideCounts a_f_yardSums a_f_beside : Nat} {p_first : Int32} {p_second : Int32} {p_needed : Int32} {f_all : Int32} {f_wanted : Int32} {f_mostSides : Int32} {f_needs : Nat → Int32} {f_sideCounts : Nat → Int32} {f_yardSums : Nat → Int32} {f_beside : Nat → Int32} {p2 : Int32} {p3 : Int32} {x4 : Int32} {x5 : Int32} {Q : Int32 × Int32 × Int32 → Prop} {B14 : Int32 → Int32 → Int32 → Int32 → Prop} (cx : Cx x cX5_findSecond 7 RX5 rm_X5_findSecond D [(cyI, .int), (cyJ, .long), (cyZ, .boolean)]) (hR : ∀ (u : Int32 × Int32 × Int32) (pc : Nat) (lv : List (Nat × Value)), decode cX5_findSecond pc = .ok (.return_, 1) → Q u → J x 0 0 7 (W_Pair cyI cyJ cyZ a_p a_f a_f_needs a_f_sideCounts a_f_yardSums a_f_beside u.1 u.2.1 u.2.2 f_all f_wanted f_mostSides f_needs f_sideCounts f_yardSums f_beside) lv pc []) (hB14 : ∀ (p_first : Int32) (p_second : Int32) (p_needed : Int32) (x5 : Int32), B14 p_first p_second p_needed x5 → J x 0 0 7 (W_Pair cyI cyJ cyZ a_p a_f a_f_needs a_f_sideCounts a_f_yardSums a_f_beside p_first p_second p_needed f_all f_wanted f_mostSides f_needs f_sideCounts f_yardSums f_beside) [(0, .ref a_p), (1, .ref a_f), (2, .int p2), (3, .int p3), (4, .int x4), (5, .int x5)] 14 []) (h : bd_X5_findSecond_14 Q B14 p2 p3 x4 f_needs f_sideCounts f_yardSums p_first p_second p_needed x5) :
    J x 0 0 7 (W_Pair cyI cyJ cyZ a_p a_f a_f_needs a_f_sideCounts a_f_yardSums a_f_beside p_first p_second p_needed f_all f_wanted f_mostSides f_needs f_sideCounts f_yardSums f_beside) [(0, .ref a_p), (1, .ref a_f), (2, .int p2), (3, .int p3), (4, .int x4), (5, .int x5)] 14 [] := by
  unfold bd_X5_findSecond_14 at h
  refine j_iload cx 5 rfl dX5_findSecond_14 (pn := 16) rfl ?_
  refine j_if_le cx 121 dX5_findSecond_16 (pn := 19) rfl rfl (fun c2 => ?_) (fun c2 => ?_)
  · have h := h.1 c2
    exact hR (p_first, p_second, p_needed) 121 _ dX5_findSecond_121 h
  · have h := h.2 c2
    refine j_aload_n cx 1 rfl rfl dX5_findSecond_19 (pn := 20) rfl ?_
    refine j_iload cx 5 rfl dX5_findSecond_20 (pn := 22) rfl ?_
    refine j_callvI cx q_inst_X3_isFold q_sel_X3_isFold (b := a_f) (As := [.int x5]) (rest := []) (W_FT cyI cyJ cyZ a_f a_f_needs a_f_sideCounts a_f_yardSums a_f_beside f_all f_wanted f_mostSides f_needs f_sideCounts f_yardSums f_beside) [(a_p, .inr (5, [.int p_first, .int p_second, .int p_needed]))] (c_X3_isFold h) ⟨q_code_X3_isFold, q_ml_X5_26, q_init_X3, hd_X3_isFold, ⟨Nat.le_of_ble_eq_true rfl, Nat.le_of_ble_eq_true rfl⟩, Nat.le_of_ble_eq_true rfl, Nat.le_of_ble_eq_true rfl⟩ (q0 := 0) rfl rfl rfl [1, 2, 3, 4, 5] [0] [0, 1, 2, 3, 4, 5] rfl rfl rfl rfl rfl (by decide) (fun _ : Unit => (W_Pair cyI cyJ cyZ a_p a_f a_f_needs a_f_sideCounts a_f_yardSums a_f_beside p_first p_second p_needed f_all f_wanted f_mostSides f_needs f_sideCounts f_yardSums f_beside)) (fun _ => rfl) (fun _ => rfl) rfl rfl (Nat.le_of_ble_eq_true rfl) dX5_findSecond_22 (pn := 25) rfl (fun r3 _ h => ?_)
    show J x 0 0 7 (W_Pair cyI cyJ cyZ a_p a_f a_f_needs a_f_sideCounts a_f_yardSums a_f_beside p_first p_second p_needed f_all f_wanted f_mostSides f_needs f_sideCounts f_yardSums f_beside) [(0, .ref a_p), (1, .ref a_f), (2, .int p2), (3, .int p3), (4, .int x4), (5, .int x5)] 25 [.int r3]
    refine j_if_eq cx 109 dX5_findSecond_25 (pn := 28) rfl rfl (fun c4 => ?_) (fun c4 => ?_)
    · have h := h.1 c4
      exact J_X5_findSecond_109 cx hR hB14 h
    · have h := h.2 c4
      refine j_aload_n cx 1 rfl rfl dX5_findSecond_28 (pn := 29) rfl ?_
      refine j_getN cx inGX3 1 rfl rfl 2 (by decide) q_fl_X5_30 rfl rfl dX5_findSecond_29 (pn := 32) rfl ?_
      refine j_iload cx 5 rfl dX5_findSecond_32 (pn := 34) rfl ?_
      refine j_iald cx 4 0 rfl rfl h.1 dX5_findSecond_34 (pn := 35) rfl ?_
      have h := h.2
      refine j_iload_n cx 3 rfl rfl dX5_findSecond_35 (pn := 36) rfl ?_
      refine j_icmp_lt cx 109 dX5_findSecond_36 (pn := 39) rfl rfl (fun c6 => ?_) (fun c6 => ?_)
      · have h := h.1 c6
        exact J_X5_findSecond_109 cx hR hB14 h
      · have h := h.2 c6
        refine j_aload_n cx 1 rfl rfl dX5_findSecond_39 (pn := 40) rfl ?_
        refine j_getN cx inGX3 1 rfl rfl 0 (by decide) q_fl_X5_38 rfl rfl dX5_findSecond_40 (pn := 43) rfl ?_
        refine j_iload_n cx 2 rfl rfl dX5_findSecond_43 (pn := 44) rfl ?_
        refine j_iald cx 2 0 rfl rfl h.1 dX5_findSecond_44 (pn := 45) rfl ?_
        have h := h.2
        refine j_aload_n cx 1 rfl rfl dX5_findSecond_45 (pn := 46) rfl ?_
        refine j_getN cx inGX3 1 rfl rfl 0 (by decide) q_fl_X5_38 rfl rfl dX5_findSecond_46 (pn := 49) rfl ?_
        refine j_iload cx 5 rfl dX5_findSecond_49 (pn := 51) rfl ?_
        refine j_iald cx 2 0 rfl rfl h.1 dX5_findSecond_51 (pn := 52) rfl ?_
        have h := h.2
        refine j_ior cx dX5_findSecond_52 (pn := 53) rfl ?_
        refine j_calleI cx q_stat_J6_bitCount_0f7a4 (As := [.int ((f_needs p2.toNatClampNeg) ||| (f_needs x5.toNatClampNeg))]) (rest := []) (c_J6_bitCount_0f7a4 h) ⟨q_code_J6_bitCount_0f7a4, q_ml_X5_41, q_init_J6, hd_J6_bitCount_0f7a4, ⟨Nat.le_of_ble_eq_true rfl, Nat.le_of_ble_eq_true rfl⟩, Nat.le_of_ble_eq_true rfl, Nat.le_of_ble_eq_true rfl⟩ rfl rfl (Nat.le_of_ble_eq_true rfl) dX5_findSecond_53 (pn := 56) rfl (fun r7 h => ?_)
        show J x 0 0 7 (W_Pair cyI cyJ cyZ a_p a_f a_f_needs a_f_sideCounts a_f_yardSums a_f_beside p_first p_second p_needed f_all f_wanted f_mostSides f_needs f_sideCounts f_yardSums f_beside) [(0, .ref a_p), (1, .ref a_f), (2, .int p2), (3, .int p3), (4, .int x4), (5, .int x5)] 56 [.int r7]
        refine j_istore cx [(6, .int r7), (0, .ref a_p), (1, .ref a_f), (2, .int p2), (3, .int p3), (4, .int x4), (5, .int x5)] (by decide) rfl dX5_findSecond_56 (pn := 58) rfl ?_
        refine j_aload_n cx 1 rfl rfl dX5_findSecond_58 (pn := 59) rfl ?_
        refine j_get cx inGX5 0 rfl rfl 2 (by decide) q_fl_X5_18 rfl rfl dX5_findSecond_59 (pn := 62) rfl ?_
        refine j_iconst cx (v := (-1)) (by decide) dX5_findSecond_62 (pn := 63) rfl ?_
        refine j_icmp_eq cx 92 dX5_findSecond_63 (pn := 66) rfl rfl (fun c8 => ?_) (fun c8 => ?_)
        · have h := h.1 c8
          refine j_sub [1, 2, 3, 4, 5, 6, 0] [(0, .ref a_p), (1, .ref a_f), (2, .int p2), (3, .int p3), (4, .int x4), (5, .int x5), (6, .int r7)] rfl ?_
          exact J_X5_findSecond_92 cx hR hB14 h
        · have h := h.2 c8
          refine j_iload cx 0 rfl dX5_findSecond_66 (pn := 68) rfl ?_
          refine j_aload_n cx 1 rfl rfl dX5_findSecond_68 (pn := 69) rfl ?_
          refine j_get cx inGX5 0 rfl rfl 2 (by decide) q_fl_X5_18 rfl rfl dX5_findSecond_69 (pn := 72) rfl ?_
          refine j_icmp_lt cx 92 dX5_findSecond_72 (pn := 75) rfl rfl (fun c9 => ?_) (fun c9 => ?_)
          · have h := h.1 c9
            refine j_sub [1, 2, 3, 4, 5, 6, 0] [(0, .ref a_p), (1, .ref a_f), (2, .int p2), (3, .int p3), (4, .int x4), (5, .int x5), (6, .int r7)] rfl ?_
            exact J_X5_findSecond_92 cx hR hB14 h
          · have h := h.2 c9
            refine j_iload cx 0 rfl dX5_findSecond_75 (pn := 77) rfl ?_
            refine j_aload_n cx 1 rfl rfl dX5_findSecond_77 (pn := 78) rfl ?_
            refine j_get cx inGX5 0 rfl rfl 2 (by decide) q_fl_X5_18 rfl rfl dX5_findSecond_78 (pn := 81) rfl ?_
            refine j_icmp_ne cx 109 dX5_findSecond_81 (pn := 84) rfl rfl (fun c10 => ?_) (fun c10 => ?_)
            · have h := h.1 c10
              refine j_sub [1, 2, 3, 4, 5, 6] [(0, .ref a_p), (1, .ref a_f), (2, .int p2), (3, .int p3), (4, .int x4), (5, .int x5)] rfl ?_
              exact J_X5_findSecond_109 cx hR hB14 h
            · have h := h.2 c10
              refine j_aload_n cx 1 rfl rfl dX5_findSecond_84 (pn := 85) rfl ?_
              refine j_get cx inGX5 0 rfl rfl 0 (by decide) q_fl_X5_9 rfl rfl dX5_findSecond_85 (pn := 88) rfl ?_
              refine j_iload_n cx 3 rfl rfl dX5_findSecond_88 (pn := 89) rfl ?_
              refine j_icmp_ne cx 109 dX5_findSecond_89 (pn := 92) rfl rfl (fun c11 => ?_) (fun c11 => ?_)
              · have h := h.1 c11
                refine j_sub [1, 2, 3, 4, 5, 6] [(0, .ref a_p), (1, .ref a_f), (2, .int p2), (3, .int p3), (4, .int x4), (5, .int x5)] rfl ?_
                exact J_X5_findSecond_109 cx hR hB14 h
              · have h := h.2 c11
                refine j_sub [1, 2, 3, 4, 5, 6, 0] [(0, .ref a_p), (1, .ref a_f), (2, .int p2), (3, .int p3), (4, .int x4), (5, .int x5), (6, .int r7)] rfl ?_
                exact J_X5_findSecond_92 cx hR hB14 h
set_option maxHeartbeats 4000000 in
set_option maxRecDepth 100000 in
theorem J_X5_findSecond_14 {x : CX} {D : DG} {cyI cyJ cyZ : ClassId} {a_p a_f a_f_needs a_f_sideCounts a_f_yardSums a_f_beside : Nat} {p_first : Int32} {p_second : Int32} {p_needed : Int32} {f_all : Int32} {f_wanted : Int32} {f_mostSides : Int32} {f_needs : Nat → Int32} {f_sideCounts : Nat → Int32} {f_yardSums : Nat → Int32} {f_beside : Nat → Int32} {p2 : Int32} {p3 : Int32} {x4 : Int32} {x5 : Int32} {Q : Int32 × Int32 × Int32 → Prop} (cx : Cx x cX5_findSecond 7 RX5 rm_X5_findSecond D [(cyI, .int), (cyJ, .long), (cyZ, .boolean)]) (hR : ∀ (u : Int32 × Int32 × Int32) (pc : Nat) (lv : List (Nat × Value)), decode cX5_findSecond pc = .ok (.return_, 1) → Q u → J x 0 0 7 (W_Pair cyI cyJ cyZ a_p a_f a_f_needs a_f_sideCounts a_f_yardSums a_f_beside u.1 u.2.1 u.2.2 f_all f_wanted f_mostSides f_needs f_sideCounts f_yardSums f_beside) lv pc []) (h : lp_X5_findSecond_14 Q  p2 p3 x4 f_needs f_sideCounts f_yardSums p_first p_second p_needed x5) :
    J x 0 0 7 (W_Pair cyI cyJ cyZ a_p a_f a_f_needs a_f_sideCounts a_f_yardSums a_f_beside p_first p_second p_needed f_all f_wanted f_mostSides f_needs f_sideCounts f_yardSums f_beside) [(0, .ref a_p), (1, .ref a_f), (2, .int p2), (3, .int p3), (4, .int x4), (5, .int x5)] 14 [] := by
  obtain ⟨I, ⟨n, h0⟩, hb⟩ := h
  revert p_first p_second p_needed x5
  induction n using Nat.strongRecOn with
  | _ n ih =>
    intro p_first p_second p_needed x5 h0
    exact B_X5_findSecond_14 cx hR (fun _ _ _ _ hz => by obtain ⟨n2, hlt, hI⟩ := hz; exact ih n2 hlt hI) (hb n p_first p_second p_needed x5 h0)
set_option maxHeartbeats 4000000 in
set_option maxRecDepth 100000 in
theorem c_X5_findSecond {D : DG} {cyI cyJ cyZ : ClassId} {a_p a_f a_f_needs a_f_sideCounts a_f_yardSums a_f_beside : Nat} {p_first : Int32} {p_second : Int32} {p_needed : Int32} {f_all : Int32} {f_wanted : Int32} {f_mostSides : Int32} {f_needs : Nat → Int32} {f_sideCounts : Nat → Int32} {f_yardSums : Nat → Int32} {f_beside : Nat → Int32} {p2 : Int32} {p3 : Int32} {Q : Int32 × Int32 × Int32 → Prop} (h : wp_X5_findSecond p2 p3 p_first p_second p_needed f_all f_needs f_sideCounts f_yardSums Q) :
    MetV yX5_findSecond cX5_findSecond 7 (none) rm_X5_findSecond D [(cyI, .int), (cyJ, .long), (cyZ, .boolean)] [.ref a_p, .ref a_f, .int p2, .int p3] (W_Pair cyI cyJ cyZ a_p a_f a_f_needs a_f_sideCounts a_f_yardSums a_f_beside p_first p_second p_needed f_all f_wanted f_mostSides f_needs f_sideCounts f_yardSums f_beside) (fun u : Int32 × Int32 × Int32 => (W_Pair cyI cyJ cyZ a_p a_f a_f_needs a_f_sideCounts a_f_yardSums a_f_beside u.1 u.2.1 u.2.2 f_all f_wanted f_mostSides f_needs f_sideCounts f_yardSums f_beside)) (fun u => Q u) := by
  unfold wp_X5_findSecond at h
  refine metV_of (by decide) (Nat.le_of_ble_eq_true rfl) (fun x cx0 hR0 => ?_)
  have cx : Cx x cX5_findSecond 7 RX5 rm_X5_findSecond D [(cyI, .int), (cyJ, .long), (cyZ, .boolean)] := cx0
  have hR : ∀ (u : Int32 × Int32 × Int32) (pc : Nat) (lv : List (Nat × Value)), decode cX5_findSecond pc = .ok (.return_, 1) → Q u → J x 0 0 7 (W_Pair cyI cyJ cyZ a_p a_f a_f_needs a_f_sideCounts a_f_yardSums a_f_beside u.1 u.2.1 u.2.2 f_all f_wanted f_mostSides f_needs f_sideCounts f_yardSums f_beside) lv pc [] := (fun u pc lv d hq => hR0 u pc lv d hq)
  show J x 0 0 7 (W_Pair cyI cyJ cyZ a_p a_f a_f_needs a_f_sideCounts a_f_yardSums a_f_beside p_first p_second p_needed f_all f_wanted f_mostSides f_needs f_sideCounts f_yardSums f_beside) [(0, .ref a_p), (1, .ref a_f), (2, .int p2), (3, .int p3)] 0 []
  refine j_aload_n cx 1 rfl rfl dX5_findSecond_0 (pn := 1) rfl ?_
  refine j_getN cx inGX3 1 rfl rfl 4 (by decide) q_fl_X5_21 rfl rfl dX5_findSecond_1 (pn := 4) rfl ?_
  refine j_iload_n cx 2 rfl rfl dX5_findSecond_4 (pn := 5) rfl ?_
  refine j_iconst cx (v := (-1)) (by decide) dX5_findSecond_5 (pn := 6) rfl ?_
  refine j_ixor cx dX5_findSecond_6 (pn := 7) rfl ?_
  refine j_iand cx dX5_findSecond_7 (pn := 8) rfl ?_
  refine j_topi (fun y1 ey1 => ?_)
  have h := h y1 ey1
  refine j_istore cx [(4, .int y1), (0, .ref a_p), (1, .ref a_f), (2, .int p2), (3, .int p3)] (by decide) rfl dX5_findSecond_8 (pn := 10) rfl ?_
  refine j_iload cx 0 rfl dX5_findSecond_10 (pn := 12) rfl ?_
  refine j_istore cx [(5, .int y1), (4, .int y1), (0, .ref a_p), (1, .ref a_f), (2, .int p2), (3, .int p3)] (by decide) rfl dX5_findSecond_12 (pn := 14) rfl ?_
  refine j_sub [2, 3, 4, 5, 1, 0] [(0, .ref a_p), (1, .ref a_f), (2, .int p2), (3, .int p3), (4, .int y1), (5, .int y1)] rfl ?_
  exact J_X5_findSecond_14 cx hR h
theorem dX5_find_0 : decode cX5_find 0 = .ok (.aload_n 0, 1) := by decide +kernel
theorem dX5_find_1 : decode cX5_find 1 = .ok (.iconst (-1), 1) := by decide +kernel
theorem dX5_find_2 : decode cX5_find 2 = .ok (.putfield 9, 3) := by decide +kernel
theorem dX5_find_5 : decode cX5_find 5 = .ok (.aload_n 0, 1) := by decide +kernel
theorem dX5_find_6 : decode cX5_find 6 = .ok (.iconst (-1), 1) := by decide +kernel
theorem dX5_find_7 : decode cX5_find 7 = .ok (.putfield 15, 3) := by decide +kernel
theorem dX5_find_10 : decode cX5_find 10 = .ok (.aload_n 0, 1) := by decide +kernel
theorem dX5_find_11 : decode cX5_find 11 = .ok (.iconst (-1), 1) := by decide +kernel
theorem dX5_find_12 : decode cX5_find 12 = .ok (.putfield 18, 3) := by decide +kernel
theorem dX5_find_15 : decode cX5_find 15 = .ok (.iconst 1, 1) := by decide +kernel
theorem dX5_find_16 : decode cX5_find 16 = .ok (.istore 4, 2) := by decide +kernel
theorem dX5_find_18 : decode cX5_find 18 = .ok (.iload 4, 2) := by decide +kernel
theorem dX5_find_20 : decode cX5_find 20 = .ok (.aload_n 1, 1) := by decide +kernel
theorem dX5_find_21 : decode cX5_find 21 = .ok (.getfield 21, 3) := by decide +kernel
theorem dX5_find_24 : decode cX5_find 24 = .ok (.if_icmp .gt 37, 3) := by decide +kernel
theorem dX5_find_27 : decode cX5_find 27 = .ok (.aload_n 1, 1) := by decide +kernel
theorem dX5_find_28 : decode cX5_find 28 = .ok (.iload 4, 2) := by decide +kernel
theorem dX5_find_30 : decode cX5_find 30 = .ok (.invokevirtual 26, 3) := by decide +kernel
theorem dX5_find_33 : decode cX5_find 33 = .ok (.ifCond .eq 22, 3) := by decide +kernel
theorem dX5_find_36 : decode cX5_find 36 = .ok (.aload_n 1, 1) := by decide +kernel
theorem dX5_find_37 : decode cX5_find 37 = .ok (.getfield 30, 3) := by decide +kernel
theorem dX5_find_40 : decode cX5_find 40 = .ok (.iload 4, 2) := by decide +kernel
theorem dX5_find_42 : decode cX5_find 42 = .ok (.iaload, 1) := by decide +kernel
theorem dX5_find_43 : decode cX5_find 43 = .ok (.iload_n 2, 1) := by decide +kernel
theorem dX5_find_44 : decode cX5_find 44 = .ok (.if_icmp .lt 11, 3) := by decide +kernel
theorem dX5_find_47 : decode cX5_find 47 = .ok (.aload_n 0, 1) := by decide +kernel
theorem dX5_find_48 : decode cX5_find 48 = .ok (.aload_n 1, 1) := by decide +kernel
theorem dX5_find_49 : decode cX5_find 49 = .ok (.iload 4, 2) := by decide +kernel
theorem dX5_find_51 : decode cX5_find 51 = .ok (.iload_n 3, 1) := by decide +kernel
theorem dX5_find_52 : decode cX5_find 52 = .ok (.invokevirtual 34, 3) := by decide +kernel
theorem dX5_find_55 : decode cX5_find 55 = .ok (.iinc 4 1, 3) := by decide +kernel
theorem dX5_find_58 : decode cX5_find 58 = .ok (.goto (-40), 3) := by decide +kernel
theorem dX5_find_61 : decode cX5_find 61 = .ok (.return_, 1) := by decide +kernel
abbrev rm_X5_find : Room := { frames := 2, cells := 0, slots := 0, locals := 47 }
theorem hd_X5_find : yX5_find.cls ≠ "java/lang/invoke/MethodHandle" ∧ yX5_find.cls ≠ "java/lang/invoke/VarHandle" ∧ (parseMethodDescriptor yX5_find.desc).map (fun d => d.parameters.length) = some 3 := by decide +kernel
def bk_X5_find_55 (Q : Int32 × Int32 × Int32 → Prop) (B18 : Int32 → Int32 → Int32 → Int32 → Prop) (x4 : Int32) (p_first : Int32) (p_second : Int32) (p_needed : Int32) : Prop :=
∀ y4 : Int32, y4 = (x4 + 1) →
B18 p_first p_second p_needed y4
def bd_X5_find_18 (Q : Int32 × Int32 × Int32 → Prop) (B18 : Int32 → Int32 → Int32 → Int32 → Prop) (p2 : Int32) (p3 : Int32) (f_all : Int32) (f_needs : Nat → Int32) (f_sideCounts : Nat → Int32) (f_yardSums : Nat → Int32) (p_first : Int32) (p_second : Int32) (p_needed : Int32) (x4 : Int32) : Prop :=
((f_all < x4 → Q (p_first, p_second, p_needed)) ∧
(¬ f_all < x4 → wp_X3_isFold x4 f_sideCounts (fun (r2 : Int32) => ((r2 = 0 → bk_X5_find_55 Q B18 x4 p_first p_second p_needed) ∧
(¬ r2 = 0 → vp_in x4 1024 ∧ (((f_yardSums x4.toNatClampNeg) < p2 → bk_X5_find_55 Q B18 x4 p_first p_second p_needed) ∧
(¬ (f_yardSums x4.toNatClampNeg) < p2 → wp_X5_findSecond x4 p3 p_first p_second p_needed f_all f_needs f_sideCounts f_yardSums (fun (u6 : Int32 × Int32 × Int32) => bk_X5_find_55 Q B18 x4 u6.1 u6.2.1 u6.2.2))))))))
def lp_X5_find_18 (Q : Int32 × Int32 × Int32 → Prop) (p2 : Int32) (p3 : Int32) (f_all : Int32) (f_needs : Nat → Int32) (f_sideCounts : Nat → Int32) (f_yardSums : Nat → Int32) (p_first : Int32) (p_second : Int32) (p_needed : Int32) (x4 : Int32) : Prop :=
∃ I : Nat → Int32 → Int32 → Int32 → Int32 → Prop, (∃ n, I n p_first p_second p_needed x4) ∧ ∀ n p_first p_second p_needed x4, I n p_first p_second p_needed x4 → bd_X5_find_18 Q  (fun p_first' p_second' p_needed' x4' => ∃ n', n' < n ∧ I n' p_first' p_second' p_needed' x4') p2 p3 f_all f_needs f_sideCounts f_yardSums p_first p_second p_needed x4
def wp_X5_find (p2 : Int32) (p3 : Int32) (f_all : Int32) (f_needs : Nat → Int32) (f_sideCounts : Nat → Int32) (f_yardSums : Nat → Int32) (Q : Int32 × Int32 × Int32 → Prop) : Prop :=
lp_X5_find_18 Q p2 p3 f_all f_needs f_sideCounts f_yardSums (-1) (-1) (-1) 1
set_option maxHeartbeats 4000000 in
set_option maxRecDepth 100000 in
theorem J_X5_find_55 {x : CX} {D : DG} {cyI cyJ cyZ : ClassId} {a_p a_f a_f_needs a_f_sideCounts a_f_yardSums a_f_beside : Nat} {p_first : Int32} {p_second : Int32} {p_needed : Int32} {f_all : Int32} {f_wanted : Int32} {f_mostSides : Int32} {f_needs : Nat → Int32} {f_sideCounts : Nat → Int32} {f_yardSums : Nat → Int32} {f_beside : Nat → Int32} {p2 : Int32} {p3 : Int32} {x4 : Int32} {Q : Int32 × Int32 × Int32 → Prop} {B18 : Int32 → Int32 → Int32 → Int32 → Prop} (cx : Cx x cX5_find 5 RX5 rm_X5_find D [(cyI, .int), (cyJ, .long), (cyZ, .boolean)]) (hR : ∀ (u : Int32 × Int32 × Int32) (pc : Nat) (lv : List (Nat × Value)), decode cX5_find pc = .ok (.return_, 1) → Q u → J x 0 0 5 (W_Pair cyI cyJ cyZ a_p a_f a_f_needs a_f_sideCounts a_f_yardSums a_f_beside u.1 u.2.1 u.2.2 f_all f_wanted f_mostSides f_needs f_sideCounts f_yardSums f_beside) lv pc []) (hB18 : ∀ (p_first : Int32) (p_second : Int32) (p_needed : Int32) (x4 : Int32), B18 p_first p_second p_needed x4 → J x 0 0 5 (W_Pair cyI cyJ cyZ a_p a_f a_f_needs a_f_sideCounts a_f_yardSums a_f_beside p_first p_second p_needed f_all f_wanted f_mostSides f_needs f_sideCounts f_yardSums f_beside) [(0, .ref a_p), (1, .ref a_f), (2, .int p2), (3, .int p3), (4, .int x4)] 18 []) (h : bk_X5_find_55 Q B18 x4 p_first p_second p_needed) :
    J x 0 0 5 (W_Pair cyI cyJ cyZ a_p a_f a_f_needs a_f_sideCounts a_f_yardSums a_f_beside p_first p_second p_needed f_all f_wanted f_mostSides f_needs f_sideCounts f_yardSums f_beside) [(0, .ref a_p), (1, .ref a_f), (2, .int p2), (3, .int p3), (4, .int x4)] 55 [] := by
  unfold bk_X5_find_55 at h
  obtain ⟨y4, ey4⟩ : ∃ z : Int32, z = x4 + 1 := ⟨_, rfl⟩
  have h := h y4 ey4
  refine j_iinc cx 4 rfl (cst := 1) (by decide) ey4 [(4, .int y4), (0, .ref a_p), (1, .ref a_f), (2, .int p2), (3, .int p3)] (by decide) rfl dX5_find_55 (pn := 58) rfl ?_
  refine j_goto cx 18 dX5_find_58 rfl ?_
  refine j_sub [1, 2, 3, 4, 0] [(0, .ref a_p), (1, .ref a_f), (2, .int p2), (3, .int p3), (4, .int y4)] rfl ?_
  exact hB18 _ _ _ _ h
set_option maxHeartbeats 4000000 in
set_option maxRecDepth 100000 in
theorem B_X5_find_18 {x : CX} {D : DG} {cyI cyJ cyZ : ClassId} {a_p a_f a_f_needs a_f_sideCounts a_f_yardSums a_f_beside : Nat} {p_first : Int32} {p_second : Int32} {p_needed : Int32} {f_all : Int32} {f_wanted : Int32} {f_mostSides : Int32} {f_needs : Nat → Int32} {f_sideCounts : Nat → Int32} {f_yardSums : Nat → Int32} {f_beside : Nat → Int32} {p2 : Int32} {p3 : Int32} {x4 : Int32} {Q : Int32 × Int32 × Int32 → Prop} {B18 : Int32 → Int32 → Int32 → Int32 → Prop} (cx : Cx x cX5_find 5 RX5 rm_X5_find D [(cyI, .int), (cyJ, .long), (cyZ, .boolean)]) (hR : ∀ (u : Int32 × Int32 × Int32) (pc : Nat) (lv : List (Nat × Value)), decode cX5_find pc = .ok (.return_, 1) → Q u → J x 0 0 5 (W_Pair cyI cyJ cyZ a_p a_f a_f_needs a_f_sideCounts a_f_yardSums a_f_beside u.1 u.2.1 u.2.2 f_all f_wanted f_mostSides f_needs f_sideCounts f_yardSums f_beside) lv pc []) (hB18 : ∀ (p_first : Int32) (p_second : Int32) (p_needed : Int32) (x4 : Int32), B18 p_first p_second p_needed x4 → J x 0 0 5 (W_Pair cyI cyJ cyZ a_p a_f a_f_needs a_f_sideCounts a_f_yardSums a_f_beside p_first p_second p_needed f_all f_wanted f_mostSides f_needs f_sideCounts f_yardSums f_beside) [(0, .ref a_p), (1, .ref a_f), (2, .int p2), (3, .int p3), (4, .int x4)] 18 []) (h : bd_X5_find_18 Q B18 p2 p3 f_all f_needs f_sideCounts f_yardSums p_first p_second p_needed x4) :
    J x 0 0 5 (W_Pair cyI cyJ cyZ a_p a_f a_f_needs a_f_sideCounts a_f_yardSums a_f_beside p_first p_second p_needed f_all f_wanted f_mostSides f_needs f_sideCounts f_yardSums f_beside) [(0, .ref a_p), (1, .ref a_f), (2, .int p2), (3, .int p3), (4, .int x4)] 18 [] := by
  unfold bd_X5_find_18 at h
  refine j_iload cx 4 rfl dX5_find_18 (pn := 20) rfl ?_
  refine j_aload_n cx 1 rfl rfl dX5_find_20 (pn := 21) rfl ?_
  refine j_getN cx inGX3 1 rfl rfl 4 (by decide) q_fl_X5_21 rfl rfl dX5_find_21 (pn := 24) rfl ?_
  refine j_icmp_gt cx 61 dX5_find_24 (pn := 27) rfl rfl (fun c1 => ?_) (fun c1 => ?_)
  · have h := h.1 c1
    exact hR (p_first, p_second, p_needed) 61 _ dX5_find_61 h
  · have h := h.2 c1
    refine j_aload_n cx 1 rfl rfl dX5_find_27 (pn := 28) rfl ?_
    refine j_iload cx 4 rfl dX5_find_28 (pn := 30) rfl ?_
    refine j_callvI cx q_inst_X3_isFold q_sel_X3_isFold (b := a_f) (As := [.int x4]) (rest := []) (W_FT cyI cyJ cyZ a_f a_f_needs a_f_sideCounts a_f_yardSums a_f_beside f_all f_wanted f_mostSides f_needs f_sideCounts f_yardSums f_beside) [(a_p, .inr (5, [.int p_first, .int p_second, .int p_needed]))] (c_X3_isFold h) ⟨q_code_X3_isFold, q_ml_X5_26, q_init_X3, hd_X3_isFold, ⟨Nat.le_of_ble_eq_true rfl, Nat.le_of_ble_eq_true rfl⟩, Nat.le_of_ble_eq_true rfl, Nat.le_of_ble_eq_true rfl⟩ (q0 := 0) rfl rfl rfl [1, 2, 3, 4, 5] [0] [0, 1, 2, 3, 4, 5] rfl rfl rfl rfl rfl (by decide) (fun _ : Unit => (W_Pair cyI cyJ cyZ a_p a_f a_f_needs a_f_sideCounts a_f_yardSums a_f_beside p_first p_second p_needed f_all f_wanted f_mostSides f_needs f_sideCounts f_yardSums f_beside)) (fun _ => rfl) (fun _ => rfl) rfl rfl (Nat.le_of_ble_eq_true rfl) dX5_find_30 (pn := 33) rfl (fun r2 _ h => ?_)
    show J x 0 0 5 (W_Pair cyI cyJ cyZ a_p a_f a_f_needs a_f_sideCounts a_f_yardSums a_f_beside p_first p_second p_needed f_all f_wanted f_mostSides f_needs f_sideCounts f_yardSums f_beside) [(0, .ref a_p), (1, .ref a_f), (2, .int p2), (3, .int p3), (4, .int x4)] 33 [.int r2]
    refine j_if_eq cx 55 dX5_find_33 (pn := 36) rfl rfl (fun c3 => ?_) (fun c3 => ?_)
    · have h := h.1 c3
      exact J_X5_find_55 cx hR hB18 h
    · have h := h.2 c3
      refine j_aload_n cx 1 rfl rfl dX5_find_36 (pn := 37) rfl ?_
      refine j_getN cx inGX3 1 rfl rfl 2 (by decide) q_fl_X5_30 rfl rfl dX5_find_37 (pn := 40) rfl ?_
      refine j_iload cx 4 rfl dX5_find_40 (pn := 42) rfl ?_
      refine j_iald cx 4 0 rfl rfl h.1 dX5_find_42 (pn := 43) rfl ?_
      have h := h.2
      refine j_iload_n cx 2 rfl rfl dX5_find_43 (pn := 44) rfl ?_
      refine j_icmp_lt cx 55 dX5_find_44 (pn := 47) rfl rfl (fun c5 => ?_) (fun c5 => ?_)
      · have h := h.1 c5
        exact J_X5_find_55 cx hR hB18 h
      · have h := h.2 c5
        refine j_aload_n cx 0 rfl rfl dX5_find_47 (pn := 48) rfl ?_
        refine j_aload_n cx 1 rfl rfl dX5_find_48 (pn := 49) rfl ?_
        refine j_iload cx 4 rfl dX5_find_49 (pn := 51) rfl ?_
        refine j_iload_n cx 3 rfl rfl dX5_find_51 (pn := 52) rfl ?_
        refine j_callvV0 cx q_inst_X5_findSecond q_sel_X5_findSecond (b := a_p) (As := [.ref a_f, .int x4, .int p3]) (rest := []) (c_X5_findSecond h) ⟨q_code_X5_findSecond, q_ml_X5_34, q_init_X5, hd_X5_findSecond, ⟨Nat.le_of_ble_eq_true rfl, Nat.le_of_ble_eq_true rfl⟩, Nat.le_of_ble_eq_true rfl, Nat.le_of_ble_eq_true rfl⟩ (q0 := 0) rfl rfl rfl rfl (Nat.le_of_ble_eq_true rfl) dX5_find_52 (pn := 55) rfl (fun u6 h => ?_)
        show J x 0 0 5 (W_Pair cyI cyJ cyZ a_p a_f a_f_needs a_f_sideCounts a_f_yardSums a_f_beside u6.1 u6.2.1 u6.2.2 f_all f_wanted f_mostSides f_needs f_sideCounts f_yardSums f_beside) [(0, .ref a_p), (1, .ref a_f), (2, .int p2), (3, .int p3), (4, .int x4)] 55 []
        exact J_X5_find_55 cx hR hB18 h
set_option maxHeartbeats 4000000 in
set_option maxRecDepth 100000 in
theorem J_X5_find_18 {x : CX} {D : DG} {cyI cyJ cyZ : ClassId} {a_p a_f a_f_needs a_f_sideCounts a_f_yardSums a_f_beside : Nat} {p_first : Int32} {p_second : Int32} {p_needed : Int32} {f_all : Int32} {f_wanted : Int32} {f_mostSides : Int32} {f_needs : Nat → Int32} {f_sideCounts : Nat → Int32} {f_yardSums : Nat → Int32} {f_beside : Nat → Int32} {p2 : Int32} {p3 : Int32} {x4 : Int32} {Q : Int32 × Int32 × Int32 → Prop} (cx : Cx x cX5_find 5 RX5 rm_X5_find D [(cyI, .int), (cyJ, .long), (cyZ, .boolean)]) (hR : ∀ (u : Int32 × Int32 × Int32) (pc : Nat) (lv : List (Nat × Value)), decode cX5_find pc = .ok (.return_, 1) → Q u → J x 0 0 5 (W_Pair cyI cyJ cyZ a_p a_f a_f_needs a_f_sideCounts a_f_yardSums a_f_beside u.1 u.2.1 u.2.2 f_all f_wanted f_mostSides f_needs f_sideCounts f_yardSums f_beside) lv pc []) (h : lp_X5_find_18 Q  p2 p3 f_all f_needs f_sideCounts f_yardSums p_first p_second p_needed x4) :
    J x 0 0 5 (W_Pair cyI cyJ cyZ a_p a_f a_f_needs a_f_sideCounts a_f_yardSums a_f_beside p_first p_second p_needed f_all f_wanted f_mostSides f_needs f_sideCounts f_yardSums f_beside) [(0, .ref a_p), (1, .ref a_f), (2, .int p2), (3, .int p3), (4, .int x4)] 18 [] := by
  obtain ⟨I, ⟨n, h0⟩, hb⟩ := h
  revert p_first p_second p_needed x4
  induction n using Nat.strongRecOn with
  | _ n ih =>
    intro p_first p_second p_needed x4 h0
    exact B_X5_find_18 cx hR (fun _ _ _ _ hz => by obtain ⟨n2, hlt, hI⟩ := hz; exact ih n2 hlt hI) (hb n p_first p_second p_needed x4 h0)
set_option maxHeartbeats 4000000 in
set_option maxRecDepth 100000 in
theorem c_X5_find {D : DG} {cyI cyJ cyZ : ClassId} {a_p a_f a_f_needs a_f_sideCounts a_f_yardSums a_f_beside : Nat} {p_first : Int32} {p_second : Int32} {p_needed : Int32} {f_all : Int32} {f_wanted : Int32} {f_mostSides : Int32} {f_needs : Nat → Int32} {f_sideCounts : Nat → Int32} {f_yardSums : Nat → Int32} {f_beside : Nat → Int32} {p2 : Int32} {p3 : Int32} {Q : Int32 × Int32 × Int32 → Prop} (h : wp_X5_find p2 p3 f_all f_needs f_sideCounts f_yardSums Q) :
    MetV yX5_find cX5_find 5 (none) rm_X5_find D [(cyI, .int), (cyJ, .long), (cyZ, .boolean)] [.ref a_p, .ref a_f, .int p2, .int p3] (W_Pair cyI cyJ cyZ a_p a_f a_f_needs a_f_sideCounts a_f_yardSums a_f_beside p_first p_second p_needed f_all f_wanted f_mostSides f_needs f_sideCounts f_yardSums f_beside) (fun u : Int32 × Int32 × Int32 => (W_Pair cyI cyJ cyZ a_p a_f a_f_needs a_f_sideCounts a_f_yardSums a_f_beside u.1 u.2.1 u.2.2 f_all f_wanted f_mostSides f_needs f_sideCounts f_yardSums f_beside)) (fun u => Q u) := by
  unfold wp_X5_find at h
  refine metV_of (by decide) (Nat.le_of_ble_eq_true rfl) (fun x cx0 hR0 => ?_)
  have cx : Cx x cX5_find 5 RX5 rm_X5_find D [(cyI, .int), (cyJ, .long), (cyZ, .boolean)] := cx0
  have hR : ∀ (u : Int32 × Int32 × Int32) (pc : Nat) (lv : List (Nat × Value)), decode cX5_find pc = .ok (.return_, 1) → Q u → J x 0 0 5 (W_Pair cyI cyJ cyZ a_p a_f a_f_needs a_f_sideCounts a_f_yardSums a_f_beside u.1 u.2.1 u.2.2 f_all f_wanted f_mostSides f_needs f_sideCounts f_yardSums f_beside) lv pc [] := (fun u pc lv d hq => hR0 u pc lv d hq)
  show J x 0 0 5 (W_Pair cyI cyJ cyZ a_p a_f a_f_needs a_f_sideCounts a_f_yardSums a_f_beside p_first p_second p_needed f_all f_wanted f_mostSides f_needs f_sideCounts f_yardSums f_beside) [(0, .ref a_p), (1, .ref a_f), (2, .int p2), (3, .int p3)] 0 []
  refine j_aload_n cx 0 rfl rfl dX5_find_0 (pn := 1) rfl ?_
  refine j_iconst cx (v := (-1)) (by decide) dX5_find_1 (pn := 2) rfl ?_
  refine j_put cx tyX5 tyX5_ok nmX5 inGX5 0 rfl rfl 0 (by decide) q_fl_X5_9 rfl rfl rfl rfl rfl (Nat.le_of_ble_eq_true rfl) (W_Pair cyI cyJ cyZ a_p a_f a_f_needs a_f_sideCounts a_f_yardSums a_f_beside (-1) p_second p_needed f_all f_wanted f_mostSides f_needs f_sideCounts f_yardSums f_beside) rfl dX5_find_2 (pn := 5) rfl ?_
  refine j_aload_n cx 0 rfl rfl dX5_find_5 (pn := 6) rfl ?_
  refine j_iconst cx (v := (-1)) (by decide) dX5_find_6 (pn := 7) rfl ?_
  refine j_put cx tyX5 tyX5_ok nmX5 inGX5 0 rfl rfl 1 (by decide) q_fl_X5_15 rfl rfl rfl rfl rfl (Nat.le_of_ble_eq_true rfl) (W_Pair cyI cyJ cyZ a_p a_f a_f_needs a_f_sideCounts a_f_yardSums a_f_beside (-1) (-1) p_needed f_all f_wanted f_mostSides f_needs f_sideCounts f_yardSums f_beside) rfl dX5_find_7 (pn := 10) rfl ?_
  refine j_aload_n cx 0 rfl rfl dX5_find_10 (pn := 11) rfl ?_
  refine j_iconst cx (v := (-1)) (by decide) dX5_find_11 (pn := 12) rfl ?_
  refine j_put cx tyX5 tyX5_ok nmX5 inGX5 0 rfl rfl 2 (by decide) q_fl_X5_18 rfl rfl rfl rfl rfl (Nat.le_of_ble_eq_true rfl) (W_Pair cyI cyJ cyZ a_p a_f a_f_needs a_f_sideCounts a_f_yardSums a_f_beside (-1) (-1) (-1) f_all f_wanted f_mostSides f_needs f_sideCounts f_yardSums f_beside) rfl dX5_find_12 (pn := 15) rfl ?_
  refine j_iconst cx (v := 1) (by decide) dX5_find_15 (pn := 16) rfl ?_
  refine j_istore cx [(4, .int 1), (0, .ref a_p), (1, .ref a_f), (2, .int p2), (3, .int p3)] (by decide) rfl dX5_find_16 (pn := 18) rfl ?_
  refine j_sub [1, 2, 3, 4, 0] [(0, .ref a_p), (1, .ref a_f), (2, .int p2), (3, .int p3), (4, .int 1)] rfl ?_
  exact J_X5_find_18 cx hR h
theorem dX9_put_0 : decode cX9_put 0 = .ok (.aload_n 0, 1) := by decide +kernel
theorem dX9_put_1 : decode cX9_put 1 = .ok (.getfield 15, 3) := by decide +kernel
theorem dX9_put_4 : decode cX9_put 4 = .ok (.bipush 10, 2) := by decide +kernel
theorem dX9_put_6 : decode cX9_put 6 = .ok (.if_icmp .ge 23, 3) := by decide +kernel
theorem dX9_put_9 : decode cX9_put 9 = .ok (.aload_n 0, 1) := by decide +kernel
theorem dX9_put_10 : decode cX9_put 10 = .ok (.getfield 9, 3) := by decide +kernel
theorem dX9_put_13 : decode cX9_put 13 = .ok (.aload_n 0, 1) := by decide +kernel
theorem dX9_put_14 : decode cX9_put 14 = .ok (.getfield 15, 3) := by decide +kernel
theorem dX9_put_17 : decode cX9_put 17 = .ok (.iload_n 1, 1) := by decide +kernel
theorem dX9_put_18 : decode cX9_put 18 = .ok (.iastore, 1) := by decide +kernel
theorem dX9_put_19 : decode cX9_put 19 = .ok (.aload_n 0, 1) := by decide +kernel
theorem dX9_put_20 : decode cX9_put 20 = .ok (.dup, 1) := by decide +kernel
theorem dX9_put_21 : decode cX9_put 21 = .ok (.getfield 15, 3) := by decide +kernel
theorem dX9_put_24 : decode cX9_put 24 = .ok (.iconst 1, 1) := by decide +kernel
theorem dX9_put_25 : decode cX9_put 25 = .ok (.iadd, 1) := by decide +kernel
theorem dX9_put_26 : decode cX9_put 26 = .ok (.putfield 15, 3) := by decide +kernel
theorem dX9_put_29 : decode cX9_put 29 = .ok (.return_, 1) := by decide +kernel
abbrev rm_X9_put : Room := { frames := 0, cells := 0, slots := 0, locals := 0 }
theorem hd_X9_put : yX9_put.cls ≠ "java/lang/invoke/MethodHandle" ∧ yX9_put.cls ≠ "java/lang/invoke/VarHandle" ∧ (parseMethodDescriptor yX9_put.desc).map (fun d => d.parameters.length) = some 1 := by decide +kernel
def wp_X9_put (p1 : Int32) (k_length : Int32) (k_order : Nat → Int32) (Q : (Int32 × (Nat → Int32)) → Prop) : Prop :=
((10 ≤ k_length → Q (k_length, k_order)) ∧
(¬ 10 ≤ k_length → vp_in k_length 10 ∧ (∀ f2 : Nat → Int32, f2 = (upd k_order k_length.toNatClampNeg p1) →
∀ y3 : Int32, y3 = (k_length + 1) →
Q (y3, f2))))
set_option maxHeartbeats 4000000 in
set_option maxRecDepth 100000 in
theorem c_X9_put {D : DG} {cyI cyJ cyZ : ClassId} {a_k a_k_order : Nat} {k_length : Int32} {k_needed : Int32} {k_lifted : Int32} {k_order : Nat → Int32} {p1 : Int32} {Q : (Int32 × (Nat → Int32)) → Prop} (h : wp_X9_put p1 k_length k_order Q) :
    MetV yX9_put cX9_put 2 (none) rm_X9_put D [(cyI, .int), (cyJ, .long), (cyZ, .boolean)] [.ref a_k, .int p1] (W_Walk cyI cyJ cyZ a_k a_k_order k_length k_needed k_lifted k_order) (fun u : Int32 × (Nat → Int32) => (W_Walk cyI cyJ cyZ a_k a_k_order u.1 k_needed k_lifted u.2)) (fun u => Q u) := by
  unfold wp_X9_put at h
  refine metV_of (by decide) (Nat.le_of_ble_eq_true rfl) (fun x cx0 hR0 => ?_)
  have cx : Cx x cX9_put 2 RX9 rm_X9_put D [(cyI, .int), (cyJ, .long), (cyZ, .boolean)] := cx0
  have hR : ∀ (u : Int32 × (Nat → Int32)) (pc : Nat) (lv : List (Nat × Value)), decode cX9_put pc = .ok (.return_, 1) → Q u → J x 0 0 2 (W_Walk cyI cyJ cyZ a_k a_k_order u.1 k_needed k_lifted u.2) lv pc [] := (fun u pc lv d hq => hR0 u pc lv d hq)
  show J x 0 0 2 (W_Walk cyI cyJ cyZ a_k a_k_order k_length k_needed k_lifted k_order) [(0, .ref a_k), (1, .int p1)] 0 []
  refine j_aload_n cx 0 rfl rfl dX9_put_0 (pn := 1) rfl ?_
  refine j_get cx inGX9 0 rfl rfl 1 (by decide) q_fl_X9_15 rfl rfl dX9_put_1 (pn := 4) rfl ?_
  refine j_bipush cx (v := 10) (by decide) dX9_put_4 (pn := 6) rfl ?_
  refine j_icmp_ge cx 29 dX9_put_6 (pn := 9) rfl rfl (fun c1 => ?_) (fun c1 => ?_)
  · have h := h.1 c1
    exact hR (k_length, k_order) 29 _ dX9_put_29 h
  · have h := h.2 c1
    refine j_aload_n cx 0 rfl rfl dX9_put_9 (pn := 10) rfl ?_
    refine j_get cx inGX9 0 rfl rfl 0 (by decide) q_fl_X9_9 rfl rfl dX9_put_10 (pn := 13) rfl ?_
    refine j_aload_n cx 0 rfl rfl dX9_put_13 (pn := 14) rfl ?_
    refine j_get cx inGX9 0 rfl rfl 1 (by decide) q_fl_X9_15 rfl rfl dX9_put_14 (pn := 17) rfl ?_
    refine j_iload_n cx 1 rfl rfl dX9_put_17 (pn := 18) rfl ?_
    have hin := h.1
    obtain ⟨f2, ef2⟩ : ∃ z, z = upd k_order k_length.toNatClampNeg p1 := ⟨_, rfl⟩
    have h := h.2 f2 ef2
    refine j_iast cx 1 0 rfl rfl hin (W_Walk cyI cyJ cyZ a_k a_k_order k_length k_needed k_lifted f2) (by subst ef2; rfl) dX9_put_18 (pn := 19) rfl ?_
    refine j_aload_n cx 0 rfl rfl dX9_put_19 (pn := 20) rfl ?_
    refine j_dup cx rfl dX9_put_20 (pn := 21) rfl ?_
    refine j_get cx inGX9 0 rfl rfl 1 (by decide) q_fl_X9_15 rfl rfl dX9_put_21 (pn := 24) rfl ?_
    refine j_iconst cx (v := 1) (by decide) dX9_put_24 (pn := 25) rfl ?_
    refine j_iadd cx dX9_put_25 (pn := 26) rfl ?_
    refine j_topi (fun y3 ey3 => ?_)
    have h := h y3 ey3
    refine j_put cx tyX9 tyX9_ok nmX9 inGX9 0 rfl rfl 1 (by decide) q_fl_X9_15 rfl rfl rfl rfl rfl (Nat.le_of_ble_eq_true rfl) (W_Walk cyI cyJ cyZ a_k a_k_order y3 k_needed k_lifted f2) rfl dX9_put_26 (pn := 29) rfl ?_
    exact hR (y3, f2) 29 _ dX9_put_29 h
theorem dX9_goByColumns_0 : decode cX9_goByColumns 0 = .ok (.aload_n 0, 1) := by decide +kernel
theorem dX9_goByColumns_1 : decode cX9_goByColumns 1 = .ok (.iconst 0, 1) := by decide +kernel
theorem dX9_goByColumns_2 : decode cX9_goByColumns 2 = .ok (.putfield 15, 3) := by decide +kernel
theorem dX9_goByColumns_5 : decode cX9_goByColumns 5 = .ok (.iconst 0, 1) := by decide +kernel
theorem dX9_goByColumns_6 : decode cX9_goByColumns 6 = .ok (.istore_n 3, 1) := by decide +kernel
theorem dX9_goByColumns_7 : decode cX9_goByColumns 7 = .ok (.iload_n 3, 1) := by decide +kernel
theorem dX9_goByColumns_8 : decode cX9_goByColumns 8 = .ok (.iload_n 1, 1) := by decide +kernel
theorem dX9_goByColumns_9 : decode cX9_goByColumns 9 = .ok (.if_icmp .ge 49, 3) := by decide +kernel
theorem dX9_goByColumns_12 : decode cX9_goByColumns 12 = .ok (.iconst 0, 1) := by decide +kernel
theorem dX9_goByColumns_13 : decode cX9_goByColumns 13 = .ok (.istore 4, 2) := by decide +kernel
theorem dX9_goByColumns_15 : decode cX9_goByColumns 15 = .ok (.iload 4, 2) := by decide +kernel
theorem dX9_goByColumns_17 : decode cX9_goByColumns 17 = .ok (.iload_n 2, 1) := by decide +kernel
theorem dX9_goByColumns_18 : decode cX9_goByColumns 18 = .ok (.if_icmp .ge 34, 3) := by decide +kernel
theorem dX9_goByColumns_21 : decode cX9_goByColumns 21 = .ok (.aload_n 0, 1) := by decide +kernel
theorem dX9_goByColumns_22 : decode cX9_goByColumns 22 = .ok (.iload_n 1, 1) := by decide +kernel
theorem dX9_goByColumns_23 : decode cX9_goByColumns 23 = .ok (.iload_n 3, 1) := by decide +kernel
theorem dX9_goByColumns_24 : decode cX9_goByColumns 24 = .ok (.iconst 2, 1) := by decide +kernel
theorem dX9_goByColumns_25 : decode cX9_goByColumns 25 = .ok (.irem, 1) := by decide +kernel
theorem dX9_goByColumns_26 : decode cX9_goByColumns 26 = .ok (.ifCond .ne 8, 3) := by decide +kernel
theorem dX9_goByColumns_29 : decode cX9_goByColumns 29 = .ok (.iload 4, 2) := by decide +kernel
theorem dX9_goByColumns_31 : decode cX9_goByColumns 31 = .ok (.goto 9, 3) := by decide +kernel
theorem dX9_goByColumns_34 : decode cX9_goByColumns 34 = .ok (.iload_n 2, 1) := by decide +kernel
theorem dX9_goByColumns_35 : decode cX9_goByColumns 35 = .ok (.iconst 1, 1) := by decide +kernel
theorem dX9_goByColumns_36 : decode cX9_goByColumns 36 = .ok (.isub, 1) := by decide +kernel
theorem dX9_goByColumns_37 : decode cX9_goByColumns 37 = .ok (.iload 4, 2) := by decide +kernel
theorem dX9_goByColumns_39 : decode cX9_goByColumns 39 = .ok (.isub, 1) := by decide +kernel
theorem dX9_goByColumns_40 : decode cX9_goByColumns 40 = .ok (.imul, 1) := by decide +kernel
theorem dX9_goByColumns_41 : decode cX9_goByColumns 41 = .ok (.iload_n 3, 1) := by decide +kernel
theorem dX9_goByColumns_42 : decode cX9_goByColumns 42 = .ok (.iadd, 1) := by decide +kernel
theorem dX9_goByColumns_43 : decode cX9_goByColumns 43 = .ok (.invokevirtual 19, 3) := by decide +kernel
theorem dX9_goByColumns_46 : decode cX9_goByColumns 46 = .ok (.iinc 4 1, 3) := by decide +kernel
theorem dX9_goByColumns_49 : decode cX9_goByColumns 49 = .ok (.goto (-34), 3) := by decide +kernel
theorem dX9_goByColumns_52 : decode cX9_goByColumns 52 = .ok (.iinc 3 1, 3) := by decide +kernel
theorem dX9_goByColumns_55 : decode cX9_goByColumns 55 = .ok (.goto (-48), 3) := by decide +kernel
theorem dX9_goByColumns_58 : decode cX9_goByColumns 58 = .ok (.return_, 1) := by decide +kernel
abbrev rm_X9_goByColumns : Room := { frames := 1, cells := 0, slots := 0, locals := 21 }
theorem hd_X9_goByColumns : yX9_goByColumns.cls ≠ "java/lang/invoke/MethodHandle" ∧ yX9_goByColumns.cls ≠ "java/lang/invoke/VarHandle" ∧ (parseMethodDescriptor yX9_goByColumns.desc).map (fun d => d.parameters.length) = some 2 := by decide +kernel
def bk_X9_goByColumns_40 (Q : (Int32 × (Nat → Int32)) → Prop) (B7 : Int32 → (Nat → Int32) → Int32 → Prop) (B15 : Int32 → (Nat → Int32) → Int32 → Prop) (x3 : Int32) (x4 : Int32) (k_length : Int32) (k_order : Nat → Int32) (s0 : Int32) (s1 : Int32) : Prop :=
wp_X9_put ((s1 * s0) + x3) k_length k_order (fun (u5 : Int32 × (Nat → Int32)) => ∀ y6 : Int32, y6 = (x4 + 1) →
B15 u5.1 u5.2 y6)
def bd_X9_goByColumns_15 (Q : (Int32 × (Nat → Int32)) → Prop) (B7 : Int32 → (Nat → Int32) → Int32 → Prop) (B15 : Int32 → (Nat → Int32) → Int32 → Prop) (p1 : Int32) (p2 : Int32) (x3 : Int32) (k_length : Int32) (k_order : Nat → Int32) (x4 : Int32) : Prop :=
((p2 ≤ x4 → ∀ y3 : Int32, y3 = (x3 + 1) →
B7 k_length k_order y3) ∧
(¬ p2 ≤ x4 → ((¬ (x3 - x3 / 2 * 2) = 0 → bk_X9_goByColumns_40 Q B7 B15 x3 x4 k_length k_order ((p2 - 1) - x4) p1) ∧
((x3 - x3 / 2 * 2) = 0 → bk_X9_goByColumns_40 Q B7 B15 x3 x4 k_length k_order x4 p1))))
def lp_X9_goByColumns_15 (Q : (Int32 × (Nat → Int32)) → Prop) (B7 : Int32 → (Nat → Int32) → Int32 → Prop) (p1 : Int32) (p2 : Int32) (x3 : Int32) (k_length : Int32) (k_order : Nat → Int32) (x4 : Int32) : Prop :=
∃ I : Nat → Int32 → (Nat → Int32) → Int32 → Prop, (∃ n, I n k_length k_order x4) ∧ ∀ n k_length k_order x4, I n k_length k_order x4 → bd_X9_goByColumns_15 Q B7 (fun k_length' k_order' x4' => ∃ n', n' < n ∧ I n' k_length' k_order' x4') p1 p2 x3 k_length k_order x4
def bd_X9_goByColumns_7 (Q : (Int32 × (Nat → Int32)) → Prop) (B7 : Int32 → (Nat → Int32) → Int32 → Prop) (p1 : Int32) (p2 : Int32) (k_length : Int32) (k_order : Nat → Int32) (x3 : Int32) : Prop :=
((p1 ≤ x3 → Q (k_length, k_order)) ∧
(¬ p1 ≤ x3 → lp_X9_goByColumns_15 Q B7 p1 p2 x3 k_length k_order 0))
def lp_X9_goByColumns_7 (Q : (Int32 × (Nat → Int32)) → Prop) (p1 : Int32) (p2 : Int32) (k_length : Int32) (k_order : Nat → Int32) (x3 : Int32) : Prop :=
∃ I : Nat → Int32 → (Nat → Int32) → Int32 → Prop, (∃ n, I n k_length k_order x3) ∧ ∀ n k_length k_order x3, I n k_length k_order x3 → bd_X9_goByColumns_7 Q  (fun k_length' k_order' x3' => ∃ n', n' < n ∧ I n' k_length' k_order' x3') p1 p2 k_length k_order x3
def wp_X9_goByColumns (p1 : Int32) (p2 : Int32) (k_order : Nat → Int32) (Q : (Int32 × (Nat → Int32)) → Prop) : Prop :=
lp_X9_goByColumns_7 Q p1 p2 0 k_order 0
set_option maxHeartbeats 4000000 in
set_option maxRecDepth 100000 in
theorem J_X9_goByColumns_40 {x : CX} {D : DG} {cyI cyJ cyZ : ClassId} {a_k a_k_order : Nat} {k_length : Int32} {k_needed : Int32} {k_lifted : Int32} {k_order : Nat → Int32} {p1 : Int32} {p2 : Int32} {x3 : Int32} {x4 : Int32} {s0 : Int32} {s1 : Int32} {Q : (Int32 × (Nat → Int32)) → Prop} {B7 : Int32 → (Nat → Int32) → Int32 → Prop} {B15 : Int32 → (Nat → Int32) → Int32 → Prop} (cx : Cx x cX9_goByColumns 5 RX9 rm_X9_goByColumns D [(cyI, .int), (cyJ, .long), (cyZ, .boolean)]) (hR : ∀ (u : Int32 × (Nat → Int32)) (pc : Nat) (lv : List (Nat × Value)), decode cX9_goByColumns pc = .ok (.return_, 1) → Q u → J x 0 0 5 (W_Walk cyI cyJ cyZ a_k a_k_order u.1 k_needed k_lifted u.2) lv pc []) (hB7 : ∀ (k_length : Int32) (k_order : Nat → Int32) (x3 : Int32), B7 k_length k_order x3 → J x 0 0 5 (W_Walk cyI cyJ cyZ a_k a_k_order k_length k_needed k_lifted k_order) [(0, .ref a_k), (1, .int p1), (2, .int p2), (3, .int x3)] 7 []) (hB15 : ∀ (k_length : Int32) (k_order : Nat → Int32) (x4 : Int32), B15 k_length k_order x4 → J x 0 0 5 (W_Walk cyI cyJ cyZ a_k a_k_order k_length k_needed k_lifted k_order) [(0, .ref a_k), (1, .int p1), (2, .int p2), (3, .int x3), (4, .int x4)] 15 []) (h : bk_X9_goByColumns_40 Q B7 B15 x3 x4 k_length k_order s0 s1) :
    J x 0 0 5 (W_Walk cyI cyJ cyZ a_k a_k_order k_length k_needed k_lifted k_order) [(0, .ref a_k), (1, .int p1), (2, .int p2), (3, .int x3), (4, .int x4)] 40 [.int s0, .int s1, .ref a_k] := by
  unfold bk_X9_goByColumns_40 at h
  refine j_imul cx dX9_goByColumns_40 (pn := 41) rfl ?_
  refine j_iload_n cx 3 rfl rfl dX9_goByColumns_41 (pn := 42) rfl ?_
  refine j_iadd cx dX9_goByColumns_42 (pn := 43) rfl ?_
  refine j_callvV0 cx q_inst_X9_put q_sel_X9_put (b := a_k) (As := [.int ((s1 * s0) + x3)]) (rest := []) (c_X9_put h) ⟨q_code_X9_put, q_ml_X9_19, q_init_X9, hd_X9_put, ⟨Nat.le_of_ble_eq_true rfl, Nat.le_of_ble_eq_true rfl⟩, Nat.le_of_ble_eq_true rfl, Nat.le_of_ble_eq_true rfl⟩ (q0 := 0) rfl rfl rfl rfl (Nat.le_of_ble_eq_true rfl) dX9_goByColumns_43 (pn := 46) rfl (fun u5 h => ?_)
  show J x 0 0 5 (W_Walk cyI cyJ cyZ a_k a_k_order u5.1 k_needed k_lifted u5.2) [(0, .ref a_k), (1, .int p1), (2, .int p2), (3, .int x3), (4, .int x4)] 46 []
  obtain ⟨y6, ey6⟩ : ∃ z : Int32, z = x4 + 1 := ⟨_, rfl⟩
  have h := h y6 ey6
  refine j_iinc cx 4 rfl (cst := 1) (by decide) ey6 [(4, .int y6), (0, .ref a_k), (1, .int p1), (2, .int p2), (3, .int x3)] (by decide) rfl dX9_goByColumns_46 (pn := 49) rfl ?_
  refine j_goto cx 15 dX9_goByColumns_49 rfl ?_
  refine j_sub [1, 2, 3, 4, 0] [(0, .ref a_k), (1, .int p1), (2, .int p2), (3, .int x3), (4, .int y6)] rfl ?_
  exact hB15 _ _ _ h
set_option maxHeartbeats 4000000 in
set_option maxRecDepth 100000 in
theorem B_X9_goByColumns_15 {x : CX} {D : DG} {cyI cyJ cyZ : ClassId} {a_k a_k_order : Nat} {k_length : Int32} {k_needed : Int32} {k_lifted : Int32} {k_order : Nat → Int32} {p1 : Int32} {p2 : Int32} {x3 : Int32} {x4 : Int32} {Q : (Int32 × (Nat → Int32)) → Prop} {B7 : Int32 → (Nat → Int32) → Int32 → Prop} {B15 : Int32 → (Nat → Int32) → Int32 → Prop} (cx : Cx x cX9_goByColumns 5 RX9 rm_X9_goByColumns D [(cyI, .int), (cyJ, .long), (cyZ, .boolean)]) (hR : ∀ (u : Int32 × (Nat → Int32)) (pc : Nat) (lv : List (Nat × Value)), decode cX9_goByColumns pc = .ok (.return_, 1) → Q u → J x 0 0 5 (W_Walk cyI cyJ cyZ a_k a_k_order u.1 k_needed k_lifted u.2) lv pc []) (hB7 : ∀ (k_length : Int32) (k_order : Nat → Int32) (x3 : Int32), B7 k_length k_order x3 → J x 0 0 5 (W_Walk cyI cyJ cyZ a_k a_k_order k_length k_needed k_lifted k_order) [(0, .ref a_k), (1, .int p1), (2, .int p2), (3, .int x3)] 7 []) (hB15 : ∀ (k_length : Int32) (k_order : Nat → Int32) (x4 : Int32), B15 k_length k_order x4 → J x 0 0 5 (W_Walk cyI cyJ cyZ a_k a_k_order k_length k_needed k_lifted k_order) [(0, .ref a_k), (1, .int p1), (2, .int p2), (3, .int x3), (4, .int x4)] 15 []) (h : bd_X9_goByColumns_15 Q B7 B15 p1 p2 x3 k_length k_order x4) :
    J x 0 0 5 (W_Walk cyI cyJ cyZ a_k a_k_order k_length k_needed k_lifted k_order) [(0, .ref a_k), (1, .int p1), (2, .int p2), (3, .int x3), (4, .int x4)] 15 [] := by
  unfold bd_X9_goByColumns_15 at h
  refine j_iload cx 4 rfl dX9_goByColumns_15 (pn := 17) rfl ?_
  refine j_iload_n cx 2 rfl rfl dX9_goByColumns_17 (pn := 18) rfl ?_
  refine j_icmp_ge cx 52 dX9_goByColumns_18 (pn := 21) rfl rfl (fun c2 => ?_) (fun c2 => ?_)
  · have h := h.1 c2
    obtain ⟨y3, ey3⟩ : ∃ z : Int32, z = x3 + 1 := ⟨_, rfl⟩
    have h := h y3 ey3
    refine j_iinc cx 3 rfl (cst := 1) (by decide) ey3 [(3, .int y3), (0, .ref a_k), (1, .int p1), (2, .int p2), (4, .int x4)] (by decide) rfl dX9_goByColumns_52 (pn := 55) rfl ?_
    refine j_goto cx 7 dX9_goByColumns_55 rfl ?_
    refine j_sub [1, 2, 3, 0] [(0, .ref a_k), (1, .int p1), (2, .int p2), (3, .int y3)] rfl ?_
    exact hB7 _ _ _ h
  · have h := h.2 c2
    refine j_aload_n cx 0 rfl rfl dX9_goByColumns_21 (pn := 22) rfl ?_
    refine j_iload_n cx 1 rfl rfl dX9_goByColumns_22 (pn := 23) rfl ?_
    refine j_iload_n cx 3 rfl rfl dX9_goByColumns_23 (pn := 24) rfl ?_
    refine j_iconst cx (v := 2) (by decide) dX9_goByColumns_24 (pn := 25) rfl ?_
    refine j_irem cx (by decide) dX9_goByColumns_25 (pn := 26) rfl ?_
    refine j_if_ne cx 34 dX9_goByColumns_26 (pn := 29) rfl rfl (fun c4 => ?_) (fun c4 => ?_)
    · have h := h.1 c4
      refine j_iload_n cx 2 rfl rfl dX9_goByColumns_34 (pn := 35) rfl ?_
      refine j_iconst cx (v := 1) (by decide) dX9_goByColumns_35 (pn := 36) rfl ?_
      refine j_isub cx dX9_goByColumns_36 (pn := 37) rfl ?_
      refine j_iload cx 4 rfl dX9_goByColumns_37 (pn := 39) rfl ?_
      refine j_isub cx dX9_goByColumns_39 (pn := 40) rfl ?_
      exact J_X9_goByColumns_40 cx hR hB7 hB15 h
    · have h := h.2 c4
      refine j_iload cx 4 rfl dX9_goByColumns_29 (pn := 31) rfl ?_
      refine j_goto cx 40 dX9_goByColumns_31 rfl ?_
      exact J_X9_goByColumns_40 cx hR hB7 hB15 h
set_option maxHeartbeats 4000000 in
set_option maxRecDepth 100000 in
theorem J_X9_goByColumns_15 {x : CX} {D : DG} {cyI cyJ cyZ : ClassId} {a_k a_k_order : Nat} {k_length : Int32} {k_needed : Int32} {k_lifted : Int32} {k_order : Nat → Int32} {p1 : Int32} {p2 : Int32} {x3 : Int32} {x4 : Int32} {Q : (Int32 × (Nat → Int32)) → Prop} {B7 : Int32 → (Nat → Int32) → Int32 → Prop} (cx : Cx x cX9_goByColumns 5 RX9 rm_X9_goByColumns D [(cyI, .int), (cyJ, .long), (cyZ, .boolean)]) (hR : ∀ (u : Int32 × (Nat → Int32)) (pc : Nat) (lv : List (Nat × Value)), decode cX9_goByColumns pc = .ok (.return_, 1) → Q u → J x 0 0 5 (W_Walk cyI cyJ cyZ a_k a_k_order u.1 k_needed k_lifted u.2) lv pc []) (hB7 : ∀ (k_length : Int32) (k_order : Nat → Int32) (x3 : Int32), B7 k_length k_order x3 → J x 0 0 5 (W_Walk cyI cyJ cyZ a_k a_k_order k_length k_needed k_lifted k_order) [(0, .ref a_k), (1, .int p1), (2, .int p2), (3, .int x3)] 7 []) (h : lp_X9_goByColumns_15 Q B7 p1 p2 x3 k_length k_order x4) :
    J x 0 0 5 (W_Walk cyI cyJ cyZ a_k a_k_order k_length k_needed k_lifted k_order) [(0, .ref a_k), (1, .int p1), (2, .int p2), (3, .int x3), (4, .int x4)] 15 [] := by
  obtain ⟨I, ⟨n, h0⟩, hb⟩ := h
  revert k_length k_order x4
  induction n using Nat.strongRecOn with
  | _ n ih =>
    intro k_length k_order x4 h0
    exact B_X9_goByColumns_15 cx hR hB7 (fun _ _ _ hz => by obtain ⟨n2, hlt, hI⟩ := hz; exact ih n2 hlt hI) (hb n k_length k_order x4 h0)
set_option maxHeartbeats 4000000 in
set_option maxRecDepth 100000 in
theorem B_X9_goByColumns_7 {x : CX} {D : DG} {cyI cyJ cyZ : ClassId} {a_k a_k_order : Nat} {k_length : Int32} {k_needed : Int32} {k_lifted : Int32} {k_order : Nat → Int32} {p1 : Int32} {p2 : Int32} {x3 : Int32} {Q : (Int32 × (Nat → Int32)) → Prop} {B7 : Int32 → (Nat → Int32) → Int32 → Prop} (cx : Cx x cX9_goByColumns 5 RX9 rm_X9_goByColumns D [(cyI, .int), (cyJ, .long), (cyZ, .boolean)]) (hR : ∀ (u : Int32 × (Nat → Int32)) (pc : Nat) (lv : List (Nat × Value)), decode cX9_goByColumns pc = .ok (.return_, 1) → Q u → J x 0 0 5 (W_Walk cyI cyJ cyZ a_k a_k_order u.1 k_needed k_lifted u.2) lv pc []) (hB7 : ∀ (k_length : Int32) (k_order : Nat → Int32) (x3 : Int32), B7 k_length k_order x3 → J x 0 0 5 (W_Walk cyI cyJ cyZ a_k a_k_order k_length k_needed k_lifted k_order) [(0, .ref a_k), (1, .int p1), (2, .int p2), (3, .int x3)] 7 []) (h : bd_X9_goByColumns_7 Q B7 p1 p2 k_length k_order x3) :
    J x 0 0 5 (W_Walk cyI cyJ cyZ a_k a_k_order k_length k_needed k_lifted k_order) [(0, .ref a_k), (1, .int p1), (2, .int p2), (3, .int x3)] 7 [] := by
  unfold bd_X9_goByColumns_7 at h
  refine j_iload_n cx 3 rfl rfl dX9_goByColumns_7 (pn := 8) rfl ?_
  refine j_iload_n cx 1 rfl rfl dX9_goByColumns_8 (pn := 9) rfl ?_
  refine j_icmp_ge cx 58 dX9_goByColumns_9 (pn := 12) rfl rfl (fun c1 => ?_) (fun c1 => ?_)
  · have h := h.1 c1
    exact hR (k_length, k_order) 58 _ dX9_goByColumns_58 h
  · have h := h.2 c1
    refine j_iconst cx (v := 0) (by decide) dX9_goByColumns_12 (pn := 13) rfl ?_
    refine j_istore cx [(4, .int 0), (0, .ref a_k), (1, .int p1), (2, .int p2), (3, .int x3)] (by decide) rfl dX9_goByColumns_13 (pn := 15) rfl ?_
    refine j_sub [1, 2, 3, 4, 0] [(0, .ref a_k), (1, .int p1), (2, .int p2), (3, .int x3), (4, .int 0)] rfl ?_
    exact J_X9_goByColumns_15 cx hR hB7 h
set_option maxHeartbeats 4000000 in
set_option maxRecDepth 100000 in
theorem J_X9_goByColumns_7 {x : CX} {D : DG} {cyI cyJ cyZ : ClassId} {a_k a_k_order : Nat} {k_length : Int32} {k_needed : Int32} {k_lifted : Int32} {k_order : Nat → Int32} {p1 : Int32} {p2 : Int32} {x3 : Int32} {Q : (Int32 × (Nat → Int32)) → Prop} (cx : Cx x cX9_goByColumns 5 RX9 rm_X9_goByColumns D [(cyI, .int), (cyJ, .long), (cyZ, .boolean)]) (hR : ∀ (u : Int32 × (Nat → Int32)) (pc : Nat) (lv : List (Nat × Value)), decode cX9_goByColumns pc = .ok (.return_, 1) → Q u → J x 0 0 5 (W_Walk cyI cyJ cyZ a_k a_k_order u.1 k_needed k_lifted u.2) lv pc []) (h : lp_X9_goByColumns_7 Q  p1 p2 k_length k_order x3) :
    J x 0 0 5 (W_Walk cyI cyJ cyZ a_k a_k_order k_length k_needed k_lifted k_order) [(0, .ref a_k), (1, .int p1), (2, .int p2), (3, .int x3)] 7 [] := by
  obtain ⟨I, ⟨n, h0⟩, hb⟩ := h
  revert k_length k_order x3
  induction n using Nat.strongRecOn with
  | _ n ih =>
    intro k_length k_order x3 h0
    exact B_X9_goByColumns_7 cx hR (fun _ _ _ hz => by obtain ⟨n2, hlt, hI⟩ := hz; exact ih n2 hlt hI) (hb n k_length k_order x3 h0)
set_option maxHeartbeats 4000000 in
set_option maxRecDepth 100000 in
theorem c_X9_goByColumns {D : DG} {cyI cyJ cyZ : ClassId} {a_k a_k_order : Nat} {k_length : Int32} {k_needed : Int32} {k_lifted : Int32} {k_order : Nat → Int32} {p1 : Int32} {p2 : Int32} {Q : (Int32 × (Nat → Int32)) → Prop} (h : wp_X9_goByColumns p1 p2 k_order Q) :
    MetV yX9_goByColumns cX9_goByColumns 5 (none) rm_X9_goByColumns D [(cyI, .int), (cyJ, .long), (cyZ, .boolean)] [.ref a_k, .int p1, .int p2] (W_Walk cyI cyJ cyZ a_k a_k_order k_length k_needed k_lifted k_order) (fun u : Int32 × (Nat → Int32) => (W_Walk cyI cyJ cyZ a_k a_k_order u.1 k_needed k_lifted u.2)) (fun u => Q u) := by
  unfold wp_X9_goByColumns at h
  refine metV_of (by decide) (Nat.le_of_ble_eq_true rfl) (fun x cx0 hR0 => ?_)
  have cx : Cx x cX9_goByColumns 5 RX9 rm_X9_goByColumns D [(cyI, .int), (cyJ, .long), (cyZ, .boolean)] := cx0
  have hR : ∀ (u : Int32 × (Nat → Int32)) (pc : Nat) (lv : List (Nat × Value)), decode cX9_goByColumns pc = .ok (.return_, 1) → Q u → J x 0 0 5 (W_Walk cyI cyJ cyZ a_k a_k_order u.1 k_needed k_lifted u.2) lv pc [] := (fun u pc lv d hq => hR0 u pc lv d hq)
  show J x 0 0 5 (W_Walk cyI cyJ cyZ a_k a_k_order k_length k_needed k_lifted k_order) [(0, .ref a_k), (1, .int p1), (2, .int p2)] 0 []
  refine j_aload_n cx 0 rfl rfl dX9_goByColumns_0 (pn := 1) rfl ?_
  refine j_iconst cx (v := 0) (by decide) dX9_goByColumns_1 (pn := 2) rfl ?_
  refine j_put cx tyX9 tyX9_ok nmX9 inGX9 0 rfl rfl 1 (by decide) q_fl_X9_15 rfl rfl rfl rfl rfl (Nat.le_of_ble_eq_true rfl) (W_Walk cyI cyJ cyZ a_k a_k_order 0 k_needed k_lifted k_order) rfl dX9_goByColumns_2 (pn := 5) rfl ?_
  refine j_iconst cx (v := 0) (by decide) dX9_goByColumns_5 (pn := 6) rfl ?_
  refine j_istore_n cx rfl [(3, .int 0), (0, .ref a_k), (1, .int p1), (2, .int p2)] (by decide) rfl dX9_goByColumns_6 (pn := 7) rfl ?_
  refine j_sub [1, 2, 3, 0] [(0, .ref a_k), (1, .int p1), (2, .int p2), (3, .int 0)] rfl ?_
  exact J_X9_goByColumns_7 cx hR h
theorem dX9_goRound_0 : decode cX9_goRound 0 = .ok (.iload_n 2, 1) := by decide +kernel
theorem dX9_goRound_1 : decode cX9_goRound 1 = .ok (.istore 5, 2) := by decide +kernel
theorem dX9_goRound_3 : decode cX9_goRound 3 = .ok (.iload 5, 2) := by decide +kernel
theorem dX9_goRound_5 : decode cX9_goRound 5 = .ok (.iload_n 3, 1) := by decide +kernel
theorem dX9_goRound_6 : decode cX9_goRound 6 = .ok (.if_icmp .gt 19, 3) := by decide +kernel
theorem dX9_goRound_9 : decode cX9_goRound 9 = .ok (.aload_n 0, 1) := by decide +kernel
theorem dX9_goRound_10 : decode cX9_goRound 10 = .ok (.iload_n 1, 1) := by decide +kernel
theorem dX9_goRound_11 : decode cX9_goRound 11 = .ok (.iload_n 2, 1) := by decide +kernel
theorem dX9_goRound_12 : decode cX9_goRound 12 = .ok (.imul, 1) := by decide +kernel
theorem dX9_goRound_13 : decode cX9_goRound 13 = .ok (.iload 5, 2) := by decide +kernel
theorem dX9_goRound_15 : decode cX9_goRound 15 = .ok (.iadd, 1) := by decide +kernel
theorem dX9_goRound_16 : decode cX9_goRound 16 = .ok (.invokevirtual 19, 3) := by decide +kernel
theorem dX9_goRound_19 : decode cX9_goRound 19 = .ok (.iinc 5 1, 3) := by decide +kernel
theorem dX9_goRound_22 : decode cX9_goRound 22 = .ok (.goto (-19), 3) := by decide +kernel
theorem dX9_goRound_25 : decode cX9_goRound 25 = .ok (.iload_n 2, 1) := by decide +kernel
theorem dX9_goRound_26 : decode cX9_goRound 26 = .ok (.iconst 1, 1) := by decide +kernel
theorem dX9_goRound_27 : decode cX9_goRound 27 = .ok (.iadd, 1) := by decide +kernel
theorem dX9_goRound_28 : decode cX9_goRound 28 = .ok (.istore 5, 2) := by decide +kernel
theorem dX9_goRound_30 : decode cX9_goRound 30 = .ok (.iload 5, 2) := by decide +kernel
theorem dX9_goRound_32 : decode cX9_goRound 32 = .ok (.iload 4, 2) := by decide +kernel
theorem dX9_goRound_34 : decode cX9_goRound 34 = .ok (.if_icmp .gt 19, 3) := by decide +kernel
theorem dX9_goRound_37 : decode cX9_goRound 37 = .ok (.aload_n 0, 1) := by decide +kernel
theorem dX9_goRound_38 : decode cX9_goRound 38 = .ok (.iload_n 1, 1) := by decide +kernel
theorem dX9_goRound_39 : decode cX9_goRound 39 = .ok (.iload 5, 2) := by decide +kernel
theorem dX9_goRound_41 : decode cX9_goRound 41 = .ok (.imul, 1) := by decide +kernel
theorem dX9_goRound_42 : decode cX9_goRound 42 = .ok (.iload_n 3, 1) := by decide +kernel
theorem dX9_goRound_43 : decode cX9_goRound 43 = .ok (.iadd, 1) := by decide +kernel
theorem dX9_goRound_44 : decode cX9_goRound 44 = .ok (.invokevirtual 19, 3) := by decide +kernel
theorem dX9_goRound_47 : decode cX9_goRound 47 = .ok (.iinc 5 1, 3) := by decide +kernel
theorem dX9_goRound_50 : decode cX9_goRound 50 = .ok (.goto (-20), 3) := by decide +kernel
theorem dX9_goRound_53 : decode cX9_goRound 53 = .ok (.iload_n 3, 1) := by decide +kernel
theorem dX9_goRound_54 : decode cX9_goRound 54 = .ok (.iconst 1, 1) := by decide +kernel
theorem dX9_goRound_55 : decode cX9_goRound 55 = .ok (.isub, 1) := by decide +kernel
theorem dX9_goRound_56 : decode cX9_goRound 56 = .ok (.istore 5, 2) := by decide +kernel
theorem dX9_goRound_58 : decode cX9_goRound 58 = .ok (.iload 5, 2) := by decide +kernel
theorem dX9_goRound_60 : decode cX9_goRound 60 = .ok (.iload_n 2, 1) := by decide +kernel
theorem dX9_goRound_61 : decode cX9_goRound 61 = .ok (.if_icmp .lt 26, 3) := by decide +kernel
theorem dX9_goRound_64 : decode cX9_goRound 64 = .ok (.iload 4, 2) := by decide +kernel
theorem dX9_goRound_66 : decode cX9_goRound 66 = .ok (.iload_n 2, 1) := by decide +kernel
theorem dX9_goRound_67 : decode cX9_goRound 67 = .ok (.if_icmp .le 20, 3) := by decide +kernel
theorem dX9_goRound_70 : decode cX9_goRound 70 = .ok (.aload_n 0, 1) := by decide +kernel
theorem dX9_goRound_71 : decode cX9_goRound 71 = .ok (.iload_n 1, 1) := by decide +kernel
theorem dX9_goRound_72 : decode cX9_goRound 72 = .ok (.iload 4, 2) := by decide +kernel
theorem dX9_goRound_74 : decode cX9_goRound 74 = .ok (.imul, 1) := by decide +kernel
theorem dX9_goRound_75 : decode cX9_goRound 75 = .ok (.iload 5, 2) := by decide +kernel
theorem dX9_goRound_77 : decode cX9_goRound 77 = .ok (.iadd, 1) := by decide +kernel
theorem dX9_goRound_78 : decode cX9_goRound 78 = .ok (.invokevirtual 19, 3) := by decide +kernel
theorem dX9_goRound_81 : decode cX9_goRound 81 = .ok (.iinc 5 (-1), 3) := by decide +kernel
theorem dX9_goRound_84 : decode cX9_goRound 84 = .ok (.goto (-26), 3) := by decide +kernel
theorem dX9_goRound_87 : decode cX9_goRound 87 = .ok (.iload 4, 2) := by decide +kernel
theorem dX9_goRound_89 : decode cX9_goRound 89 = .ok (.iconst 1, 1) := by decide +kernel
theorem dX9_goRound_90 : decode cX9_goRound 90 = .ok (.isub, 1) := by decide +kernel
theorem dX9_goRound_91 : decode cX9_goRound 91 = .ok (.istore 5, 2) := by decide +kernel
theorem dX9_goRound_93 : decode cX9_goRound 93 = .ok (.iload 5, 2) := by decide +kernel
theorem dX9_goRound_95 : decode cX9_goRound 95 = .ok (.iload_n 2, 1) := by decide +kernel
theorem dX9_goRound_96 : decode cX9_goRound 96 = .ok (.if_icmp .le 24, 3) := by decide +kernel
theorem dX9_goRound_99 : decode cX9_goRound 99 = .ok (.iload_n 3, 1) := by decide +kernel
theorem dX9_goRound_100 : decode cX9_goRound 100 = .ok (.iload_n 2, 1) := by decide +kernel
theorem dX9_goRound_101 : decode cX9_goRound 101 = .ok (.if_icmp .le 19, 3) := by decide +kernel
theorem dX9_goRound_104 : decode cX9_goRound 104 = .ok (.aload_n 0, 1) := by decide +kernel
theorem dX9_goRound_105 : decode cX9_goRound 105 = .ok (.iload_n 1, 1) := by decide +kernel
theorem dX9_goRound_106 : decode cX9_goRound 106 = .ok (.iload 5, 2) := by decide +kernel
theorem dX9_goRound_108 : decode cX9_goRound 108 = .ok (.imul, 1) := by decide +kernel
theorem dX9_goRound_109 : decode cX9_goRound 109 = .ok (.iload_n 2, 1) := by decide +kernel
theorem dX9_goRound_110 : decode cX9_goRound 110 = .ok (.iadd, 1) := by decide +kernel
theorem dX9_goRound_111 : decode cX9_goRound 111 = .ok (.invokevirtual 19, 3) := by decide +kernel
theorem dX9_goRound_114 : decode cX9_goRound 114 = .ok (.iinc 5 (-1), 3) := by decide +kernel
theorem dX9_goRound_117 : decode cX9_goRound 117 = .ok (.goto (-24), 3) := by decide +kernel
theorem dX9_goRound_120 : decode cX9_goRound 120 = .ok (.return_, 1) := by decide +kernel
abbrev rm_X9_goRound : Room := { frames := 1, cells := 0, slots := 0, locals := 21 }
theorem hd_X9_goRound : yX9_goRound.cls ≠ "java/lang/invoke/MethodHandle" ∧ yX9_goRound.cls ≠ "java/lang/invoke/VarHandle" ∧ (parseMethodDescriptor yX9_goRound.desc).map (fun d => d.parameters.length) = some 4 := by decide +kernel
def bd_X9_goRound_93 (Q : (Int32 × (Nat → Int32)) → Prop) (B93 : Int32 → (Nat → Int32) → Int32 → Prop) (p1 : Int32) (p2 : Int32) (p3 : Int32) (k_length : Int32) (k_order : Nat → Int32) (x5 : Int32) : Prop :=
((x5 ≤ p2 → Q (k_length, k_order)) ∧
(¬ x5 ≤ p2 → ((p3 ≤ p2 → Q (k_length, k_order)) ∧
(¬ p3 ≤ p2 → wp_X9_put ((p1 * x5) + p2) k_length k_order (fun (u9 : Int32 × (Nat → Int32)) => ∀ y10 : Int32, y10 = (x5 + (-1)) →
B93 u9.1 u9.2 y10)))))
def lp_X9_goRound_93 (Q : (Int32 × (Nat → Int32)) → Prop) (p1 : Int32) (p2 : Int32) (p3 : Int32) (k_length : Int32) (k_order : Nat → Int32) (x5 : Int32) : Prop :=
∃ I : Nat → Int32 → (Nat → Int32) → Int32 → Prop, (∃ n, I n k_length k_order x5) ∧ ∀ n k_length k_order x5, I n k_length k_order x5 → bd_X9_goRound_93 Q  (fun k_length' k_order' x5' => ∃ n', n' < n ∧ I n' k_length' k_order' x5') p1 p2 p3 k_length k_order x5
def bk_X9_goRound_87 (Q : (Int32 × (Nat → Int32)) → Prop) (p1 : Int32) (p2 : Int32) (p3 : Int32) (p4 : Int32) (k_length : Int32) (k_order : Nat → Int32) : Prop :=
∀ y6 : Int32, y6 = (p4 - 1) →
lp_X9_goRound_93 Q p1 p2 p3 k_length k_order y6
def bd_X9_goRound_58 (Q : (Int32 × (Nat → Int32)) → Prop) (B58 : Int32 → (Nat → Int32) → Int32 → Prop) (p1 : Int32) (p2 : Int32) (p3 : Int32) (p4 : Int32) (k_length : Int32) (k_order : Nat → Int32) (x5 : Int32) : Prop :=
((x5 < p2 → bk_X9_goRound_87 Q p1 p2 p3 p4 k_length k_order) ∧
(¬ x5 < p2 → ((p4 ≤ p2 → bk_X9_goRound_87 Q p1 p2 p3 p4 k_length k_order) ∧
(¬ p4 ≤ p2 → wp_X9_put ((p1 * p4) + x5) k_length k_order (fun (u12 : Int32 × (Nat → Int32)) => ∀ y13 : Int32, y13 = (x5 + (-1)) →
B58 u12.1 u12.2 y13)))))
def lp_X9_goRound_58 (Q : (Int32 × (Nat → Int32)) → Prop) (p1 : Int32) (p2 : Int32) (p3 : Int32) (p4 : Int32) (k_length : Int32) (k_order : Nat → Int32) (x5 : Int32) : Prop :=
∃ I : Nat → Int32 → (Nat → Int32) → Int32 → Prop, (∃ n, I n k_length k_order x5) ∧ ∀ n k_length k_order x5, I n k_length k_order x5 → bd_X9_goRound_58 Q  (fun k_length' k_order' x5' => ∃ n', n' < n ∧ I n' k_length' k_order' x5') p1 p2 p3 p4 k_length k_order x5
def bd_X9_goRound_30 (Q : (Int32 × (Nat → Int32)) → Prop) (B30 : Int32 → (Nat → Int32) → Int32 → Prop) (p1 : Int32) (p2 : Int32) (p3 : Int32) (p4 : Int32) (k_length : Int32) (k_order : Nat → Int32) (x5 : Int32) : Prop :=
((p4 < x5 → ∀ y4 : Int32, y4 = (p3 - 1) →
lp_X9_goRound_58 Q p1 p2 p3 p4 k_length k_order y4) ∧
(¬ p4 < x5 → wp_X9_put ((p1 * x5) + p3) k_length k_order (fun (u14 : Int32 × (Nat → Int32)) => ∀ y15 : Int32, y15 = (x5 + 1) →
B30 u14.1 u14.2 y15)))
def lp_X9_goRound_30 (Q : (Int32 × (Nat → Int32)) → Prop) (p1 : Int32) (p2 : Int32) (p3 : Int32) (p4 : Int32) (k_length : Int32) (k_order : Nat → Int32) (x5 : Int32) : Prop :=
∃ I : Nat → Int32 → (Nat → Int32) → Int32 → Prop, (∃ n, I n k_length k_order x5) ∧ ∀ n k_length k_order x5, I n k_length k_order x5 → bd_X9_goRound_30 Q  (fun k_length' k_order' x5' => ∃ n', n' < n ∧ I n' k_length' k_order' x5') p1 p2 p3 p4 k_length k_order x5
def bd_X9_goRound_3 (Q : (Int32 × (Nat → Int32)) → Prop) (B3 : Int32 → (Nat → Int32) → Int32 → Prop) (p1 : Int32) (p2 : Int32) (p3 : Int32) (p4 : Int32) (k_length : Int32) (k_order : Nat → Int32) (x5 : Int32) : Prop :=
((p3 < x5 → ∀ y2 : Int32, y2 = (p2 + 1) →
lp_X9_goRound_30 Q p1 p2 p3 p4 k_length k_order y2) ∧
(¬ p3 < x5 → wp_X9_put ((p1 * p2) + x5) k_length k_order (fun (u16 : Int32 × (Nat → Int32)) => ∀ y17 : Int32, y17 = (x5 + 1) →
B3 u16.1 u16.2 y17)))
def lp_X9_goRound_3 (Q : (Int32 × (Nat → Int32)) → Prop) (p1 : Int32) (p2 : Int32) (p3 : Int32) (p4 : Int32) (k_length : Int32) (k_order : Nat → Int32) (x5 : Int32) : Prop :=
∃ I : Nat → Int32 → (Nat → Int32) → Int32 → Prop, (∃ n, I n k_length k_order x5) ∧ ∀ n k_length k_order x5, I n k_length k_order x5 → bd_X9_goRound_3 Q  (fun k_length' k_order' x5' => ∃ n', n' < n ∧ I n' k_length' k_order' x5') p1 p2 p3 p4 k_length k_order x5
def wp_X9_goRound (p1 : Int32) (p2 : Int32) (p3 : Int32) (p4 : Int32) (k_length : Int32) (k_order : Nat → Int32) (Q : (Int32 × (Nat → Int32)) → Prop) : Prop :=
lp_X9_goRound_3 Q p1 p2 p3 p4 k_length k_order p2
set_option maxHeartbeats 4000000 in
set_option maxRecDepth 100000 in
theorem B_X9_goRound_93 {x : CX} {D : DG} {cyI cyJ cyZ : ClassId} {a_k a_k_order : Nat} {k_length : Int32} {k_needed : Int32} {k_lifted : Int32} {k_order : Nat → Int32} {p1 : Int32} {p2 : Int32} {p3 : Int32} {x5 : Int32} {Q : (Int32 × (Nat → Int32)) → Prop} {B93 : Int32 → (Nat → Int32) → Int32 → Prop} (cx : Cx x cX9_goRound 6 RX9 rm_X9_goRound D [(cyI, .int), (cyJ, .long), (cyZ, .boolean)]) (hR : ∀ (u : Int32 × (Nat → Int32)) (pc : Nat) (lv : List (Nat × Value)), decode cX9_goRound pc = .ok (.return_, 1) → Q u → J x 0 0 6 (W_Walk cyI cyJ cyZ a_k a_k_order u.1 k_needed k_lifted u.2) lv pc []) (hB93 : ∀ (k_length : Int32) (k_order : Nat → Int32) (x5 : Int32), B93 k_length k_order x5 → J x 0 0 6 (W_Walk cyI cyJ cyZ a_k a_k_order k_length k_needed k_lifted k_order) [(0, .ref a_k), (1, .int p1), (2, .int p2), (3, .int p3), (5, .int x5)] 93 []) (h : bd_X9_goRound_93 Q B93 p1 p2 p3 k_length k_order x5) :
    J x 0 0 6 (W_Walk cyI cyJ cyZ a_k a_k_order k_length k_needed k_lifted k_order) [(0, .ref a_k), (1, .int p1), (2, .int p2), (3, .int p3), (5, .int x5)] 93 [] := by
  unfold bd_X9_goRound_93 at h
  refine j_iload cx 4 rfl dX9_goRound_93 (pn := 95) rfl ?_
  refine j_iload_n cx 2 rfl rfl dX9_goRound_95 (pn := 96) rfl ?_
  refine j_icmp_le cx 120 dX9_goRound_96 (pn := 99) rfl rfl (fun c7 => ?_) (fun c7 => ?_)
  · have h := h.1 c7
    exact hR (k_length, k_order) 120 _ dX9_goRound_120 h
  · have h := h.2 c7
    refine j_iload_n cx 3 rfl rfl dX9_goRound_99 (pn := 100) rfl ?_
    refine j_iload_n cx 2 rfl rfl dX9_goRound_100 (pn := 101) rfl ?_
    refine j_icmp_le cx 120 dX9_goRound_101 (pn := 104) rfl rfl (fun c8 => ?_) (fun c8 => ?_)
    · have h := h.1 c8
      exact hR (k_length, k_order) 120 _ dX9_goRound_120 h
    · have h := h.2 c8
      refine j_aload_n cx 0 rfl rfl dX9_goRound_104 (pn := 105) rfl ?_
      refine j_iload_n cx 1 rfl rfl dX9_goRound_105 (pn := 106) rfl ?_
      refine j_iload cx 4 rfl dX9_goRound_106 (pn := 108) rfl ?_
      refine j_imul cx dX9_goRound_108 (pn := 109) rfl ?_
      refine j_iload_n cx 2 rfl rfl dX9_goRound_109 (pn := 110) rfl ?_
      refine j_iadd cx dX9_goRound_110 (pn := 111) rfl ?_
      refine j_callvV0 cx q_inst_X9_put q_sel_X9_put (b := a_k) (As := [.int ((p1 * x5) + p2)]) (rest := []) (c_X9_put h) ⟨q_code_X9_put, q_ml_X9_19, q_init_X9, hd_X9_put, ⟨Nat.le_of_ble_eq_true rfl, Nat.le_of_ble_eq_true rfl⟩, Nat.le_of_ble_eq_true rfl, Nat.le_of_ble_eq_true rfl⟩ (q0 := 0) rfl rfl rfl rfl (Nat.le_of_ble_eq_true rfl) dX9_goRound_111 (pn := 114) rfl (fun u9 h => ?_)
      show J x 0 0 6 (W_Walk cyI cyJ cyZ a_k a_k_order u9.1 k_needed k_lifted u9.2) [(0, .ref a_k), (1, .int p1), (2, .int p2), (3, .int p3), (5, .int x5)] 114 []
      obtain ⟨y10, ey10⟩ : ∃ z : Int32, z = x5 + (-1) := ⟨_, rfl⟩
      have h := h y10 ey10
      refine j_iinc cx 4 rfl (cst := (-1)) (by decide) ey10 [(5, .int y10), (0, .ref a_k), (1, .int p1), (2, .int p2), (3, .int p3)] (by decide) rfl dX9_goRound_114 (pn := 117) rfl ?_
      refine j_goto cx 93 dX9_goRound_117 rfl ?_
      refine j_sub [1, 2, 3, 4, 0] [(0, .ref a_k), (1, .int p1), (2, .int p2), (3, .int p3), (5, .int y10)] rfl ?_
      exact hB93 _ _ _ h
set_option maxHeartbeats 4000000 in
set_option maxRecDepth 100000 in
theorem J_X9_goRound_93 {x : CX} {D : DG} {cyI cyJ cyZ : ClassId} {a_k a_k_order : Nat} {k_length : Int32} {k_needed : Int32} {k_lifted : Int32} {k_order : Nat → Int32} {p1 : Int32} {p2 : Int32} {p3 : Int32} {x5 : Int32} {Q : (Int32 × (Nat → Int32)) → Prop} (cx : Cx x cX9_goRound 6 RX9 rm_X9_goRound D [(cyI, .int), (cyJ, .long), (cyZ, .boolean)]) (hR : ∀ (u : Int32 × (Nat → Int32)) (pc : Nat) (lv : List (Nat × Value)), decode cX9_goRound pc = .ok (.return_, 1) → Q u → J x 0 0 6 (W_Walk cyI cyJ cyZ a_k a_k_order u.1 k_needed k_lifted u.2) lv pc []) (h : lp_X9_goRound_93 Q  p1 p2 p3 k_length k_order x5) :
    J x 0 0 6 (W_Walk cyI cyJ cyZ a_k a_k_order k_length k_needed k_lifted k_order) [(0, .ref a_k), (1, .int p1), (2, .int p2), (3, .int p3), (5, .int x5)] 93 [] := by
  obtain ⟨I, ⟨n, h0⟩, hb⟩ := h
  revert k_length k_order x5
  induction n using Nat.strongRecOn with
  | _ n ih =>
    intro k_length k_order x5 h0
    exact B_X9_goRound_93 cx hR (fun _ _ _ hz => by obtain ⟨n2, hlt, hI⟩ := hz; exact ih n2 hlt hI) (hb n k_length k_order x5 h0)
set_option maxHeartbeats 4000000 in
set_option maxRecDepth 100000 in
theorem J_X9_goRound_87 {x : CX} {D : DG} {cyI cyJ cyZ : ClassId} {a_k a_k_order : Nat} {k_length : Int32} {k_needed : Int32} {k_lifted : Int32} {k_order : Nat → Int32} {p1 : Int32} {p2 : Int32} {p3 : Int32} {p4 : Int32} {Q : (Int32 × (Nat → Int32)) → Prop} (cx : Cx x cX9_goRound 6 RX9 rm_X9_goRound D [(cyI, .int), (cyJ, .long), (cyZ, .boolean)]) (hR : ∀ (u : Int32 × (Nat → Int32)) (pc : Nat) (lv : List (Nat × Value)), decode cX9_goRound pc = .ok (.return_, 1) → Q u → J x 0 0 6 (W_Walk cyI cyJ cyZ a_k a_k_order u.1 k_needed k_lifted u.2) lv pc []) (h : bk_X9_goRound_87 Q  p1 p2 p3 p4 k_length k_order) :
    J x 0 0 6 (W_Walk cyI cyJ cyZ a_k a_k_order k_length k_needed k_lifted k_order) [(0, .ref a_k), (1, .int p1), (2, .int p2), (3, .int p3), (4, .int p4)] 87 [] := by
  unfold bk_X9_goRound_87 at h
  refine j_iload cx 4 rfl dX9_goRound_87 (pn := 89) rfl ?_
  refine j_iconst cx (v := 1) (by decide) dX9_goRound_89 (pn := 90) rfl ?_
  refine j_isub cx dX9_goRound_90 (pn := 91) rfl ?_
  refine j_topi (fun y6 ey6 => ?_)
  have h := h y6 ey6
  refine j_istore cx [(5, .int y6), (0, .ref a_k), (1, .int p1), (2, .int p2), (3, .int p3), (4, .int p4)] (by decide) rfl dX9_goRound_91 (pn := 93) rfl ?_
  refine j_sub [1, 2, 3, 4, 0] [(0, .ref a_k), (1, .int p1), (2, .int p2), (3, .int p3), (5, .int y6)] rfl ?_
  exact J_X9_goRound_93 cx hR h
set_option maxHeartbeats 4000000 in
set_option maxRecDepth 100000 in
theorem B_X9_goRound_58 {x : CX} {D : DG} {cyI cyJ cyZ : ClassId} {a_k a_k_order : Nat} {k_length : Int32} {k_needed : Int32} {k_lifted : Int32} {k_order : Nat → Int32} {p1 : Int32} {p2 : Int32} {p3 : Int32} {p4 : Int32} {x5 : Int32} {Q : (Int32 × (Nat → Int32)) → Prop} {B58 : Int32 → (Nat → Int32) → Int32 → Prop} (cx : Cx x cX9_goRound 6 RX9 rm_X9_goRound D [(cyI, .int), (cyJ, .long), (cyZ, .boolean)]) (hR : ∀ (u : Int32 × (Nat → Int32)) (pc : Nat) (lv : List (Nat × Value)), decode cX9_goRound pc = .ok (.return_, 1) → Q u → J x 0 0 6 (W_Walk cyI cyJ cyZ a_k a_k_order u.1 k_needed k_lifted u.2) lv pc []) (hB58 : ∀ (k_length : Int32) (k_order : Nat → Int32) (x5 : Int32), B58 k_length k_order x5 → J x 0 0 6 (W_Walk cyI cyJ cyZ a_k a_k_order k_length k_needed k_lifted k_order) [(0, .ref a_k), (1, .int p1), (2, .int p2), (3, .int p3), (4, .int p4), (5, .int x5)] 58 []) (h : bd_X9_goRound_58 Q B58 p1 p2 p3 p4 k_length k_order x5) :
    J x 0 0 6 (W_Walk cyI cyJ cyZ a_k a_k_order k_length k_needed k_lifted k_order) [(0, .ref a_k), (1, .int p1), (2, .int p2), (3, .int p3), (4, .int p4), (5, .int x5)] 58 [] := by
  unfold bd_X9_goRound_58 at h
  refine j_iload cx 5 rfl dX9_goRound_58 (pn := 60) rfl ?_
  refine j_iload_n cx 2 rfl rfl dX9_goRound_60 (pn := 61) rfl ?_
  refine j_icmp_lt cx 87 dX9_goRound_61 (pn := 64) rfl rfl (fun c5 => ?_) (fun c5 => ?_)
  · have h := h.1 c5
    refine j_sub [0, 1, 2, 3, 4] [(0, .ref a_k), (1, .int p1), (2, .int p2), (3, .int p3), (4, .int p4)] rfl ?_
    exact J_X9_goRound_87 cx hR h
  · have h := h.2 c5
    refine j_iload cx 4 rfl dX9_goRound_64 (pn := 66) rfl ?_
    refine j_iload_n cx 2 rfl rfl dX9_goRound_66 (pn := 67) rfl ?_
    refine j_icmp_le cx 87 dX9_goRound_67 (pn := 70) rfl rfl (fun c11 => ?_) (fun c11 => ?_)
    · have h := h.1 c11
      refine j_sub [0, 1, 2, 3, 4] [(0, .ref a_k), (1, .int p1), (2, .int p2), (3, .int p3), (4, .int p4)] rfl ?_
      exact J_X9_goRound_87 cx hR h
    · have h := h.2 c11
      refine j_aload_n cx 0 rfl rfl dX9_goRound_70 (pn := 71) rfl ?_
      refine j_iload_n cx 1 rfl rfl dX9_goRound_71 (pn := 72) rfl ?_
      refine j_iload cx 4 rfl dX9_goRound_72 (pn := 74) rfl ?_
      refine j_imul cx dX9_goRound_74 (pn := 75) rfl ?_
      refine j_iload cx 5 rfl dX9_goRound_75 (pn := 77) rfl ?_
      refine j_iadd cx dX9_goRound_77 (pn := 78) rfl ?_
      refine j_callvV0 cx q_inst_X9_put q_sel_X9_put (b := a_k) (As := [.int ((p1 * p4) + x5)]) (rest := []) (c_X9_put h) ⟨q_code_X9_put, q_ml_X9_19, q_init_X9, hd_X9_put, ⟨Nat.le_of_ble_eq_true rfl, Nat.le_of_ble_eq_true rfl⟩, Nat.le_of_ble_eq_true rfl, Nat.le_of_ble_eq_true rfl⟩ (q0 := 0) rfl rfl rfl rfl (Nat.le_of_ble_eq_true rfl) dX9_goRound_78 (pn := 81) rfl (fun u12 h => ?_)
      show J x 0 0 6 (W_Walk cyI cyJ cyZ a_k a_k_order u12.1 k_needed k_lifted u12.2) [(0, .ref a_k), (1, .int p1), (2, .int p2), (3, .int p3), (4, .int p4), (5, .int x5)] 81 []
      obtain ⟨y13, ey13⟩ : ∃ z : Int32, z = x5 + (-1) := ⟨_, rfl⟩
      have h := h y13 ey13
      refine j_iinc cx 5 rfl (cst := (-1)) (by decide) ey13 [(5, .int y13), (0, .ref a_k), (1, .int p1), (2, .int p2), (3, .int p3), (4, .int p4)] (by decide) rfl dX9_goRound_81 (pn := 84) rfl ?_
      refine j_goto cx 58 dX9_goRound_84 rfl ?_
      refine j_sub [1, 2, 3, 4, 5, 0] [(0, .ref a_k), (1, .int p1), (2, .int p2), (3, .int p3), (4, .int p4), (5, .int y13)] rfl ?_
      exact hB58 _ _ _ h
set_option maxHeartbeats 4000000 in
set_option maxRecDepth 100000 in
theorem J_X9_goRound_58 {x : CX} {D : DG} {cyI cyJ cyZ : ClassId} {a_k a_k_order : Nat} {k_length : Int32} {k_needed : Int32} {k_lifted : Int32} {k_order : Nat → Int32} {p1 : Int32} {p2 : Int32} {p3 : Int32} {p4 : Int32} {x5 : Int32} {Q : (Int32 × (Nat → Int32)) → Prop} (cx : Cx x cX9_goRound 6 RX9 rm_X9_goRound D [(cyI, .int), (cyJ, .long), (cyZ, .boolean)]) (hR : ∀ (u : Int32 × (Nat → Int32)) (pc : Nat) (lv : List (Nat × Value)), decode cX9_goRound pc = .ok (.return_, 1) → Q u → J x 0 0 6 (W_Walk cyI cyJ cyZ a_k a_k_order u.1 k_needed k_lifted u.2) lv pc []) (h : lp_X9_goRound_58 Q  p1 p2 p3 p4 k_length k_order x5) :
    J x 0 0 6 (W_Walk cyI cyJ cyZ a_k a_k_order k_length k_needed k_lifted k_order) [(0, .ref a_k), (1, .int p1), (2, .int p2), (3, .int p3), (4, .int p4), (5, .int x5)] 58 [] := by
  obtain ⟨I, ⟨n, h0⟩, hb⟩ := h
  revert k_length k_order x5
  induction n using Nat.strongRecOn with
  | _ n ih =>
    intro k_length k_order x5 h0
    exact B_X9_goRound_58 cx hR (fun _ _ _ hz => by obtain ⟨n2, hlt, hI⟩ := hz; exact ih n2 hlt hI) (hb n k_length k_order x5 h0)
set_option maxHeartbeats 4000000 in
set_option maxRecDepth 100000 in
theorem B_X9_goRound_30 {x : CX} {D : DG} {cyI cyJ cyZ : ClassId} {a_k a_k_order : Nat} {k_length : Int32} {k_needed : Int32} {k_lifted : Int32} {k_order : Nat → Int32} {p1 : Int32} {p2 : Int32} {p3 : Int32} {p4 : Int32} {x5 : Int32} {Q : (Int32 × (Nat → Int32)) → Prop} {B30 : Int32 → (Nat → Int32) → Int32 → Prop} (cx : Cx x cX9_goRound 6 RX9 rm_X9_goRound D [(cyI, .int), (cyJ, .long), (cyZ, .boolean)]) (hR : ∀ (u : Int32 × (Nat → Int32)) (pc : Nat) (lv : List (Nat × Value)), decode cX9_goRound pc = .ok (.return_, 1) → Q u → J x 0 0 6 (W_Walk cyI cyJ cyZ a_k a_k_order u.1 k_needed k_lifted u.2) lv pc []) (hB30 : ∀ (k_length : Int32) (k_order : Nat → Int32) (x5 : Int32), B30 k_length k_order x5 → J x 0 0 6 (W_Walk cyI cyJ cyZ a_k a_k_order k_length k_needed k_lifted k_order) [(0, .ref a_k), (1, .int p1), (2, .int p2), (3, .int p3), (4, .int p4), (5, .int x5)] 30 []) (h : bd_X9_goRound_30 Q B30 p1 p2 p3 p4 k_length k_order x5) :
    J x 0 0 6 (W_Walk cyI cyJ cyZ a_k a_k_order k_length k_needed k_lifted k_order) [(0, .ref a_k), (1, .int p1), (2, .int p2), (3, .int p3), (4, .int p4), (5, .int x5)] 30 [] := by
  unfold bd_X9_goRound_30 at h
  refine j_iload cx 5 rfl dX9_goRound_30 (pn := 32) rfl ?_
  refine j_iload cx 4 rfl dX9_goRound_32 (pn := 34) rfl ?_
  refine j_icmp_gt cx 53 dX9_goRound_34 (pn := 37) rfl rfl (fun c3 => ?_) (fun c3 => ?_)
  · have h := h.1 c3
    refine j_iload_n cx 3 rfl rfl dX9_goRound_53 (pn := 54) rfl ?_
    refine j_iconst cx (v := 1) (by decide) dX9_goRound_54 (pn := 55) rfl ?_
    refine j_isub cx dX9_goRound_55 (pn := 56) rfl ?_
    refine j_topi (fun y4 ey4 => ?_)
    have h := h y4 ey4
    refine j_istore cx [(5, .int y4), (0, .ref a_k), (1, .int p1), (2, .int p2), (3, .int p3), (4, .int p4)] (by decide) rfl dX9_goRound_56 (pn := 58) rfl ?_
    refine j_sub [1, 2, 3, 4, 5, 0] [(0, .ref a_k), (1, .int p1), (2, .int p2), (3, .int p3), (4, .int p4), (5, .int y4)] rfl ?_
    exact J_X9_goRound_58 cx hR h
  · have h := h.2 c3
    refine j_aload_n cx 0 rfl rfl dX9_goRound_37 (pn := 38) rfl ?_
    refine j_iload_n cx 1 rfl rfl dX9_goRound_38 (pn := 39) rfl ?_
    refine j_iload cx 5 rfl dX9_goRound_39 (pn := 41) rfl ?_
    refine j_imul cx dX9_goRound_41 (pn := 42) rfl ?_
    refine j_iload_n cx 3 rfl rfl dX9_goRound_42 (pn := 43) rfl ?_
    refine j_iadd cx dX9_goRound_43 (pn := 44) rfl ?_
    refine j_callvV0 cx q_inst_X9_put q_sel_X9_put (b := a_k) (As := [.int ((p1 * x5) + p3)]) (rest := []) (c_X9_put h) ⟨q_code_X9_put, q_ml_X9_19, q_init_X9, hd_X9_put, ⟨Nat.le_of_ble_eq_true rfl, Nat.le_of_ble_eq_true rfl⟩, Nat.le_of_ble_eq_true rfl, Nat.le_of_ble_eq_true rfl⟩ (q0 := 0) rfl rfl rfl rfl (Nat.le_of_ble_eq_true rfl) dX9_goRound_44 (pn := 47) rfl (fun u14 h => ?_)
    show J x 0 0 6 (W_Walk cyI cyJ cyZ a_k a_k_order u14.1 k_needed k_lifted u14.2) [(0, .ref a_k), (1, .int p1), (2, .int p2), (3, .int p3), (4, .int p4), (5, .int x5)] 47 []
    obtain ⟨y15, ey15⟩ : ∃ z : Int32, z = x5 + 1 := ⟨_, rfl⟩
    have h := h y15 ey15
    refine j_iinc cx 5 rfl (cst := 1) (by decide) ey15 [(5, .int y15), (0, .ref a_k), (1, .int p1), (2, .int p2), (3, .int p3), (4, .int p4)] (by decide) rfl dX9_goRound_47 (pn := 50) rfl ?_
    refine j_goto cx 30 dX9_goRound_50 rfl ?_
    refine j_sub [1, 2, 3, 4, 5, 0] [(0, .ref a_k), (1, .int p1), (2, .int p2), (3, .int p3), (4, .int p4), (5, .int y15)] rfl ?_
    exact hB30 _ _ _ h
set_option maxHeartbeats 4000000 in
set_option maxRecDepth 100000 in
theorem J_X9_goRound_30 {x : CX} {D : DG} {cyI cyJ cyZ : ClassId} {a_k a_k_order : Nat} {k_length : Int32} {k_needed : Int32} {k_lifted : Int32} {k_order : Nat → Int32} {p1 : Int32} {p2 : Int32} {p3 : Int32} {p4 : Int32} {x5 : Int32} {Q : (Int32 × (Nat → Int32)) → Prop} (cx : Cx x cX9_goRound 6 RX9 rm_X9_goRound D [(cyI, .int), (cyJ, .long), (cyZ, .boolean)]) (hR : ∀ (u : Int32 × (Nat → Int32)) (pc : Nat) (lv : List (Nat × Value)), decode cX9_goRound pc = .ok (.return_, 1) → Q u → J x 0 0 6 (W_Walk cyI cyJ cyZ a_k a_k_order u.1 k_needed k_lifted u.2) lv pc []) (h : lp_X9_goRound_30 Q  p1 p2 p3 p4 k_length k_order x5) :
    J x 0 0 6 (W_Walk cyI cyJ cyZ a_k a_k_order k_length k_needed k_lifted k_order) [(0, .ref a_k), (1, .int p1), (2, .int p2), (3, .int p3), (4, .int p4), (5, .int x5)] 30 [] := by
  obtain ⟨I, ⟨n, h0⟩, hb⟩ := h
  revert k_length k_order x5
  induction n using Nat.strongRecOn with
  | _ n ih =>
    intro k_length k_order x5 h0
    exact B_X9_goRound_30 cx hR (fun _ _ _ hz => by obtain ⟨n2, hlt, hI⟩ := hz; exact ih n2 hlt hI) (hb n k_length k_order x5 h0)
set_option maxHeartbeats 4000000 in
set_option maxRecDepth 100000 in
theorem B_X9_goRound_3 {x : CX} {D : DG} {cyI cyJ cyZ : ClassId} {a_k a_k_order : Nat} {k_length : Int32} {k_needed : Int32} {k_lifted : Int32} {k_order : Nat → Int32} {p1 : Int32} {p2 : Int32} {p3 : Int32} {p4 : Int32} {x5 : Int32} {Q : (Int32 × (Nat → Int32)) → Prop} {B3 : Int32 → (Nat → Int32) → Int32 → Prop} (cx : Cx x cX9_goRound 6 RX9 rm_X9_goRound D [(cyI, .int), (cyJ, .long), (cyZ, .boolean)]) (hR : ∀ (u : Int32 × (Nat → Int32)) (pc : Nat) (lv : List (Nat × Value)), decode cX9_goRound pc = .ok (.return_, 1) → Q u → J x 0 0 6 (W_Walk cyI cyJ cyZ a_k a_k_order u.1 k_needed k_lifted u.2) lv pc []) (hB3 : ∀ (k_length : Int32) (k_order : Nat → Int32) (x5 : Int32), B3 k_length k_order x5 → J x 0 0 6 (W_Walk cyI cyJ cyZ a_k a_k_order k_length k_needed k_lifted k_order) [(0, .ref a_k), (1, .int p1), (2, .int p2), (3, .int p3), (4, .int p4), (5, .int x5)] 3 []) (h : bd_X9_goRound_3 Q B3 p1 p2 p3 p4 k_length k_order x5) :
    J x 0 0 6 (W_Walk cyI cyJ cyZ a_k a_k_order k_length k_needed k_lifted k_order) [(0, .ref a_k), (1, .int p1), (2, .int p2), (3, .int p3), (4, .int p4), (5, .int x5)] 3 [] := by
  unfold bd_X9_goRound_3 at h
  refine j_iload cx 5 rfl dX9_goRound_3 (pn := 5) rfl ?_
  refine j_iload_n cx 3 rfl rfl dX9_goRound_5 (pn := 6) rfl ?_
  refine j_icmp_gt cx 25 dX9_goRound_6 (pn := 9) rfl rfl (fun c1 => ?_) (fun c1 => ?_)
  · have h := h.1 c1
    refine j_iload_n cx 2 rfl rfl dX9_goRound_25 (pn := 26) rfl ?_
    refine j_iconst cx (v := 1) (by decide) dX9_goRound_26 (pn := 27) rfl ?_
    refine j_iadd cx dX9_goRound_27 (pn := 28) rfl ?_
    refine j_topi (fun y2 ey2 => ?_)
    have h := h y2 ey2
    refine j_istore cx [(5, .int y2), (0, .ref a_k), (1, .int p1), (2, .int p2), (3, .int p3), (4, .int p4)] (by decide) rfl dX9_goRound_28 (pn := 30) rfl ?_
    refine j_sub [1, 2, 3, 4, 5, 0] [(0, .ref a_k), (1, .int p1), (2, .int p2), (3, .int p3), (4, .int p4), (5, .int y2)] rfl ?_
    exact J_X9_goRound_30 cx hR h
  · have h := h.2 c1
    refine j_aload_n cx 0 rfl rfl dX9_goRound_9 (pn := 10) rfl ?_
    refine j_iload_n cx 1 rfl rfl dX9_goRound_10 (pn := 11) rfl ?_
    refine j_iload_n cx 2 rfl rfl dX9_goRound_11 (pn := 12) rfl ?_
    refine j_imul cx dX9_goRound_12 (pn := 13) rfl ?_
    refine j_iload cx 5 rfl dX9_goRound_13 (pn := 15) rfl ?_
    refine j_iadd cx dX9_goRound_15 (pn := 16) rfl ?_
    refine j_callvV0 cx q_inst_X9_put q_sel_X9_put (b := a_k) (As := [.int ((p1 * p2) + x5)]) (rest := []) (c_X9_put h) ⟨q_code_X9_put, q_ml_X9_19, q_init_X9, hd_X9_put, ⟨Nat.le_of_ble_eq_true rfl, Nat.le_of_ble_eq_true rfl⟩, Nat.le_of_ble_eq_true rfl, Nat.le_of_ble_eq_true rfl⟩ (q0 := 0) rfl rfl rfl rfl (Nat.le_of_ble_eq_true rfl) dX9_goRound_16 (pn := 19) rfl (fun u16 h => ?_)
    show J x 0 0 6 (W_Walk cyI cyJ cyZ a_k a_k_order u16.1 k_needed k_lifted u16.2) [(0, .ref a_k), (1, .int p1), (2, .int p2), (3, .int p3), (4, .int p4), (5, .int x5)] 19 []
    obtain ⟨y17, ey17⟩ : ∃ z : Int32, z = x5 + 1 := ⟨_, rfl⟩
    have h := h y17 ey17
    refine j_iinc cx 5 rfl (cst := 1) (by decide) ey17 [(5, .int y17), (0, .ref a_k), (1, .int p1), (2, .int p2), (3, .int p3), (4, .int p4)] (by decide) rfl dX9_goRound_19 (pn := 22) rfl ?_
    refine j_goto cx 3 dX9_goRound_22 rfl ?_
    refine j_sub [1, 2, 3, 4, 5, 0] [(0, .ref a_k), (1, .int p1), (2, .int p2), (3, .int p3), (4, .int p4), (5, .int y17)] rfl ?_
    exact hB3 _ _ _ h
set_option maxHeartbeats 4000000 in
set_option maxRecDepth 100000 in
theorem J_X9_goRound_3 {x : CX} {D : DG} {cyI cyJ cyZ : ClassId} {a_k a_k_order : Nat} {k_length : Int32} {k_needed : Int32} {k_lifted : Int32} {k_order : Nat → Int32} {p1 : Int32} {p2 : Int32} {p3 : Int32} {p4 : Int32} {x5 : Int32} {Q : (Int32 × (Nat → Int32)) → Prop} (cx : Cx x cX9_goRound 6 RX9 rm_X9_goRound D [(cyI, .int), (cyJ, .long), (cyZ, .boolean)]) (hR : ∀ (u : Int32 × (Nat → Int32)) (pc : Nat) (lv : List (Nat × Value)), decode cX9_goRound pc = .ok (.return_, 1) → Q u → J x 0 0 6 (W_Walk cyI cyJ cyZ a_k a_k_order u.1 k_needed k_lifted u.2) lv pc []) (h : lp_X9_goRound_3 Q  p1 p2 p3 p4 k_length k_order x5) :
    J x 0 0 6 (W_Walk cyI cyJ cyZ a_k a_k_order k_length k_needed k_lifted k_order) [(0, .ref a_k), (1, .int p1), (2, .int p2), (3, .int p3), (4, .int p4), (5, .int x5)] 3 [] := by
  obtain ⟨I, ⟨n, h0⟩, hb⟩ := h
  revert k_length k_order x5
  induction n using Nat.strongRecOn with
  | _ n ih =>
    intro k_length k_order x5 h0
    exact B_X9_goRound_3 cx hR (fun _ _ _ hz => by obtain ⟨n2, hlt, hI⟩ := hz; exact ih n2 hlt hI) (hb n k_length k_order x5 h0)
set_option maxHeartbeats 4000000 in
set_option maxRecDepth 100000 in
theorem c_X9_goRound {D : DG} {cyI cyJ cyZ : ClassId} {a_k a_k_order : Nat} {k_length : Int32} {k_needed : Int32} {k_lifted : Int32} {k_order : Nat → Int32} {p1 : Int32} {p2 : Int32} {p3 : Int32} {p4 : Int32} {Q : (Int32 × (Nat → Int32)) → Prop} (h : wp_X9_goRound p1 p2 p3 p4 k_length k_order Q) :
    MetV yX9_goRound cX9_goRound 6 (none) rm_X9_goRound D [(cyI, .int), (cyJ, .long), (cyZ, .boolean)] [.ref a_k, .int p1, .int p2, .int p3, .int p4] (W_Walk cyI cyJ cyZ a_k a_k_order k_length k_needed k_lifted k_order) (fun u : Int32 × (Nat → Int32) => (W_Walk cyI cyJ cyZ a_k a_k_order u.1 k_needed k_lifted u.2)) (fun u => Q u) := by
  unfold wp_X9_goRound at h
  refine metV_of (by decide) (Nat.le_of_ble_eq_true rfl) (fun x cx0 hR0 => ?_)
  have cx : Cx x cX9_goRound 6 RX9 rm_X9_goRound D [(cyI, .int), (cyJ, .long), (cyZ, .boolean)] := cx0
  have hR : ∀ (u : Int32 × (Nat → Int32)) (pc : Nat) (lv : List (Nat × Value)), decode cX9_goRound pc = .ok (.return_, 1) → Q u → J x 0 0 6 (W_Walk cyI cyJ cyZ a_k a_k_order u.1 k_needed k_lifted u.2) lv pc [] := (fun u pc lv d hq => hR0 u pc lv d hq)
  show J x 0 0 6 (W_Walk cyI cyJ cyZ a_k a_k_order k_length k_needed k_lifted k_order) [(0, .ref a_k), (1, .int p1), (2, .int p2), (3, .int p3), (4, .int p4)] 0 []
  refine j_iload_n cx 2 rfl rfl dX9_goRound_0 (pn := 1) rfl ?_
  refine j_istore cx [(5, .int p2), (0, .ref a_k), (1, .int p1), (2, .int p2), (3, .int p3), (4, .int p4)] (by decide) rfl dX9_goRound_1 (pn := 3) rfl ?_
  refine j_sub [1, 2, 3, 4, 5, 0] [(0, .ref a_k), (1, .int p1), (2, .int p2), (3, .int p3), (4, .int p4), (5, .int p2)] rfl ?_
  exact J_X9_goRound_3 cx hR h
theorem dX9_goInward_0 : decode cX9_goInward 0 = .ok (.aload_n 0, 1) := by decide +kernel
theorem dX9_goInward_1 : decode cX9_goInward 1 = .ok (.iconst 0, 1) := by decide +kernel
theorem dX9_goInward_2 : decode cX9_goInward 2 = .ok (.putfield 15, 3) := by decide +kernel
theorem dX9_goInward_5 : decode cX9_goInward 5 = .ok (.iconst 0, 1) := by decide +kernel
theorem dX9_goInward_6 : decode cX9_goInward 6 = .ok (.istore_n 3, 1) := by decide +kernel
theorem dX9_goInward_7 : decode cX9_goInward 7 = .ok (.iconst 2, 1) := by decide +kernel
theorem dX9_goInward_8 : decode cX9_goInward 8 = .ok (.iload_n 3, 1) := by decide +kernel
theorem dX9_goInward_9 : decode cX9_goInward 9 = .ok (.imul, 1) := by decide +kernel
theorem dX9_goInward_10 : decode cX9_goInward 10 = .ok (.iload_n 1, 1) := by decide +kernel
theorem dX9_goInward_11 : decode cX9_goInward 11 = .ok (.if_icmp .ge 32, 3) := by decide +kernel
theorem dX9_goInward_14 : decode cX9_goInward 14 = .ok (.iconst 2, 1) := by decide +kernel
theorem dX9_goInward_15 : decode cX9_goInward 15 = .ok (.iload_n 3, 1) := by decide +kernel
theorem dX9_goInward_16 : decode cX9_goInward 16 = .ok (.imul, 1) := by decide +kernel
theorem dX9_goInward_17 : decode cX9_goInward 17 = .ok (.iload_n 2, 1) := by decide +kernel
theorem dX9_goInward_18 : decode cX9_goInward 18 = .ok (.if_icmp .ge 25, 3) := by decide +kernel
theorem dX9_goInward_21 : decode cX9_goInward 21 = .ok (.aload_n 0, 1) := by decide +kernel
theorem dX9_goInward_22 : decode cX9_goInward 22 = .ok (.iload_n 1, 1) := by decide +kernel
theorem dX9_goInward_23 : decode cX9_goInward 23 = .ok (.iload_n 3, 1) := by decide +kernel
theorem dX9_goInward_24 : decode cX9_goInward 24 = .ok (.iload_n 1, 1) := by decide +kernel
theorem dX9_goInward_25 : decode cX9_goInward 25 = .ok (.iconst 1, 1) := by decide +kernel
theorem dX9_goInward_26 : decode cX9_goInward 26 = .ok (.isub, 1) := by decide +kernel
theorem dX9_goInward_27 : decode cX9_goInward 27 = .ok (.iload_n 3, 1) := by decide +kernel
theorem dX9_goInward_28 : decode cX9_goInward 28 = .ok (.isub, 1) := by decide +kernel
theorem dX9_goInward_29 : decode cX9_goInward 29 = .ok (.iload_n 2, 1) := by decide +kernel
theorem dX9_goInward_30 : decode cX9_goInward 30 = .ok (.iconst 1, 1) := by decide +kernel
theorem dX9_goInward_31 : decode cX9_goInward 31 = .ok (.isub, 1) := by decide +kernel
theorem dX9_goInward_32 : decode cX9_goInward 32 = .ok (.iload_n 3, 1) := by decide +kernel
theorem dX9_goInward_33 : decode cX9_goInward 33 = .ok (.isub, 1) := by decide +kernel
theorem dX9_goInward_34 : decode cX9_goInward 34 = .ok (.invokevirtual 23, 3) := by decide +kernel
theorem dX9_goInward_37 : decode cX9_goInward 37 = .ok (.iinc 3 1, 3) := by decide +kernel
theorem dX9_goInward_40 : decode cX9_goInward 40 = .ok (.goto (-33), 3) := by decide +kernel
theorem dX9_goInward_43 : decode cX9_goInward 43 = .ok (.return_, 1) := by decide +kernel
abbrev rm_X9_goInward : Room := { frames := 2, cells := 0, slots := 0, locals := 46 }
theorem hd_X9_goInward : yX9_goInward.cls ≠ "java/lang/invoke/MethodHandle" ∧ yX9_goInward.cls ≠ "java/lang/invoke/VarHandle" ∧ (parseMethodDescriptor yX9_goInward.desc).map (fun d => d.parameters.length) = some 2 := by decide +kernel
def bd_X9_goInward_7 (Q : (Int32 × (Nat → Int32)) → Prop) (B7 : Int32 → (Nat → Int32) → Int32 → Prop) (p1 : Int32) (p2 : Int32) (k_length : Int32) (k_order : Nat → Int32) (x3 : Int32) : Prop :=
((p1 ≤ (2 * x3) → Q (k_length, k_order)) ∧
(¬ p1 ≤ (2 * x3) → ((p2 ≤ (2 * x3) → Q (k_length, k_order)) ∧
(¬ p2 ≤ (2 * x3) → wp_X9_goRound p1 x3 ((p1 - 1) - x3) ((p2 - 1) - x3) k_length k_order (fun (u3 : Int32 × (Nat → Int32)) => ∀ y4 : Int32, y4 = (x3 + 1) →
B7 u3.1 u3.2 y4)))))
def lp_X9_goInward_7 (Q : (Int32 × (Nat → Int32)) → Prop) (p1 : Int32) (p2 : Int32) (k_length : Int32) (k_order : Nat → Int32) (x3 : Int32) : Prop :=
∃ I : Nat → Int32 → (Nat → Int32) → Int32 → Prop, (∃ n, I n k_length k_order x3) ∧ ∀ n k_length k_order x3, I n k_length k_order x3 → bd_X9_goInward_7 Q  (fun k_length' k_order' x3' => ∃ n', n' < n ∧ I n' k_length' k_order' x3') p1 p2 k_length k_order x3
def wp_X9_goInward (p1 : Int32) (p2 : Int32) (k_order : Nat → Int32) (Q : (Int32 × (Nat → Int32)) → Prop) : Prop :=
lp_X9_goInward_7 Q p1 p2 0 k_order 0
set_option maxHeartbeats 4000000 in
set_option maxRecDepth 100000 in
theorem B_X9_goInward_7 {x : CX} {D : DG} {cyI cyJ cyZ : ClassId} {a_k a_k_order : Nat} {k_length : Int32} {k_needed : Int32} {k_lifted : Int32} {k_order : Nat → Int32} {p1 : Int32} {p2 : Int32} {x3 : Int32} {Q : (Int32 × (Nat → Int32)) → Prop} {B7 : Int32 → (Nat → Int32) → Int32 → Prop} (cx : Cx x cX9_goInward 4 RX9 rm_X9_goInward D [(cyI, .int), (cyJ, .long), (cyZ, .boolean)]) (hR : ∀ (u : Int32 × (Nat → Int32)) (pc : Nat) (lv : List (Nat × Value)), decode cX9_goInward pc = .ok (.return_, 1) → Q u → J x 0 0 4 (W_Walk cyI cyJ cyZ a_k a_k_order u.1 k_needed k_lifted u.2) lv pc []) (hB7 : ∀ (k_length : Int32) (k_order : Nat → Int32) (x3 : Int32), B7 k_length k_order x3 → J x 0 0 4 (W_Walk cyI cyJ cyZ a_k a_k_order k_length k_needed k_lifted k_order) [(0, .ref a_k), (1, .int p1), (2, .int p2), (3, .int x3)] 7 []) (h : bd_X9_goInward_7 Q B7 p1 p2 k_length k_order x3) :
    J x 0 0 4 (W_Walk cyI cyJ cyZ a_k a_k_order k_length k_needed k_lifted k_order) [(0, .ref a_k), (1, .int p1), (2, .int p2), (3, .int x3)] 7 [] := by
  unfold bd_X9_goInward_7 at h
  refine j_iconst cx (v := 2) (by decide) dX9_goInward_7 (pn := 8) rfl ?_
  refine j_iload_n cx 3 rfl rfl dX9_goInward_8 (pn := 9) rfl ?_
  refine j_imul cx dX9_goInward_9 (pn := 10) rfl ?_
  refine j_iload_n cx 1 rfl rfl dX9_goInward_10 (pn := 11) rfl ?_
  refine j_icmp_ge cx 43 dX9_goInward_11 (pn := 14) rfl rfl (fun c1 => ?_) (fun c1 => ?_)
  · have h := h.1 c1
    exact hR (k_length, k_order) 43 _ dX9_goInward_43 h
  · have h := h.2 c1
    refine j_iconst cx (v := 2) (by decide) dX9_goInward_14 (pn := 15) rfl ?_
    refine j_iload_n cx 3 rfl rfl dX9_goInward_15 (pn := 16) rfl ?_
    refine j_imul cx dX9_goInward_16 (pn := 17) rfl ?_
    refine j_iload_n cx 2 rfl rfl dX9_goInward_17 (pn := 18) rfl ?_
    refine j_icmp_ge cx 43 dX9_goInward_18 (pn := 21) rfl rfl (fun c2 => ?_) (fun c2 => ?_)
    · have h := h.1 c2
      exact hR (k_length, k_order) 43 _ dX9_goInward_43 h
    · have h := h.2 c2
      refine j_aload_n cx 0 rfl rfl dX9_goInward_21 (pn := 22) rfl ?_
      refine j_iload_n cx 1 rfl rfl dX9_goInward_22 (pn := 23) rfl ?_
      refine j_iload_n cx 3 rfl rfl dX9_goInward_23 (pn := 24) rfl ?_
      refine j_iload_n cx 1 rfl rfl dX9_goInward_24 (pn := 25) rfl ?_
      refine j_iconst cx (v := 1) (by decide) dX9_goInward_25 (pn := 26) rfl ?_
      refine j_isub cx dX9_goInward_26 (pn := 27) rfl ?_
      refine j_iload_n cx 3 rfl rfl dX9_goInward_27 (pn := 28) rfl ?_
      refine j_isub cx dX9_goInward_28 (pn := 29) rfl ?_
      refine j_iload_n cx 2 rfl rfl dX9_goInward_29 (pn := 30) rfl ?_
      refine j_iconst cx (v := 1) (by decide) dX9_goInward_30 (pn := 31) rfl ?_
      refine j_isub cx dX9_goInward_31 (pn := 32) rfl ?_
      refine j_iload_n cx 3 rfl rfl dX9_goInward_32 (pn := 33) rfl ?_
      refine j_isub cx dX9_goInward_33 (pn := 34) rfl ?_
      refine j_callvV0 cx q_inst_X9_goRound q_sel_X9_goRound (b := a_k) (As := [.int p1, .int x3, .int ((p1 - 1) - x3), .int ((p2 - 1) - x3)]) (rest := []) (c_X9_goRound h) ⟨q_code_X9_goRound, q_ml_X9_23, q_init_X9, hd_X9_goRound, ⟨Nat.le_of_ble_eq_true rfl, Nat.le_of_ble_eq_true rfl⟩, Nat.le_of_ble_eq_true rfl, Nat.le_of_ble_eq_true rfl⟩ (q0 := 0) rfl rfl rfl rfl (Nat.le_of_ble_eq_true rfl) dX9_goInward_34 (pn := 37) rfl (fun u3 h => ?_)
      show J x 0 0 4 (W_Walk cyI cyJ cyZ a_k a_k_order u3.1 k_needed k_lifted u3.2) [(0, .ref a_k), (1, .int p1), (2, .int p2), (3, .int x3)] 37 []
      obtain ⟨y4, ey4⟩ : ∃ z : Int32, z = x3 + 1 := ⟨_, rfl⟩
      have h := h y4 ey4
      refine j_iinc cx 3 rfl (cst := 1) (by decide) ey4 [(3, .int y4), (0, .ref a_k), (1, .int p1), (2, .int p2)] (by decide) rfl dX9_goInward_37 (pn := 40) rfl ?_
      refine j_goto cx 7 dX9_goInward_40 rfl ?_
      refine j_sub [1, 2, 3, 0] [(0, .ref a_k), (1, .int p1), (2, .int p2), (3, .int y4)] rfl ?_
      exact hB7 _ _ _ h
set_option maxHeartbeats 4000000 in
set_option maxRecDepth 100000 in
theorem J_X9_goInward_7 {x : CX} {D : DG} {cyI cyJ cyZ : ClassId} {a_k a_k_order : Nat} {k_length : Int32} {k_needed : Int32} {k_lifted : Int32} {k_order : Nat → Int32} {p1 : Int32} {p2 : Int32} {x3 : Int32} {Q : (Int32 × (Nat → Int32)) → Prop} (cx : Cx x cX9_goInward 4 RX9 rm_X9_goInward D [(cyI, .int), (cyJ, .long), (cyZ, .boolean)]) (hR : ∀ (u : Int32 × (Nat → Int32)) (pc : Nat) (lv : List (Nat × Value)), decode cX9_goInward pc = .ok (.return_, 1) → Q u → J x 0 0 4 (W_Walk cyI cyJ cyZ a_k a_k_order u.1 k_needed k_lifted u.2) lv pc []) (h : lp_X9_goInward_7 Q  p1 p2 k_length k_order x3) :
    J x 0 0 4 (W_Walk cyI cyJ cyZ a_k a_k_order k_length k_needed k_lifted k_order) [(0, .ref a_k), (1, .int p1), (2, .int p2), (3, .int x3)] 7 [] := by
  obtain ⟨I, ⟨n, h0⟩, hb⟩ := h
  revert k_length k_order x3
  induction n using Nat.strongRecOn with
  | _ n ih =>
    intro k_length k_order x3 h0
    exact B_X9_goInward_7 cx hR (fun _ _ _ hz => by obtain ⟨n2, hlt, hI⟩ := hz; exact ih n2 hlt hI) (hb n k_length k_order x3 h0)
set_option maxHeartbeats 4000000 in
set_option maxRecDepth 100000 in
theorem c_X9_goInward {D : DG} {cyI cyJ cyZ : ClassId} {a_k a_k_order : Nat} {k_length : Int32} {k_needed : Int32} {k_lifted : Int32} {k_order : Nat → Int32} {p1 : Int32} {p2 : Int32} {Q : (Int32 × (Nat → Int32)) → Prop} (h : wp_X9_goInward p1 p2 k_order Q) :
    MetV yX9_goInward cX9_goInward 4 (none) rm_X9_goInward D [(cyI, .int), (cyJ, .long), (cyZ, .boolean)] [.ref a_k, .int p1, .int p2] (W_Walk cyI cyJ cyZ a_k a_k_order k_length k_needed k_lifted k_order) (fun u : Int32 × (Nat → Int32) => (W_Walk cyI cyJ cyZ a_k a_k_order u.1 k_needed k_lifted u.2)) (fun u => Q u) := by
  unfold wp_X9_goInward at h
  refine metV_of (by decide) (Nat.le_of_ble_eq_true rfl) (fun x cx0 hR0 => ?_)
  have cx : Cx x cX9_goInward 4 RX9 rm_X9_goInward D [(cyI, .int), (cyJ, .long), (cyZ, .boolean)] := cx0
  have hR : ∀ (u : Int32 × (Nat → Int32)) (pc : Nat) (lv : List (Nat × Value)), decode cX9_goInward pc = .ok (.return_, 1) → Q u → J x 0 0 4 (W_Walk cyI cyJ cyZ a_k a_k_order u.1 k_needed k_lifted u.2) lv pc [] := (fun u pc lv d hq => hR0 u pc lv d hq)
  show J x 0 0 4 (W_Walk cyI cyJ cyZ a_k a_k_order k_length k_needed k_lifted k_order) [(0, .ref a_k), (1, .int p1), (2, .int p2)] 0 []
  refine j_aload_n cx 0 rfl rfl dX9_goInward_0 (pn := 1) rfl ?_
  refine j_iconst cx (v := 0) (by decide) dX9_goInward_1 (pn := 2) rfl ?_
  refine j_put cx tyX9 tyX9_ok nmX9 inGX9 0 rfl rfl 1 (by decide) q_fl_X9_15 rfl rfl rfl rfl rfl (Nat.le_of_ble_eq_true rfl) (W_Walk cyI cyJ cyZ a_k a_k_order 0 k_needed k_lifted k_order) rfl dX9_goInward_2 (pn := 5) rfl ?_
  refine j_iconst cx (v := 0) (by decide) dX9_goInward_5 (pn := 6) rfl ?_
  refine j_istore_n cx rfl [(3, .int 0), (0, .ref a_k), (1, .int p1), (2, .int p2)] (by decide) rfl dX9_goInward_6 (pn := 7) rfl ?_
  refine j_sub [1, 2, 3, 0] [(0, .ref a_k), (1, .int p1), (2, .int p2), (3, .int 0)] rfl ?_
  exact J_X9_goInward_7 cx hR h
theorem dX9_part_0 : decode cX9_part 0 = .ok (.iconst 0, 1) := by decide +kernel
theorem dX9_part_1 : decode cX9_part 1 = .ok (.istore_n 3, 1) := by decide +kernel
theorem dX9_part_2 : decode cX9_part 2 = .ok (.iload_n 1, 1) := by decide +kernel
theorem dX9_part_3 : decode cX9_part 3 = .ok (.istore 4, 2) := by decide +kernel
theorem dX9_part_5 : decode cX9_part 5 = .ok (.iload 4, 2) := by decide +kernel
theorem dX9_part_7 : decode cX9_part 7 = .ok (.iload_n 2, 1) := by decide +kernel
theorem dX9_part_8 : decode cX9_part 8 = .ok (.if_icmp .ge 21, 3) := by decide +kernel
theorem dX9_part_11 : decode cX9_part 11 = .ok (.iload_n 3, 1) := by decide +kernel
theorem dX9_part_12 : decode cX9_part 12 = .ok (.iconst 1, 1) := by decide +kernel
theorem dX9_part_13 : decode cX9_part 13 = .ok (.aload_n 0, 1) := by decide +kernel
theorem dX9_part_14 : decode cX9_part 14 = .ok (.getfield 9, 3) := by decide +kernel
theorem dX9_part_17 : decode cX9_part 17 = .ok (.iload 4, 2) := by decide +kernel
theorem dX9_part_19 : decode cX9_part 19 = .ok (.iaload, 1) := by decide +kernel
theorem dX9_part_20 : decode cX9_part 20 = .ok (.ishl, 1) := by decide +kernel
theorem dX9_part_21 : decode cX9_part 21 = .ok (.ior, 1) := by decide +kernel
theorem dX9_part_22 : decode cX9_part 22 = .ok (.istore_n 3, 1) := by decide +kernel
theorem dX9_part_23 : decode cX9_part 23 = .ok (.iinc 4 1, 3) := by decide +kernel
theorem dX9_part_26 : decode cX9_part 26 = .ok (.goto (-21), 3) := by decide +kernel
theorem dX9_part_29 : decode cX9_part 29 = .ok (.iload_n 3, 1) := by decide +kernel
theorem dX9_part_30 : decode cX9_part 30 = .ok (.ireturn, 1) := by decide +kernel
abbrev rm_X9_part : Room := { frames := 0, cells := 0, slots := 0, locals := 0 }
theorem hd_X9_part : yX9_part.cls ≠ "java/lang/invoke/MethodHandle" ∧ yX9_part.cls ≠ "java/lang/invoke/VarHandle" ∧ (parseMethodDescriptor yX9_part.desc).map (fun d => d.parameters.length) = some 2 := by decide +kernel
def bd_X9_part_5 (Q : Int32 → Prop) (B5 : Int32 → Int32 → Prop) (p2 : Int32) (k_order : Nat → Int32) (x3 : Int32) (x4 : Int32) : Prop :=
((p2 ≤ x4 → Q x3) ∧
(¬ p2 ≤ x4 → vp_in x4 10 ∧ (∀ y2 : Int32, y2 = (x3 ||| (1 <<< ((k_order x4.toNatClampNeg) &&& 31))) →
∀ y3 : Int32, y3 = (x4 + 1) →
B5 y2 y3)))
def lp_X9_part_5 (Q : Int32 → Prop) (p2 : Int32) (k_order : Nat → Int32) (x3 : Int32) (x4 : Int32) : Prop :=
∃ I : Nat → Int32 → Int32 → Prop, (∃ n, I n x3 x4) ∧ ∀ n x3 x4, I n x3 x4 → bd_X9_part_5 Q  (fun x3' x4' => ∃ n', n' < n ∧ I n' x3' x4') p2 k_order x3 x4
def wp_X9_part (p1 : Int32) (p2 : Int32) (k_order : Nat → Int32) (Q : Int32 → Prop) : Prop :=
lp_X9_part_5 Q p2 k_order 0 p1
set_option maxHeartbeats 4000000 in
set_option maxRecDepth 100000 in
theorem B_X9_part_5 {x : CX} {D : DG} {cyI cyJ cyZ : ClassId} {a_k a_k_order : Nat} {k_length : Int32} {k_needed : Int32} {k_lifted : Int32} {k_order : Nat → Int32} {p2 : Int32} {x3 : Int32} {x4 : Int32} {Q : Int32 → Prop} {B5 : Int32 → Int32 → Prop} (cx : Cx x cX9_part 5 RX9 rm_X9_part D [(cyI, .int), (cyJ, .long), (cyZ, .boolean)]) (hR : ∀ (v : Int32) (pc : Nat) (lv : List (Nat × Value)), decode cX9_part pc = .ok (.ireturn, 1) → Q v → J x 0 0 5 (W_Walk cyI cyJ cyZ a_k a_k_order k_length k_needed k_lifted k_order) lv pc [.int v]) (hB5 : ∀ (x3 : Int32) (x4 : Int32), B5 x3 x4 → J x 0 0 5 (W_Walk cyI cyJ cyZ a_k a_k_order k_length k_needed k_lifted k_order) [(0, .ref a_k), (2, .int p2), (3, .int x3), (4, .int x4)] 5 []) (h : bd_X9_part_5 Q B5 p2 k_order x3 x4) :
    J x 0 0 5 (W_Walk cyI cyJ cyZ a_k a_k_order k_length k_needed k_lifted k_order) [(0, .ref a_k), (2, .int p2), (3, .int x3), (4, .int x4)] 5 [] := by
  unfold bd_X9_part_5 at h
  refine j_iload cx 3 rfl dX9_part_5 (pn := 7) rfl ?_
  refine j_iload_n cx 1 rfl rfl dX9_part_7 (pn := 8) rfl ?_
  refine j_icmp_ge cx 29 dX9_part_8 (pn := 11) rfl rfl (fun c1 => ?_) (fun c1 => ?_)
  · have h := h.1 c1
    refine j_iload_n cx 2 rfl rfl dX9_part_29 (pn := 30) rfl ?_
    exact hR x3 30 _ dX9_part_30 h
  · have h := h.2 c1
    refine j_iload_n cx 2 rfl rfl dX9_part_11 (pn := 12) rfl ?_
    refine j_iconst cx (v := 1) (by decide) dX9_part_12 (pn := 13) rfl ?_
    refine j_aload_n cx 0 rfl rfl dX9_part_13 (pn := 14) rfl ?_
    refine j_get cx inGX9 0 rfl rfl 0 (by decide) q_fl_X9_9 rfl rfl dX9_part_14 (pn := 17) rfl ?_
    refine j_iload cx 3 rfl dX9_part_17 (pn := 19) rfl ?_
    refine j_iald cx 1 0 rfl rfl h.1 dX9_part_19 (pn := 20) rfl ?_
    have h := h.2
    refine j_ishl cx dX9_part_20 (pn := 21) rfl ?_
    refine j_ior cx dX9_part_21 (pn := 22) rfl ?_
    refine j_topi (fun y2 ey2 => ?_)
    have h := h y2 ey2
    refine j_istore_n cx rfl [(3, .int y2), (0, .ref a_k), (2, .int p2), (4, .int x4)] (by decide) rfl dX9_part_22 (pn := 23) rfl ?_
    obtain ⟨y3, ey3⟩ : ∃ z : Int32, z = x4 + 1 := ⟨_, rfl⟩
    have h := h y3 ey3
    refine j_iinc cx 3 rfl (cst := 1) (by decide) ey3 [(4, .int y3), (3, .int y2), (0, .ref a_k), (2, .int p2)] (by decide) rfl dX9_part_23 (pn := 26) rfl ?_
    refine j_goto cx 5 dX9_part_26 rfl ?_
    refine j_sub [2, 3, 1, 0] [(0, .ref a_k), (2, .int p2), (3, .int y2), (4, .int y3)] rfl ?_
    exact hB5 _ _ h
set_option maxHeartbeats 4000000 in
set_option maxRecDepth 100000 in
theorem J_X9_part_5 {x : CX} {D : DG} {cyI cyJ cyZ : ClassId} {a_k a_k_order : Nat} {k_length : Int32} {k_needed : Int32} {k_lifted : Int32} {k_order : Nat → Int32} {p2 : Int32} {x3 : Int32} {x4 : Int32} {Q : Int32 → Prop} (cx : Cx x cX9_part 5 RX9 rm_X9_part D [(cyI, .int), (cyJ, .long), (cyZ, .boolean)]) (hR : ∀ (v : Int32) (pc : Nat) (lv : List (Nat × Value)), decode cX9_part pc = .ok (.ireturn, 1) → Q v → J x 0 0 5 (W_Walk cyI cyJ cyZ a_k a_k_order k_length k_needed k_lifted k_order) lv pc [.int v]) (h : lp_X9_part_5 Q  p2 k_order x3 x4) :
    J x 0 0 5 (W_Walk cyI cyJ cyZ a_k a_k_order k_length k_needed k_lifted k_order) [(0, .ref a_k), (2, .int p2), (3, .int x3), (4, .int x4)] 5 [] := by
  obtain ⟨I, ⟨n, h0⟩, hb⟩ := h
  revert x3 x4
  induction n using Nat.strongRecOn with
  | _ n ih =>
    intro x3 x4 h0
    exact B_X9_part_5 cx hR (fun _ _ hz => by obtain ⟨n2, hlt, hI⟩ := hz; exact ih n2 hlt hI) (hb n x3 x4 h0)
set_option maxHeartbeats 4000000 in
set_option maxRecDepth 100000 in
theorem c_X9_part {D : DG} {cyI cyJ cyZ : ClassId} {a_k a_k_order : Nat} {k_length : Int32} {k_needed : Int32} {k_lifted : Int32} {k_order : Nat → Int32} {p1 : Int32} {p2 : Int32} {Q : Int32 → Prop} (h : wp_X9_part p1 p2 k_order Q) :
    MetI yX9_part cX9_part 5 (some .int) rm_X9_part D [(cyI, .int), (cyJ, .long), (cyZ, .boolean)] [.ref a_k, .int p1, .int p2] (W_Walk cyI cyJ cyZ a_k a_k_order k_length k_needed k_lifted k_order) (fun _ : Unit => (W_Walk cyI cyJ cyZ a_k a_k_order k_length k_needed k_lifted k_order)) (fun v _ => Q v ) := by
  unfold wp_X9_part at h
  refine metI_of (by decide) (Nat.le_of_ble_eq_true rfl) (fun x cx0 hR0 => ?_)
  have cx : Cx x cX9_part 5 RX9 rm_X9_part D [(cyI, .int), (cyJ, .long), (cyZ, .boolean)] := cx0
  have hR : ∀ (v : Int32) (pc : Nat) (lv : List (Nat × Value)), decode cX9_part pc = .ok (.ireturn, 1) → Q v → J x 0 0 5 (W_Walk cyI cyJ cyZ a_k a_k_order k_length k_needed k_lifted k_order) lv pc [.int v] := (fun v pc lv d hq => hR0 v () pc lv d hq)
  show J x 0 0 5 (W_Walk cyI cyJ cyZ a_k a_k_order k_length k_needed k_lifted k_order) [(0, .ref a_k), (1, .int p1), (2, .int p2)] 0 []
  refine j_iconst cx (v := 0) (by decide) dX9_part_0 (pn := 1) rfl ?_
  refine j_istore_n cx rfl [(3, .int 0), (0, .ref a_k), (1, .int p1), (2, .int p2)] (by decide) rfl dX9_part_1 (pn := 2) rfl ?_
  refine j_iload_n cx 2 rfl rfl dX9_part_2 (pn := 3) rfl ?_
  refine j_istore cx [(4, .int p1), (3, .int 0), (0, .ref a_k), (1, .int p1), (2, .int p2)] (by decide) rfl dX9_part_3 (pn := 5) rfl ?_
  refine j_sub [2, 4, 1, 0] [(0, .ref a_k), (2, .int p2), (3, .int 0), (4, .int p1)] rfl ?_
  exact J_X9_part_5 cx hR h
theorem dX9_measure_0 : decode cX9_measure 0 = .ok (.aload_n 0, 1) := by decide +kernel
theorem dX9_measure_1 : decode cX9_measure 1 = .ok (.iconst 0, 1) := by decide +kernel
theorem dX9_measure_2 : decode cX9_measure 2 = .ok (.putfield 27, 3) := by decide +kernel
theorem dX9_measure_5 : decode cX9_measure 5 = .ok (.aload_n 0, 1) := by decide +kernel
theorem dX9_measure_6 : decode cX9_measure 6 = .ok (.iconst 0, 1) := by decide +kernel
theorem dX9_measure_7 : decode cX9_measure 7 = .ok (.putfield 30, 3) := by decide +kernel
theorem dX9_measure_10 : decode cX9_measure 10 = .ok (.iconst 0, 1) := by decide +kernel
theorem dX9_measure_11 : decode cX9_measure 11 = .ok (.istore_n 3, 1) := by decide +kernel
theorem dX9_measure_12 : decode cX9_measure 12 = .ok (.iconst 0, 1) := by decide +kernel
theorem dX9_measure_13 : decode cX9_measure 13 = .ok (.istore 4, 2) := by decide +kernel
theorem dX9_measure_15 : decode cX9_measure 15 = .ok (.iload 4, 2) := by decide +kernel
theorem dX9_measure_17 : decode cX9_measure 17 = .ok (.aload_n 0, 1) := by decide +kernel
theorem dX9_measure_18 : decode cX9_measure 18 = .ok (.getfield 15, 3) := by decide +kernel
theorem dX9_measure_21 : decode cX9_measure 21 = .ok (.if_icmp .ge 92, 3) := by decide +kernel
theorem dX9_measure_24 : decode cX9_measure 24 = .ok (.aload_n 0, 1) := by decide +kernel
theorem dX9_measure_25 : decode cX9_measure 25 = .ok (.iload 4, 2) := by decide +kernel
theorem dX9_measure_27 : decode cX9_measure 27 = .ok (.aload_n 0, 1) := by decide +kernel
theorem dX9_measure_28 : decode cX9_measure 28 = .ok (.getfield 15, 3) := by decide +kernel
theorem dX9_measure_31 : decode cX9_measure 31 = .ok (.iload 4, 2) := by decide +kernel
theorem dX9_measure_33 : decode cX9_measure 33 = .ok (.iload_n 2, 1) := by decide +kernel
theorem dX9_measure_34 : decode cX9_measure 34 = .ok (.iadd, 1) := by decide +kernel
theorem dX9_measure_35 : decode cX9_measure 35 = .ok (.invokestatic 33, 3) := by decide +kernel
theorem dX9_measure_38 : decode cX9_measure 38 = .ok (.invokevirtual 39, 3) := by decide +kernel
theorem dX9_measure_41 : decode cX9_measure 41 = .ok (.istore 5, 2) := by decide +kernel
theorem dX9_measure_43 : decode cX9_measure 43 = .ok (.aload_n 1, 1) := by decide +kernel
theorem dX9_measure_44 : decode cX9_measure 44 = .ok (.iload 5, 2) := by decide +kernel
theorem dX9_measure_46 : decode cX9_measure 46 = .ok (.invokevirtual 42, 3) := by decide +kernel
theorem dX9_measure_49 : decode cX9_measure 49 = .ok (.ifCond .ne 14, 3) := by decide +kernel
theorem dX9_measure_52 : decode cX9_measure 52 = .ok (.aload_n 0, 1) := by decide +kernel
theorem dX9_measure_53 : decode cX9_measure 53 = .ok (.iconst (-1), 1) := by decide +kernel
theorem dX9_measure_54 : decode cX9_measure 54 = .ok (.putfield 27, 3) := by decide +kernel
theorem dX9_measure_57 : decode cX9_measure 57 = .ok (.aload_n 0, 1) := by decide +kernel
theorem dX9_measure_58 : decode cX9_measure 58 = .ok (.iconst (-1), 1) := by decide +kernel
theorem dX9_measure_59 : decode cX9_measure 59 = .ok (.putfield 30, 3) := by decide +kernel
theorem dX9_measure_62 : decode cX9_measure 62 = .ok (.return_, 1) := by decide +kernel
theorem dX9_measure_63 : decode cX9_measure 63 = .ok (.aload_n 0, 1) := by decide +kernel
theorem dX9_measure_64 : decode cX9_measure 64 = .ok (.aload_n 0, 1) := by decide +kernel
theorem dX9_measure_65 : decode cX9_measure 65 = .ok (.getfield 27, 3) := by decide +kernel
theorem dX9_measure_68 : decode cX9_measure 68 = .ok (.aload_n 1, 1) := by decide +kernel
theorem dX9_measure_69 : decode cX9_measure 69 = .ok (.getfield 48, 3) := by decide +kernel
theorem dX9_measure_72 : decode cX9_measure 72 = .ok (.iload 5, 2) := by decide +kernel
theorem dX9_measure_74 : decode cX9_measure 74 = .ok (.iaload, 1) := by decide +kernel
theorem dX9_measure_75 : decode cX9_measure 75 = .ok (.invokestatic 51, 3) := by decide +kernel
theorem dX9_measure_78 : decode cX9_measure 78 = .ok (.putfield 27, 3) := by decide +kernel
theorem dX9_measure_81 : decode cX9_measure 81 = .ok (.aload_n 0, 1) := by decide +kernel
theorem dX9_measure_82 : decode cX9_measure 82 = .ok (.dup, 1) := by decide +kernel
theorem dX9_measure_83 : decode cX9_measure 83 = .ok (.getfield 30, 3) := by decide +kernel
theorem dX9_measure_86 : decode cX9_measure 86 = .ok (.aload_n 1, 1) := by decide +kernel
theorem dX9_measure_87 : decode cX9_measure 87 = .ok (.iload 5, 2) := by decide +kernel
theorem dX9_measure_89 : decode cX9_measure 89 = .ok (.iload_n 3, 1) := by decide +kernel
theorem dX9_measure_90 : decode cX9_measure 90 = .ok (.invokevirtual 54, 3) := by decide +kernel
theorem dX9_measure_93 : decode cX9_measure 93 = .ok (.iadd, 1) := by decide +kernel
theorem dX9_measure_94 : decode cX9_measure 94 = .ok (.putfield 30, 3) := by decide +kernel
theorem dX9_measure_97 : decode cX9_measure 97 = .ok (.iload 5, 2) := by decide +kernel
theorem dX9_measure_99 : decode cX9_measure 99 = .ok (.istore_n 3, 1) := by decide +kernel
theorem dX9_measure_100 : decode cX9_measure 100 = .ok (.iload 4, 2) := by decide +kernel
theorem dX9_measure_102 : decode cX9_measure 102 = .ok (.iconst 1, 1) := by decide +kernel
theorem dX9_measure_103 : decode cX9_measure 103 = .ok (.iload_n 2, 1) := by decide +kernel
theorem dX9_measure_104 : decode cX9_measure 104 = .ok (.invokestatic 51, 3) := by decide +kernel
theorem dX9_measure_107 : decode cX9_measure 107 = .ok (.iadd, 1) := by decide +kernel
theorem dX9_measure_108 : decode cX9_measure 108 = .ok (.istore 4, 2) := by decide +kernel
theorem dX9_measure_110 : decode cX9_measure 110 = .ok (.goto (-95), 3) := by decide +kernel
theorem dX9_measure_113 : decode cX9_measure 113 = .ok (.return_, 1) := by decide +kernel
abbrev rm_X9_measure : Room := { frames := 2, cells := 0, slots := 0, locals := 42 }
theorem hd_X9_measure : yX9_measure.cls ≠ "java/lang/invoke/MethodHandle" ∧ yX9_measure.cls ≠ "java/lang/invoke/VarHandle" ∧ (parseMethodDescriptor yX9_measure.desc).map (fun d => d.parameters.length) = some 2 := by decide +kernel
def bd_X9_measure_15 (Q : Int32 × Int32 → Prop) (B15 : Int32 → Int32 → Int32 → Int32 → Prop) (p2 : Int32) (k_length : Int32) (k_order : Nat → Int32) (f_needs : Nat → Int32) (f_sideCounts : Nat → Int32) (k_needed : Int32) (k_lifted : Int32) (x3 : Int32) (x4 : Int32) : Prop :=
((k_length ≤ x4 → Q (k_needed, k_lifted)) ∧
(¬ k_length ≤ x4 → wp_X9_part x4 (if (x4 + p2) < k_length then (x4 + p2) else k_length) k_order (fun (r2 : Int32) => wp_X3_isFold r2 f_sideCounts (fun (r3 : Int32) => ((¬ r3 = 0 → vp_in r2 1024 ∧ (∀ y5 : Int32, y5 = (if k_needed < (f_sideCounts r2.toNatClampNeg) then (f_sideCounts r2.toNatClampNeg) else k_needed) →
wp_X3_liftedTo r2 x3 f_needs (fun (r6 : Int32) => ∀ y7 : Int32, y7 = (k_lifted + r6) →
∀ y8 : Int32, y8 = (x4 + (if 1 < p2 then p2 else 1)) →
B15 y5 y7 r2 y8))) ∧
(r3 = 0 → Q ((-1), (-1))))))))
def lp_X9_measure_15 (Q : Int32 × Int32 → Prop) (p2 : Int32) (k_length : Int32) (k_order : Nat → Int32) (f_needs : Nat → Int32) (f_sideCounts : Nat → Int32) (k_needed : Int32) (k_lifted : Int32) (x3 : Int32) (x4 : Int32) : Prop :=
∃ I : Nat → Int32 → Int32 → Int32 → Int32 → Prop, (∃ n, I n k_needed k_lifted x3 x4) ∧ ∀ n k_needed k_lifted x3 x4, I n k_needed k_lifted x3 x4 → bd_X9_measure_15 Q  (fun k_needed' k_lifted' x3' x4' => ∃ n', n' < n ∧ I n' k_needed' k_lifted' x3' x4') p2 k_length k_order f_needs f_sideCounts k_needed k_lifted x3 x4
def wp_X9_measure (p2 : Int32) (k_length : Int32) (k_order : Nat → Int32) (f_needs : Nat → Int32) (f_sideCounts : Nat → Int32) (Q : Int32 × Int32 → Prop) : Prop :=
lp_X9_measure_15 Q p2 k_length k_order f_needs f_sideCounts 0 0 0 0
set_option maxHeartbeats 4000000 in
set_option maxRecDepth 100000 in
theorem B_X9_measure_15 {x : CX} {D : DG} {cyI cyJ cyZ : ClassId} {a_k a_k_order a_f a_f_needs a_f_sideCounts a_f_yardSums a_f_beside : Nat} {k_length : Int32} {k_needed : Int32} {k_lifted : Int32} {k_order : Nat → Int32} {f_all : Int32} {f_wanted : Int32} {f_mostSides : Int32} {f_needs : Nat → Int32} {f_sideCounts : Nat → Int32} {f_yardSums : Nat → Int32} {f_beside : Nat → Int32} {p2 : Int32} {x3 : Int32} {x4 : Int32} {Q : Int32 × Int32 → Prop} {B15 : Int32 → Int32 → Int32 → Int32 → Prop} (cx : Cx x cX9_measure 6 RX9 rm_X9_measure D [(cyI, .int), (cyJ, .long), (cyZ, .boolean)]) (hR : ∀ (u : Int32 × Int32) (pc : Nat) (lv : List (Nat × Value)), decode cX9_measure pc = .ok (.return_, 1) → Q u → J x 0 0 6 (W_WalkT cyI cyJ cyZ a_k a_k_order a_f a_f_needs a_f_sideCounts a_f_yardSums a_f_beside k_length u.1 u.2 k_order f_all f_wanted f_mostSides f_needs f_sideCounts f_yardSums f_beside) lv pc []) (hB15 : ∀ (k_needed : Int32) (k_lifted : Int32) (x3 : Int32) (x4 : Int32), B15 k_needed k_lifted x3 x4 → J x 0 0 6 (W_WalkT cyI cyJ cyZ a_k a_k_order a_f a_f_needs a_f_sideCounts a_f_yardSums a_f_beside k_length k_needed k_lifted k_order f_all f_wanted f_mostSides f_needs f_sideCounts f_yardSums f_beside) [(0, .ref a_k), (1, .ref a_f), (2, .int p2), (3, .int x3), (4, .int x4)] 15 []) (h : bd_X9_measure_15 Q B15 p2 k_length k_order f_needs f_sideCounts k_needed k_lifted x3 x4) :
    J x 0 0 6 (W_WalkT cyI cyJ cyZ a_k a_k_order a_f a_f_needs a_f_sideCounts a_f_yardSums a_f_beside k_length k_needed k_lifted k_order f_all f_wanted f_mostSides f_needs f_sideCounts f_yardSums f_beside) [(0, .ref a_k), (1, .ref a_f), (2, .int p2), (3, .int x3), (4, .int x4)] 15 [] := by
  unfold bd_X9_measure_15 at h
  refine j_iload cx 4 rfl dX9_measure_15 (pn := 17) rfl ?_
  refine j_aload_n cx 0 rfl rfl dX9_measure_17 (pn := 18) rfl ?_
  refine j_get cx inGX9 0 rfl rfl 1 (by decide) q_fl_X9_15 rfl rfl dX9_measure_18 (pn := 21) rfl ?_
  refine j_icmp_ge cx 113 dX9_measure_21 (pn := 24) rfl rfl (fun c1 => ?_) (fun c1 => ?_)
  · have h := h.1 c1
    exact hR (k_needed, k_lifted) 113 _ dX9_measure_113 h
  · have h := h.2 c1
    refine j_aload_n cx 0 rfl rfl dX9_measure_24 (pn := 25) rfl ?_
    refine j_iload cx 4 rfl dX9_measure_25 (pn := 27) rfl ?_
    refine j_aload_n cx 0 rfl rfl dX9_measure_27 (pn := 28) rfl ?_
    refine j_get cx inGX9 0 rfl rfl 1 (by decide) q_fl_X9_15 rfl rfl dX9_measure_28 (pn := 31) rfl ?_
    refine j_iload cx 4 rfl dX9_measure_31 (pn := 33) rfl ?_
    refine j_iload_n cx 2 rfl rfl dX9_measure_33 (pn := 34) rfl ?_
    refine j_iadd cx dX9_measure_34 (pn := 35) rfl ?_
    refine j_mmin cx q_ml_X9_33 q_stat_J9_min_7cf53 q_init_J9 q_code_J9_min_7cf53 (Nat.le_of_ble_eq_true rfl) (Nat.le_of_ble_eq_true rfl) (Nat.zero_le _) (Nat.zero_le _) dX9_measure_35 (pn := 38) rfl ?_
    refine j_callvI cx q_inst_X9_part q_sel_X9_part (b := a_k) (As := [.int x4, .int (if (x4 + p2) < k_length then (x4 + p2) else k_length)]) (rest := []) (W_Walk cyI cyJ cyZ a_k a_k_order k_length k_needed k_lifted k_order) [(a_f, .inr (3, [.ref a_f_needs, .ref a_f_sideCounts, .ref a_f_yardSums, .ref a_f_beside, .int f_all, .int f_wanted, .int f_mostSides])), (a_f_needs, .inl (cyI, 1024, .inl f_needs)), (a_f_sideCounts, .inl (cyI, 1024, .inl f_sideCounts)), (a_f_yardSums, .inl (cyI, 1024, .inl f_yardSums)), (a_f_beside, .inl (cyI, 1024, .inl f_beside))] (c_X9_part h) ⟨q_code_X9_part, q_ml_X9_39, q_init_X9, hd_X9_part, ⟨Nat.le_of_ble_eq_true rfl, Nat.le_of_ble_eq_true rfl⟩, Nat.le_of_ble_eq_true rfl, Nat.le_of_ble_eq_true rfl⟩ (q0 := 0) rfl rfl rfl [0, 1] [2, 3, 4, 5, 6] [5, 6, 0, 1, 2, 3, 4] rfl rfl rfl rfl rfl (by decide) (fun _ : Unit => (W_WalkT cyI cyJ cyZ a_k a_k_order a_f a_f_needs a_f_sideCounts a_f_yardSums a_f_beside k_length k_needed k_lifted k_order f_all f_wanted f_mostSides f_needs f_sideCounts f_yardSums f_beside)) (fun _ => rfl) (fun _ => rfl) rfl rfl (Nat.le_of_ble_eq_true rfl) dX9_measure_38 (pn := 41) rfl (fun r2 _ h => ?_)
    show J x 0 0 6 (W_WalkT cyI cyJ cyZ a_k a_k_order a_f a_f_needs a_f_sideCounts a_f_yardSums a_f_beside k_length k_needed k_lifted k_order f_all f_wanted f_mostSides f_needs f_sideCounts f_yardSums f_beside) [(0, .ref a_k), (1, .ref a_f), (2, .int p2), (3, .int x3), (4, .int x4)] 41 [.int r2]
    refine j_istore cx [(5, .int r2), (0, .ref a_k), (1, .ref a_f), (2, .int p2), (3, .int x3), (4, .int x4)] (by decide) rfl dX9_measure_41 (pn := 43) rfl ?_
    refine j_aload_n cx 2 rfl rfl dX9_measure_43 (pn := 44) rfl ?_
    refine j_iload cx 0 rfl dX9_measure_44 (pn := 46) rfl ?_
    refine j_callvI cx q_inst_X3_isFold q_sel_X3_isFold (b := a_f) (As := [.int r2]) (rest := []) (W_FT cyI cyJ cyZ a_f a_f_needs a_f_sideCounts a_f_yardSums a_f_beside f_all f_wanted f_mostSides f_needs f_sideCounts f_yardSums f_beside) [(a_k, .inr (9, [.ref a_k_order, .int k_length, .int k_needed, .int k_lifted])), (a_k_order, .inl (cyI, 10, .inl k_order))] (c_X3_isFold h) ⟨q_code_X3_isFold, q_ml_X9_42, q_init_X3, hd_X3_isFold, ⟨Nat.le_of_ble_eq_true rfl, Nat.le_of_ble_eq_true rfl⟩, Nat.le_of_ble_eq_true rfl, Nat.le_of_ble_eq_true rfl⟩ (q0 := 0) rfl rfl rfl [2, 3, 4, 5, 6] [0, 1] [0, 1, 2, 3, 4, 5, 6] rfl rfl rfl rfl rfl (by decide) (fun _ : Unit => (W_WalkT cyI cyJ cyZ a_k a_k_order a_f a_f_needs a_f_sideCounts a_f_yardSums a_f_beside k_length k_needed k_lifted k_order f_all f_wanted f_mostSides f_needs f_sideCounts f_yardSums f_beside)) (fun _ => rfl) (fun _ => rfl) rfl rfl (Nat.le_of_ble_eq_true rfl) dX9_measure_46 (pn := 49) rfl (fun r3 _ h => ?_)
    show J x 0 0 6 (W_WalkT cyI cyJ cyZ a_k a_k_order a_f a_f_needs a_f_sideCounts a_f_yardSums a_f_beside k_length k_needed k_lifted k_order f_all f_wanted f_mostSides f_needs f_sideCounts f_yardSums f_beside) [(5, .int r2), (0, .ref a_k), (1, .ref a_f), (2, .int p2), (3, .int x3), (4, .int x4)] 49 [.int r3]
    refine j_if_ne cx 63 dX9_measure_49 (pn := 52) rfl rfl (fun c4 => ?_) (fun c4 => ?_)
    · have h := h.1 c4
      refine j_aload_n cx 1 rfl rfl dX9_measure_63 (pn := 64) rfl ?_
      refine j_aload_n cx 1 rfl rfl dX9_measure_64 (pn := 65) rfl ?_
      refine j_get cx inGX9 0 rfl rfl 2 (by decide) q_fl_X9_27 rfl rfl dX9_measure_65 (pn := 68) rfl ?_
      refine j_aload_n cx 2 rfl rfl dX9_measure_68 (pn := 69) rfl ?_
      refine j_getN cx inGX3 2 rfl rfl 1 (by decide) q_fl_X9_48 rfl rfl dX9_measure_69 (pn := 72) rfl ?_
      refine j_iload cx 0 rfl dX9_measure_72 (pn := 74) rfl ?_
      refine j_iald cx 4 0 rfl rfl h.1 dX9_measure_74 (pn := 75) rfl ?_
      have h := h.2
      refine j_mmax cx q_ml_X9_51 q_stat_J9_max_7cf53 q_init_J9 q_code_J9_max_7cf53 (Nat.le_of_ble_eq_true rfl) (Nat.le_of_ble_eq_true rfl) (Nat.zero_le _) (Nat.zero_le _) dX9_measure_75 (pn := 78) rfl ?_
      refine j_topi (fun y5 ey5 => ?_)
      have h := h y5 ey5
      refine j_put cx tyX9 tyX9_ok nmX9 inGX9 0 rfl rfl 2 (by decide) q_fl_X9_27 rfl rfl rfl rfl rfl (Nat.le_of_ble_eq_true rfl) (W_WalkT cyI cyJ cyZ a_k a_k_order a_f a_f_needs a_f_sideCounts a_f_yardSums a_f_beside k_length y5 k_lifted k_order f_all f_wanted f_mostSides f_needs f_sideCounts f_yardSums f_beside) rfl dX9_measure_78 (pn := 81) rfl ?_
      refine j_aload_n cx 1 rfl rfl dX9_measure_81 (pn := 82) rfl ?_
      refine j_dup cx rfl dX9_measure_82 (pn := 83) rfl ?_
      refine j_get cx inGX9 0 rfl rfl 3 (by decide) q_fl_X9_30 rfl rfl dX9_measure_83 (pn := 86) rfl ?_
      refine j_aload_n cx 2 rfl rfl dX9_measure_86 (pn := 87) rfl ?_
      refine j_iload cx 0 rfl dX9_measure_87 (pn := 89) rfl ?_
      refine j_iload_n cx 4 rfl rfl dX9_measure_89 (pn := 90) rfl ?_
      refine j_callvI cx q_inst_X3_liftedTo q_sel_X3_liftedTo (b := a_f) (As := [.int r2, .int x3]) (rest := [.int k_lifted, .ref a_k]) (W_FT cyI cyJ cyZ a_f a_f_needs a_f_sideCounts a_f_yardSums a_f_beside f_all f_wanted f_mostSides f_needs f_sideCounts f_yardSums f_beside) [(a_k, .inr (9, [.ref a_k_order, .int k_length, .int y5, .int k_lifted])), (a_k_order, .inl (cyI, 10, .inl k_order))] (c_X3_liftedTo h) ⟨q_code_X3_liftedTo, q_ml_X9_54, q_init_X3, hd_X3_liftedTo, ⟨Nat.le_of_ble_eq_true rfl, Nat.le_of_ble_eq_true rfl⟩, Nat.le_of_ble_eq_true rfl, Nat.le_of_ble_eq_true rfl⟩ (q0 := 0) rfl rfl rfl [2, 3, 4, 5, 6] [0, 1] [0, 1, 2, 3, 4, 5, 6] rfl rfl rfl rfl rfl (by decide) (fun _ : Unit => (W_WalkT cyI cyJ cyZ a_k a_k_order a_f a_f_needs a_f_sideCounts a_f_yardSums a_f_beside k_length y5 k_lifted k_order f_all f_wanted f_mostSides f_needs f_sideCounts f_yardSums f_beside)) (fun _ => rfl) (fun _ => rfl) rfl rfl (Nat.le_of_ble_eq_true rfl) dX9_measure_90 (pn := 93) rfl (fun r6 _ h => ?_)
      show J x 0 0 6 (W_WalkT cyI cyJ cyZ a_k a_k_order a_f a_f_needs a_f_sideCounts a_f_yardSums a_f_beside k_length y5 k_lifted k_order f_all f_wanted f_mostSides f_needs f_sideCounts f_yardSums f_beside) [(5, .int r2), (0, .ref a_k), (1, .ref a_f), (2, .int p2), (3, .int x3), (4, .int x4)] 93 [.int r6, .int k_lifted, .ref a_k]
      refine j_iadd cx dX9_measure_93 (pn := 94) rfl ?_
      refine j_topi (fun y7 ey7 => ?_)
      have h := h y7 ey7
      refine j_put cx tyX9 tyX9_ok nmX9 inGX9 0 rfl rfl 3 (by decide) q_fl_X9_30 rfl rfl rfl rfl rfl (Nat.le_of_ble_eq_true rfl) (W_WalkT cyI cyJ cyZ a_k a_k_order a_f a_f_needs a_f_sideCounts a_f_yardSums a_f_beside k_length y5 y7 k_order f_all f_wanted f_mostSides f_needs f_sideCounts f_yardSums f_beside) rfl dX9_measure_94 (pn := 97) rfl ?_
      refine j_iload cx 0 rfl dX9_measure_97 (pn := 99) rfl ?_
      refine j_istore_n cx rfl [(3, .int r2), (5, .int r2), (0, .ref a_k), (1, .ref a_f), (2, .int p2), (4, .int x4)] (by decide) rfl dX9_measure_99 (pn := 100) rfl ?_
      refine j_iload cx 5 rfl dX9_measure_100 (pn := 102) rfl ?_
      refine j_iconst cx (v := 1) (by decide) dX9_measure_102 (pn := 103) rfl ?_
      refine j_iload_n cx 4 rfl rfl dX9_measure_103 (pn := 104) rfl ?_
      refine j_mmax cx q_ml_X9_51 q_stat_J9_max_7cf53 q_init_J9 q_code_J9_max_7cf53 (Nat.le_of_ble_eq_true rfl) (Nat.le_of_ble_eq_true rfl) (Nat.zero_le _) (Nat.zero_le _) dX9_measure_104 (pn := 107) rfl ?_
      refine j_iadd cx dX9_measure_107 (pn := 108) rfl ?_
      refine j_topi (fun y8 ey8 => ?_)
      have h := h y8 ey8
      refine j_istore cx [(4, .int y8), (3, .int r2), (5, .int r2), (0, .ref a_k), (1, .ref a_f), (2, .int p2)] (by decide) rfl dX9_measure_108 (pn := 110) rfl ?_
      refine j_goto cx 15 dX9_measure_110 rfl ?_
      refine j_sub [3, 4, 5, 1, 0] [(0, .ref a_k), (1, .ref a_f), (2, .int p2), (3, .int r2), (4, .int y8)] rfl ?_
      exact hB15 _ _ _ _ h
    · have h := h.2 c4
      refine j_aload_n cx 1 rfl rfl dX9_measure_52 (pn := 53) rfl ?_
      refine j_iconst cx (v := (-1)) (by decide) dX9_measure_53 (pn := 54) rfl ?_
      refine j_put cx tyX9 tyX9_ok nmX9 inGX9 0 rfl rfl 2 (by decide) q_fl_X9_27 rfl rfl rfl rfl rfl (Nat.le_of_ble_eq_true rfl) (W_WalkT cyI cyJ cyZ a_k a_k_order a_f a_f_needs a_f_sideCounts a_f_yardSums a_f_beside k_length (-1) k_lifted k_order f_all f_wanted f_mostSides f_needs f_sideCounts f_yardSums f_beside) rfl dX9_measure_54 (pn := 57) rfl ?_
      refine j_aload_n cx 1 rfl rfl dX9_measure_57 (pn := 58) rfl ?_
      refine j_iconst cx (v := (-1)) (by decide) dX9_measure_58 (pn := 59) rfl ?_
      refine j_put cx tyX9 tyX9_ok nmX9 inGX9 0 rfl rfl 3 (by decide) q_fl_X9_30 rfl rfl rfl rfl rfl (Nat.le_of_ble_eq_true rfl) (W_WalkT cyI cyJ cyZ a_k a_k_order a_f a_f_needs a_f_sideCounts a_f_yardSums a_f_beside k_length (-1) (-1) k_order f_all f_wanted f_mostSides f_needs f_sideCounts f_yardSums f_beside) rfl dX9_measure_59 (pn := 62) rfl ?_
      exact hR ((-1), (-1)) 62 _ dX9_measure_62 h
set_option maxHeartbeats 4000000 in
set_option maxRecDepth 100000 in
theorem J_X9_measure_15 {x : CX} {D : DG} {cyI cyJ cyZ : ClassId} {a_k a_k_order a_f a_f_needs a_f_sideCounts a_f_yardSums a_f_beside : Nat} {k_length : Int32} {k_needed : Int32} {k_lifted : Int32} {k_order : Nat → Int32} {f_all : Int32} {f_wanted : Int32} {f_mostSides : Int32} {f_needs : Nat → Int32} {f_sideCounts : Nat → Int32} {f_yardSums : Nat → Int32} {f_beside : Nat → Int32} {p2 : Int32} {x3 : Int32} {x4 : Int32} {Q : Int32 × Int32 → Prop} (cx : Cx x cX9_measure 6 RX9 rm_X9_measure D [(cyI, .int), (cyJ, .long), (cyZ, .boolean)]) (hR : ∀ (u : Int32 × Int32) (pc : Nat) (lv : List (Nat × Value)), decode cX9_measure pc = .ok (.return_, 1) → Q u → J x 0 0 6 (W_WalkT cyI cyJ cyZ a_k a_k_order a_f a_f_needs a_f_sideCounts a_f_yardSums a_f_beside k_length u.1 u.2 k_order f_all f_wanted f_mostSides f_needs f_sideCounts f_yardSums f_beside) lv pc []) (h : lp_X9_measure_15 Q  p2 k_length k_order f_needs f_sideCounts k_needed k_lifted x3 x4) :
    J x 0 0 6 (W_WalkT cyI cyJ cyZ a_k a_k_order a_f a_f_needs a_f_sideCounts a_f_yardSums a_f_beside k_length k_needed k_lifted k_order f_all f_wanted f_mostSides f_needs f_sideCounts f_yardSums f_beside) [(0, .ref a_k), (1, .ref a_f), (2, .int p2), (3, .int x3), (4, .int x4)] 15 [] := by
  obtain ⟨I, ⟨n, h0⟩, hb⟩ := h
  revert k_needed k_lifted x3 x4
  induction n using Nat.strongRecOn with
  | _ n ih =>
    intro k_needed k_lifted x3 x4 h0
    exact B_X9_measure_15 cx hR (fun _ _ _ _ hz => by obtain ⟨n2, hlt, hI⟩ := hz; exact ih n2 hlt hI) (hb n k_needed k_lifted x3 x4 h0)
set_option maxHeartbeats 4000000 in
set_option maxRecDepth 100000 in
theorem c_X9_measure {D : DG} {cyI cyJ cyZ : ClassId} {a_k a_k_order a_f a_f_needs a_f_sideCounts a_f_yardSums a_f_beside : Nat} {k_length : Int32} {k_needed : Int32} {k_lifted : Int32} {k_order : Nat → Int32} {f_all : Int32} {f_wanted : Int32} {f_mostSides : Int32} {f_needs : Nat → Int32} {f_sideCounts : Nat → Int32} {f_yardSums : Nat → Int32} {f_beside : Nat → Int32} {p2 : Int32} {Q : Int32 × Int32 → Prop} (h : wp_X9_measure p2 k_length k_order f_needs f_sideCounts Q) :
    MetV yX9_measure cX9_measure 6 (none) rm_X9_measure D [(cyI, .int), (cyJ, .long), (cyZ, .boolean)] [.ref a_k, .ref a_f, .int p2] (W_WalkT cyI cyJ cyZ a_k a_k_order a_f a_f_needs a_f_sideCounts a_f_yardSums a_f_beside k_length k_needed k_lifted k_order f_all f_wanted f_mostSides f_needs f_sideCounts f_yardSums f_beside) (fun u : Int32 × Int32 => (W_WalkT cyI cyJ cyZ a_k a_k_order a_f a_f_needs a_f_sideCounts a_f_yardSums a_f_beside k_length u.1 u.2 k_order f_all f_wanted f_mostSides f_needs f_sideCounts f_yardSums f_beside)) (fun u => Q u) := by
  unfold wp_X9_measure at h
  refine metV_of (by decide) (Nat.le_of_ble_eq_true rfl) (fun x cx0 hR0 => ?_)
  have cx : Cx x cX9_measure 6 RX9 rm_X9_measure D [(cyI, .int), (cyJ, .long), (cyZ, .boolean)] := cx0
  have hR : ∀ (u : Int32 × Int32) (pc : Nat) (lv : List (Nat × Value)), decode cX9_measure pc = .ok (.return_, 1) → Q u → J x 0 0 6 (W_WalkT cyI cyJ cyZ a_k a_k_order a_f a_f_needs a_f_sideCounts a_f_yardSums a_f_beside k_length u.1 u.2 k_order f_all f_wanted f_mostSides f_needs f_sideCounts f_yardSums f_beside) lv pc [] := (fun u pc lv d hq => hR0 u pc lv d hq)
  show J x 0 0 6 (W_WalkT cyI cyJ cyZ a_k a_k_order a_f a_f_needs a_f_sideCounts a_f_yardSums a_f_beside k_length k_needed k_lifted k_order f_all f_wanted f_mostSides f_needs f_sideCounts f_yardSums f_beside) [(0, .ref a_k), (1, .ref a_f), (2, .int p2)] 0 []
  refine j_aload_n cx 0 rfl rfl dX9_measure_0 (pn := 1) rfl ?_
  refine j_iconst cx (v := 0) (by decide) dX9_measure_1 (pn := 2) rfl ?_
  refine j_put cx tyX9 tyX9_ok nmX9 inGX9 0 rfl rfl 2 (by decide) q_fl_X9_27 rfl rfl rfl rfl rfl (Nat.le_of_ble_eq_true rfl) (W_WalkT cyI cyJ cyZ a_k a_k_order a_f a_f_needs a_f_sideCounts a_f_yardSums a_f_beside k_length 0 k_lifted k_order f_all f_wanted f_mostSides f_needs f_sideCounts f_yardSums f_beside) rfl dX9_measure_2 (pn := 5) rfl ?_
  refine j_aload_n cx 0 rfl rfl dX9_measure_5 (pn := 6) rfl ?_
  refine j_iconst cx (v := 0) (by decide) dX9_measure_6 (pn := 7) rfl ?_
  refine j_put cx tyX9 tyX9_ok nmX9 inGX9 0 rfl rfl 3 (by decide) q_fl_X9_30 rfl rfl rfl rfl rfl (Nat.le_of_ble_eq_true rfl) (W_WalkT cyI cyJ cyZ a_k a_k_order a_f a_f_needs a_f_sideCounts a_f_yardSums a_f_beside k_length 0 0 k_order f_all f_wanted f_mostSides f_needs f_sideCounts f_yardSums f_beside) rfl dX9_measure_7 (pn := 10) rfl ?_
  refine j_iconst cx (v := 0) (by decide) dX9_measure_10 (pn := 11) rfl ?_
  refine j_istore_n cx rfl [(3, .int 0), (0, .ref a_k), (1, .ref a_f), (2, .int p2)] (by decide) rfl dX9_measure_11 (pn := 12) rfl ?_
  refine j_iconst cx (v := 0) (by decide) dX9_measure_12 (pn := 13) rfl ?_
  refine j_istore cx [(4, .int 0), (3, .int 0), (0, .ref a_k), (1, .ref a_f), (2, .int p2)] (by decide) rfl dX9_measure_13 (pn := 15) rfl ?_
  refine j_sub [2, 3, 4, 1, 0] [(0, .ref a_k), (1, .ref a_f), (2, .int p2), (3, .int 0), (4, .int 0)] rfl ?_
  exact J_X9_measure_15 cx hR h
