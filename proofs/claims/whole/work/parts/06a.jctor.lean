def IsInit (x : CX) : Prop := match x with
  | (_, _, _, _, _, _, _, _, meth, _, _, _, _, _) => meth.name = "<init>"
section JN
variable {x : CX} {cc : ByteArray} {nL : Nat} {own : String} {R : Room} {D : DG} {tys : List (ClassId × FieldType)} {kc ks kc' ks' : Nat} {ws : va_W} {lv : List (Nat × Value)} {pc pn : Nat} {st : List Value}

theorem j_objInit (cx : Cx x cc nL own R D tys) {idx a : Nat} (hlink : Cond.methodLink own idx Lib.objectInit ∈ gtbl) (hinst : Cond.instanceMethod Lib.objectInit ∈ gtbl) (hcode : Cond.code Lib.objectInit ⟨#[0xb1]⟩ 1 none ∈ gtbl) (hf : 1 ≤ R.frames) (hlo : (st.map fun v => v.category).sum + 12 ≤ R.locals) (d : decode cc pc = .ok (.invokespecial idx, 3)) (hp : pc + 3 = pn) (k : J x kc ks nL ws lv pn st) : J x kc ks nL ws lv pc (.ref a :: st) := by
  subst hp
  obtain ⟨p, l, e, R', s, m, args, below, meth, c, D', tys', A, Q⟩ := x
  obtain ⟨hx, hb, hml, hown, hts, hK, hA, hlk, hNW, hSK, rfl, rfl, rfl⟩ := cx
  intro H locs ls hP hD hS hl
  exact W.objInit hx hb hown (hts _ hlink) (hts _ hinst) (hts _ hcode) rfl (by rw [hml]; exact hl.1) rfl d hf (by simpa [JFrame.monitorRoom] using hlo) (k H locs ls hP hD hS hl)
theorem j_newa (cx : Cx x cc nL own R D tys) (atype : ArrayType) {ty : FieldType} (hty : newarray.typeOf atype = ty) (hno : ∀ C, ty ≠ .object C) (harr : Cond.arrayClass ty ∈ gtbl) {cy : ClassId} (t0 : Nat) (ht : tys[t0]? = some (cy, ty)) {n : Int32} (N : Nat) (a0 : vp_A) (ha : ∀ cA : ClassId, vp_cell cA a0 = arrV cA N (fun _ => defaultValue ty)) (hn : ¬ n < 0) (hN : n.toNatClampNeg = N) (hby : N * componentBytes ty ≤ 536870912) (hc : kc + 1 = kc') (hs : ks + N = ks') (hc' : kc' ≤ R.cells) (hs' : ks' ≤ R.slots) (d : decode cc pc = .ok (.newarray atype, 2)) (hp : pc + 2 = pn) (k : ∀ q : Nat, J x kc' ks' nL (ws ++ [(q, .inl (cy, a0))]) lv pn (.ref q :: st)) : J x kc ks nL ws lv pc (.int n :: st) := by
  subst hp; subst hc; subst hs; subst hty
  obtain ⟨p, l, e, R', s, m, args, below, meth, c, D', tys', A, Q⟩ := x
  obtain ⟨hx, hb, hml, hown, hts, hK, hA, hlk, hNW, hSK, rfl, rfl, rfl⟩ := cx
  intro H locs ls hP hD hS hl
  refine va_newa (atype := atype) (ty := newarray.typeOf atype) hx hb (hts _ harr) rfl hK hP hD hS hA ha hn hN hby hc' hs' d (fun q cA H1 hK1 hP1 hD1 hS1 => ?_)
  have e1 := (hK1.2 tys'.length (cA, newarray.typeOf atype) (by rw [List.getElem?_append_right (Nat.le_refl _)]; simp)).2
  have e2 := (hK.2 t0 _ ht).2
  have e3 : cA = cy := by
    cases atype <;> exact Option.some.inj (e1.symm.trans e2)
  subst e3
  exact k q H1 locs ls hP1 hD1 hS1 hl
theorem j_new (cx : Cx x cc nL own R D tys) {C : String} {T : u_T} {N ci idx : Nat} (hin : ∀ w ∈ u_ws C T N, w ∈ gtbl) (ty : Nat → FieldType) (hty : ∀ k, k < N → parseFieldDescriptor (T k).2.2.1 = some (ty k)) (hcl : Cond.classLink own idx C ∈ gtbl) (hinst : Cond.instantiable C N ∈ gtbl) (hini : Cond.initialized C ∈ gtbl) (hc0 : vwCl[ci]? = some (C, T, N)) (fs : List Value) (hfs : ∀ j, j < N → defaultValue (ty j) = vp_V fs j) (hc : kc + 1 = kc') (hs : ks + N = ks') (hc' : kc' ≤ R.cells) (hs' : ks' ≤ R.slots) (d : decode cc pc = .ok (.new idx, 3)) (hp : pc + 3 = pn) (k : ∀ q : Nat, J x kc' ks' nL (ws ++ [(q, .inr (ci, fs))]) lv pn (.ref q :: st)) : J x kc ks nL ws lv pc st := by
  subst hp; subst hc; subst hs
  obtain ⟨p, l, e, R', s, m, args, below, meth, c, D', tys', A, Q⟩ := x
  obtain ⟨hx, hb, hml, hown, hts, hK, hA, hlk, hNW, hSK, rfl, rfl, rfl⟩ := cx
  intro H locs ls hP hD hS hl
  exact va_new hx hb hts hin ty hty hown (hts _ hcl) (hts _ hinst) (hts _ hini) hK hP hD hS hA hc0 hfs hc' hs' d (fun q H1 hP1 hD1 hS1 => k q H1 locs ls hP1 hD1 hS1 hl)
theorem j_putF (cx : Cx x cc nL own R D tys) (hI : IsInit x) {C ref : String} {T : u_T} {N ci idx a : Nat} {fs : List Value} {v : Value} {ty : FieldType} (ty0 : Nat → FieldType) (hty : ∀ k, k < N → parseFieldDescriptor (T k).2.2.1 = some (ty0 k)) (hnm : ∀ a, a < N → ∀ b, b < N → a ≠ b → (T a).2.1 ≠ (T b).2.1) (hin : ∀ w ∈ u_ws C T N, w ∈ gtbl) (q0 : Nat) (he : ws[q0]? = some (a, .inr (ci, fs))) (hc : vwCl[ci]? = some (C, T, N)) (f : Nat) (hk : f < N) (hlink : Cond.fieldLink own idx ref (T f).2.1 (T f).2.2.1 ∈ gtbl) (hsame : (T f).1 = ref) (hfin : (T f).2.2.2 = true) (hdecl : (T f).1 = own) (hd : ty0 f = ty) (hn : narrow ty v = v) (hfit : fits ty v = true) (hl' : f < fs.length) (ws' : va_W) (hws : ws.set q0 (a, .inr (ci, fs.set f v)) = ws') (d : decode cc pc = .ok (.putfield idx, 3)) (hp : pc + 3 = pn) (k : J x kc ks nL ws' lv pn st) : J x kc ks nL ws lv pc (v :: .ref a :: st) := by
  subst hp; subst hws; subst hd
  obtain ⟨p, l, e, R', s, m, args, below, meth, c, D', tys', A, Q⟩ := x
  obtain ⟨hx, hb, hml, hown, hts, hK, hA, hlk, hNW, hSK, rfl, rfl, rfl⟩ := cx
  intro H locs ls hP hD hS hl
  exact va_putF hx hb hts hin ty0 hty hnm hown hK hP hD hS q0 he hc f hk (hts _ hlink) (fun y hy => by rw [← hsame]; exact hy) hfin hI hdecl (hty f hk) hn hfit hl' d (fun H locs hP hD hS => k H locs ls hP hD hS hl)
variable {y : MethodName} {cY : ByteArray} {nY idx np : Nat} {rmY : Room} {S : Type}
def CwC (R : Room) (own : String) (idx : Nat) (y : MethodName) (cY : ByteArray) (nY : Nat) (rmY : Room) (np : Nat) (kc ks : Nat) : Prop :=
  Cond.code y cY nY none ∈ gtbl ∧ (Cond.methodLink own idx y ∈ gtbl ∨ ∃ host, Cond.methodLinkNest own idx y host ∈ ntbl) ∧ Cond.initialized y.cls ∈ gtbl ∧ Cond.instanceMethod y ∈ gtbl ∧ y.name = "<init>" ∧ (y.cls ≠ "java/lang/invoke/MethodHandle" ∧ y.cls ≠ "java/lang/invoke/VarHandle" ∧ (parseMethodDescriptor y.desc).map (fun d => d.parameters.length) = some np) ∧ (rmY.frames + 1 ≤ R.frames ∧ 8 + (nY + 11) + rmY.locals ≤ R.locals) ∧ kc + rmY.cells ≤ R.cells ∧ ks + rmY.slots ≤ R.slots

theorem j_callN (cx : Cx x cc nL own R D tys) {w1 : S → va_W} {post : S → Prop} {b : Nat} {As rest : List Value} (wc wr : va_W) (hM : MetV y cY nY none rmY D tys (.ref b :: As) wc w1 post) (cw : CwC R own idx y cY nY rmY np kc ks) (hn : As.length = np) (isC isR isF : List Nat) (hC : isC.map (fun i => ws[i]?) = wc.map some) (hC1 : isC.filterMap (fun i => ws[i]?) = wc) (hCn : va_nd isC = true) (hR : isR.map (fun i => ws[i]?) = wr.map some) (hRn : va_nd isR = true) (hdis : ∀ i ∈ isR, i ∉ isC) (ws' : S → va_W) (hF1 : ∀ u, isF.filterMap (fun i => (wr ++ w1 u)[i]?) = ws' u) (hF2 : ∀ u, isF.map (fun i => (wr ++ w1 u)[i]?) = (ws' u).map some) (hFn : va_nd isF = true) (hst : st = As.reverse ++ .ref b :: rest) (hW8 : (rest.map fun v => v.category).sum ≤ 8) (d : decode cc pc = .ok (.invokespecial idx, 3)) (hp : pc + 3 = pn) (hkc : kc + rmY.cells = kc') (hks : ks + rmY.slots = ks') (k : ∀ (u : S), post u → J x kc' ks' nL (ws' u) lv pn rest) : J x kc ks nL ws lv pc st := by
  subst hp; subst hst; subst hkc; subst hks
  obtain ⟨p, l, e, R', s, m, args, below, meth, c, D', tys', A, Q⟩ := x
  obtain ⟨hx, hb, hml, hown, hts, hK, hA, hlk, hNW, hSK, rfl, rfl, rfl⟩ := cx
  intro H locs ls hP hD hS hl
  have hPc := hP.sub isC hC1
  have hDc := hD.sub isC hCn hC
  have hFc := va_free (wc := wc) hD hS hA isC hC
  have hpre : PreS s H (va_Pc (.ref b :: As) (PreW D' tys' wc H.size)) (.ref b :: As) := ⟨PreW.blind, fun U hU hW => ⟨rfl, by rw [hU], by rw [hU]; exact hPc, va_K.moved hW.alike hK, hDc.weaken (fun _ _ _ _ => trivial), NW.warm hW hNW, by rw [hU]; exact ((hSK.kept hS.2.1).narrow hFc).warm hW⟩⟩
  obtain ⟨c1, c2, c3, c4, c5, c6, c7, c8⟩ := cw
  have hr : va_Run p l e R' s m args below meth c H locs kc ks rmY.cells rmY.slots (F0 m pc ls (As.reverse ++ .ref b :: rest)) rest (va_Qv post (PostW D' tys' wc w1 H.size) (va_A wc H.size) (Value.ref b :: As).toArray) (va_A wc H.size) := by
    rcases c2 with c2 | ⟨host, c2⟩
    · exact va_runI (As := As) (rest := rest) ⟨hx, hb, hml, hown, hts⟩ (hM l H.size) ⟨callB_of np hts (good_wd c1) rfl rfl rfl (hts _ c3) (hts _ c2) c6 c7, c5, hts _ c4⟩ hpre rfl hn hl.1 rfl (lv_room hW8) d c8
    · exact va_runIN (As := As) (rest := rest) ⟨hx, hb, hml, hown, hts⟩ (hM l H.size) ⟨va_cnB np hts (good_wd c1) rfl rfl rfl (hNW _ c2) (hts _ c3) c6 c7, c5, hts _ c4⟩ hpre rfl hn hl.1 rfl (lv_room hW8) d c8
  refine va_callv hr hS (fun q _ h => hFc q h) hFc (fun u t H1 locs ht hvm hw hB hz1 hk1 hS => ?_)
  obtain ⟨hP1, -, hD1⟩ := hB
  rw [ht] at hP1
  obtain ⟨hP2, hD2⟩ := va_join hP hD isC isR hC hR hRn hdis hk1 hFc hP1 hD1
  exact k u hw H1 locs ls (hP2.sub isF (hF1 u)) (hD2.sub isF hFn (hF2 u)) hS hl
variable {av : List Value} {w0 : va_W} {w1 : S → va_W} {rm : Room}
theorem metC_of {post : S → Prop} (hyn : y.name = "<init>") (hy : plainName y.cls = true) (hlen : (lg_sl av).length ≤ nL)
    (body : ∀ x : CX, Cx x cc nL y.cls rm D tys → IsInit x → (∀ (u : S) (pc : Nat) (lv : List (Nat × Value)), decode cc pc = .ok (.return_, 1) → post u → J x rm.cells rm.slots nL (w1 u) lv pc []) → J x 0 0 nL w0 (lv_args 0 av) 0 []) : MetV y cc nL none rm D tys av w0 w1 post := by
  intro l sz
  refine Met.ofW (cc := cc) (maxL := nL) (ret := none) hy rfl ?_
  intro p e s m args below meth c s₁ B hml hv
  obtain ⟨rfl, hsz, hP, hK, hD0, hNW, hSK⟩ := hv
  have hts := atoms_spec (ws := wdOf y cc nL none) B.pre
  have hlocks := B.notSynchronized
  have hin : meth.name = "<init>" := ((name_of_methodNamed B.named B.method).1).trans hyn
  subst hsz
  have hD := hD0.self (sz := s.heap.size)
  have hl := lv_entry av (n := nL) hlen
  rw [lg_entry_eq]
  have hA : ∀ q : Nat, s.heap.size ≤ q → va_A w0 s.heap.size q := fun q h => Or.inr h
  refine body (p, l, e, (headSpec (wdOf y cc nL none) rm).room, s, m, av.toArray, below, meth, c, D, tys, va_A w0 s.heap.size, MQ below (va_Qv post (PostW D tys w0 w1 s.heap.size) (va_A w0 s.heap.size)) av.toArray s rm.cells rm.slots (va_A w0 s.heap.size)) ⟨B.exec, B.bytes, hml, findClass_of_methodNamed B.named, fun w h => hts w (List.mem_cons_of_mem _ h), hK, hA, hlocks, hNW, hSK, rfl, rfl, rfl⟩ hin ?_ s.heap [] _ hP hD va_S.rf hl
  intro u pc lv d hpost H locs ls hP1 hD1 hS1 _
  exact W.vret B.exec B.bytes B.returns (fun t ht hW => ⟨⟨u, rfl, hpost, by rw [ht]; exact hP1, va_K.moved hW.alike hK, hD1⟩, hS1.F ht⟩) hS1.2.2 d hlocks
end JN
theorem q_objcode : Cond.code Lib.objectInit ⟨#[0xb1]⟩ 1 none ∈ gtbl := gt_1 (List.mem_of_getElem? (i := 27) rfl) rfl
theorem q_objinst : Cond.instanceMethod Lib.objectInit ∈ gtbl := gt_1 (List.mem_of_getElem? (i := 26) rfl) rfl
theorem q_arr_int : Cond.arrayClass .int ∈ gtbl := gt_1 (List.mem_of_getElem? (i := 44) rfl) rfl
theorem q_arr_byte : Cond.arrayClass .byte ∈ gtbl := gt_3 (List.mem_of_getElem? (i := 92) rfl) rfl
theorem q_arr_long : Cond.arrayClass .long ∈ gtbl := gt_5 (List.mem_of_getElem? (i := 56) rfl) rfl
theorem q_arr_boolean : Cond.arrayClass .boolean ∈ gtbl := gt_5 (List.mem_of_getElem? (i := 57) rfl) rfl
