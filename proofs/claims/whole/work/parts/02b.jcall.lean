/-! contracts over J: MetI (int, boolean), MetL (long), MetV (void); calls -/
def wdOf (y : MethodName) (cc : ByteArray) (nL : Nat) (ret : Option FieldType) : List Cond := .code y cc nL ret :: gtbl
theorem good_wd {y : MethodName} {cc : ByteArray} {nL : Nat} {ret : Option FieldType} (h : Cond.code y cc nL ret ∈ gtbl) : GoodIn gtbl (wdOf y cc nL ret) := by
  intro w hw
  have hm : w ∈ gtbl := by
    rcases List.mem_cons.mp hw with rfl | h1
    · exact h
    · exact h1
  exact ⟨hm, good_of_word (List.mem_filter.mp hm).2⟩
def PreW (D : DG) (tys : List (ClassId × FieldType)) (w0 : va_W) (sz : Nat) (U : State) : Prop := U.heap.size = sz ∧ va_P D.1 vwCl w0 U.heap ∧ va_K D.1 vwCl tys U ∧ va_D (fun _ => True) w0 ∧ NW U ∧ SK D (va_A w0 sz) U U.heap
def PostW {S : Type} (D : DG) (tys : List (ClassId × FieldType)) (w0 : va_W) (w1 : S → va_W) (sz : Nat) (u : S) (t : State) : Prop := va_P D.1 vwCl (w1 u) t.heap ∧ va_K D.1 vwCl tys t ∧ va_D (va_A w0 sz) (w1 u)
def MetI (y : MethodName) (cc : ByteArray) (nL : Nat) (ret : Option FieldType) (rm : Room) (D : DG) (tys : List (ClassId × FieldType)) (av : List Value) (w0 : va_W) {S : Type} (w1 : S → va_W) (post : Int32 → S → Prop) : Prop :=
  ∀ (l : Launch) (sz : Nat), Met l y (wdOf y cc nL ret) rm (va_Pc av (PreW D tys w0 sz)) (va_Qi post (PostW D tys w0 w1 sz) (va_A w0 sz)) rm.cells rm.slots (va_A w0 sz)
def MetL (y : MethodName) (cc : ByteArray) (nL : Nat) (ret : Option FieldType) (rm : Room) (D : DG) (tys : List (ClassId × FieldType)) (av : List Value) (w0 : va_W) {S : Type} (w1 : S → va_W) (post : Int64 → S → Prop) : Prop :=
  ∀ (l : Launch) (sz : Nat), Met l y (wdOf y cc nL ret) rm (va_Pc av (PreW D tys w0 sz)) (va_Ql post (PostW D tys w0 w1 sz) (va_A w0 sz)) rm.cells rm.slots (va_A w0 sz)
def MetV (y : MethodName) (cc : ByteArray) (nL : Nat) (ret : Option FieldType) (rm : Room) (D : DG) (tys : List (ClassId × FieldType)) (av : List Value) (w0 : va_W) {S : Type} (w1 : S → va_W) (post : S → Prop) : Prop :=
  ∀ (l : Launch) (sz : Nat), Met l y (wdOf y cc nL ret) rm (va_Pc av (PreW D tys w0 sz)) (va_Qv post (PostW D tys w0 w1 sz) (va_A w0 sz)) rm.cells rm.slots (va_A w0 sz)
theorem PreW.blind {D : DG} {tys : List (ClassId × FieldType)} {w0 : va_W} {sz : Nat} {av : List Value} : FrameBlind (va_Pc av (PreW D tys w0 sz)) := fun a U g mk q => by
  obtain ⟨q0, q1, qP, qK, qD, qN, qS⟩ := q
  exact ⟨q0, q1, qP, va_K.moved (u := U) (U := U.calling g mk a) (Vm.Alike.refl U.vm) qK, qD, NW.same (u := U) (U := U.calling g mk a) rfl qN, SK.same (u := U) (U := U.calling g mk a) rfl qS⟩
def MetS (y : MethodName) (cc : ByteArray) (nL : Nat) (ret : Option FieldType) (rm : Room) (D : DG) (tys : List (ClassId × FieldType)) (av : List Value) (post : Nat → Prop) : Prop :=
  ∀ (l : Launch) (sz : Nat), Met l y (wdOf y cc nL ret) rm (va_Pc av (PreW D tys [] sz)) (va_Qr post (fun (k : Nat) a (_ : State) => a = D.2.1 k) (va_A [] sz)) rm.cells rm.slots (va_A [] sz)
section MJ
variable {y : MethodName} {cc : ByteArray} {nL : Nat} {rm : Room} {D : DG} {tys : List (ClassId × FieldType)} {av : List Value} {w0 : va_W} {S : Type} {w1 : S → va_W}
theorem metI_of {post : Int32 → S → Prop} (hy : plainName y.cls = true) (hlen : (lg_sl av).length ≤ nL)
    (body : ∀ x : CX, Cx x cc nL y.cls rm D tys → (∀ (v : Int32) (u : S) (pc : Nat) (lv : List (Nat × Value)), decode cc pc = .ok (.ireturn, 1) → post v u → J x rm.cells rm.slots nL (w1 u) lv pc [.int v]) → J x 0 0 nL w0 (lv_args 0 av) 0 []) : MetI y cc nL (some .int) rm D tys av w0 w1 post := by
  intro l sz
  refine Met.ofW (cc := cc) (maxL := nL) (ret := some .int) hy rfl ?_
  intro p e s m args below meth c s₁ B hml hv
  obtain ⟨rfl, hsz, hP, hK, hD0, hNW, hSK⟩ := hv
  have hts := atoms_spec (ws := wdOf y cc nL (some .int)) B.pre
  have hlocks := B.notSynchronized
  subst hsz
  have hD := hD0.self (sz := s.heap.size)
  have hl := lv_entry av (n := nL) hlen
  rw [lg_entry_eq]
  have hA : ∀ q : Nat, s.heap.size ≤ q → va_A w0 s.heap.size q := fun q h => Or.inr h
  refine body (p, l, e, (headSpec (wdOf y cc nL (some .int)) rm).room, s, m, av.toArray, below, meth, c, D, tys, va_A w0 s.heap.size, MQ below (va_Qi post (PostW D tys w0 w1 s.heap.size) (va_A w0 s.heap.size)) av.toArray s rm.cells rm.slots (va_A w0 s.heap.size)) ⟨B.exec, B.bytes, hml, findClass_of_methodNamed B.named, fun w h => hts w (List.mem_cons_of_mem _ h), hK, hA, hlocks, hNW, hSK, rfl, rfl, rfl⟩ ?_ s.heap [] _ hP hD va_S.rf hl
  intro v u pc lv d hpost H locs ls hP1 hD1 hS1 _
  exact W.iret B.exec B.bytes B.returns (fun t ht hW => ⟨⟨v, u, rfl, hpost, by rw [ht]; exact hP1, va_K.moved hW.alike hK, hD1⟩, hS1.F ht⟩) hS1.2.2 d hlocks
theorem metZ_of {post : Int32 → S → Prop} (hy : plainName y.cls = true) (hlen : (lg_sl av).length ≤ nL)
    (body : ∀ x : CX, Cx x cc nL y.cls rm D tys → (∀ (v : Int32) (u : S) (pc : Nat) (lv : List (Nat × Value)), decode cc pc = .ok (.ireturn, 1) → (v = 0 ∨ v = 1) → post v u → J x rm.cells rm.slots nL (w1 u) lv pc [.int v]) → J x 0 0 nL w0 (lv_args 0 av) 0 []) : MetI y cc nL (some .boolean) rm D tys av w0 w1 post := by
  intro l sz
  refine Met.ofW (cc := cc) (maxL := nL) (ret := some .boolean) hy rfl ?_
  intro p e s m args below meth c s₁ B hml hv
  obtain ⟨rfl, hsz, hP, hK, hD0, hNW, hSK⟩ := hv
  have hts := atoms_spec (ws := wdOf y cc nL (some .boolean)) B.pre
  have hlocks := B.notSynchronized
  subst hsz
  have hD := hD0.self (sz := s.heap.size)
  have hl := lv_entry av (n := nL) hlen
  rw [lg_entry_eq]
  have hA : ∀ q : Nat, s.heap.size ≤ q → va_A w0 s.heap.size q := fun q h => Or.inr h
  refine body (p, l, e, (headSpec (wdOf y cc nL (some .boolean)) rm).room, s, m, av.toArray, below, meth, c, D, tys, va_A w0 s.heap.size, MQ below (va_Qi post (PostW D tys w0 w1 s.heap.size) (va_A w0 s.heap.size)) av.toArray s rm.cells rm.slots (va_A w0 s.heap.size)) ⟨B.exec, B.bytes, hml, findClass_of_methodNamed B.named, fun w h => hts w (List.mem_cons_of_mem _ h), hK, hA, hlocks, hNW, hSK, rfl, rfl, rfl⟩ ?_ s.heap [] _ hP hD va_S.rf hl
  intro v u pc lv d hv01 hpost H locs ls hP1 hD1 hS1 _
  exact W.zret B.exec B.bytes B.returns (by rcases hv01 with rfl | rfl <;> rfl) (fun t ht hW => ⟨⟨v, u, rfl, hpost, by rw [ht]; exact hP1, va_K.moved hW.alike hK, hD1⟩, hS1.F ht⟩) hS1.2.2 d hlocks
theorem metN_of {ty : FieldType} {post : Int32 → S → Prop} (hy : plainName y.cls = true) (hlen : (lg_sl av).length ≤ nL)
    (body : ∀ x : CX, Cx x cc nL y.cls rm D tys → (∀ (v : Int32) (u : S) (pc : Nat) (lv : List (Nat × Value)), decode cc pc = .ok (.ireturn, 1) → narrow ty (.int v) = .int v → post v u → J x rm.cells rm.slots nL (w1 u) lv pc [.int v]) → J x 0 0 nL w0 (lv_args 0 av) 0 []) : MetI y cc nL (some ty) rm D tys av w0 w1 post := by
  intro l sz
  refine Met.ofW (cc := cc) (maxL := nL) (ret := some ty) hy rfl ?_
  intro p e s m args below meth c s₁ B hml hv
  obtain ⟨rfl, hsz, hP, hK, hD0, hNW, hSK⟩ := hv
  have hts := atoms_spec (ws := wdOf y cc nL (some ty)) B.pre
  have hlocks := B.notSynchronized
  subst hsz
  have hD := hD0.self (sz := s.heap.size)
  have hl := lv_entry av (n := nL) hlen
  rw [lg_entry_eq]
  have hA : ∀ q : Nat, s.heap.size ≤ q → va_A w0 s.heap.size q := fun q h => Or.inr h
  refine body (p, l, e, (headSpec (wdOf y cc nL (some ty)) rm).room, s, m, av.toArray, below, meth, c, D, tys, va_A w0 s.heap.size, MQ below (va_Qi post (PostW D tys w0 w1 s.heap.size) (va_A w0 s.heap.size)) av.toArray s rm.cells rm.slots (va_A w0 s.heap.size)) ⟨B.exec, B.bytes, hml, findClass_of_methodNamed B.named, fun w h => hts w (List.mem_cons_of_mem _ h), hK, hA, hlocks, hNW, hSK, rfl, rfl, rfl⟩ ?_ s.heap [] _ hP hD va_S.rf hl
  intro v u pc lv d hv01 hpost H locs ls hP1 hD1 hS1 _
  exact W.zret B.exec B.bytes B.returns hv01 (fun t ht hW => ⟨⟨v, u, rfl, hpost, by rw [ht]; exact hP1, va_K.moved hW.alike hK, hD1⟩, hS1.F ht⟩) hS1.2.2 d hlocks
theorem metL_of {post : Int64 → S → Prop} (hy : plainName y.cls = true) (hlen : (lg_sl av).length ≤ nL)
    (body : ∀ x : CX, Cx x cc nL y.cls rm D tys → (∀ (v : Int64) (u : S) (pc : Nat) (lv : List (Nat × Value)), decode cc pc = .ok (.lreturn, 1) → post v u → J x rm.cells rm.slots nL (w1 u) lv pc [.long v]) → J x 0 0 nL w0 (lv_args 0 av) 0 []) : MetL y cc nL (some .long) rm D tys av w0 w1 post := by
  intro l sz
  refine Met.ofW (cc := cc) (maxL := nL) (ret := some .long) hy rfl ?_
  intro p e s m args below meth c s₁ B hml hv
  obtain ⟨rfl, hsz, hP, hK, hD0, hNW, hSK⟩ := hv
  have hts := atoms_spec (ws := wdOf y cc nL (some .long)) B.pre
  have hlocks := B.notSynchronized
  subst hsz
  have hD := hD0.self (sz := s.heap.size)
  have hl := lv_entry av (n := nL) hlen
  rw [lg_entry_eq]
  have hA : ∀ q : Nat, s.heap.size ≤ q → va_A w0 s.heap.size q := fun q h => Or.inr h
  refine body (p, l, e, (headSpec (wdOf y cc nL (some .long)) rm).room, s, m, av.toArray, below, meth, c, D, tys, va_A w0 s.heap.size, MQ below (va_Ql post (PostW D tys w0 w1 s.heap.size) (va_A w0 s.heap.size)) av.toArray s rm.cells rm.slots (va_A w0 s.heap.size)) ⟨B.exec, B.bytes, hml, findClass_of_methodNamed B.named, fun w h => hts w (List.mem_cons_of_mem _ h), hK, hA, hlocks, hNW, hSK, rfl, rfl, rfl⟩ ?_ s.heap [] _ hP hD va_S.rf hl
  intro v u pc lv d hpost H locs ls hP1 hD1 hS1 _
  exact W.lret B.exec B.bytes B.returns (fun t ht hW => ⟨⟨v, u, rfl, hpost, by rw [ht]; exact hP1, va_K.moved hW.alike hK, hD1⟩, hS1.F ht⟩) hS1.2.2 d hlocks
theorem metV_of {post : S → Prop} (hy : plainName y.cls = true) (hlen : (lg_sl av).length ≤ nL)
    (body : ∀ x : CX, Cx x cc nL y.cls rm D tys → (∀ (u : S) (pc : Nat) (lv : List (Nat × Value)), decode cc pc = .ok (.return_, 1) → post u → J x rm.cells rm.slots nL (w1 u) lv pc []) → J x 0 0 nL w0 (lv_args 0 av) 0 []) : MetV y cc nL none rm D tys av w0 w1 post := by
  intro l sz
  refine Met.ofW (cc := cc) (maxL := nL) (ret := none) hy rfl ?_
  intro p e s m args below meth c s₁ B hml hv
  obtain ⟨rfl, hsz, hP, hK, hD0, hNW, hSK⟩ := hv
  have hts := atoms_spec (ws := wdOf y cc nL none) B.pre
  have hlocks := B.notSynchronized
  subst hsz
  have hD := hD0.self (sz := s.heap.size)
  have hl := lv_entry av (n := nL) hlen
  rw [lg_entry_eq]
  have hA : ∀ q : Nat, s.heap.size ≤ q → va_A w0 s.heap.size q := fun q h => Or.inr h
  refine body (p, l, e, (headSpec (wdOf y cc nL none) rm).room, s, m, av.toArray, below, meth, c, D, tys, va_A w0 s.heap.size, MQ below (va_Qv post (PostW D tys w0 w1 s.heap.size) (va_A w0 s.heap.size)) av.toArray s rm.cells rm.slots (va_A w0 s.heap.size)) ⟨B.exec, B.bytes, hml, findClass_of_methodNamed B.named, fun w h => hts w (List.mem_cons_of_mem _ h), hK, hA, hlocks, hNW, hSK, rfl, rfl, rfl⟩ ?_ s.heap [] _ hP hD va_S.rf hl
  intro u pc lv d hpost H locs ls hP1 hD1 hS1 _
  exact W.vret B.exec B.bytes B.returns (fun t ht hW => ⟨⟨u, rfl, hpost, by rw [ht]; exact hP1, va_K.moved hW.alike hK, hD1⟩, hS1.F ht⟩) hS1.2.2 d hlocks
theorem metS_of {rt : FieldType} {post : Nat → Prop} (hrt : ∃ n, rt = .object n) (hy : plainName y.cls = true) (hlen : (lg_sl av).length ≤ nL)
    (body : ∀ x : CX, Cx x cc nL y.cls rm D tys → (∀ (k : Nat) (pc : Nat) (lv : List (Nat × Value)), decode cc pc = .ok (.areturn, 1) → post k → J x rm.cells rm.slots nL [] lv pc [.ref (D.2.1 k)]) → J x 0 0 nL [] (lv_args 0 av) 0 []) : MetS y cc nL (some rt) rm D tys av post := by
  intro l sz
  refine Met.ofW (cc := cc) (maxL := nL) (ret := some rt) hy rfl ?_
  intro p e s m args below meth c s₁ B hml hv
  obtain ⟨rfl, hsz, hP, hK, hD0, hNW, hSK⟩ := hv
  have hts := atoms_spec (ws := wdOf y cc nL (some rt)) B.pre
  have hlocks := B.notSynchronized
  subst hsz
  have hD := hD0.self (sz := s.heap.size)
  have hl := lv_entry av (n := nL) hlen
  rw [lg_entry_eq]
  have hA : ∀ q : Nat, s.heap.size ≤ q → va_A [] s.heap.size q := fun q h => Or.inr h
  refine body (p, l, e, (headSpec (wdOf y cc nL (some rt)) rm).room, s, m, av.toArray, below, meth, c, D, tys, va_A [] s.heap.size, MQ below (va_Qr post (fun (k : Nat) a (_ : State) => a = D.2.1 k) (va_A [] s.heap.size)) av.toArray s rm.cells rm.slots (va_A [] s.heap.size)) ⟨B.exec, B.bytes, hml, findClass_of_methodNamed B.named, fun w h => hts w (List.mem_cons_of_mem _ h), hK, hA, hlocks, hNW, hSK, rfl, rfl, rfl⟩ ?_ s.heap [] _ hP hD va_S.rf hl
  intro k pc lv d hpost H locs ls hP1 hD1 hS1 _
  exact W.aret B.exec B.bytes B.returns (Or.inl hrt) (Or.inr ⟨_, rfl⟩) (fun t ht hW => ⟨⟨k, _, rfl, hpost, rfl⟩, hS1.F ht⟩) hS1.2.2 d hlocks
end MJ
