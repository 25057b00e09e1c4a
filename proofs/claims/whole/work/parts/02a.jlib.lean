/-! J: the machine's judgement W with its world, locals and stack as data; Cx: what stays the same in one method's walk -/
abbrev DG := va_G × ((Nat → Nat) × (Nat → Nat))
abbrev CX := Program × Launch × Env × Room × State × MethodId × Array Value × List Frame × Method × Code × DG × List (ClassId × FieldType) × (Nat → Prop) × (State → Prop)
def gtbl : List Cond := lw_tbl.filter goodWord
theorem gt_in {w : Cond} (h : w ∈ lw_tbl) (g : goodWord w = true) : w ∈ gtbl := List.mem_filter.mpr ⟨h, g⟩
theorem gt_1 {w : Cond} (h : w ∈ tables_1_1) (g : goodWord w = true) : w ∈ gtbl := gt_in (List.mem_append_right _ (List.mem_append_left _ h)) g
theorem gt_2 {w : Cond} (h : w ∈ tables_1_2) (g : goodWord w = true) : w ∈ gtbl := gt_in (List.mem_append_right _ (List.mem_append_right _ (List.mem_append_left _ h))) g
theorem gt_3 {w : Cond} (h : w ∈ tables_1_3) (g : goodWord w = true) : w ∈ gtbl := gt_in (List.mem_append_right _ (List.mem_append_right _ (List.mem_append_right _ (List.mem_append_left _ h)))) g
theorem gt_4 {w : Cond} (h : w ∈ tables_1_4) (g : goodWord w = true) : w ∈ gtbl := gt_in (List.mem_append_right _ (List.mem_append_right _ (List.mem_append_right _ (List.mem_append_right _ (List.mem_append_left _ h))))) g
theorem gt_5 {w : Cond} (h : w ∈ tables_1_5) (g : goodWord w = true) : w ∈ gtbl := gt_in (List.mem_append_right _ (List.mem_append_right _ (List.mem_append_right _ (List.mem_append_right _ (List.mem_append_right _ (List.mem_append_left _ h)))))) g
theorem gt_6 {w : Cond} (h : w ∈ tables_1_6) (g : goodWord w = true) : w ∈ gtbl := gt_in (List.mem_append_right _ (List.mem_append_right _ (List.mem_append_right _ (List.mem_append_right _ (List.mem_append_right _ (List.mem_append_right _ h)))))) g
def isNest : Cond → Bool
  | .fieldLinkNest _ _ _ _ _ _ => true
  | .methodLinkNest _ _ _ _ => true
  | _ => false
def ntbl : List Cond := tables_1.filter isNest
def NW (U : State) : Prop := ∀ w ∈ ntbl, va_Nw w U
theorem nt_1 {w : Cond} (h : w ∈ tables_1_1) (g : isNest w = true) : w ∈ ntbl := List.mem_filter.mpr ⟨List.mem_append_left _ h, g⟩
theorem nt_2 {w : Cond} (h : w ∈ tables_1_2) (g : isNest w = true) : w ∈ ntbl := List.mem_filter.mpr ⟨List.mem_append_right _ (List.mem_append_left _ h), g⟩
theorem nt_3 {w : Cond} (h : w ∈ tables_1_3) (g : isNest w = true) : w ∈ ntbl := List.mem_filter.mpr ⟨List.mem_append_right _ (List.mem_append_right _ (List.mem_append_left _ h)), g⟩
theorem nt_4 {w : Cond} (h : w ∈ tables_1_4) (g : isNest w = true) : w ∈ ntbl := List.mem_filter.mpr ⟨List.mem_append_right _ (List.mem_append_right _ (List.mem_append_right _ (List.mem_append_left _ h))), g⟩
theorem nt_5 {w : Cond} (h : w ∈ tables_1_5) (g : isNest w = true) : w ∈ ntbl := List.mem_filter.mpr ⟨List.mem_append_right _ (List.mem_append_right _ (List.mem_append_right _ (List.mem_append_right _ (List.mem_append_left _ h)))), g⟩
theorem nt_6 {w : Cond} (h : w ∈ tables_1_6) (g : isNest w = true) : w ∈ ntbl := List.mem_filter.mpr ⟨List.mem_append_right _ (List.mem_append_right _ (List.mem_append_right _ (List.mem_append_right _ (List.mem_append_right _ h)))), g⟩
theorem NW.warm {s U : State} (hW : s.WarmedH U.vm) (h : NW s) : NW U := by
  intro w hw
  have h1 := h w hw
  have h2 := (List.mem_filter.mp hw).2
  cases w <;> first | exact va_Nw.warmF hW h1 | exact va_Nw.warmM hW h1 | cases h2
theorem NW.same {u U : State} (h : u.vm = U.vm) (hn : NW u) : NW U := by
  intro w hw
  have h1 := hn w hw
  have h2 := (List.mem_filter.mp hw).2
  cases w <;> first | exact va_Nw.same rfl h h1 | cases h2
theorem NW.of {A : Array Value} {U : State} (h : ∀ w ∈ tables_1, w.before A U = true) : NW U := by
  intro w hw
  have h1 := h w (List.mem_filter.mp hw).1
  have h2 := (List.mem_filter.mp hw).2
  cases w <;> first | exact va_Nw.of rfl h1 | cases h2
def nS : Nat := 15
def kS : List Nat := [110, 112, 114, 116, 118, 120, 122, 124, 126, 128, 130, 132, 134, 136, 138]
def txS : List String := ["field", "yards", "pond", "lane", "hedge", "open", "hurdles", "want", "rest", "frozen", "thaw", "left", "right", "up", "down"]
def lenS : List Nat := [5, 5, 4, 4, 5, 4, 7, 4, 4, 6, 4, 4, 5, 2, 4]
def bytS : List (List Int32) := [[102, 105, 101, 108, 100], [121, 97, 114, 100, 115], [112, 111, 110, 100], [108, 97, 110, 101], [104, 101, 100, 103, 101], [111, 112, 101, 110], [104, 117, 114, 100, 108, 101, 115], [119, 97, 110, 116], [114, 101, 115, 116], [102, 114, 111, 122, 101, 110], [116, 104, 97, 119], [108, 101, 102, 116], [114, 105, 103, 104, 116], [117, 112], [100, 111, 119, 110]]
/-- the texts of the Reader, by their places in the lists, and the two statics of the JDK that are read -/
def SK (D : DG) (A : Nat → Prop) (U : State) (H : Heap) : Prop := vk_S nS lenS bytS D.2.1 D.2.2 A U H ∧ (∀ i, i < nS → vk_R "MovedFold$Reader" (kS.getD i 0) (txS.getD i "") (D.2.1 i) U) ∧ va_Z "java/lang/String" "COMPACT_STRINGS" "Z" (.int 1) A U H ∧ va_Zq "jdk/internal/util/Preconditions" "SIOOBE_FORMATTER" "Ljava/util/function/BiFunction;" A U H
theorem SK.kept {D : DG} {A : Nat → Prop} {U : State} {H H1 : Heap} (h : SK D A U H) (hq : ∀ a : Nat, a < H.size → ¬ A a → H1[a]? = H[a]?) : SK D A U H1 := ⟨h.1.kept hq, h.2.1, h.2.2.1.kept hq, h.2.2.2.kept hq⟩
theorem SK.narrow {D : DG} {A B : Nat → Prop} {U : State} {H : Heap} (h : SK D A U H) (hq : ∀ q, B q → A q) : SK D B U H := ⟨h.1.narrow hq, h.2.1, h.2.2.1.narrow hq, h.2.2.2.narrow hq⟩
theorem SK.warm {D : DG} {A : Nat → Prop} {u U : State} {H : Heap} (hW : u.WarmedH U.vm) (h : SK D A u H) : SK D A U H := ⟨h.1.moved hW.alike, fun i hi => (h.2.1 i hi).warm hW, h.2.2.1.moved hW.alike, h.2.2.2.moved hW.alike⟩
theorem SK.same {D : DG} {A : Nat → Prop} {u U : State} {H : Heap} (hv : U.vm = u.vm) (h : SK D A u H) : SK D A U H := ⟨h.1.moved (by rw [hv]; exact Vm.Alike.refl _), fun i hi => (h.2.1 i hi).same hv, h.2.2.1.moved (by rw [hv]; exact Vm.Alike.refl _), h.2.2.2.moved (by rw [hv]; exact Vm.Alike.refl _)⟩
def Cx (x : CX) (cc : ByteArray) (nL : Nat) (own : String) (R : Room) (D : DG) (tys : List (ClassId × FieldType)) : Prop := match x with
  | (p, _, _, R', s, m, args, _, meth, c, D', tys', A, _) => p.tables.exec = Jvm.exec ∧ c.code = cc ∧ c.maxLocals = nL ∧ s.vm.findClass own = some m.cls ∧ (∀ w ∈ gtbl, w.before args s = true) ∧ va_K D.1 vwCl tys s ∧ (∀ q : Nat, s.heap.size ≤ q → A q) ∧ meth.locks = false ∧ NW s ∧ SK D A s s.heap ∧ R' = R ∧ D' = D ∧ tys' = tys

def J (x : CX) (kc ks : Nat) (nL : Nat) (ws : va_W) (lv : List (Nat × Value)) (pc : Nat) (st : List Value) : Prop := match x with
  | (p, l, e, R, s, m, args, below, meth, c, D, _, A, Q) => ∀ (H : Heap) (locs : List Loc) (ls : Array Slot), va_P D.1 vwCl ws H → va_D A ws → va_S A s.heap H locs → lv_has ls nL lv → W p l e R s m args below meth c H locs kc ks Q (F0 m pc ls st)
section JL
variable {x : CX} {cc : ByteArray} {nL : Nat} {own : String} {R : Room} {D : DG} {tys : List (ClassId × FieldType)} {kc ks : Nat} {ws : va_W} {lv : List (Nat × Value)} {pc pn : Nat} {st : List Value}

theorem j_iload_n (cx : Cx x cc nL own R D tys) {kk : Fin 4} {i : Nat} {v : Int32} (j : Nat) (hj : lv[j]? = some (i, .int v)) (hi : (kk : Nat) = i) (d : decode cc pc = .ok (.iload_n kk, 1)) (hp : pc + 1 = pn) (k : J x kc ks nL ws lv pn (.int v :: st)) : J x kc ks nL ws lv pc st := by
  subst hp
  obtain ⟨p, l, e, R', s, m, args, below, meth, c, D', tys', A, Q⟩ := x
  obtain ⟨hx, hb, hml, hown, hts, hK, hA, hlk, hNW, hSK, rfl, rfl, rfl⟩ := cx
  intro H locs ls hP hD hS hl
  exact lv_iload_n hx hb d hi (lv_at hl j hj) (k H locs ls hP hD hS hl)
theorem j_aload_n (cx : Cx x cc nL own R D tys) {kk : Fin 4} {i : Nat} {v : Nat} (j : Nat) (hj : lv[j]? = some (i, .ref v)) (hi : (kk : Nat) = i) (d : decode cc pc = .ok (.aload_n kk, 1)) (hp : pc + 1 = pn) (k : J x kc ks nL ws lv pn (.ref v :: st)) : J x kc ks nL ws lv pc st := by
  subst hp
  obtain ⟨p, l, e, R', s, m, args, below, meth, c, D', tys', A, Q⟩ := x
  obtain ⟨hx, hb, hml, hown, hts, hK, hA, hlk, hNW, hSK, rfl, rfl, rfl⟩ := cx
  intro H locs ls hP hD hS hl
  exact lv_aload_n hx hb d hi (lv_at hl j hj) (k H locs ls hP hD hS hl)
theorem j_lload_n (cx : Cx x cc nL own R D tys) {kk : Fin 4} {i : Nat} {v : Int64} (j : Nat) (hj : lv[j]? = some (i, .long v)) (hi : (kk : Nat) = i) (d : decode cc pc = .ok (.lload_n kk, 1)) (hp : pc + 1 = pn) (k : J x kc ks nL ws lv pn (.long v :: st)) : J x kc ks nL ws lv pc st := by
  subst hp
  obtain ⟨p, l, e, R', s, m, args, below, meth, c, D', tys', A, Q⟩ := x
  obtain ⟨hx, hb, hml, hown, hts, hK, hA, hlk, hNW, hSK, rfl, rfl, rfl⟩ := cx
  intro H locs ls hP hD hS hl
  exact lv_lload_n hx hb d hi (lv_at hl j hj) (k H locs ls hP hD hS hl)
theorem j_iload (cx : Cx x cc nL own R D tys) {i : Nat} {v : Int32} (j : Nat) (hj : lv[j]? = some (i, .int v)) (d : decode cc pc = .ok (.iload i, 2)) (hp : pc + 2 = pn) (k : J x kc ks nL ws lv pn (.int v :: st)) : J x kc ks nL ws lv pc st := by
  subst hp
  obtain ⟨p, l, e, R', s, m, args, below, meth, c, D', tys', A, Q⟩ := x
  obtain ⟨hx, hb, hml, hown, hts, hK, hA, hlk, hNW, hSK, rfl, rfl, rfl⟩ := cx
  intro H locs ls hP hD hS hl
  exact lv_iload hx hb d (lv_at hl j hj) (k H locs ls hP hD hS hl)
theorem j_lload (cx : Cx x cc nL own R D tys) {i : Nat} {v : Int64} (j : Nat) (hj : lv[j]? = some (i, .long v)) (d : decode cc pc = .ok (.lload i, 2)) (hp : pc + 2 = pn) (k : J x kc ks nL ws lv pn (.long v :: st)) : J x kc ks nL ws lv pc st := by
  subst hp
  obtain ⟨p, l, e, R', s, m, args, below, meth, c, D', tys', A, Q⟩ := x
  obtain ⟨hx, hb, hml, hown, hts, hK, hA, hlk, hNW, hSK, rfl, rfl, rfl⟩ := cx
  intro H locs ls hP hD hS hl
  exact lv_lload hx hb d (lv_at hl j hj) (k H locs ls hP hD hS hl)
theorem j_aload (cx : Cx x cc nL own R D tys) {i : Nat} {v : Nat} (j : Nat) (hj : lv[j]? = some (i, .ref v)) (d : decode cc pc = .ok (.aload i, 2)) (hp : pc + 2 = pn) (k : J x kc ks nL ws lv pn (.ref v :: st)) : J x kc ks nL ws lv pc st := by
  subst hp
  obtain ⟨p, l, e, R', s, m, args, below, meth, c, D', tys', A, Q⟩ := x
  obtain ⟨hx, hb, hml, hown, hts, hK, hA, hlk, hNW, hSK, rfl, rfl, rfl⟩ := cx
  intro H locs ls hP hD hS hl
  exact lv_aload hx hb d (lv_at hl j hj) (k H locs ls hP hD hS hl)
theorem j_iconst (cx : Cx x cc nL own R D tys) {n : Int} {v : Int32} (hv : Int32.ofInt n = v) (d : decode cc pc = .ok (.iconst n, 1)) (hp : pc + 1 = pn) (k : J x kc ks nL ws lv pn (.int v :: st)) : J x kc ks nL ws lv pc st := by
  subst hp
  obtain ⟨p, l, e, R', s, m, args, below, meth, c, D', tys', A, Q⟩ := x
  obtain ⟨hx, hb, hml, hown, hts, hK, hA, hlk, hNW, hSK, rfl, rfl, rfl⟩ := cx
  intro H locs ls hP hD hS hl
  exact lv_iconst hx hb d hv (k H locs ls hP hD hS hl)
theorem j_bipush (cx : Cx x cc nL own R D tys) {n : Int} {v : Int32} (hv : (Int8.ofInt n).toInt32 = v) (d : decode cc pc = .ok (.bipush n, 2)) (hp : pc + 2 = pn) (k : J x kc ks nL ws lv pn (.int v :: st)) : J x kc ks nL ws lv pc st := by
  subst hp
  obtain ⟨p, l, e, R', s, m, args, below, meth, c, D', tys', A, Q⟩ := x
  obtain ⟨hx, hb, hml, hown, hts, hK, hA, hlk, hNW, hSK, rfl, rfl, rfl⟩ := cx
  intro H locs ls hP hD hS hl
  exact lv_bipush hx hb d hv (k H locs ls hP hD hS hl)
theorem j_sipush (cx : Cx x cc nL own R D tys) {n : Int} {v : Int32} (hv : (Int16.ofInt n).toInt32 = v) (d : decode cc pc = .ok (.sipush n, 3)) (hp : pc + 3 = pn) (k : J x kc ks nL ws lv pn (.int v :: st)) : J x kc ks nL ws lv pc st := by
  subst hp
  obtain ⟨p, l, e, R', s, m, args, below, meth, c, D', tys', A, Q⟩ := x
  obtain ⟨hx, hb, hml, hown, hts, hK, hA, hlk, hNW, hSK, rfl, rfl, rfl⟩ := cx
  intro H locs ls hP hD hS hl
  exact lv_sipush hx hb d hv (k H locs ls hP hD hS hl)
theorem j_lconst (cx : Cx x cc nL own R D tys) {n : Fin 2} {v : Int64} (hv : Int64.ofNat (n : Nat) = v) (d : decode cc pc = .ok (.lconst n, 1)) (hp : pc + 1 = pn) (k : J x kc ks nL ws lv pn (.long v :: st)) : J x kc ks nL ws lv pc st := by
  subst hp
  obtain ⟨p, l, e, R', s, m, args, below, meth, c, D', tys', A, Q⟩ := x
  obtain ⟨hx, hb, hml, hown, hts, hK, hA, hlk, hNW, hSK, rfl, rfl, rfl⟩ := cx
  intro H locs ls hP hD hS hl
  exact lv_lconst hx hb d hv (k H locs ls hP hD hS hl)
theorem j_ldc (cx : Cx x cc nL own R D tys) {idx : Nat} {v : Int32} (hw : Cond.constant own idx v ∈ gtbl) (d : decode cc pc = .ok (.ldc idx, 2)) (hp : pc + 2 = pn) (k : J x kc ks nL ws lv pn (.int v :: st)) : J x kc ks nL ws lv pc st := by
  subst hp
  obtain ⟨p, l, e, R', s, m, args, below, meth, c, D', tys', A, Q⟩ := x
  obtain ⟨hx, hb, hml, hown, hts, hK, hA, hlk, hNW, hSK, rfl, rfl, rfl⟩ := cx
  intro H locs ls hP hD hS hl
  exact lv_ldc hx hb hown (hts _ hw) d (k H locs ls hP hD hS hl)
theorem j_ldcw (cx : Cx x cc nL own R D tys) {idx : Nat} {v : Int32} (hw : Cond.constant own idx v ∈ gtbl) (d : decode cc pc = .ok (.ldc_w idx, 3)) (hp : pc + 3 = pn) (k : J x kc ks nL ws lv pn (.int v :: st)) : J x kc ks nL ws lv pc st := by
  subst hp
  obtain ⟨p, l, e, R', s, m, args, below, meth, c, D', tys', A, Q⟩ := x
  obtain ⟨hx, hb, hml, hown, hts, hK, hA, hlk, hNW, hSK, rfl, rfl, rfl⟩ := cx
  intro H locs ls hP hD hS hl
  exact lv_ldcw hx hb hown (hts _ hw) d (k H locs ls hP hD hS hl)
theorem j_ldc2 (cx : Cx x cc nL own R D tys) {idx : Nat} {v : Int64} (hw : Cond.constantLong own idx v ∈ gtbl) (d : decode cc pc = .ok (.ldc2_w idx, 3)) (hp : pc + 3 = pn) (k : J x kc ks nL ws lv pn (.long v :: st)) : J x kc ks nL ws lv pc st := by
  subst hp
  obtain ⟨p, l, e, R', s, m, args, below, meth, c, D', tys', A, Q⟩ := x
  obtain ⟨hx, hb, hml, hown, hts, hK, hA, hlk, hNW, hSK, rfl, rfl, rfl⟩ := cx
  intro H locs ls hP hD hS hl
  exact lv_ldc2 hx hb hown (hts _ hw) d (k H locs ls hP hD hS hl)
theorem j_null (cx : Cx x cc nL own R D tys)  (d : decode cc pc = .ok (.aconst_null, 1)) (hp : pc + 1 = pn) (k : J x kc ks nL ws lv pn (.null :: st)) : J x kc ks nL ws lv pc st := by
  subst hp
  obtain ⟨p, l, e, R', s, m, args, below, meth, c, D', tys', A, Q⟩ := x
  obtain ⟨hx, hb, hml, hown, hts, hK, hA, hlk, hNW, hSK, rfl, rfl, rfl⟩ := cx
  intro H locs ls hP hD hS hl
  exact lv_null hx hb d (k H locs ls hP hD hS hl)
theorem j_iadd (cx : Cx x cc nL own R D tys) {a b : Int32} (d : decode cc pc = .ok (.iadd, 1)) (hp : pc + 1 = pn) (k : J x kc ks nL ws lv pn (.int (a + b) :: st)) : J x kc ks nL ws lv pc (.int b :: .int a :: st) := by
  subst hp
  obtain ⟨p, l, e, R', s, m, args, below, meth, c, D', tys', A, Q⟩ := x
  obtain ⟨hx, hb, hml, hown, hts, hK, hA, hlk, hNW, hSK, rfl, rfl, rfl⟩ := cx
  intro H locs ls hP hD hS hl
  exact lv_iadd hx hb d (k H locs ls hP hD hS hl)
theorem j_isub (cx : Cx x cc nL own R D tys) {a b : Int32} (d : decode cc pc = .ok (.isub, 1)) (hp : pc + 1 = pn) (k : J x kc ks nL ws lv pn (.int (a - b) :: st)) : J x kc ks nL ws lv pc (.int b :: .int a :: st) := by
  subst hp
  obtain ⟨p, l, e, R', s, m, args, below, meth, c, D', tys', A, Q⟩ := x
  obtain ⟨hx, hb, hml, hown, hts, hK, hA, hlk, hNW, hSK, rfl, rfl, rfl⟩ := cx
  intro H locs ls hP hD hS hl
  exact lv_isub hx hb d (k H locs ls hP hD hS hl)
theorem j_imul (cx : Cx x cc nL own R D tys) {a b : Int32} (d : decode cc pc = .ok (.imul, 1)) (hp : pc + 1 = pn) (k : J x kc ks nL ws lv pn (.int (a * b) :: st)) : J x kc ks nL ws lv pc (.int b :: .int a :: st) := by
  subst hp
  obtain ⟨p, l, e, R', s, m, args, below, meth, c, D', tys', A, Q⟩ := x
  obtain ⟨hx, hb, hml, hown, hts, hK, hA, hlk, hNW, hSK, rfl, rfl, rfl⟩ := cx
  intro H locs ls hP hD hS hl
  exact lv_imul hx hb d (k H locs ls hP hD hS hl)
theorem j_iand (cx : Cx x cc nL own R D tys) {a b : Int32} (d : decode cc pc = .ok (.iand, 1)) (hp : pc + 1 = pn) (k : J x kc ks nL ws lv pn (.int (a &&& b) :: st)) : J x kc ks nL ws lv pc (.int b :: .int a :: st) := by
  subst hp
  obtain ⟨p, l, e, R', s, m, args, below, meth, c, D', tys', A, Q⟩ := x
  obtain ⟨hx, hb, hml, hown, hts, hK, hA, hlk, hNW, hSK, rfl, rfl, rfl⟩ := cx
  intro H locs ls hP hD hS hl
  exact lv_iand hx hb d (k H locs ls hP hD hS hl)
theorem j_ior (cx : Cx x cc nL own R D tys) {a b : Int32} (d : decode cc pc = .ok (.ior, 1)) (hp : pc + 1 = pn) (k : J x kc ks nL ws lv pn (.int (a ||| b) :: st)) : J x kc ks nL ws lv pc (.int b :: .int a :: st) := by
  subst hp
  obtain ⟨p, l, e, R', s, m, args, below, meth, c, D', tys', A, Q⟩ := x
  obtain ⟨hx, hb, hml, hown, hts, hK, hA, hlk, hNW, hSK, rfl, rfl, rfl⟩ := cx
  intro H locs ls hP hD hS hl
  exact lv_ior hx hb d (k H locs ls hP hD hS hl)
theorem j_ixor (cx : Cx x cc nL own R D tys) {a b : Int32} (d : decode cc pc = .ok (.ixor, 1)) (hp : pc + 1 = pn) (k : J x kc ks nL ws lv pn (.int (a ^^^ b) :: st)) : J x kc ks nL ws lv pc (.int b :: .int a :: st) := by
  subst hp
  obtain ⟨p, l, e, R', s, m, args, below, meth, c, D', tys', A, Q⟩ := x
  obtain ⟨hx, hb, hml, hown, hts, hK, hA, hlk, hNW, hSK, rfl, rfl, rfl⟩ := cx
  intro H locs ls hP hD hS hl
  exact lv_ixor hx hb d (k H locs ls hP hD hS hl)
theorem j_ishl (cx : Cx x cc nL own R D tys) {a b : Int32} (d : decode cc pc = .ok (.ishl, 1)) (hp : pc + 1 = pn) (k : J x kc ks nL ws lv pn (.int (a <<< (b &&& 31)) :: st)) : J x kc ks nL ws lv pc (.int b :: .int a :: st) := by
  subst hp
  obtain ⟨p, l, e, R', s, m, args, below, meth, c, D', tys', A, Q⟩ := x
  obtain ⟨hx, hb, hml, hown, hts, hK, hA, hlk, hNW, hSK, rfl, rfl, rfl⟩ := cx
  intro H locs ls hP hD hS hl
  exact lv_ishl hx hb d (k H locs ls hP hD hS hl)
theorem j_ishr (cx : Cx x cc nL own R D tys) {a b : Int32} (d : decode cc pc = .ok (.ishr, 1)) (hp : pc + 1 = pn) (k : J x kc ks nL ws lv pn (.int (a >>> (b &&& 31)) :: st)) : J x kc ks nL ws lv pc (.int b :: .int a :: st) := by
  subst hp
  obtain ⟨p, l, e, R', s, m, args, below, meth, c, D', tys', A, Q⟩ := x
  obtain ⟨hx, hb, hml, hown, hts, hK, hA, hlk, hNW, hSK, rfl, rfl, rfl⟩ := cx
  intro H locs ls hP hD hS hl
  exact lv_ishr hx hb d (k H locs ls hP hD hS hl)
theorem j_idiv (cx : Cx x cc nL own R D tys) {a b : Int32} (hne : ¬ b = 0) (d : decode cc pc = .ok (.idiv, 1)) (hp : pc + 1 = pn) (k : J x kc ks nL ws lv pn (.int (a / b) :: st)) : J x kc ks nL ws lv pc (.int b :: .int a :: st) := by
  subst hp
  obtain ⟨p, l, e, R', s, m, args, below, meth, c, D', tys', A, Q⟩ := x
  obtain ⟨hx, hb, hml, hown, hts, hK, hA, hlk, hNW, hSK, rfl, rfl, rfl⟩ := cx
  intro H locs ls hP hD hS hl
  exact lv_idiv hx hb d hne (k H locs ls hP hD hS hl)
theorem j_irem (cx : Cx x cc nL own R D tys) {a b : Int32} (hne : ¬ b = 0) (d : decode cc pc = .ok (.irem, 1)) (hp : pc + 1 = pn) (k : J x kc ks nL ws lv pn (.int (a - a / b * b) :: st)) : J x kc ks nL ws lv pc (.int b :: .int a :: st) := by
  subst hp
  obtain ⟨p, l, e, R', s, m, args, below, meth, c, D', tys', A, Q⟩ := x
  obtain ⟨hx, hb, hml, hown, hts, hK, hA, hlk, hNW, hSK, rfl, rfl, rfl⟩ := cx
  intro H locs ls hP hD hS hl
  exact lv_irem hx hb d hne (k H locs ls hP hD hS hl)
theorem j_ineg (cx : Cx x cc nL own R D tys) {a : Int32} (d : decode cc pc = .ok (.ineg, 1)) (hp : pc + 1 = pn) (k : J x kc ks nL ws lv pn (.int (-a) :: st)) : J x kc ks nL ws lv pc (.int a :: st) := by
  subst hp
  obtain ⟨p, l, e, R', s, m, args, below, meth, c, D', tys', A, Q⟩ := x
  obtain ⟨hx, hb, hml, hown, hts, hK, hA, hlk, hNW, hSK, rfl, rfl, rfl⟩ := cx
  intro H locs ls hP hD hS hl
  exact lv_ineg hx hb d (k H locs ls hP hD hS hl)
theorem j_ladd (cx : Cx x cc nL own R D tys) {a b : Int64} (d : decode cc pc = .ok (.ladd, 1)) (hp : pc + 1 = pn) (k : J x kc ks nL ws lv pn (.long (a + b) :: st)) : J x kc ks nL ws lv pc (.long b :: .long a :: st) := by
  subst hp
  obtain ⟨p, l, e, R', s, m, args, below, meth, c, D', tys', A, Q⟩ := x
  obtain ⟨hx, hb, hml, hown, hts, hK, hA, hlk, hNW, hSK, rfl, rfl, rfl⟩ := cx
  intro H locs ls hP hD hS hl
  exact lv_ladd hx hb d (k H locs ls hP hD hS hl)
theorem j_lsub (cx : Cx x cc nL own R D tys) {a b : Int64} (d : decode cc pc = .ok (.lsub, 1)) (hp : pc + 1 = pn) (k : J x kc ks nL ws lv pn (.long (a - b) :: st)) : J x kc ks nL ws lv pc (.long b :: .long a :: st) := by
  subst hp
  obtain ⟨p, l, e, R', s, m, args, below, meth, c, D', tys', A, Q⟩ := x
  obtain ⟨hx, hb, hml, hown, hts, hK, hA, hlk, hNW, hSK, rfl, rfl, rfl⟩ := cx
  intro H locs ls hP hD hS hl
  exact lv_lsub hx hb d (k H locs ls hP hD hS hl)
theorem j_lmul (cx : Cx x cc nL own R D tys) {a b : Int64} (d : decode cc pc = .ok (.lmul, 1)) (hp : pc + 1 = pn) (k : J x kc ks nL ws lv pn (.long (a * b) :: st)) : J x kc ks nL ws lv pc (.long b :: .long a :: st) := by
  subst hp
  obtain ⟨p, l, e, R', s, m, args, below, meth, c, D', tys', A, Q⟩ := x
  obtain ⟨hx, hb, hml, hown, hts, hK, hA, hlk, hNW, hSK, rfl, rfl, rfl⟩ := cx
  intro H locs ls hP hD hS hl
  exact lv_lmul hx hb d (k H locs ls hP hD hS hl)
theorem j_land (cx : Cx x cc nL own R D tys) {a b : Int64} (d : decode cc pc = .ok (.land, 1)) (hp : pc + 1 = pn) (k : J x kc ks nL ws lv pn (.long (a &&& b) :: st)) : J x kc ks nL ws lv pc (.long b :: .long a :: st) := by
  subst hp
  obtain ⟨p, l, e, R', s, m, args, below, meth, c, D', tys', A, Q⟩ := x
  obtain ⟨hx, hb, hml, hown, hts, hK, hA, hlk, hNW, hSK, rfl, rfl, rfl⟩ := cx
  intro H locs ls hP hD hS hl
  exact lv_land hx hb d (k H locs ls hP hD hS hl)
theorem j_lor (cx : Cx x cc nL own R D tys) {a b : Int64} (d : decode cc pc = .ok (.lor, 1)) (hp : pc + 1 = pn) (k : J x kc ks nL ws lv pn (.long (a ||| b) :: st)) : J x kc ks nL ws lv pc (.long b :: .long a :: st) := by
  subst hp
  obtain ⟨p, l, e, R', s, m, args, below, meth, c, D', tys', A, Q⟩ := x
  obtain ⟨hx, hb, hml, hown, hts, hK, hA, hlk, hNW, hSK, rfl, rfl, rfl⟩ := cx
  intro H locs ls hP hD hS hl
  exact lv_lor hx hb d (k H locs ls hP hD hS hl)
theorem j_lxor (cx : Cx x cc nL own R D tys) {a b : Int64} (d : decode cc pc = .ok (.lxor, 1)) (hp : pc + 1 = pn) (k : J x kc ks nL ws lv pn (.long (a ^^^ b) :: st)) : J x kc ks nL ws lv pc (.long b :: .long a :: st) := by
  subst hp
  obtain ⟨p, l, e, R', s, m, args, below, meth, c, D', tys', A, Q⟩ := x
  obtain ⟨hx, hb, hml, hown, hts, hK, hA, hlk, hNW, hSK, rfl, rfl, rfl⟩ := cx
  intro H locs ls hP hD hS hl
  exact lv_lxor hx hb d (k H locs ls hP hD hS hl)
theorem j_lrem (cx : Cx x cc nL own R D tys) {a b : Int64} (hne : ¬ b = 0) (d : decode cc pc = .ok (.lrem, 1)) (hp : pc + 1 = pn) (k : J x kc ks nL ws lv pn (.long (a - a / b * b) :: st)) : J x kc ks nL ws lv pc (.long b :: .long a :: st) := by
  subst hp
  obtain ⟨p, l, e, R', s, m, args, below, meth, c, D', tys', A, Q⟩ := x
  obtain ⟨hx, hb, hml, hown, hts, hK, hA, hlk, hNW, hSK, rfl, rfl, rfl⟩ := cx
  intro H locs ls hP hD hS hl
  exact lv_lrem hx hb d hne (k H locs ls hP hD hS hl)
theorem j_lshl (cx : Cx x cc nL own R D tys) {a : Int64} {b : Int32} (d : decode cc pc = .ok (.lshl, 1)) (hp : pc + 1 = pn) (k : J x kc ks nL ws lv pn (.long (a <<< (b.toInt64 &&& 63)) :: st)) : J x kc ks nL ws lv pc (.int b :: .long a :: st) := by
  subst hp
  obtain ⟨p, l, e, R', s, m, args, below, meth, c, D', tys', A, Q⟩ := x
  obtain ⟨hx, hb, hml, hown, hts, hK, hA, hlk, hNW, hSK, rfl, rfl, rfl⟩ := cx
  intro H locs ls hP hD hS hl
  exact lv_lshl hx hb d rfl (k H locs ls hP hD hS hl)
theorem j_lshr (cx : Cx x cc nL own R D tys) {a : Int64} {b : Int32} (d : decode cc pc = .ok (.lshr, 1)) (hp : pc + 1 = pn) (k : J x kc ks nL ws lv pn (.long (a >>> (b.toInt64 &&& 63)) :: st)) : J x kc ks nL ws lv pc (.int b :: .long a :: st) := by
  subst hp
  obtain ⟨p, l, e, R', s, m, args, below, meth, c, D', tys', A, Q⟩ := x
  obtain ⟨hx, hb, hml, hown, hts, hK, hA, hlk, hNW, hSK, rfl, rfl, rfl⟩ := cx
  intro H locs ls hP hD hS hl
  exact lv_lshr hx hb d rfl (k H locs ls hP hD hS hl)
theorem j_i2l (cx : Cx x cc nL own R D tys) {a : Int32} (d : decode cc pc = .ok (.i2l, 1)) (hp : pc + 1 = pn) (k : J x kc ks nL ws lv pn (.long a.toInt64 :: st)) : J x kc ks nL ws lv pc (.int a :: st) := by
  subst hp
  obtain ⟨p, l, e, R', s, m, args, below, meth, c, D', tys', A, Q⟩ := x
  obtain ⟨hx, hb, hml, hown, hts, hK, hA, hlk, hNW, hSK, rfl, rfl, rfl⟩ := cx
  intro H locs ls hP hD hS hl
  exact lv_i2l hx hb d rfl (k H locs ls hP hD hS hl)
theorem j_l2i (cx : Cx x cc nL own R D tys) {a : Int64} (d : decode cc pc = .ok (.l2i, 1)) (hp : pc + 1 = pn) (k : J x kc ks nL ws lv pn (.int a.toInt32 :: st)) : J x kc ks nL ws lv pc (.long a :: st) := by
  subst hp
  obtain ⟨p, l, e, R', s, m, args, below, meth, c, D', tys', A, Q⟩ := x
  obtain ⟨hx, hb, hml, hown, hts, hK, hA, hlk, hNW, hSK, rfl, rfl, rfl⟩ := cx
  intro H locs ls hP hD hS hl
  exact lv_l2i hx hb d rfl (k H locs ls hP hD hS hl)
theorem j_dup (cx : Cx x cc nL own R D tys) {v : Value} (hv : v.category = 1) (d : decode cc pc = .ok (.dup, 1)) (hp : pc + 1 = pn) (k : J x kc ks nL ws lv pn (v :: v :: st)) : J x kc ks nL ws lv pc (v :: st) := by
  subst hp
  obtain ⟨p, l, e, R', s, m, args, below, meth, c, D', tys', A, Q⟩ := x
  obtain ⟨hx, hb, hml, hown, hts, hK, hA, hlk, hNW, hSK, rfl, rfl, rfl⟩ := cx
  intro H locs ls hP hD hS hl
  exact lv_dup hx hb d hv (k H locs ls hP hD hS hl)
theorem j_dup2 (cx : Cx x cc nL own R D tys) {v u : Value} (hv : v.category = 1) (hu : u.category = 1) (d : decode cc pc = .ok (.dup2, 1)) (hp : pc + 1 = pn) (k : J x kc ks nL ws lv pn (v :: u :: v :: u :: st)) : J x kc ks nL ws lv pc (v :: u :: st) := by
  subst hp
  obtain ⟨p, l, e, R', s, m, args, below, meth, c, D', tys', A, Q⟩ := x
  obtain ⟨hx, hb, hml, hown, hts, hK, hA, hlk, hNW, hSK, rfl, rfl, rfl⟩ := cx
  intro H locs ls hP hD hS hl
  exact lv_dup2_11 hx hb d hv hu (k H locs ls hP hD hS hl)
theorem j_pop (cx : Cx x cc nL own R D tys) {v : Value} (hv : v.category = 1) (d : decode cc pc = .ok (.pop, 1)) (hp : pc + 1 = pn) (k : J x kc ks nL ws lv pn st) : J x kc ks nL ws lv pc (v :: st) := by
  subst hp
  obtain ⟨p, l, e, R', s, m, args, below, meth, c, D', tys', A, Q⟩ := x
  obtain ⟨hx, hb, hml, hown, hts, hK, hA, hlk, hNW, hSK, rfl, rfl, rfl⟩ := cx
  intro H locs ls hP hD hS hl
  exact lv_pop hx hb d hv (k H locs ls hP hD hS hl)
theorem j_lcmp (cx : Cx x cc nL own R D tys) {a b : Int64} (d : decode cc pc = .ok (.lcmp, 1)) (hp : pc + 1 = pn) (k : J x kc ks nL ws lv pn (.int (lg_cmp a b) :: st)) : J x kc ks nL ws lv pc (.long b :: .long a :: st) := by
  subst hp
  obtain ⟨p, l, e, R', s, m, args, below, meth, c, D', tys', A, Q⟩ := x
  obtain ⟨hx, hb, hml, hown, hts, hK, hA, hlk, hNW, hSK, rfl, rfl, rfl⟩ := cx
  intro H locs ls hP hD hS hl
  exact W.lcmp hx hb d (k H locs ls hP hD hS hl)
theorem j_lif_eq (cx : Cx x cc nL own R D tys) {a b : Int64} {off : Int} {pm : Nat} (tgt : Nat) (d0 : decode cc pc = .ok (.lcmp, 1)) (hp0 : pc + 1 = pm) (d : decode cc pm = .ok (.ifCond .eq off, 3)) (ht : (pm : Int) + off = (tgt : Int)) (hp : pm + 3 = pn) (kt : a = b → J x kc ks nL ws lv tgt st) (kf : ¬ a = b → J x kc ks nL ws lv pn st) : J x kc ks nL ws lv pc (.long b :: .long a :: st) := by
  subst hp; subst hp0
  obtain ⟨p, l, e, R', s, m, args, below, meth, c, D', tys', A, Q⟩ := x
  obtain ⟨hx, hb, hml, hown, hts, hK, hA, hlk, hNW, hSK, rfl, rfl, rfl⟩ := cx
  intro H locs ls hP hD hS hl
  exact W.lcmp hx hb d0 (lv_if_eq hx hb d ht (fun q => kt ((lg_cmp_eq a b).mp q) H locs ls hP hD hS hl) (fun q => kf (fun z => q ((lg_cmp_eq a b).mpr z)) H locs ls hP hD hS hl))
theorem j_lif_ne (cx : Cx x cc nL own R D tys) {a b : Int64} {off : Int} {pm : Nat} (tgt : Nat) (d0 : decode cc pc = .ok (.lcmp, 1)) (hp0 : pc + 1 = pm) (d : decode cc pm = .ok (.ifCond .ne off, 3)) (ht : (pm : Int) + off = (tgt : Int)) (hp : pm + 3 = pn) (kt : ¬ a = b → J x kc ks nL ws lv tgt st) (kf : a = b → J x kc ks nL ws lv pn st) : J x kc ks nL ws lv pc (.long b :: .long a :: st) := by
  subst hp; subst hp0
  obtain ⟨p, l, e, R', s, m, args, below, meth, c, D', tys', A, Q⟩ := x
  obtain ⟨hx, hb, hml, hown, hts, hK, hA, hlk, hNW, hSK, rfl, rfl, rfl⟩ := cx
  intro H locs ls hP hD hS hl
  exact W.lcmp hx hb d0 (lv_if_ne hx hb d ht (fun q => kt (fun z => q ((lg_cmp_eq a b).mpr z)) H locs ls hP hD hS hl) (fun q => kf ((lg_cmp_eq a b).mp q) H locs ls hP hD hS hl))
theorem j_iushr (cx : Cx x cc nL own R D tys) {a b : Int32} (d : decode cc pc = .ok (.iushr, 1)) (hp : pc + 1 = pn) (k : J x kc ks nL ws lv pn (.int (a.toUInt32 >>> (b.toUInt32 &&& Int32.toUInt32 31)).toInt32 :: st)) : J x kc ks nL ws lv pc (.int b :: .int a :: st) := by
  subst hp
  obtain ⟨p, l, e, R', s, m, args, below, meth, c, D', tys', A, Q⟩ := x
  obtain ⟨hx, hb, hml, hown, hts, hK, hA, hlk, hNW, hSK, rfl, rfl, rfl⟩ := cx
  intro H locs ls hP hD hS hl
  exact lv_iushr hx hb d rfl (k H locs ls hP hD hS hl)
theorem j_topi {v : Int32} (k : ∀ y : Int32, y = v → J x kc ks nL ws lv pc (.int y :: st)) : J x kc ks nL ws lv pc (.int v :: st) := k v rfl
theorem j_topl {v : Int64} (k : ∀ y : Int64, y = v → J x kc ks nL ws lv pc (.long y :: st)) : J x kc ks nL ws lv pc (.long v :: st) := k v rfl
theorem j_istore_n (cx : Cx x cc nL own R D tys) {kk : Fin 4} {i : Nat} {v : Int32} (hi : (kk : Nat) = i) (lv' : List (Nat × Value)) (hn : i < nL) (hl' : (i, Value.int v) :: lv.filter (fun q => !(q.1 == i) && !(q.1 + 1 == i && q.2.category == 2)) = lv') (d : decode cc pc = .ok (.istore_n kk, 1)) (hp : pc + 1 = pn) (k : J x kc ks nL ws lv' pn st) : J x kc ks nL ws lv pc (.int v :: st) := by
  subst hp
  obtain ⟨p, l, e, R', s, m, args, below, meth, c, D', tys', A, Q⟩ := x
  obtain ⟨hx, hb, hml, hown, hts, hK, hA, hlk, hNW, hSK, rfl, rfl, rfl⟩ := cx
  intro H locs ls hP hD hS hl
  exact lv_istore_n hx hb d hi hl hn hl' (fun ls hl => k H locs ls hP hD hS hl)
theorem j_istore (cx : Cx x cc nL own R D tys) {i : Nat} {v : Int32} (lv' : List (Nat × Value)) (hn : i < nL) (hl' : (i, Value.int v) :: lv.filter (fun q => !(q.1 == i) && !(q.1 + 1 == i && q.2.category == 2)) = lv') (d : decode cc pc = .ok (.istore i, 2)) (hp : pc + 2 = pn) (k : J x kc ks nL ws lv' pn st) : J x kc ks nL ws lv pc (.int v :: st) := by
  subst hp
  obtain ⟨p, l, e, R', s, m, args, below, meth, c, D', tys', A, Q⟩ := x
  obtain ⟨hx, hb, hml, hown, hts, hK, hA, hlk, hNW, hSK, rfl, rfl, rfl⟩ := cx
  intro H locs ls hP hD hS hl
  exact lv_istore hx hb d hl hn hl' (fun ls hl => k H locs ls hP hD hS hl)
theorem j_astore_n (cx : Cx x cc nL own R D tys) {kk : Fin 4} {i : Nat} {v : Nat} (hi : (kk : Nat) = i) (lv' : List (Nat × Value)) (hn : i < nL) (hl' : (i, Value.ref v) :: lv.filter (fun q => !(q.1 == i) && !(q.1 + 1 == i && q.2.category == 2)) = lv') (d : decode cc pc = .ok (.astore_n kk, 1)) (hp : pc + 1 = pn) (k : J x kc ks nL ws lv' pn st) : J x kc ks nL ws lv pc (.ref v :: st) := by
  subst hp
  obtain ⟨p, l, e, R', s, m, args, below, meth, c, D', tys', A, Q⟩ := x
  obtain ⟨hx, hb, hml, hown, hts, hK, hA, hlk, hNW, hSK, rfl, rfl, rfl⟩ := cx
  intro H locs ls hP hD hS hl
  exact lv_astore_n hx hb d hi hl hn hl' (fun ls hl => k H locs ls hP hD hS hl)
theorem j_astore (cx : Cx x cc nL own R D tys) {i : Nat} {v : Nat} (lv' : List (Nat × Value)) (hn : i < nL) (hl' : (i, Value.ref v) :: lv.filter (fun q => !(q.1 == i) && !(q.1 + 1 == i && q.2.category == 2)) = lv') (d : decode cc pc = .ok (.astore i, 2)) (hp : pc + 2 = pn) (k : J x kc ks nL ws lv' pn st) : J x kc ks nL ws lv pc (.ref v :: st) := by
  subst hp
  obtain ⟨p, l, e, R', s, m, args, below, meth, c, D', tys', A, Q⟩ := x
  obtain ⟨hx, hb, hml, hown, hts, hK, hA, hlk, hNW, hSK, rfl, rfl, rfl⟩ := cx
  intro H locs ls hP hD hS hl
  exact lv_astore hx hb d hl hn hl' (fun ls hl => k H locs ls hP hD hS hl)
theorem j_lstore_n (cx : Cx x cc nL own R D tys) {kk : Fin 4} {i : Nat} {v : Int64} (hi : (kk : Nat) = i) (lv' : List (Nat × Value)) (hn : i + 1 < nL) (hl' : (i, Value.long v) :: lv.filter (fun q => !(q.1 == i) && (!(q.1 == i + 1) && !(q.1 + 1 == i && q.2.category == 2))) = lv') (d : decode cc pc = .ok (.lstore_n kk, 1)) (hp : pc + 1 = pn) (k : J x kc ks nL ws lv' pn st) : J x kc ks nL ws lv pc (.long v :: st) := by
  subst hp
  obtain ⟨p, l, e, R', s, m, args, below, meth, c, D', tys', A, Q⟩ := x
  obtain ⟨hx, hb, hml, hown, hts, hK, hA, hlk, hNW, hSK, rfl, rfl, rfl⟩ := cx
  intro H locs ls hP hD hS hl
  exact lv_lstore_n hx hb d hi hl hn hl' (fun ls hl => k H locs ls hP hD hS hl)
theorem j_lstore (cx : Cx x cc nL own R D tys) {i : Nat} {v : Int64} (lv' : List (Nat × Value)) (hn : i + 1 < nL) (hl' : (i, Value.long v) :: lv.filter (fun q => !(q.1 == i) && (!(q.1 == i + 1) && !(q.1 + 1 == i && q.2.category == 2))) = lv') (d : decode cc pc = .ok (.lstore i, 2)) (hp : pc + 2 = pn) (k : J x kc ks nL ws lv' pn st) : J x kc ks nL ws lv pc (.long v :: st) := by
  subst hp
  obtain ⟨p, l, e, R', s, m, args, below, meth, c, D', tys', A, Q⟩ := x
  obtain ⟨hx, hb, hml, hown, hts, hK, hA, hlk, hNW, hSK, rfl, rfl, rfl⟩ := cx
  intro H locs ls hP hD hS hl
  exact lv_lstore hx hb d hl hn hl' (fun ls hl => k H locs ls hP hD hS hl)
theorem j_iinc (cx : Cx x cc nL own R D tys) {i : Nat} {n : Int} {v0 v : Int32} (j : Nat) (hj : lv[j]? = some (i, .int v0)) {cst : Int32} (hc : Int32.ofInt n = cst) (hv : v = v0 + cst) (lv' : List (Nat × Value)) (hn : i < nL) (hl' : (i, Value.int v) :: lv.filter (fun q => !(q.1 == i) && !(q.1 + 1 == i && q.2.category == 2)) = lv') (d : decode cc pc = .ok (.iinc i n, 3)) (hp : pc + 3 = pn) (k : J x kc ks nL ws lv' pn st) : J x kc ks nL ws lv pc st := by
  subst hp
  obtain ⟨p, l, e, R', s, m, args, below, meth, c, D', tys', A, Q⟩ := x
  obtain ⟨hx, hb, hml, hown, hts, hK, hA, hlk, hNW, hSK, rfl, rfl, rfl⟩ := cx
  intro H locs ls hP hD hS hl
  exact lv_iinc hx hb d hl hj (by rw [hc]; exact hv.symm) hn hl' (fun ls hl => k H locs ls hP hD hS hl)
theorem j_icmp_eq (cx : Cx x cc nL own R D tys) {a b : Int32} {off : Int} (tgt : Nat) (d : decode cc pc = .ok (.if_icmp .eq off, 3)) (ht : (pc : Int) + off = (tgt : Int)) (hp : pc + 3 = pn) (kt : a = b → J x kc ks nL ws lv tgt st) (kf : ¬ a = b → J x kc ks nL ws lv pn st) : J x kc ks nL ws lv pc (.int b :: .int a :: st) := by
  subst hp
  obtain ⟨p, l, e, R', s, m, args, below, meth, c, D', tys', A, Q⟩ := x
  obtain ⟨hx, hb, hml, hown, hts, hK, hA, hlk, hNW, hSK, rfl, rfl, rfl⟩ := cx
  intro H locs ls hP hD hS hl
  exact lv_icmp_eq hx hb d ht (fun q => kt q H locs ls hP hD hS hl) (fun q => kf q H locs ls hP hD hS hl)
theorem j_icmp_ne (cx : Cx x cc nL own R D tys) {a b : Int32} {off : Int} (tgt : Nat) (d : decode cc pc = .ok (.if_icmp .ne off, 3)) (ht : (pc : Int) + off = (tgt : Int)) (hp : pc + 3 = pn) (kt : ¬ a = b → J x kc ks nL ws lv tgt st) (kf : a = b → J x kc ks nL ws lv pn st) : J x kc ks nL ws lv pc (.int b :: .int a :: st) := by
  subst hp
  obtain ⟨p, l, e, R', s, m, args, below, meth, c, D', tys', A, Q⟩ := x
  obtain ⟨hx, hb, hml, hown, hts, hK, hA, hlk, hNW, hSK, rfl, rfl, rfl⟩ := cx
  intro H locs ls hP hD hS hl
  exact lv_icmp_ne hx hb d ht (fun q => kt q H locs ls hP hD hS hl) (fun q => kf q H locs ls hP hD hS hl)
theorem j_icmp_lt (cx : Cx x cc nL own R D tys) {a b : Int32} {off : Int} (tgt : Nat) (d : decode cc pc = .ok (.if_icmp .lt off, 3)) (ht : (pc : Int) + off = (tgt : Int)) (hp : pc + 3 = pn) (kt : a < b → J x kc ks nL ws lv tgt st) (kf : ¬ a < b → J x kc ks nL ws lv pn st) : J x kc ks nL ws lv pc (.int b :: .int a :: st) := by
  subst hp
  obtain ⟨p, l, e, R', s, m, args, below, meth, c, D', tys', A, Q⟩ := x
  obtain ⟨hx, hb, hml, hown, hts, hK, hA, hlk, hNW, hSK, rfl, rfl, rfl⟩ := cx
  intro H locs ls hP hD hS hl
  exact lv_icmp_lt hx hb d ht (fun q => kt q H locs ls hP hD hS hl) (fun q => kf q H locs ls hP hD hS hl)
theorem j_icmp_ge (cx : Cx x cc nL own R D tys) {a b : Int32} {off : Int} (tgt : Nat) (d : decode cc pc = .ok (.if_icmp .ge off, 3)) (ht : (pc : Int) + off = (tgt : Int)) (hp : pc + 3 = pn) (kt : b ≤ a → J x kc ks nL ws lv tgt st) (kf : ¬ b ≤ a → J x kc ks nL ws lv pn st) : J x kc ks nL ws lv pc (.int b :: .int a :: st) := by
  subst hp
  obtain ⟨p, l, e, R', s, m, args, below, meth, c, D', tys', A, Q⟩ := x
  obtain ⟨hx, hb, hml, hown, hts, hK, hA, hlk, hNW, hSK, rfl, rfl, rfl⟩ := cx
  intro H locs ls hP hD hS hl
  exact lv_icmp_ge hx hb d ht (fun q => kt q H locs ls hP hD hS hl) (fun q => kf q H locs ls hP hD hS hl)
theorem j_icmp_gt (cx : Cx x cc nL own R D tys) {a b : Int32} {off : Int} (tgt : Nat) (d : decode cc pc = .ok (.if_icmp .gt off, 3)) (ht : (pc : Int) + off = (tgt : Int)) (hp : pc + 3 = pn) (kt : b < a → J x kc ks nL ws lv tgt st) (kf : ¬ b < a → J x kc ks nL ws lv pn st) : J x kc ks nL ws lv pc (.int b :: .int a :: st) := by
  subst hp
  obtain ⟨p, l, e, R', s, m, args, below, meth, c, D', tys', A, Q⟩ := x
  obtain ⟨hx, hb, hml, hown, hts, hK, hA, hlk, hNW, hSK, rfl, rfl, rfl⟩ := cx
  intro H locs ls hP hD hS hl
  exact lv_icmp_gt hx hb d ht (fun q => kt q H locs ls hP hD hS hl) (fun q => kf q H locs ls hP hD hS hl)
theorem j_icmp_le (cx : Cx x cc nL own R D tys) {a b : Int32} {off : Int} (tgt : Nat) (d : decode cc pc = .ok (.if_icmp .le off, 3)) (ht : (pc : Int) + off = (tgt : Int)) (hp : pc + 3 = pn) (kt : a ≤ b → J x kc ks nL ws lv tgt st) (kf : ¬ a ≤ b → J x kc ks nL ws lv pn st) : J x kc ks nL ws lv pc (.int b :: .int a :: st) := by
  subst hp
  obtain ⟨p, l, e, R', s, m, args, below, meth, c, D', tys', A, Q⟩ := x
  obtain ⟨hx, hb, hml, hown, hts, hK, hA, hlk, hNW, hSK, rfl, rfl, rfl⟩ := cx
  intro H locs ls hP hD hS hl
  exact lv_icmp_le hx hb d ht (fun q => kt q H locs ls hP hD hS hl) (fun q => kf q H locs ls hP hD hS hl)
theorem j_if_eq (cx : Cx x cc nL own R D tys) {a : Int32} {off : Int} (tgt : Nat) (d : decode cc pc = .ok (.ifCond .eq off, 3)) (ht : (pc : Int) + off = (tgt : Int)) (hp : pc + 3 = pn) (kt : a = 0 → J x kc ks nL ws lv tgt st) (kf : ¬ a = 0 → J x kc ks nL ws lv pn st) : J x kc ks nL ws lv pc (.int a :: st) := by
  subst hp
  obtain ⟨p, l, e, R', s, m, args, below, meth, c, D', tys', A, Q⟩ := x
  obtain ⟨hx, hb, hml, hown, hts, hK, hA, hlk, hNW, hSK, rfl, rfl, rfl⟩ := cx
  intro H locs ls hP hD hS hl
  exact lv_if_eq hx hb d ht (fun q => kt q H locs ls hP hD hS hl) (fun q => kf q H locs ls hP hD hS hl)
theorem j_if_ne (cx : Cx x cc nL own R D tys) {a : Int32} {off : Int} (tgt : Nat) (d : decode cc pc = .ok (.ifCond .ne off, 3)) (ht : (pc : Int) + off = (tgt : Int)) (hp : pc + 3 = pn) (kt : ¬ a = 0 → J x kc ks nL ws lv tgt st) (kf : a = 0 → J x kc ks nL ws lv pn st) : J x kc ks nL ws lv pc (.int a :: st) := by
  subst hp
  obtain ⟨p, l, e, R', s, m, args, below, meth, c, D', tys', A, Q⟩ := x
  obtain ⟨hx, hb, hml, hown, hts, hK, hA, hlk, hNW, hSK, rfl, rfl, rfl⟩ := cx
  intro H locs ls hP hD hS hl
  exact lv_if_ne hx hb d ht (fun q => kt q H locs ls hP hD hS hl) (fun q => kf q H locs ls hP hD hS hl)
theorem j_if_lt (cx : Cx x cc nL own R D tys) {a : Int32} {off : Int} (tgt : Nat) (d : decode cc pc = .ok (.ifCond .lt off, 3)) (ht : (pc : Int) + off = (tgt : Int)) (hp : pc + 3 = pn) (kt : a < 0 → J x kc ks nL ws lv tgt st) (kf : ¬ a < 0 → J x kc ks nL ws lv pn st) : J x kc ks nL ws lv pc (.int a :: st) := by
  subst hp
  obtain ⟨p, l, e, R', s, m, args, below, meth, c, D', tys', A, Q⟩ := x
  obtain ⟨hx, hb, hml, hown, hts, hK, hA, hlk, hNW, hSK, rfl, rfl, rfl⟩ := cx
  intro H locs ls hP hD hS hl
  exact lv_if_lt hx hb d ht (fun q => kt q H locs ls hP hD hS hl) (fun q => kf q H locs ls hP hD hS hl)
theorem j_if_ge (cx : Cx x cc nL own R D tys) {a : Int32} {off : Int} (tgt : Nat) (d : decode cc pc = .ok (.ifCond .ge off, 3)) (ht : (pc : Int) + off = (tgt : Int)) (hp : pc + 3 = pn) (kt : 0 ≤ a → J x kc ks nL ws lv tgt st) (kf : ¬ 0 ≤ a → J x kc ks nL ws lv pn st) : J x kc ks nL ws lv pc (.int a :: st) := by
  subst hp
  obtain ⟨p, l, e, R', s, m, args, below, meth, c, D', tys', A, Q⟩ := x
  obtain ⟨hx, hb, hml, hown, hts, hK, hA, hlk, hNW, hSK, rfl, rfl, rfl⟩ := cx
  intro H locs ls hP hD hS hl
  exact lv_if_ge hx hb d ht (fun q => kt q H locs ls hP hD hS hl) (fun q => kf q H locs ls hP hD hS hl)
theorem j_if_gt (cx : Cx x cc nL own R D tys) {a : Int32} {off : Int} (tgt : Nat) (d : decode cc pc = .ok (.ifCond .gt off, 3)) (ht : (pc : Int) + off = (tgt : Int)) (hp : pc + 3 = pn) (kt : 0 < a → J x kc ks nL ws lv tgt st) (kf : ¬ 0 < a → J x kc ks nL ws lv pn st) : J x kc ks nL ws lv pc (.int a :: st) := by
  subst hp
  obtain ⟨p, l, e, R', s, m, args, below, meth, c, D', tys', A, Q⟩ := x
  obtain ⟨hx, hb, hml, hown, hts, hK, hA, hlk, hNW, hSK, rfl, rfl, rfl⟩ := cx
  intro H locs ls hP hD hS hl
  exact lv_if_gt hx hb d ht (fun q => kt q H locs ls hP hD hS hl) (fun q => kf q H locs ls hP hD hS hl)
theorem j_if_le (cx : Cx x cc nL own R D tys) {a : Int32} {off : Int} (tgt : Nat) (d : decode cc pc = .ok (.ifCond .le off, 3)) (ht : (pc : Int) + off = (tgt : Int)) (hp : pc + 3 = pn) (kt : a ≤ 0 → J x kc ks nL ws lv tgt st) (kf : ¬ a ≤ 0 → J x kc ks nL ws lv pn st) : J x kc ks nL ws lv pc (.int a :: st) := by
  subst hp
  obtain ⟨p, l, e, R', s, m, args, below, meth, c, D', tys', A, Q⟩ := x
  obtain ⟨hx, hb, hml, hown, hts, hK, hA, hlk, hNW, hSK, rfl, rfl, rfl⟩ := cx
  intro H locs ls hP hD hS hl
  exact lv_if_le hx hb d ht (fun q => kt q H locs ls hP hD hS hl) (fun q => kf q H locs ls hP hD hS hl)
theorem j_acmp_ne (cx : Cx x cc nL own R D tys) {rx ry : Option Nat} {off : Int} (tgt : Nat) (d : decode cc pc = .ok (.if_acmp .ne off, 3)) (ht : (pc : Int) + off = (tgt : Int)) (hp : pc + 3 = pn) (kt : ¬ rx = ry → J x kc ks nL ws lv tgt st) (kf : rx = ry → J x kc ks nL ws lv pn st) : J x kc ks nL ws lv pc (va_rf ry :: va_rf rx :: st) := by
  subst hp
  obtain ⟨p, l, e, R', s, m, args, below, meth, c, D', tys', A, Q⟩ := x
  obtain ⟨hx, hb, hml, hown, hts, hK, hA, hlk, hNW, hSK, rfl, rfl, rfl⟩ := cx
  intro H locs ls hP hD hS hl
  exact lv_acmp_ne hx hb d ht (fun q => kt q H locs ls hP hD hS hl) (fun q => kf q H locs ls hP hD hS hl)
theorem j_goto (cx : Cx x cc nL own R D tys) {off : Int} (tgt : Nat) (d : decode cc pc = .ok (.goto off, 3)) (ht : (pc : Int) + off = (tgt : Int)) (k : J x kc ks nL ws lv tgt st) : J x kc ks nL ws lv pc st := by
  obtain ⟨p, l, e, R', s, m, args, below, meth, c, D', tys', A, Q⟩ := x
  obtain ⟨hx, hb, hml, hown, hts, hK, hA, hlk, hNW, hSK, rfl, rfl, rfl⟩ := cx
  intro H locs ls hP hD hS hl
  exact lv_goto hx hb d ht (k H locs ls hP hD hS hl)
theorem j_tabIn (cx : Cx x cc nL own R D tys) {dflt lo hi : Int} {offs : Array Int} {len : Nat} {v : Int32} {off : Int} (tgt : Nat) (d : decode cc pc = .ok (.tableswitch dflt lo hi offs, len)) (h1 : ¬ v.toInt < lo) (h2 : ¬ hi < v.toInt) (ho : offs[(v.toInt - lo).toNat]? = some off) (ht : (pc : Int) + off = (tgt : Int)) (k : J x kc ks nL ws lv tgt st) : J x kc ks nL ws lv pc (.int v :: st) := by
  obtain ⟨p, l, e, R', s, m, args, below, meth, c, D', tys', A, Q⟩ := x
  obtain ⟨hx, hb, hml, hown, hts, hK, hA, hlk, hNW, hSK, rfl, rfl, rfl⟩ := cx
  intro H locs ls hP hD hS hl
  exact lv_tableIn hx hb d h1 h2 ho ht (k H locs ls hP hD hS hl)
theorem j_tabOut (cx : Cx x cc nL own R D tys) {dflt lo hi : Int} {offs : Array Int} {len : Nat} {v : Int32} (tgt : Nat) (d : decode cc pc = .ok (.tableswitch dflt lo hi offs, len)) (h : v.toInt < lo ∨ hi < v.toInt) (ht : (pc : Int) + dflt = (tgt : Int)) (k : J x kc ks nL ws lv tgt st) : J x kc ks nL ws lv pc (.int v :: st) := by
  obtain ⟨p, l, e, R', s, m, args, below, meth, c, D', tys', A, Q⟩ := x
  obtain ⟨hx, hb, hml, hown, hts, hK, hA, hlk, hNW, hSK, rfl, rfl, rfl⟩ := cx
  intro H locs ls hP hD hS hl
  exact lv_tableOut hx hb d h ht (k H locs ls hP hD hS hl)
theorem j_get (cx : Cx x cc nL own R D tys) {C ref : String} {T : u_T} {N ci idx a : Nat} {fs : List Value} {v : Value} (hin : ∀ w ∈ u_ws C T N, w ∈ gtbl) (q0 : Nat) (he : ws[q0]? = some (a, .inr (ci, fs))) (hc : vwCl[ci]? = some (C, T, N)) (f : Nat) (hk : f < N) (hlink : Cond.fieldLink own idx ref (T f).2.1 (T f).2.2.1 ∈ gtbl) (hsame : (T f).1 = ref) (hv : fs[f]? = some v) (d : decode cc pc = .ok (.getfield idx, 3)) (hp : pc + 3 = pn) (k : J x kc ks nL ws lv pn (v :: st)) : J x kc ks nL ws lv pc (.ref a :: st) := by
  subst hp
  obtain ⟨p, l, e, R', s, m, args, below, meth, c, D', tys', A, Q⟩ := x
  obtain ⟨hx, hb, hml, hown, hts, hK, hA, hlk, hNW, hSK, rfl, rfl, rfl⟩ := cx
  intro H locs ls hP hD hS hl
  exact va_get hx hb hts hin hown hK hP q0 he hc f hk (hts _ hlink) (fun y hy => by rw [← hsame]; exact hy) hv d (k H locs ls hP hD hS hl)
theorem j_getN (cx : Cx x cc nL own R D tys) {C ref host : String} {T : u_T} {N ci idx a : Nat} {fs : List Value} {v : Value} (hin : ∀ w ∈ u_ws C T N, w ∈ gtbl) (q0 : Nat) (he : ws[q0]? = some (a, .inr (ci, fs))) (hc : vwCl[ci]? = some (C, T, N)) (f : Nat) (hk : f < N) (hlink : Cond.fieldLinkNest own idx ref (T f).2.1 (T f).2.2.1 host ∈ ntbl) (hsame : (T f).1 = ref) (hv : fs[f]? = some v) (d : decode cc pc = .ok (.getfield idx, 3)) (hp : pc + 3 = pn) (k : J x kc ks nL ws lv pn (v :: st)) : J x kc ks nL ws lv pc (.ref a :: st) := by
  subst hp
  obtain ⟨p, l, e, R', s, m, args, below, meth, c, D', tys', A, Q⟩ := x
  obtain ⟨hx, hb, hml, hown, hts, hK, hA, hlk, hNW, hSK, rfl, rfl, rfl⟩ := cx
  intro H locs ls hP hD hS hl
  exact va_getN hx hb hts hin hown hK hP q0 he hc f hk (va_Nw.use rfl (hNW _ hlink)) (fun y hy => by rw [← hsame]; exact hy) hv d (k H locs ls hP hD hS hl)
theorem j_put (cx : Cx x cc nL own R D tys) {C ref : String} {T : u_T} {N ci idx a : Nat} {fs : List Value} {v : Value} {ty : FieldType} (ty0 : Nat → FieldType) (hty : ∀ k, k < N → parseFieldDescriptor (T k).2.2.1 = some (ty0 k)) (hnm : ∀ a, a < N → ∀ b, b < N → a ≠ b → (T a).2.1 ≠ (T b).2.1) (hin : ∀ w ∈ u_ws C T N, w ∈ gtbl) (q0 : Nat) (he : ws[q0]? = some (a, .inr (ci, fs))) (hc : vwCl[ci]? = some (C, T, N)) (f : Nat) (hk : f < N) (hlink : Cond.fieldLink own idx ref (T f).2.1 (T f).2.2.1 ∈ gtbl) (hsame : (T f).1 = ref) (hfin : (T f).2.2.2 = false) (hd : ty0 f = ty) (hn : narrow ty v = v) (hfit : fits ty v = true) (hl' : f < fs.length) (ws' : va_W) (hws : ws.set q0 (a, .inr (ci, fs.set f v)) = ws') (d : decode cc pc = .ok (.putfield idx, 3)) (hp : pc + 3 = pn) (k : J x kc ks nL ws' lv pn st) : J x kc ks nL ws lv pc (v :: .ref a :: st) := by
  subst hp; subst hws; subst hd
  obtain ⟨p, l, e, R', s, m, args, below, meth, c, D', tys', A, Q⟩ := x
  obtain ⟨hx, hb, hml, hown, hts, hK, hA, hlk, hNW, hSK, rfl, rfl, rfl⟩ := cx
  intro H locs ls hP hD hS hl
  exact va_put hx hb hts hin ty0 hty hnm hown hK hP hD hS q0 he hc f hk (hts _ hlink) (fun y hy => by rw [← hsame]; exact hy) hfin (hty f hk) hn hfit hl' d (fun H locs hP hD hS => k H locs ls hP hD hS hl)
theorem j_putN (cx : Cx x cc nL own R D tys) {C ref host : String} {T : u_T} {N ci idx a : Nat} {fs : List Value} {v : Value} {ty : FieldType} (ty0 : Nat → FieldType) (hty : ∀ k, k < N → parseFieldDescriptor (T k).2.2.1 = some (ty0 k)) (hnm : ∀ a, a < N → ∀ b, b < N → a ≠ b → (T a).2.1 ≠ (T b).2.1) (hin : ∀ w ∈ u_ws C T N, w ∈ gtbl) (q0 : Nat) (he : ws[q0]? = some (a, .inr (ci, fs))) (hc : vwCl[ci]? = some (C, T, N)) (f : Nat) (hk : f < N) (hlink : Cond.fieldLinkNest own idx ref (T f).2.1 (T f).2.2.1 host ∈ ntbl) (hsame : (T f).1 = ref) (hfin : (T f).2.2.2 = false) (hd : ty0 f = ty) (hn : narrow ty v = v) (hfit : fits ty v = true) (hl' : f < fs.length) (ws' : va_W) (hws : ws.set q0 (a, .inr (ci, fs.set f v)) = ws') (d : decode cc pc = .ok (.putfield idx, 3)) (hp : pc + 3 = pn) (k : J x kc ks nL ws' lv pn st) : J x kc ks nL ws lv pc (v :: .ref a :: st) := by
  subst hp; subst hws; subst hd
  obtain ⟨p, l, e, R', s, m, args, below, meth, c, D', tys', A, Q⟩ := x
  obtain ⟨hx, hb, hml, hown, hts, hK, hA, hlk, hNW, hSK, rfl, rfl, rfl⟩ := cx
  intro H locs ls hP hD hS hl
  exact va_putN hx hb hts hin ty0 hty hnm hown hK hP hD hS q0 he hc f hk (va_Nw.use rfl (hNW _ hlink)) (fun y hy => by rw [← hsame]; exact hy) hfin (hty f hk) hn hfit hl' d (fun H locs hP hD hS => k H locs ls hP hD hS hl)
theorem j_iald (cx : Cx x cc nL own R D tys) {a n : Nat} {cA : ClassId} {f : Nat → Int32} {i : Int32} (q0 t0 : Nat) (ha : ws[q0]? = some (a, .inl (cA, n, .inl f))) (ht : tys[t0]? = some (cA, .int)) (hin : vp_in i n) (d : decode cc pc = .ok (.iaload, 1)) (hp : pc + 1 = pn) (k : J x kc ks nL ws lv pn (.int (f i.toNatClampNeg) :: st)) : J x kc ks nL ws lv pc (.int i :: .ref a :: st) := by
  subst hp
  obtain ⟨p, l, e, R', s, m, args, below, meth, c, D', tys', A, Q⟩ := x
  obtain ⟨hx, hb, hml, hown, hts, hK, hA, hlk, hNW, hSK, rfl, rfl, rfl⟩ := cx
  intro H locs ls hP hD hS hl
  exact va_iald hx hb hK hP q0 t0 ha ht hin d (k H locs ls hP hD hS hl)
theorem j_lald (cx : Cx x cc nL own R D tys) {a n : Nat} {cA : ClassId} {f : Nat → Int64} {i : Int32} (q0 t0 : Nat) (ha : ws[q0]? = some (a, .inl (cA, n, .inr (.inl f)))) (ht : tys[t0]? = some (cA, .long)) (hin : vp_in i n) (d : decode cc pc = .ok (.laload, 1)) (hp : pc + 1 = pn) (k : J x kc ks nL ws lv pn (.long (f i.toNatClampNeg) :: st)) : J x kc ks nL ws lv pc (.int i :: .ref a :: st) := by
  subst hp
  obtain ⟨p, l, e, R', s, m, args, below, meth, c, D', tys', A, Q⟩ := x
  obtain ⟨hx, hb, hml, hown, hts, hK, hA, hlk, hNW, hSK, rfl, rfl, rfl⟩ := cx
  intro H locs ls hP hD hS hl
  exact va_lald hx hb hK hP q0 t0 ha ht hin d (k H locs ls hP hD hS hl)
theorem j_zald (cx : Cx x cc nL own R D tys) {a n : Nat} {cA : ClassId} {f : Nat → Int32} {i : Int32} (q0 t0 : Nat) (ha : ws[q0]? = some (a, .inl (cA, n, .inl f))) (ht : tys[t0]? = some (cA, .boolean)) (hin : vp_in i n) (d : decode cc pc = .ok (.baload, 1)) (hp : pc + 1 = pn) (k : J x kc ks nL ws lv pn (.int (f i.toNatClampNeg) :: st)) : J x kc ks nL ws lv pc (.int i :: .ref a :: st) := by
  subst hp
  obtain ⟨p, l, e, R', s, m, args, below, meth, c, D', tys', A, Q⟩ := x
  obtain ⟨hx, hb, hml, hown, hts, hK, hA, hlk, hNW, hSK, rfl, rfl, rfl⟩ := cx
  intro H locs ls hP hD hS hl
  exact va_zald hx hb hK hP q0 t0 ha ht hin d (k H locs ls hP hD hS hl)
theorem j_iast (cx : Cx x cc nL own R D tys) {a n : Nat} {cA : ClassId} {f : Nat → Int32} {i : Int32} {v : Int32} (q0 t0 : Nat) (ha : ws[q0]? = some (a, .inl (cA, n, .inl f))) (ht : tys[t0]? = some (cA, .int)) (hin : vp_in i n) (ws' : va_W) (hws : ws.set q0 (a, .inl (cA, n, .inl (upd f i.toNatClampNeg v))) = ws') (d : decode cc pc = .ok (.iastore, 1)) (hp : pc + 1 = pn) (k : J x kc ks nL ws' lv pn st) : J x kc ks nL ws lv pc (.int v :: .int i :: .ref a :: st) := by
  subst hp; subst hws
  obtain ⟨p, l, e, R', s, m, args, below, meth, c, D', tys', A, Q⟩ := x
  obtain ⟨hx, hb, hml, hown, hts, hK, hA, hlk, hNW, hSK, rfl, rfl, rfl⟩ := cx
  intro H locs ls hP hD hS hl
  exact va_iast hx hb hK hP hD hS q0 t0 ha ht hin d (fun H locs hP hD hS => k H locs ls hP hD hS hl)
theorem j_last (cx : Cx x cc nL own R D tys) {a n : Nat} {cA : ClassId} {f : Nat → Int64} {i : Int32} {v : Int64} (q0 t0 : Nat) (ha : ws[q0]? = some (a, .inl (cA, n, .inr (.inl f)))) (ht : tys[t0]? = some (cA, .long)) (hin : vp_in i n) (ws' : va_W) (hws : ws.set q0 (a, .inl (cA, n, .inr (.inl (vp_updL f i.toNatClampNeg v)))) = ws') (d : decode cc pc = .ok (.lastore, 1)) (hp : pc + 1 = pn) (k : J x kc ks nL ws' lv pn st) : J x kc ks nL ws lv pc (.long v :: .int i :: .ref a :: st) := by
  subst hp; subst hws
  obtain ⟨p, l, e, R', s, m, args, below, meth, c, D', tys', A, Q⟩ := x
  obtain ⟨hx, hb, hml, hown, hts, hK, hA, hlk, hNW, hSK, rfl, rfl, rfl⟩ := cx
  intro H locs ls hP hD hS hl
  exact va_last hx hb hK hP hD hS q0 t0 ha ht hin d (fun H locs hP hD hS => k H locs ls hP hD hS hl)
theorem j_zast (cx : Cx x cc nL own R D tys) {a n : Nat} {cA : ClassId} {f : Nat → Int32} {i v : Int32} (q0 t0 : Nat) (ha : ws[q0]? = some (a, .inl (cA, n, .inl f))) (ht : tys[t0]? = some (cA, .boolean)) (hin : vp_in i n) (hz : vp_nar .boolean v = v) (ws' : va_W) (hws : ws.set q0 (a, .inl (cA, n, .inl (upd f i.toNatClampNeg v))) = ws') (d : decode cc pc = .ok (.bastore, 1)) (hp : pc + 1 = pn) (k : J x kc ks nL ws' lv pn st) : J x kc ks nL ws lv pc (.int v :: .int i :: .ref a :: st) := by
  subst hp; subst hws
  obtain ⟨p, l, e, R', s, m, args, below, meth, c, D', tys', A, Q⟩ := x
  obtain ⟨hx, hb, hml, hown, hts, hK, hA, hlk, hNW, hSK, rfl, rfl, rfl⟩ := cx
  intro H locs ls hP hD hS hl
  exact va_zast hx hb hK hP hD hS q0 t0 ha ht hin d (fun H locs hP hD hS => by rw [hz] at hP hD; exact k H locs ls hP hD hS hl)
theorem j_alen (cx : Cx x cc nL own R D tys) {a : Nat} {cA : ClassId} {y : vp_A} {ty : FieldType} {v : Int32} (q0 t0 : Nat) (ha : ws[q0]? = some (a, .inl (cA, y))) (ht : tys[t0]? = some (cA, ty)) (hv : Int32.ofNat y.1 = v) (d : decode cc pc = .ok (.arraylength, 1)) (hp : pc + 1 = pn) (k : J x kc ks nL ws lv pn (.int v :: st)) : J x kc ks nL ws lv pc (.ref a :: st) := by
  subst hp
  obtain ⟨p, l, e, R', s, m, args, below, meth, c, D', tys', A, Q⟩ := x
  obtain ⟨hx, hb, hml, hown, hts, hK, hA, hlk, hNW, hSK, rfl, rfl, rfl⟩ := cx
  intro H locs ls hP hD hS hl
  exact va_alen hx hb hK hP q0 t0 ha ht hv d (k H locs ls hP hD hS hl)
theorem j_sub (ks' : List Nat) (lv' : List (Nat × Value)) (h : lv_pick lv ks' = lv') (k : J x kc ks nL ws lv' pc st) : J x kc ks nL ws lv pc st := by
  obtain ⟨p, l, e, R, s, m, args, below, meth, c, D, tys, A, Q⟩ := x
  intro H locs ls hP hD hS hl
  exact k H locs ls hP hD hS (lv_sub hl ks' h)
end JL
