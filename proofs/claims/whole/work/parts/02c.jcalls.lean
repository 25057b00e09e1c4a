section JC
variable {x : CX} {cc : ByteArray} {nL : Nat} {own : String} {R : Room} {D : DG} {tys : List (ClassId × FieldType)} {kc ks : Nat} {ws : va_W} {lv : List (Nat × Value)} {pc pn : Nat} {st : List Value}
variable {y : MethodName} {cY : ByteArray} {nY idx np : Nat} {rY : Option FieldType} {rmY : Room} {S : Type}
def CwB (R : Room) (own : String) (idx : Nat) (y : MethodName) (cY : ByteArray) (nY : Nat) (rY : Option FieldType) (rmY : Room) (np : Nat) (kc ks : Nat) : Prop :=
  Cond.code y cY nY rY ∈ gtbl ∧ Cond.methodLink own idx y ∈ gtbl ∧ Cond.initialized y.cls ∈ gtbl ∧ (y.cls ≠ "java/lang/invoke/MethodHandle" ∧ y.cls ≠ "java/lang/invoke/VarHandle" ∧ (parseMethodDescriptor y.desc).map (fun d => d.parameters.length) = some np) ∧ (rmY.frames + 1 ≤ R.frames ∧ 8 + (nY + 11) + rmY.locals ≤ R.locals) ∧ kc + rmY.cells ≤ R.cells ∧ ks + rmY.slots ≤ R.slots
theorem cwb_of {args : Array Value} {s : State} (hts : ∀ w ∈ gtbl, w.before args s = true) (h : CwB R own idx y cY nY rY rmY np kc ks) : CallB R s args own idx y cY nY rY (wdOf y cY nY rY) rmY rmY.cells rmY.slots np :=
  callB_of np hts (good_wd h.1) rfl rfl rfl (hts _ h.2.2.1) (hts _ h.2.1) h.2.2.2.1 h.2.2.2.2.1

theorem j_callvI0 (cx : Cx x cc nL own R D tys) {w1 : S → va_W} {post : Int32 → S → Prop} (hin : Cond.instanceMethod y ∈ gtbl) (hse : Cond.selects y.cls y y ∈ gtbl) {b : Nat} {As rest : List Value} {ci q0 : Nat} {T : u_T} {N : Nat} {fs : List Value} (hM : MetI y cY nY rY rmY D tys (.ref b :: As) ws w1 post) (cw : CwB R own idx y cY nY rY rmY np kc ks) (hrc : vwCl[ci]? = some (y.cls, T, N)) (hrw : ws[q0]? = some (b, .inr (ci, fs))) (hn : As.length = np) (hst : st = As.reverse ++ .ref b :: rest) (hW8 : (rest.map fun v => v.category).sum ≤ 8) (d : decode cc pc = .ok (.invokevirtual idx, 3)) (hp : pc + 3 = pn) (k : (∀ (r : Int32) (u : S), post r u → J x (kc + rmY.cells) (ks + rmY.slots) nL (w1 u) lv pn (.int r :: rest))) : J x kc ks nL ws lv pc st := by
  subst hp; subst hst
  obtain ⟨p, l, e, R', s, m, args, below, meth, c, D', tys', A, Q⟩ := x
  obtain ⟨hx, hb, hml, hown, hts, hK, hA, hlk, hNW, hSK, rfl, rfl, rfl⟩ := cx
  intro H locs ls hP hD hS hl
  have hFc : ∀ q, va_A ws H.size q → A q := fun q h => h.elim (fun ⟨i, e, hi⟩ => hD.2 i _ hi) (fun h => hA q (Nat.le_trans hS.1 h))
  refine va_calli (va_runV (As := As) (rest := rest) ⟨hx, hb, hml, hown, hts⟩ (hM l H.size) ⟨cwb_of hts cw, hts _ hin, hts _ hse⟩ ⟨PreW.blind, va_recv hK hP (ci := ci) (q0 := q0) hrc hrw, fun U hU hW => ⟨rfl, by rw [hU], by rw [hU]; exact hP, va_K.moved hW.alike hK, (hD).weaken (fun _ _ _ _ => trivial), NW.warm hW hNW, by rw [hU]; exact ((hSK.kept hS.2.1).narrow hFc).warm hW⟩⟩ rfl hn hl.1 rfl (lv_room hW8) d cw.2.2.2.2.2) hS (fun q _ h => hFc q h) hFc (fun r u t H1 locs ht hvm hw hB hz1 hk1 hS => ?_)
  obtain ⟨hP1, -, hD1⟩ := hB
  rw [ht] at hP1
  exact k r u hw H1 locs ls hP1 (hD1.weaken (fun _ q _ h => hFc q.1 h)) hS hl
theorem j_callvI (cx : Cx x cc nL own R D tys) {w1 : S → va_W} {post : Int32 → S → Prop} (hin : Cond.instanceMethod y ∈ gtbl) (hse : Cond.selects y.cls y y ∈ gtbl) {b : Nat} {As rest : List Value} {ci q0 : Nat} {T : u_T} {N : Nat} {fs : List Value} (wc wr : va_W) (hM : MetI y cY nY rY rmY D tys (.ref b :: As) wc w1 post) (cw : CwB R own idx y cY nY rY rmY np kc ks) (hrc : vwCl[ci]? = some (y.cls, T, N)) (hrw : wc[q0]? = some (b, .inr (ci, fs))) (hn : As.length = np) (isC isR isF : List Nat) (hC : isC.map (fun i => ws[i]?) = wc.map some) (hC1 : isC.filterMap (fun i => ws[i]?) = wc) (hCn : va_nd isC = true) (hR : isR.map (fun i => ws[i]?) = wr.map some) (hRn : va_nd isR = true) (hdis : ∀ i ∈ isR, i ∉ isC) (ws' : S → va_W) (hF1 : ∀ u, isF.filterMap (fun i => (wr ++ w1 u)[i]?) = ws' u) (hF2 : ∀ u, isF.map (fun i => (wr ++ w1 u)[i]?) = (ws' u).map some) (hFn : va_nd isF = true) (hst : st = As.reverse ++ .ref b :: rest) (hW8 : (rest.map fun v => v.category).sum ≤ 8) (d : decode cc pc = .ok (.invokevirtual idx, 3)) (hp : pc + 3 = pn) (k : (∀ (r : Int32) (u : S), post r u → J x (kc + rmY.cells) (ks + rmY.slots) nL (ws' u) lv pn (.int r :: rest))) : J x kc ks nL ws lv pc st := by
  subst hp; subst hst
  obtain ⟨p, l, e, R', s, m, args, below, meth, c, D', tys', A, Q⟩ := x
  obtain ⟨hx, hb, hml, hown, hts, hK, hA, hlk, hNW, hSK, rfl, rfl, rfl⟩ := cx
  intro H locs ls hP hD hS hl
  have hPc := hP.sub isC hC1
  have hDc := hD.sub isC hCn hC
  have hFc := va_free (wc := wc) hD hS hA isC hC
  refine va_calli (va_runV (As := As) (rest := rest) ⟨hx, hb, hml, hown, hts⟩ (hM l H.size) ⟨cwb_of hts cw, hts _ hin, hts _ hse⟩ ⟨PreW.blind, va_recv hK hPc (ci := ci) (q0 := q0) hrc hrw, fun U hU hW => ⟨rfl, by rw [hU], by rw [hU]; exact hPc, va_K.moved hW.alike hK, (hDc).weaken (fun _ _ _ _ => trivial), NW.warm hW hNW, by rw [hU]; exact ((hSK.kept hS.2.1).narrow hFc).warm hW⟩⟩ rfl hn hl.1 rfl (lv_room hW8) d cw.2.2.2.2.2) hS (fun q _ h => hFc q h) hFc (fun r u t H1 locs ht hvm hw hB hz1 hk1 hS => ?_)
  obtain ⟨hP1, -, hD1⟩ := hB
  rw [ht] at hP1
  obtain ⟨hP2, hD2⟩ := va_join hP hD isC isR hC hR hRn hdis hk1 hFc hP1 hD1
  exact k r u hw H1 locs ls (hP2.sub isF (hF1 u)) (hD2.sub isF hFn (hF2 u)) hS hl
theorem j_callsI0 (cx : Cx x cc nL own R D tys) {w1 : S → va_W} {post : Int32 → S → Prop} (hst0 : Cond.static y ∈ gtbl) {As rest : List Value} (hM : MetI y cY nY rY rmY D tys As ws w1 post) (cw : CwB R own idx y cY nY rY rmY np kc ks) (hn : As.length = np) (hst : st = As.reverse ++ rest) (hW8 : (rest.map fun v => v.category).sum ≤ 8) (d : decode cc pc = .ok (.invokestatic idx, 3)) (hp : pc + 3 = pn) (k : (∀ (r : Int32) (u : S), post r u → J x (kc + rmY.cells) (ks + rmY.slots) nL (w1 u) lv pn (.int r :: rest))) : J x kc ks nL ws lv pc st := by
  subst hp; subst hst
  obtain ⟨p, l, e, R', s, m, args, below, meth, c, D', tys', A, Q⟩ := x
  obtain ⟨hx, hb, hml, hown, hts, hK, hA, hlk, hNW, hSK, rfl, rfl, rfl⟩ := cx
  intro H locs ls hP hD hS hl
  have hFc : ∀ q, va_A ws H.size q → A q := fun q h => h.elim (fun ⟨i, e, hi⟩ => hD.2 i _ hi) (fun h => hA q (Nat.le_trans hS.1 h))
  refine va_calli (va_runS (As := As) (rest := rest) ⟨hx, hb, hml, hown, hts⟩ (hM l H.size) ⟨cwb_of hts cw, hts _ hst0⟩ ⟨PreW.blind, fun U hU hW => ⟨rfl, by rw [hU], by rw [hU]; exact hP, va_K.moved hW.alike hK, (hD).weaken (fun _ _ _ _ => trivial), NW.warm hW hNW, by rw [hU]; exact ((hSK.kept hS.2.1).narrow hFc).warm hW⟩⟩ rfl hn hl.1 rfl (lv_room hW8) d cw.2.2.2.2.2) hS (fun q _ h => hFc q h) hFc (fun r u t H1 locs ht hvm hw hB hz1 hk1 hS => ?_)
  obtain ⟨hP1, -, hD1⟩ := hB
  rw [ht] at hP1
  exact k r u hw H1 locs ls hP1 (hD1.weaken (fun _ q _ h => hFc q.1 h)) hS hl
theorem j_callsI (cx : Cx x cc nL own R D tys) {w1 : S → va_W} {post : Int32 → S → Prop} (hst0 : Cond.static y ∈ gtbl) {As rest : List Value} (wc wr : va_W) (hM : MetI y cY nY rY rmY D tys As wc w1 post) (cw : CwB R own idx y cY nY rY rmY np kc ks) (hn : As.length = np) (isC isR isF : List Nat) (hC : isC.map (fun i => ws[i]?) = wc.map some) (hC1 : isC.filterMap (fun i => ws[i]?) = wc) (hCn : va_nd isC = true) (hR : isR.map (fun i => ws[i]?) = wr.map some) (hRn : va_nd isR = true) (hdis : ∀ i ∈ isR, i ∉ isC) (ws' : S → va_W) (hF1 : ∀ u, isF.filterMap (fun i => (wr ++ w1 u)[i]?) = ws' u) (hF2 : ∀ u, isF.map (fun i => (wr ++ w1 u)[i]?) = (ws' u).map some) (hFn : va_nd isF = true) (hst : st = As.reverse ++ rest) (hW8 : (rest.map fun v => v.category).sum ≤ 8) (d : decode cc pc = .ok (.invokestatic idx, 3)) (hp : pc + 3 = pn) (k : (∀ (r : Int32) (u : S), post r u → J x (kc + rmY.cells) (ks + rmY.slots) nL (ws' u) lv pn (.int r :: rest))) : J x kc ks nL ws lv pc st := by
  subst hp; subst hst
  obtain ⟨p, l, e, R', s, m, args, below, meth, c, D', tys', A, Q⟩ := x
  obtain ⟨hx, hb, hml, hown, hts, hK, hA, hlk, hNW, hSK, rfl, rfl, rfl⟩ := cx
  intro H locs ls hP hD hS hl
  have hPc := hP.sub isC hC1
  have hDc := hD.sub isC hCn hC
  have hFc := va_free (wc := wc) hD hS hA isC hC
  refine va_calli (va_runS (As := As) (rest := rest) ⟨hx, hb, hml, hown, hts⟩ (hM l H.size) ⟨cwb_of hts cw, hts _ hst0⟩ ⟨PreW.blind, fun U hU hW => ⟨rfl, by rw [hU], by rw [hU]; exact hPc, va_K.moved hW.alike hK, (hDc).weaken (fun _ _ _ _ => trivial), NW.warm hW hNW, by rw [hU]; exact ((hSK.kept hS.2.1).narrow hFc).warm hW⟩⟩ rfl hn hl.1 rfl (lv_room hW8) d cw.2.2.2.2.2) hS (fun q _ h => hFc q h) hFc (fun r u t H1 locs ht hvm hw hB hz1 hk1 hS => ?_)
  obtain ⟨hP1, -, hD1⟩ := hB
  rw [ht] at hP1
  obtain ⟨hP2, hD2⟩ := va_join hP hD isC isR hC hR hRn hdis hk1 hFc hP1 hD1
  exact k r u hw H1 locs ls (hP2.sub isF (hF1 u)) (hD2.sub isF hFn (hF2 u)) hS hl
theorem j_callvL0 (cx : Cx x cc nL own R D tys) {w1 : S → va_W} {post : Int64 → S → Prop} (hin : Cond.instanceMethod y ∈ gtbl) (hse : Cond.selects y.cls y y ∈ gtbl) {b : Nat} {As rest : List Value} {ci q0 : Nat} {T : u_T} {N : Nat} {fs : List Value} (hM : MetL y cY nY rY rmY D tys (.ref b :: As) ws w1 post) (cw : CwB R own idx y cY nY rY rmY np kc ks) (hrc : vwCl[ci]? = some (y.cls, T, N)) (hrw : ws[q0]? = some (b, .inr (ci, fs))) (hn : As.length = np) (hst : st = As.reverse ++ .ref b :: rest) (hW8 : (rest.map fun v => v.category).sum ≤ 8) (d : decode cc pc = .ok (.invokevirtual idx, 3)) (hp : pc + 3 = pn) (k : (∀ (r : Int64) (u : S), post r u → J x (kc + rmY.cells) (ks + rmY.slots) nL (w1 u) lv pn (.long r :: rest))) : J x kc ks nL ws lv pc st := by
  subst hp; subst hst
  obtain ⟨p, l, e, R', s, m, args, below, meth, c, D', tys', A, Q⟩ := x
  obtain ⟨hx, hb, hml, hown, hts, hK, hA, hlk, hNW, hSK, rfl, rfl, rfl⟩ := cx
  intro H locs ls hP hD hS hl
  have hFc : ∀ q, va_A ws H.size q → A q := fun q h => h.elim (fun ⟨i, e, hi⟩ => hD.2 i _ hi) (fun h => hA q (Nat.le_trans hS.1 h))
  refine va_calll (va_runV (As := As) (rest := rest) ⟨hx, hb, hml, hown, hts⟩ (hM l H.size) ⟨cwb_of hts cw, hts _ hin, hts _ hse⟩ ⟨PreW.blind, va_recv hK hP (ci := ci) (q0 := q0) hrc hrw, fun U hU hW => ⟨rfl, by rw [hU], by rw [hU]; exact hP, va_K.moved hW.alike hK, (hD).weaken (fun _ _ _ _ => trivial), NW.warm hW hNW, by rw [hU]; exact ((hSK.kept hS.2.1).narrow hFc).warm hW⟩⟩ rfl hn hl.1 rfl (lv_room hW8) d cw.2.2.2.2.2) hS (fun q _ h => hFc q h) hFc (fun r u t H1 locs ht hvm hw hB hz1 hk1 hS => ?_)
  obtain ⟨hP1, -, hD1⟩ := hB
  rw [ht] at hP1
  exact k r u hw H1 locs ls hP1 (hD1.weaken (fun _ q _ h => hFc q.1 h)) hS hl
theorem j_callvL (cx : Cx x cc nL own R D tys) {w1 : S → va_W} {post : Int64 → S → Prop} (hin : Cond.instanceMethod y ∈ gtbl) (hse : Cond.selects y.cls y y ∈ gtbl) {b : Nat} {As rest : List Value} {ci q0 : Nat} {T : u_T} {N : Nat} {fs : List Value} (wc wr : va_W) (hM : MetL y cY nY rY rmY D tys (.ref b :: As) wc w1 post) (cw : CwB R own idx y cY nY rY rmY np kc ks) (hrc : vwCl[ci]? = some (y.cls, T, N)) (hrw : wc[q0]? = some (b, .inr (ci, fs))) (hn : As.length = np) (isC isR isF : List Nat) (hC : isC.map (fun i => ws[i]?) = wc.map some) (hC1 : isC.filterMap (fun i => ws[i]?) = wc) (hCn : va_nd isC = true) (hR : isR.map (fun i => ws[i]?) = wr.map some) (hRn : va_nd isR = true) (hdis : ∀ i ∈ isR, i ∉ isC) (ws' : S → va_W) (hF1 : ∀ u, isF.filterMap (fun i => (wr ++ w1 u)[i]?) = ws' u) (hF2 : ∀ u, isF.map (fun i => (wr ++ w1 u)[i]?) = (ws' u).map some) (hFn : va_nd isF = true) (hst : st = As.reverse ++ .ref b :: rest) (hW8 : (rest.map fun v => v.category).sum ≤ 8) (d : decode cc pc = .ok (.invokevirtual idx, 3)) (hp : pc + 3 = pn) (k : (∀ (r : Int64) (u : S), post r u → J x (kc + rmY.cells) (ks + rmY.slots) nL (ws' u) lv pn (.long r :: rest))) : J x kc ks nL ws lv pc st := by
  subst hp; subst hst
  obtain ⟨p, l, e, R', s, m, args, below, meth, c, D', tys', A, Q⟩ := x
  obtain ⟨hx, hb, hml, hown, hts, hK, hA, hlk, hNW, hSK, rfl, rfl, rfl⟩ := cx
  intro H locs ls hP hD hS hl
  have hPc := hP.sub isC hC1
  have hDc := hD.sub isC hCn hC
  have hFc := va_free (wc := wc) hD hS hA isC hC
  refine va_calll (va_runV (As := As) (rest := rest) ⟨hx, hb, hml, hown, hts⟩ (hM l H.size) ⟨cwb_of hts cw, hts _ hin, hts _ hse⟩ ⟨PreW.blind, va_recv hK hPc (ci := ci) (q0 := q0) hrc hrw, fun U hU hW => ⟨rfl, by rw [hU], by rw [hU]; exact hPc, va_K.moved hW.alike hK, (hDc).weaken (fun _ _ _ _ => trivial), NW.warm hW hNW, by rw [hU]; exact ((hSK.kept hS.2.1).narrow hFc).warm hW⟩⟩ rfl hn hl.1 rfl (lv_room hW8) d cw.2.2.2.2.2) hS (fun q _ h => hFc q h) hFc (fun r u t H1 locs ht hvm hw hB hz1 hk1 hS => ?_)
  obtain ⟨hP1, -, hD1⟩ := hB
  rw [ht] at hP1
  obtain ⟨hP2, hD2⟩ := va_join hP hD isC isR hC hR hRn hdis hk1 hFc hP1 hD1
  exact k r u hw H1 locs ls (hP2.sub isF (hF1 u)) (hD2.sub isF hFn (hF2 u)) hS hl
theorem j_callsL0 (cx : Cx x cc nL own R D tys) {w1 : S → va_W} {post : Int64 → S → Prop} (hst0 : Cond.static y ∈ gtbl) {As rest : List Value} (hM : MetL y cY nY rY rmY D tys As ws w1 post) (cw : CwB R own idx y cY nY rY rmY np kc ks) (hn : As.length = np) (hst : st = As.reverse ++ rest) (hW8 : (rest.map fun v => v.category).sum ≤ 8) (d : decode cc pc = .ok (.invokestatic idx, 3)) (hp : pc + 3 = pn) (k : (∀ (r : Int64) (u : S), post r u → J x (kc + rmY.cells) (ks + rmY.slots) nL (w1 u) lv pn (.long r :: rest))) : J x kc ks nL ws lv pc st := by
  subst hp; subst hst
  obtain ⟨p, l, e, R', s, m, args, below, meth, c, D', tys', A, Q⟩ := x
  obtain ⟨hx, hb, hml, hown, hts, hK, hA, hlk, hNW, hSK, rfl, rfl, rfl⟩ := cx
  intro H locs ls hP hD hS hl
  have hFc : ∀ q, va_A ws H.size q → A q := fun q h => h.elim (fun ⟨i, e, hi⟩ => hD.2 i _ hi) (fun h => hA q (Nat.le_trans hS.1 h))
  refine va_calll (va_runS (As := As) (rest := rest) ⟨hx, hb, hml, hown, hts⟩ (hM l H.size) ⟨cwb_of hts cw, hts _ hst0⟩ ⟨PreW.blind, fun U hU hW => ⟨rfl, by rw [hU], by rw [hU]; exact hP, va_K.moved hW.alike hK, (hD).weaken (fun _ _ _ _ => trivial), NW.warm hW hNW, by rw [hU]; exact ((hSK.kept hS.2.1).narrow hFc).warm hW⟩⟩ rfl hn hl.1 rfl (lv_room hW8) d cw.2.2.2.2.2) hS (fun q _ h => hFc q h) hFc (fun r u t H1 locs ht hvm hw hB hz1 hk1 hS => ?_)
  obtain ⟨hP1, -, hD1⟩ := hB
  rw [ht] at hP1
  exact k r u hw H1 locs ls hP1 (hD1.weaken (fun _ q _ h => hFc q.1 h)) hS hl
theorem j_callsL (cx : Cx x cc nL own R D tys) {w1 : S → va_W} {post : Int64 → S → Prop} (hst0 : Cond.static y ∈ gtbl) {As rest : List Value} (wc wr : va_W) (hM : MetL y cY nY rY rmY D tys As wc w1 post) (cw : CwB R own idx y cY nY rY rmY np kc ks) (hn : As.length = np) (isC isR isF : List Nat) (hC : isC.map (fun i => ws[i]?) = wc.map some) (hC1 : isC.filterMap (fun i => ws[i]?) = wc) (hCn : va_nd isC = true) (hR : isR.map (fun i => ws[i]?) = wr.map some) (hRn : va_nd isR = true) (hdis : ∀ i ∈ isR, i ∉ isC) (ws' : S → va_W) (hF1 : ∀ u, isF.filterMap (fun i => (wr ++ w1 u)[i]?) = ws' u) (hF2 : ∀ u, isF.map (fun i => (wr ++ w1 u)[i]?) = (ws' u).map some) (hFn : va_nd isF = true) (hst : st = As.reverse ++ rest) (hW8 : (rest.map fun v => v.category).sum ≤ 8) (d : decode cc pc = .ok (.invokestatic idx, 3)) (hp : pc + 3 = pn) (k : (∀ (r : Int64) (u : S), post r u → J x (kc + rmY.cells) (ks + rmY.slots) nL (ws' u) lv pn (.long r :: rest))) : J x kc ks nL ws lv pc st := by
  subst hp; subst hst
  obtain ⟨p, l, e, R', s, m, args, below, meth, c, D', tys', A, Q⟩ := x
  obtain ⟨hx, hb, hml, hown, hts, hK, hA, hlk, hNW, hSK, rfl, rfl, rfl⟩ := cx
  intro H locs ls hP hD hS hl
  have hPc := hP.sub isC hC1
  have hDc := hD.sub isC hCn hC
  have hFc := va_free (wc := wc) hD hS hA isC hC
  refine va_calll (va_runS (As := As) (rest := rest) ⟨hx, hb, hml, hown, hts⟩ (hM l H.size) ⟨cwb_of hts cw, hts _ hst0⟩ ⟨PreW.blind, fun U hU hW => ⟨rfl, by rw [hU], by rw [hU]; exact hPc, va_K.moved hW.alike hK, (hDc).weaken (fun _ _ _ _ => trivial), NW.warm hW hNW, by rw [hU]; exact ((hSK.kept hS.2.1).narrow hFc).warm hW⟩⟩ rfl hn hl.1 rfl (lv_room hW8) d cw.2.2.2.2.2) hS (fun q _ h => hFc q h) hFc (fun r u t H1 locs ht hvm hw hB hz1 hk1 hS => ?_)
  obtain ⟨hP1, -, hD1⟩ := hB
  rw [ht] at hP1
  obtain ⟨hP2, hD2⟩ := va_join hP hD isC isR hC hR hRn hdis hk1 hFc hP1 hD1
  exact k r u hw H1 locs ls (hP2.sub isF (hF1 u)) (hD2.sub isF hFn (hF2 u)) hS hl
theorem j_callvV0 (cx : Cx x cc nL own R D tys) {w1 : S → va_W} {post : S → Prop} (hin : Cond.instanceMethod y ∈ gtbl) (hse : Cond.selects y.cls y y ∈ gtbl) {b : Nat} {As rest : List Value} {ci q0 : Nat} {T : u_T} {N : Nat} {fs : List Value} (hM : MetV y cY nY rY rmY D tys (.ref b :: As) ws w1 post) (cw : CwB R own idx y cY nY rY rmY np kc ks) (hrc : vwCl[ci]? = some (y.cls, T, N)) (hrw : ws[q0]? = some (b, .inr (ci, fs))) (hn : As.length = np) (hst : st = As.reverse ++ .ref b :: rest) (hW8 : (rest.map fun v => v.category).sum ≤ 8) (d : decode cc pc = .ok (.invokevirtual idx, 3)) (hp : pc + 3 = pn) (k : (∀ (u : S), post u → J x (kc + rmY.cells) (ks + rmY.slots) nL (w1 u) lv pn rest)) : J x kc ks nL ws lv pc st := by
  subst hp; subst hst
  obtain ⟨p, l, e, R', s, m, args, below, meth, c, D', tys', A, Q⟩ := x
  obtain ⟨hx, hb, hml, hown, hts, hK, hA, hlk, hNW, hSK, rfl, rfl, rfl⟩ := cx
  intro H locs ls hP hD hS hl
  have hFc : ∀ q, va_A ws H.size q → A q := fun q h => h.elim (fun ⟨i, e, hi⟩ => hD.2 i _ hi) (fun h => hA q (Nat.le_trans hS.1 h))
  refine va_callv (va_runV (As := As) (rest := rest) ⟨hx, hb, hml, hown, hts⟩ (hM l H.size) ⟨cwb_of hts cw, hts _ hin, hts _ hse⟩ ⟨PreW.blind, va_recv hK hP (ci := ci) (q0 := q0) hrc hrw, fun U hU hW => ⟨rfl, by rw [hU], by rw [hU]; exact hP, va_K.moved hW.alike hK, (hD).weaken (fun _ _ _ _ => trivial), NW.warm hW hNW, by rw [hU]; exact ((hSK.kept hS.2.1).narrow hFc).warm hW⟩⟩ rfl hn hl.1 rfl (lv_room hW8) d cw.2.2.2.2.2) hS (fun q _ h => hFc q h) hFc (fun u t H1 locs ht hvm hw hB hz1 hk1 hS => ?_)
  obtain ⟨hP1, -, hD1⟩ := hB
  rw [ht] at hP1
  exact k u hw H1 locs ls hP1 (hD1.weaken (fun _ q _ h => hFc q.1 h)) hS hl
theorem j_callvV (cx : Cx x cc nL own R D tys) {w1 : S → va_W} {post : S → Prop} (hin : Cond.instanceMethod y ∈ gtbl) (hse : Cond.selects y.cls y y ∈ gtbl) {b : Nat} {As rest : List Value} {ci q0 : Nat} {T : u_T} {N : Nat} {fs : List Value} (wc wr : va_W) (hM : MetV y cY nY rY rmY D tys (.ref b :: As) wc w1 post) (cw : CwB R own idx y cY nY rY rmY np kc ks) (hrc : vwCl[ci]? = some (y.cls, T, N)) (hrw : wc[q0]? = some (b, .inr (ci, fs))) (hn : As.length = np) (isC isR isF : List Nat) (hC : isC.map (fun i => ws[i]?) = wc.map some) (hC1 : isC.filterMap (fun i => ws[i]?) = wc) (hCn : va_nd isC = true) (hR : isR.map (fun i => ws[i]?) = wr.map some) (hRn : va_nd isR = true) (hdis : ∀ i ∈ isR, i ∉ isC) (ws' : S → va_W) (hF1 : ∀ u, isF.filterMap (fun i => (wr ++ w1 u)[i]?) = ws' u) (hF2 : ∀ u, isF.map (fun i => (wr ++ w1 u)[i]?) = (ws' u).map some) (hFn : va_nd isF = true) (hst : st = As.reverse ++ .ref b :: rest) (hW8 : (rest.map fun v => v.category).sum ≤ 8) (d : decode cc pc = .ok (.invokevirtual idx, 3)) (hp : pc + 3 = pn) (k : (∀ (u : S), post u → J x (kc + rmY.cells) (ks + rmY.slots) nL (ws' u) lv pn rest)) : J x kc ks nL ws lv pc st := by
  subst hp; subst hst
  obtain ⟨p, l, e, R', s, m, args, below, meth, c, D', tys', A, Q⟩ := x
  obtain ⟨hx, hb, hml, hown, hts, hK, hA, hlk, hNW, hSK, rfl, rfl, rfl⟩ := cx
  intro H locs ls hP hD hS hl
  have hPc := hP.sub isC hC1
  have hDc := hD.sub isC hCn hC
  have hFc := va_free (wc := wc) hD hS hA isC hC
  refine va_callv (va_runV (As := As) (rest := rest) ⟨hx, hb, hml, hown, hts⟩ (hM l H.size) ⟨cwb_of hts cw, hts _ hin, hts _ hse⟩ ⟨PreW.blind, va_recv hK hPc (ci := ci) (q0 := q0) hrc hrw, fun U hU hW => ⟨rfl, by rw [hU], by rw [hU]; exact hPc, va_K.moved hW.alike hK, (hDc).weaken (fun _ _ _ _ => trivial), NW.warm hW hNW, by rw [hU]; exact ((hSK.kept hS.2.1).narrow hFc).warm hW⟩⟩ rfl hn hl.1 rfl (lv_room hW8) d cw.2.2.2.2.2) hS (fun q _ h => hFc q h) hFc (fun u t H1 locs ht hvm hw hB hz1 hk1 hS => ?_)
  obtain ⟨hP1, -, hD1⟩ := hB
  rw [ht] at hP1
  obtain ⟨hP2, hD2⟩ := va_join hP hD isC isR hC hR hRn hdis hk1 hFc hP1 hD1
  exact k u hw H1 locs ls (hP2.sub isF (hF1 u)) (hD2.sub isF hFn (hF2 u)) hS hl
theorem j_callsV0 (cx : Cx x cc nL own R D tys) {w1 : S → va_W} {post : S → Prop} (hst0 : Cond.static y ∈ gtbl) {As rest : List Value} (hM : MetV y cY nY rY rmY D tys As ws w1 post) (cw : CwB R own idx y cY nY rY rmY np kc ks) (hn : As.length = np) (hst : st = As.reverse ++ rest) (hW8 : (rest.map fun v => v.category).sum ≤ 8) (d : decode cc pc = .ok (.invokestatic idx, 3)) (hp : pc + 3 = pn) (k : (∀ (u : S), post u → J x (kc + rmY.cells) (ks + rmY.slots) nL (w1 u) lv pn rest)) : J x kc ks nL ws lv pc st := by
  subst hp; subst hst
  obtain ⟨p, l, e, R', s, m, args, below, meth, c, D', tys', A, Q⟩ := x
  obtain ⟨hx, hb, hml, hown, hts, hK, hA, hlk, hNW, hSK, rfl, rfl, rfl⟩ := cx
  intro H locs ls hP hD hS hl
  have hFc : ∀ q, va_A ws H.size q → A q := fun q h => h.elim (fun ⟨i, e, hi⟩ => hD.2 i _ hi) (fun h => hA q (Nat.le_trans hS.1 h))
  refine va_callv (va_runS (As := As) (rest := rest) ⟨hx, hb, hml, hown, hts⟩ (hM l H.size) ⟨cwb_of hts cw, hts _ hst0⟩ ⟨PreW.blind, fun U hU hW => ⟨rfl, by rw [hU], by rw [hU]; exact hP, va_K.moved hW.alike hK, (hD).weaken (fun _ _ _ _ => trivial), NW.warm hW hNW, by rw [hU]; exact ((hSK.kept hS.2.1).narrow hFc).warm hW⟩⟩ rfl hn hl.1 rfl (lv_room hW8) d cw.2.2.2.2.2) hS (fun q _ h => hFc q h) hFc (fun u t H1 locs ht hvm hw hB hz1 hk1 hS => ?_)
  obtain ⟨hP1, -, hD1⟩ := hB
  rw [ht] at hP1
  exact k u hw H1 locs ls hP1 (hD1.weaken (fun _ q _ h => hFc q.1 h)) hS hl
theorem j_callsV (cx : Cx x cc nL own R D tys) {w1 : S → va_W} {post : S → Prop} (hst0 : Cond.static y ∈ gtbl) {As rest : List Value} (wc wr : va_W) (hM : MetV y cY nY rY rmY D tys As wc w1 post) (cw : CwB R own idx y cY nY rY rmY np kc ks) (hn : As.length = np) (isC isR isF : List Nat) (hC : isC.map (fun i => ws[i]?) = wc.map some) (hC1 : isC.filterMap (fun i => ws[i]?) = wc) (hCn : va_nd isC = true) (hR : isR.map (fun i => ws[i]?) = wr.map some) (hRn : va_nd isR = true) (hdis : ∀ i ∈ isR, i ∉ isC) (ws' : S → va_W) (hF1 : ∀ u, isF.filterMap (fun i => (wr ++ w1 u)[i]?) = ws' u) (hF2 : ∀ u, isF.map (fun i => (wr ++ w1 u)[i]?) = (ws' u).map some) (hFn : va_nd isF = true) (hst : st = As.reverse ++ rest) (hW8 : (rest.map fun v => v.category).sum ≤ 8) (d : decode cc pc = .ok (.invokestatic idx, 3)) (hp : pc + 3 = pn) (k : (∀ (u : S), post u → J x (kc + rmY.cells) (ks + rmY.slots) nL (ws' u) lv pn rest)) : J x kc ks nL ws lv pc st := by
  subst hp; subst hst
  obtain ⟨p, l, e, R', s, m, args, below, meth, c, D', tys', A, Q⟩ := x
  obtain ⟨hx, hb, hml, hown, hts, hK, hA, hlk, hNW, hSK, rfl, rfl, rfl⟩ := cx
  intro H locs ls hP hD hS hl
  have hPc := hP.sub isC hC1
  have hDc := hD.sub isC hCn hC
  have hFc := va_free (wc := wc) hD hS hA isC hC
  refine va_callv (va_runS (As := As) (rest := rest) ⟨hx, hb, hml, hown, hts⟩ (hM l H.size) ⟨cwb_of hts cw, hts _ hst0⟩ ⟨PreW.blind, fun U hU hW => ⟨rfl, by rw [hU], by rw [hU]; exact hPc, va_K.moved hW.alike hK, (hDc).weaken (fun _ _ _ _ => trivial), NW.warm hW hNW, by rw [hU]; exact ((hSK.kept hS.2.1).narrow hFc).warm hW⟩⟩ rfl hn hl.1 rfl (lv_room hW8) d cw.2.2.2.2.2) hS (fun q _ h => hFc q h) hFc (fun u t H1 locs ht hvm hw hB hz1 hk1 hS => ?_)
  obtain ⟨hP1, -, hD1⟩ := hB
  rw [ht] at hP1
  obtain ⟨hP2, hD2⟩ := va_join hP hD isC isR hC hR hRn hdis hk1 hFc hP1 hD1
  exact k u hw H1 locs ls (hP2.sub isF (hF1 u)) (hD2.sub isF hFn (hF2 u)) hS hl
theorem j_calleI (cx : Cx x cc nL own R D tys) {post : Int32 → Unit → Prop} (hst0 : Cond.static y ∈ gtbl) {As rest : List Value} (hM : MetI y cY nY rY rmY D tys As [] (fun _ => []) post) (cw : CwB R own idx y cY nY rY rmY np kc ks) (hn : As.length = np) (hst : st = As.reverse ++ rest) (hW8 : (rest.map fun v => v.category).sum ≤ 8) (d : decode cc pc = .ok (.invokestatic idx, 3)) (hp : pc + 3 = pn) (k : ∀ (r : Int32), post r () → J x (kc + rmY.cells) (ks + rmY.slots) nL ws lv pn (.int r :: rest)) : J x kc ks nL ws lv pc st := by
  subst hp; subst hst
  obtain ⟨p, l, e, R', s, m, args, below, meth, c, D', tys', A, Q⟩ := x
  obtain ⟨hx, hb, hml, hown, hts, hK, hA, hlk, hNW, hSK, rfl, rfl, rfl⟩ := cx
  intro H locs ls hP hD hS hl
  have hFc : ∀ q, va_A [] H.size q → A q := fun q h => h.elim (fun ⟨i, e, hi⟩ => by simp at hi) (fun h => hA q (Nat.le_trans hS.1 h))
  refine va_calli (va_runS (As := As) (rest := rest) ⟨hx, hb, hml, hown, hts⟩ (hM l H.size) ⟨cwb_of hts cw, hts _ hst0⟩ ⟨PreW.blind, fun U hU hW => ⟨rfl, by rw [hU], fun k q h => by simp at h, va_K.moved hW.alike hK, ⟨fun i j p q h => by simp at h, fun k q h => by simp at h⟩, NW.warm hW hNW, by rw [hU]; exact ((hSK.kept hS.2.1).narrow hFc).warm hW⟩⟩ rfl hn hl.1 rfl (lv_room hW8) d cw.2.2.2.2.2) hS (fun q _ h => hFc q h) hFc (fun r u t H1 locs ht hvm hw hB hz1 hk1 hS => ?_)
  refine k r hw H1 locs ls (hP.kept (fun i q hi => hk1 q.1 ((hP i q hi).lt) (fun h => h.elim (fun ⟨j, e, hj⟩ => by simp at hj) (fun h => Nat.not_le.mpr ((hP i q hi).lt) h)))) hD hS hl
theorem j_calleL (cx : Cx x cc nL own R D tys) {post : Int64 → Unit → Prop} (hst0 : Cond.static y ∈ gtbl) {As rest : List Value} (hM : MetL y cY nY rY rmY D tys As [] (fun _ => []) post) (cw : CwB R own idx y cY nY rY rmY np kc ks) (hn : As.length = np) (hst : st = As.reverse ++ rest) (hW8 : (rest.map fun v => v.category).sum ≤ 8) (d : decode cc pc = .ok (.invokestatic idx, 3)) (hp : pc + 3 = pn) (k : ∀ (r : Int64), post r () → J x (kc + rmY.cells) (ks + rmY.slots) nL ws lv pn (.long r :: rest)) : J x kc ks nL ws lv pc st := by
  subst hp; subst hst
  obtain ⟨p, l, e, R', s, m, args, below, meth, c, D', tys', A, Q⟩ := x
  obtain ⟨hx, hb, hml, hown, hts, hK, hA, hlk, hNW, hSK, rfl, rfl, rfl⟩ := cx
  intro H locs ls hP hD hS hl
  have hFc : ∀ q, va_A [] H.size q → A q := fun q h => h.elim (fun ⟨i, e, hi⟩ => by simp at hi) (fun h => hA q (Nat.le_trans hS.1 h))
  refine va_calll (va_runS (As := As) (rest := rest) ⟨hx, hb, hml, hown, hts⟩ (hM l H.size) ⟨cwb_of hts cw, hts _ hst0⟩ ⟨PreW.blind, fun U hU hW => ⟨rfl, by rw [hU], fun k q h => by simp at h, va_K.moved hW.alike hK, ⟨fun i j p q h => by simp at h, fun k q h => by simp at h⟩, NW.warm hW hNW, by rw [hU]; exact ((hSK.kept hS.2.1).narrow hFc).warm hW⟩⟩ rfl hn hl.1 rfl (lv_room hW8) d cw.2.2.2.2.2) hS (fun q _ h => hFc q h) hFc (fun r u t H1 locs ht hvm hw hB hz1 hk1 hS => ?_)
  refine k r hw H1 locs ls (hP.kept (fun i q hi => hk1 q.1 ((hP i q hi).lt) (fun h => h.elim (fun ⟨j, e, hj⟩ => by simp at hj) (fun h => Nat.not_le.mpr ((hP i q hi).lt) h)))) hD hS hl
theorem j_mmax (cx : Cx x cc nL own R D tys) {a b : Int32} (hlink : Cond.methodLink own idx Lib.Math.max.name ∈ gtbl) (hstat : Cond.static Lib.Math.max.name ∈ gtbl) (hini : Cond.initialized "java/lang/Math" ∈ gtbl) (hcode : Cond.code Lib.Math.max.name Lib.Math.max.code 2 (some .int) ∈ gtbl) (hfr : 1 ≤ R.frames) (hlo : (st.map fun v => v.category).sum + 13 ≤ R.locals) (hc : kc ≤ R.cells) (hs : ks ≤ R.slots) (d : decode cc pc = .ok (.invokestatic idx, 3)) (hp : pc + 3 = pn) (k : J x kc ks nL ws lv pn (.int (if a < b then b else a) :: st)) : J x kc ks nL ws lv pc (.int b :: .int a :: st) := by
  subst hp
  obtain ⟨p, l, e, R', s, m, args, below, meth, c, D', tys', A, Q⟩ := x
  obtain ⟨hx, hb, hml, hown, hts, hK, hA, hlk, hNW, hSK, rfl, rfl, rfl⟩ := cx
  intro H locs ls hP hD hS hl
  exact va_mmax hx hb (hml.trans hl.1.symm) hown (hts _ hlink) (hts _ hstat) (hts _ hini) (hts _ hcode) hfr hlo hc hs d (k H locs ls hP hD hS hl)
theorem j_mmin (cx : Cx x cc nL own R D tys) {a b : Int32} (hlink : Cond.methodLink own idx Lib.Math.min.name ∈ gtbl) (hstat : Cond.static Lib.Math.min.name ∈ gtbl) (hini : Cond.initialized "java/lang/Math" ∈ gtbl) (hcode : Cond.code Lib.Math.min.name Lib.Math.min.code 2 (some .int) ∈ gtbl) (hfr : 1 ≤ R.frames) (hlo : (st.map fun v => v.category).sum + 13 ≤ R.locals) (hc : kc ≤ R.cells) (hs : ks ≤ R.slots) (d : decode cc pc = .ok (.invokestatic idx, 3)) (hp : pc + 3 = pn) (k : J x kc ks nL ws lv pn (.int (if b < a then b else a) :: st)) : J x kc ks nL ws lv pc (.int b :: .int a :: st) := by
  subst hp
  obtain ⟨p, l, e, R', s, m, args, below, meth, c, D', tys', A, Q⟩ := x
  obtain ⟨hx, hb, hml, hown, hts, hK, hA, hlk, hNW, hSK, rfl, rfl, rfl⟩ := cx
  intro H locs ls hP hD hS hl
  exact va_mmin hx hb (hml.trans hl.1.symm) hown (hts _ hlink) (hts _ hstat) (hts _ hini) (hts _ hcode) hfr hlo hc hs d (k H locs ls hP hD hS hl)
theorem j_mabs (cx : Cx x cc nL own R D tys) {a : Int32} (hlink : Cond.methodLink own idx Lib.Math.abs.name ∈ gtbl) (hstat : Cond.static Lib.Math.abs.name ∈ gtbl) (hini : Cond.initialized "java/lang/Math" ∈ gtbl) (hcode : Cond.code Lib.Math.abs.name Lib.Math.abs.code 1 (some .int) ∈ gtbl) (hfr : 1 ≤ R.frames) (hlo : (st.map fun v => v.category).sum + 13 ≤ R.locals) (hc : kc ≤ R.cells) (hs : ks ≤ R.slots) (d : decode cc pc = .ok (.invokestatic idx, 3)) (hp : pc + 3 = pn) (k : J x kc ks nL ws lv pn (.int (if 0 ≤ a then a else 0 - a) :: st)) : J x kc ks nL ws lv pc (.int a :: st) := by
  subst hp
  obtain ⟨p, l, e, R', s, m, args, below, meth, c, D', tys', A, Q⟩ := x
  obtain ⟨hx, hb, hml, hown, hts, hK, hA, hlk, hNW, hSK, rfl, rfl, rfl⟩ := cx
  intro H locs ls hP hD hS hl
  exact va_mabs hx hb (hml.trans hl.1.symm) hown (hts _ hlink) (hts _ hstat) (hts _ hini) (hts _ hcode) hfr hlo hc hs d (k H locs ls hP hD hS hl)
theorem j_getsC (cx : Cx x cc nL own R D tys) (hlink : Cond.fieldLink own idx "java/lang/String" "COMPACT_STRINGS" "Z" ∈ gtbl) (d : decode cc pc = .ok (.getstatic idx, 3)) (hp : pc + 3 = pn) (k : J x kc ks nL ws lv pn (.int 1 :: st)) : J x kc ks nL ws lv pc st := by
  subst hp
  obtain ⟨p, l, e, R', s, m, args, below, meth, c, D', tys', A, Q⟩ := x
  obtain ⟨hx, hb, hml, hown, hts, hK, hA, hlk, hNW, hSK, rfl, rfl, rfl⟩ := cx
  intro H locs ls hP hD hS hl
  exact va_gets hx hb hSK.2.2.1 hS hown (hts _ hlink) (fun _ h => h) d (k H locs ls hP hD hS hl)
theorem j_getsF (cx : Cx x cc nL own R D tys) (hlink : Cond.fieldLink own idx "jdk/internal/util/Preconditions" "SIOOBE_FORMATTER" "Ljava/util/function/BiFunction;" ∈ gtbl) (d : decode cc pc = .ok (.getstatic idx, 3)) (hp : pc + 3 = pn) (k : ∀ r : Option Nat, J x kc ks nL ws lv pn (va_rf r :: st)) : J x kc ks nL ws lv pc st := by
  subst hp
  obtain ⟨p, l, e, R', s, m, args, below, meth, c, D', tys', A, Q⟩ := x
  obtain ⟨hx, hb, hml, hown, hts, hK, hA, hlk, hNW, hSK, rfl, rfl, rfl⟩ := cx
  intro H locs ls hP hD hS hl
  rcases hSK.2.2.2 with hZ | ⟨t, hZ⟩
  · exact va_gets hx hb hZ hS hown (hts _ hlink) (fun _ h => h) d (k none H locs ls hP hD hS hl)
  · exact va_gets hx hb hZ hS hown (hts _ hlink) (fun _ h => h) d (k (some t) H locs ls hP hD hS hl)
theorem j_sval (cx : Cx x cc nL own R D tys) {i : Nat} (hi : i < nS) (hlink : Cond.fieldLink own idx "java/lang/String" "value" "[B" ∈ gtbl) (d : decode cc pc = .ok (.getfield idx, 3)) (hp : pc + 3 = pn) (k : J x kc ks nL ws lv pn (.ref (D.2.2 i) :: st)) : J x kc ks nL ws lv pc (.ref (D.2.1 i) :: st) := by
  subst hp
  obtain ⟨p, l, e, R', s, m, args, below, meth, c, D', tys', A, Q⟩ := x
  obtain ⟨hx, hb, hml, hown, hts, hK, hA, hlk, hNW, hSK, rfl, rfl, rfl⟩ := cx
  intro H locs ls hP hD hS hl
  exact vk_getf hx hb (hSK.1.1 i hi).2.2.1 hS hown (hts _ hlink) (fun _ h => h) d (k H locs ls hP hD hS hl)
theorem j_scod (cx : Cx x cc nL own R D tys) {i : Nat} (hi : i < nS) (hlink : Cond.fieldLink own idx "java/lang/String" "coder" "B" ∈ gtbl) (d : decode cc pc = .ok (.getfield idx, 3)) (hp : pc + 3 = pn) (k : J x kc ks nL ws lv pn (.int 0 :: st)) : J x kc ks nL ws lv pc (.ref (D.2.1 i) :: st) := by
  subst hp
  obtain ⟨p, l, e, R', s, m, args, below, meth, c, D', tys', A, Q⟩ := x
  obtain ⟨hx, hb, hml, hown, hts, hK, hA, hlk, hNW, hSK, rfl, rfl, rfl⟩ := cx
  intro H locs ls hP hD hS hl
  exact vk_getf hx hb (hSK.1.1 i hi).2.1 hS hown (hts _ hlink) (fun _ h => h) d (k H locs ls hP hD hS hl)
theorem j_stlen (cx : Cx x cc nL own R D tys) {i : Nat} (hi : i < nS) (d : decode cc pc = .ok (.arraylength, 1)) (hp : pc + 1 = pn) (k : J x kc ks nL ws lv pn (.int (Int32.ofNat (lenS.getD i 0)) :: st)) : J x kc ks nL ws lv pc (.ref (D.2.2 i) :: st) := by
  subst hp
  obtain ⟨p, l, e, R', s, m, args, below, meth, c, D', tys', A, Q⟩ := x
  obtain ⟨hx, hb, hml, hown, hts, hK, hA, hlk, hNW, hSK, rfl, rfl, rfl⟩ := cx
  intro H locs ls hP hD hS hl
  exact va_tlen hx hb (hSK.1.1 i hi).2.2.2 hS rfl d (k H locs ls hP hD hS hl)
theorem j_stb (cx : Cx x cc nL own R D tys) {i : Nat} {j : Int32} (hi : i < nS) (hin : vp_in j (lenS.getD i 0)) (d : decode cc pc = .ok (.baload, 1)) (hp : pc + 1 = pn) (k : J x kc ks nL ws lv pn (.int ((bytS.getD i []).getD j.toNatClampNeg 0) :: st)) : J x kc ks nL ws lv pc (.int j :: .ref (D.2.2 i) :: st) := by
  subst hp
  obtain ⟨p, l, e, R', s, m, args, below, meth, c, D', tys', A, Q⟩ := x
  obtain ⟨hx, hb, hml, hown, hts, hK, hA, hlk, hNW, hSK, rfl, rfl, rfl⟩ := cx
  intro H locs ls hP hD hS hl
  exact va_tb hx hb (hSK.1.1 i hi).2.2.2 hS hin rfl d (k H locs ls hP hD hS hl)
theorem j_i2c (cx : Cx x cc nL own R D tys) {a : Int32} (d : decode cc pc = .ok (.i2c, 1)) (hp : pc + 1 = pn) (k : J x kc ks nL ws lv pn (.int (a.toUInt32 % 65536).toInt32 :: st)) : J x kc ks nL ws lv pc (.int a :: st) := by
  subst hp
  obtain ⟨p, l, e, R', s, m, args, below, meth, c, D', tys', A, Q⟩ := x
  obtain ⟨hx, hb, hml, hown, hts, hK, hA, hlk, hNW, hSK, rfl, rfl, rfl⟩ := cx
  intro H locs ls hP hD hS hl
  exact lv_i2c hx hb d rfl (k H locs ls hP hD hS hl)
theorem j_ldcS (cx : Cx x cc nL own R D tys) {i : Nat} (hi : i < nS) (ho : own = "MovedFold$Reader") (hk : kS.getD i 0 = idx) (d : decode cc pc = .ok (.ldc idx, 2)) (hp : pc + 2 = pn) (k : J x kc ks nL ws lv pn (.ref (D.2.1 i) :: st)) : J x kc ks nL ws lv pc st := by
  subst hp; subst hk; subst ho
  obtain ⟨p, l, e, R', s, m, args, below, meth, c, D', tys', A, Q⟩ := x
  obtain ⟨hx, hb, hml, hown, hts, hK, hA, hlk, hNW, hSK, rfl, rfl, rfl⟩ := cx
  intro H locs ls hP hD hS hl
  exact va_ldcS hx hb hown (hSK.2.1 i hi) d (k H locs ls hP hD hS hl)

theorem j_callkI (cx : Cx x cc nL own R D tys) {post : Int32 → Unit → Prop} (hin : Cond.instanceMethod y ∈ gtbl) (hse : Cond.selects y.cls y y ∈ gtbl) {i : Nat} (hi : i < nS) (hyc : y.cls = "java/lang/String") {As rest : List Value} (hM : MetI y cY nY rY rmY D tys (.ref (D.2.1 i) :: As) [] (fun _ => []) post) (cw : CwB R own idx y cY nY rY rmY np kc ks) (hn : As.length = np) (hst : st = As.reverse ++ .ref (D.2.1 i) :: rest) (hW8 : (rest.map fun v => v.category).sum ≤ 8) (d : decode cc pc = .ok (.invokevirtual idx, 3)) (hp : pc + 3 = pn) (k : ∀ (r : Int32), post r () → J x (kc + rmY.cells) (ks + rmY.slots) nL ws lv pn (.int r :: rest)) : J x kc ks nL ws lv pc st := by
  subst hp; subst hst
  obtain ⟨p, l, e, R', s, m, args, below, meth, c, D', tys', A, Q⟩ := x
  obtain ⟨hx, hb, hml, hown, hts, hK, hA, hlk, hNW, hSK, rfl, rfl, rfl⟩ := cx
  intro H locs ls hP hD hS hl
  have hFc : ∀ q, va_A [] H.size q → A q := fun q h => h.elim (fun ⟨i, e, hi⟩ => by simp at hi) (fun h => hA q (Nat.le_trans hS.1 h))
  refine va_calli (va_runV (As := As) (rest := rest) ⟨hx, hb, hml, hown, hts⟩ (hM l H.size) ⟨cwb_of hts cw, hts _ hin, hts _ hse⟩ ⟨PreW.blind, by rw [hyc]; exact vk_recv hSK.1 hi hS, fun U hU hW => ⟨rfl, by rw [hU], fun k q h => by simp at h, va_K.moved hW.alike hK, ⟨fun i j p q h => by simp at h, fun k q h => by simp at h⟩, NW.warm hW hNW, by rw [hU]; exact ((hSK.kept hS.2.1).narrow hFc).warm hW⟩⟩ rfl hn hl.1 rfl (lv_room hW8) d cw.2.2.2.2.2) hS (fun q _ h => hFc q h) hFc (fun r u t H1 locs ht hvm hw hB hz1 hk1 hS => ?_)
  refine k r hw H1 locs ls (hP.kept (fun i q hi => hk1 q.1 ((hP i q hi).lt) (fun h => h.elim (fun ⟨j, e, hj⟩ => by simp at hj) (fun h => Nat.not_le.mpr ((hP i q hi).lt) h)))) hD hS hl
theorem j_calleV (cx : Cx x cc nL own R D tys) {post : Unit → Prop} (hst0 : Cond.static y ∈ gtbl) {As rest : List Value} (hM : MetV y cY nY rY rmY D tys As [] (fun _ => []) post) (cw : CwB R own idx y cY nY rY rmY np kc ks) (hn : As.length = np) (hst : st = As.reverse ++ rest) (hW8 : (rest.map fun v => v.category).sum ≤ 8) (d : decode cc pc = .ok (.invokestatic idx, 3)) (hp : pc + 3 = pn) (k : post () → J x (kc + rmY.cells) (ks + rmY.slots) nL ws lv pn rest) : J x kc ks nL ws lv pc st := by
  subst hp; subst hst
  obtain ⟨p, l, e, R', s, m, args, below, meth, c, D', tys', A, Q⟩ := x
  obtain ⟨hx, hb, hml, hown, hts, hK, hA, hlk, hNW, hSK, rfl, rfl, rfl⟩ := cx
  intro H locs ls hP hD hS hl
  have hFc : ∀ q, va_A [] H.size q → A q := fun q h => h.elim (fun ⟨i, e, hi⟩ => by simp at hi) (fun h => hA q (Nat.le_trans hS.1 h))
  refine va_callv (va_runS (As := As) (rest := rest) ⟨hx, hb, hml, hown, hts⟩ (hM l H.size) ⟨cwb_of hts cw, hts _ hst0⟩ ⟨PreW.blind, fun U hU hW => ⟨rfl, by rw [hU], fun k q h => by simp at h, va_K.moved hW.alike hK, ⟨fun i j p q h => by simp at h, fun k q h => by simp at h⟩, NW.warm hW hNW, by rw [hU]; exact ((hSK.kept hS.2.1).narrow hFc).warm hW⟩⟩ rfl hn hl.1 rfl (lv_room hW8) d cw.2.2.2.2.2) hS (fun q _ h => hFc q h) hFc (fun u t H1 locs ht hvm hw hB hz1 hk1 hS => ?_)
  refine k hw H1 locs ls (hP.kept (fun i q hi => hk1 q.1 ((hP i q hi).lt) (fun h => h.elim (fun ⟨j, e, hj⟩ => by simp at hj) (fun h => Nat.not_le.mpr ((hP i q hi).lt) h)))) hD hS hl
theorem j_calleS (cx : Cx x cc nL own R D tys) {post : Nat → Prop} (hst0 : Cond.static y ∈ gtbl) {As rest : List Value} (hM : MetS y cY nY rY rmY D tys As post) (cw : CwB R own idx y cY nY rY rmY np kc ks) (hn : As.length = np) (hst : st = As.reverse ++ rest) (hW8 : (rest.map fun v => v.category).sum ≤ 8) (d : decode cc pc = .ok (.invokestatic idx, 3)) (hp : pc + 3 = pn) (k : ∀ i : Nat, post i → J x (kc + rmY.cells) (ks + rmY.slots) nL ws lv pn (.ref (D.2.1 i) :: rest)) : J x kc ks nL ws lv pc st := by
  subst hp; subst hst
  obtain ⟨p, l, e, R', s, m, args, below, meth, c, D', tys', A, Q⟩ := x
  obtain ⟨hx, hb, hml, hown, hts, hK, hA, hlk, hNW, hSK, rfl, rfl, rfl⟩ := cx
  intro H locs ls hP hD hS hl
  have hFc : ∀ q, va_A [] H.size q → A q := fun q h => h.elim (fun ⟨i, e, hi⟩ => by simp at hi) (fun h => hA q (Nat.le_trans hS.1 h))
  refine va_callr (va_runS (As := As) (rest := rest) ⟨hx, hb, hml, hown, hts⟩ (hM l H.size) ⟨cwb_of hts cw, hts _ hst0⟩ ⟨PreW.blind, fun U hU hW => ⟨rfl, by rw [hU], fun k q h => by simp at h, va_K.moved hW.alike hK, ⟨fun i j p q h => by simp at h, fun k q h => by simp at h⟩, NW.warm hW hNW, by rw [hU]; exact ((hSK.kept hS.2.1).narrow hFc).warm hW⟩⟩ rfl hn hl.1 rfl (lv_room hW8) d cw.2.2.2.2.2) hS (fun q _ h => hFc q h) hFc (fun u ra t H1 locs ht hvm hw hB hz1 hk1 hS => ?_)
  subst hB
  refine k u hw H1 locs ls (hP.kept (fun i q hi => hk1 q.1 ((hP i q hi).lt) (fun h => h.elim (fun ⟨j, e, hj⟩ => by simp at hj) (fun h => Nat.not_le.mpr ((hP i q hi).lt) h)))) hD hS hl
end JC
