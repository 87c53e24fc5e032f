abbrev iMsgI : Nat := 157
abbrev tMsgI : String := "there is no such part, maker, kind or row"
abbrev iMsgN : Nat := 164
abbrev tMsgN : String := "a number is outside its limits"
/-! the layer: a walk's fixed things in one tuple, the goal as a predicate over pure data (world, locals, stack, pc) -/
abbrev GX : Type := Launch × va_G × ClassId × ClassId
abbrev CX : Type := Program × Env × Room × State × MethodId × Array Value × List Frame × Method × Code × (Nat → Prop) × Nat × (State → Prop)
abbrev eI : String := "java/lang/IndexOutOfBoundsException"
abbrev eA : String := "java/lang/IllegalArgumentException"
def ST (g : GX) (C : CX) (ws : va_W) (lv : List (Nat × Value)) (st : List Value) (pc k n : Nat) : Prop := match g, C with
  | (l, D, _, _), (p, e, R, s, m, args, below, meth, c, A, nL, Q) => ∀ (H : Heap) (locs : List Loc) (ls : Array Slot), va_P D vwCl ws H → va_D A ws → va_S A s.heap H locs → lv_has ls nL lv → W p l e R s m args below meth c H locs k n Q (F0 m pc ls st)
def TBL (U : State) : Prop := (∀ w ∈ NALL, va_Nw w U) ∧ (∃ sa, vk_R R_C iMsgI tMsgI sa U) ∧ (∃ sa, vk_R R_C iMsgN tMsgN sa U) ∧ va_Nc eI eA U ∧ va_Nc eA eI U
theorem nall_warm {w : Cond} (h : w ∈ NALL) {s U : State} (hW : s.WarmedH U.vm) (hZ : va_Nw w s) : va_Nw w U := by
  have hi : isN w = true := (List.mem_filter.mp h).2
  cases w <;> first | exact va_Nw.warmM hW hZ | exact va_Nw.warmF hW hZ | exact va_Nw.warmD hW hZ | exact va_Nw.warmC hW hZ | (simp [isN] at hi)
theorem nall_tab {w : Cond} (h : w ∈ NALL) : w.onTables = true := by
  have hi : isN w = true := (List.mem_filter.mp h).2
  cases w <;> first | rfl | (simp [isN] at hi)
theorem TBL.warm {s U : State} (hW : s.WarmedH U.vm) (h : TBL s) : TBL U := by
  obtain ⟨h1, ⟨a, h2⟩, ⟨b, h3⟩, h4, h5⟩ := h
  exact ⟨fun w hw => nall_warm hw hW (h1 w hw), ⟨a, vk_R.warm hW h2⟩, ⟨b, vk_R.warm hW h3⟩, va_Nc.moved hW.alike h4, va_Nc.moved hW.alike h5⟩
theorem TBL.same {u U : State} (hv : u.vm = U.vm) (h : TBL u) : TBL U := by
  obtain ⟨h1, ⟨a, h2⟩, ⟨b, h3⟩, h4, h5⟩ := h
  exact ⟨fun w hw => va_Nw.same (nall_tab hw) hv (h1 w hw), ⟨a, vk_R.same hv.symm h2⟩, ⟨b, vk_R.same hv.symm h3⟩, va_Nc.moved (by rw [hv]; exact Vm.Alike.refl _) h4, va_Nc.moved (by rw [hv]; exact Vm.Alike.refl _) h5⟩
def ZZ (A : Nat → Prop) (U : State) (H : Heap) : Prop := vx_Zq Bundle.tN "UNASSIGNED_STACK" Bundle.steD A U H ∧ vx_Zq Bundle.tN "SUPPRESSED_SENTINEL" Bundle.listD A U H
theorem ZZ.moved {A : Nat → Prop} {u U : State} {H : Heap} (hvm : u.vm.Alike U.vm) (h : ZZ A u H) : ZZ A U H := ⟨vx_Zq.moved hvm h.1, vx_Zq.moved hvm h.2⟩
theorem ZZ.kept {A : Nat → Prop} {U : State} {H H1 : Heap} (h : ZZ A U H) (hq : ∀ a : Nat, a < H.size → ¬ A a → H1[a]? = H[a]?) : ZZ A U H1 := ⟨vx_Zq.kept h.1 hq, vx_Zq.kept h.2 hq⟩
theorem ZZ.narrow {A B : Nat → Prop} {U : State} {H : Heap} (h : ZZ A U H) (hAB : ∀ q, B q → A q) : ZZ B U H := ⟨vx_Zq.narrow h.1 hAB, vx_Zq.narrow h.2 hAB⟩
def OK (g : GX) (C : CX) (own : String) (cc : ByteArray) (nL : Nat) (R : Room) : Prop := match g, C with
  | (l, D, cI, cJ), (p, _, R', s, m, args, _, meth, c, A, nL', _) => p.tables.exec = Jvm.exec ∧ c.code = cc ∧ c.maxLocals = nL' ∧ nL' = nL ∧ R' = R ∧ s.vm.findClass own = some m.cls ∧ (∀ w ∈ WALL, w.before args s = true) ∧ va_K D vwCl [(cI, .int), (cJ, .long)] s ∧ (∀ q, s.heap.size ≤ q → A q) ∧ TBL s ∧ ZZ A s s.heap ∧ l.stackTraces = false ∧ meth.locks = false
def RT (C : CX) (ret : Option FieldType) (A0 : Nat → Prop) (Qc : Array Value → State → Outcome → State → Prop) (mc ms : Nat) : Prop := match C with
  | (_, _, _, s, _, args, below, meth, _, A, _, Q) => meth.sig.returnType = ret ∧ A = A0 ∧ Q = MQ below Qc args s mc ms A
def RTX (C : CX) (ret : Option FieldType) (A0 : Nat → Prop) (Qc : Array Value → State → Outcome → State → Prop) (XC : String → State → State → Prop) (mc ms : Nat) : Prop := match C with
  | (_, _, _, s, _, args, below, meth, _, A, _, Q) => meth.sig.returnType = ret ∧ A = A0 ∧ Q = vx_MQ below Qc XC args s mc ms A
def TAB (C : CX) (hh : List (Nat × Nat × Nat × Nat)) : Prop := match C with
  | (_, _, _, _, _, _, _, _, c, _, _, _) => c.exceptionTable.toList = tableOf hh
def PRE (g : GX) (as : List Value) (ws0 : va_W) (sz : Nat) : Array Value → State → Prop := match g with
  | (_, D, cI, cJ) => va_Pc as (fun U => U.heap.size = sz ∧ va_P D vwCl ws0 U.heap ∧ va_K D vwCl [(cI, .int), (cJ, .long)] U ∧ va_D (fun _ => True) ws0 ∧ TBL U ∧ ZZ (va_A ws0 sz) U U.heap)
def PW {S : Type} (g : GX) (ws0 : va_W) (sz : Nat) (wf : S → va_W) (u : S) (t : State) : Prop := match g with
  | (_, D, cI, cJ) => va_P D vwCl (wf u) t.heap ∧ va_K D vwCl [(cI, .int), (cJ, .long)] t ∧ va_D (va_A ws0 sz) (wf u)
def QI {S : Type} (g : GX) (ws0 : va_W) (wf : S → va_W) (post : Int32 → S → Prop) (sz : Nat) : Array Value → State → Outcome → State → Prop := va_Qi post (PW g ws0 sz wf) (va_A ws0 sz)
def QL {S : Type} (g : GX) (ws0 : va_W) (wf : S → va_W) (post : Int64 → S → Prop) (sz : Nat) : Array Value → State → Outcome → State → Prop := va_Ql post (PW g ws0 sz wf) (va_A ws0 sz)
def QV {S : Type} (g : GX) (ws0 : va_W) (wf : S → va_W) (post : S → Prop) (sz : Nat) : Array Value → State → Outcome → State → Prop := va_Qv post (PW g ws0 sz wf) (va_A ws0 sz)
def QX {S : Type} (g : GX) (ws0 : va_W) (wf : S → va_W) (px : String → S → Prop) (sz : Nat) : String → State → State → Prop := vx_X (fun _ : S => True) (fun E u t => px E u ∧ PW g ws0 sz wf u t) (va_A ws0 sz)
def CT (g : GX) (y : MethodName) (cc : ByteArray) (maxL : Nat) (ret : Option FieldType) (rm : Room) (as : List Value) (ws0 : va_W) (Qk : Nat → Array Value → State → Outcome → State → Prop) : Prop := ∀ sz : Nat, Met g.1 y (.code y cc maxL ret :: WALL) rm (PRE g as ws0 sz) (Qk sz) rm.cells rm.slots (va_A ws0 sz)
def CTX (g : GX) (y : MethodName) (cc : ByteArray) (maxL : Nat) (ret : Option FieldType) (rm : Room) (as : List Value) (ws0 : va_W) (Qk : Nat → Array Value → State → Outcome → State → Prop) (XC : Nat → String → State → State → Prop) : Prop := ∀ sz : Nat, vx_Met g.1 y (.code y cc maxL ret :: WALL) rm (PRE g as ws0 sz) (Qk sz) (XC sz) rm.cells rm.slots (va_A ws0 sz)
def CTW (g : GX) (y : MethodName) (cc : ByteArray) (maxL : Nat) (ret : Option FieldType) (hh : List (Nat × Nat × Nat × Nat)) (rm : Room) (as : List Value) (ws0 : va_W) (Qk : Nat → Array Value → State → Outcome → State → Prop) : Prop := ∀ sz : Nat, Met g.1 y (.codeWith y cc maxL ret hh :: WALL) rm (PRE g as ws0 sz) (Qk sz) rm.cells rm.slots (va_A ws0 sz)
theorem wall_good {w : Cond} (h : w ∈ WALL) : (w.onTables && w.keeps) = true ∨ ∃ ty, w = .arrayClass ty := good_of_word (List.mem_filter.mp h).2
theorem wall_pay {args : Array Value} {s : State} {w0 : Cond} (h0 : w0 ∈ WALL) (hts : ∀ w ∈ WALL, w.before args s = true) : ∀ w ∈ w0 :: WALL, ∀ (a' : Array Value) (U : State), s.WarmedH U.vm → w.before a' U = true := fun w hw a' U hW => by
  rcases List.mem_cons.mp hw with rfl | hw
  · exact word_at hW (wall_good h0) (hts _ h0)
  · exact word_at hW (wall_good hw) (hts _ hw)
theorem PRE.blind (g : GX) (as : List Value) (ws0 : va_W) (sz : Nat) : FrameBlind (PRE g as ws0 sz) := by
  obtain ⟨l, D, cI, cJ⟩ := g
  intro a U f mk q
  obtain ⟨q0, q1, qP, qK, qD, qT, qZ⟩ := q
  exact ⟨q0, q1, qP, va_K.moved (u := U) (U := U.calling f mk a) (Vm.Alike.refl U.vm) qK, qD, TBL.same (u := U) (U := U.calling f mk a) rfl qT, ZZ.moved (u := U) (U := U.calling f mk a) (Vm.Alike.refl U.vm) qZ⟩
/-- a method's contract from a walk of its body -/
theorem ct_of {g : GX} {y : MethodName} {cc : ByteArray} {maxL : Nat} {ret : Option FieldType} {rm : Room} {as : List Value} {ws0 : va_W} {Qk : Nat → Array Value → State → Outcome → State → Prop} (hg : g.1.stackTraces = false) (hy : plainName y.cls = true) (hlen : (lg_sl as).length ≤ maxL)
    (body : ∀ (sz : Nat) (C : CX), OK g C y.cls cc maxL rm → RT C ret (va_A ws0 sz) (Qk sz) rm.cells rm.slots → ST g C ws0 (lv_args 0 as) [] 0 0 0) : CT g y cc maxL ret rm as ws0 Qk := by
  obtain ⟨l, D, cI, cJ⟩ := g
  intro sz
  refine Met.ofW (cc := cc) (maxL := maxL) (ret := ret) hy rfl ?_
  intro p e s m args below meth c s₁ B hml hv
  obtain ⟨rfl, hsz, hP, hK, hD0, hT, hZ⟩ := hv
  subst hsz
  have hD := hD0.self (sz := s.heap.size)
  have hts := atoms_spec (ws := Cond.code y cc maxL ret :: WALL) B.pre
  have K := body s.heap.size (p, e, rm, s, m, as.toArray, below, meth, c, va_A ws0 s.heap.size, maxL, MQ below (Qk s.heap.size) as.toArray s rm.cells rm.slots (va_A ws0 s.heap.size)) ⟨B.exec, B.bytes, hml, rfl, rfl, findClass_of_methodNamed B.named, fun w h => hts w (List.mem_cons_of_mem _ h), hK, fun q h => Or.inr h, hT, hZ, hg, B.notSynchronized⟩ ⟨B.returns, rfl, rfl⟩
  have hl := lv_entry as hlen
  rw [lg_entry_eq]
  exact K s.heap [] _ hP hD va_S.rf hl
theorem ctx_of {g : GX} {y : MethodName} {cc : ByteArray} {maxL : Nat} {ret : Option FieldType} {rm : Room} {as : List Value} {ws0 : va_W} {Qk : Nat → Array Value → State → Outcome → State → Prop} {XC : Nat → String → State → State → Prop} (hg : g.1.stackTraces = false) (hy : plainName y.cls = true) (hlen : (lg_sl as).length ≤ maxL)
    (body : ∀ (sz : Nat) (C : CX), OK g C y.cls cc maxL rm → RTX C ret (va_A ws0 sz) (Qk sz) (XC sz) rm.cells rm.slots → TAB C [] → ST g C ws0 (lv_args 0 as) [] 0 0 0) : CTX g y cc maxL ret rm as ws0 Qk XC := by
  obtain ⟨l, D, cI, cJ⟩ := g
  intro sz
  refine vx_ofW (cc := cc) (maxL := maxL) (ret := ret) hy rfl ?_
  intro p e s m args below meth c s₁ B hml hno hv
  obtain ⟨rfl, hsz, hP, hK, hD0, hT, hZ⟩ := hv
  subst hsz
  have hD := hD0.self (sz := s.heap.size)
  have hts := atoms_spec (ws := Cond.code y cc maxL ret :: WALL) B.pre
  have K := body s.heap.size (p, e, rm, s, m, as.toArray, below, meth, c, va_A ws0 s.heap.size, maxL, vx_MQ below (Qk s.heap.size) (XC s.heap.size) as.toArray s rm.cells rm.slots (va_A ws0 s.heap.size)) ⟨B.exec, B.bytes, hml, rfl, rfl, findClass_of_methodNamed B.named, fun w h => hts w (List.mem_cons_of_mem _ h), hK, fun q h => Or.inr h, hT, hZ, hg, B.notSynchronized⟩ ⟨B.returns, rfl, rfl⟩ (List.eq_nil_iff_forall_not_mem.mpr hno)
  have hl := lv_entry as hlen
  rw [lg_entry_eq]
  exact K s.heap [] _ hP hD va_S.rf hl
theorem ctw_of {g : GX} {y : MethodName} {cc : ByteArray} {maxL : Nat} {ret : Option FieldType} {hh : List (Nat × Nat × Nat × Nat)} {rm : Room} {as : List Value} {ws0 : va_W} {Qk : Nat → Array Value → State → Outcome → State → Prop} (hg : g.1.stackTraces = false) (hy : plainName y.cls = true) (hlen : (lg_sl as).length ≤ maxL)
    (body : ∀ (sz : Nat) (C : CX), OK g C y.cls cc maxL rm → RT C ret (va_A ws0 sz) (Qk sz) rm.cells rm.slots → TAB C hh → ST g C ws0 (lv_args 0 as) [] 0 0 0) : CTW g y cc maxL ret hh rm as ws0 Qk := by
  obtain ⟨l, D, cI, cJ⟩ := g
  intro sz
  refine va_MetW (cc := cc) (maxL := maxL) (ret := ret) (hh := hh) hy rfl ?_
  intro p e s m args below meth c s₁ B hml hv
  obtain ⟨rfl, hsz, hP, hK, hD0, hT, hZ⟩ := hv
  subst hsz
  have hD := hD0.self (sz := s.heap.size)
  have hts := atoms_spec (ws := Cond.codeWith y cc maxL ret hh :: WALL) B.pre
  have K := body s.heap.size (p, e, rm, s, m, as.toArray, below, meth, c, va_A ws0 s.heap.size, maxL, MQ below (Qk s.heap.size) as.toArray s rm.cells rm.slots (va_A ws0 s.heap.size)) ⟨B.exec, B.bytes, hml, rfl, rfl, findClass_of_methodNamed B.named, fun w h => hts w (List.mem_cons_of_mem _ h), hK, fun q h => Or.inr h, hT, hZ, hg, B.notSynchronized⟩ ⟨B.returns, rfl, rfl⟩ (vx_table (x := y) B (hts _ List.mem_cons_self))
  have hl := lv_entry as hlen
  rw [lg_entry_eq]
  exact K s.heap [] _ hP hD va_S.rf hl
theorem sub_at {ws w : va_W} {is : List Nat} (hs : is.map (fun i => ws[i]?) = w.map some) {k : Nat} {q : Nat × va_E} (hq : w[k]? = some q) : ∃ i, is[k]? = some i ∧ ws[i]? = some q := by
  have h1 : (is.map (fun i => ws[i]?))[k]? = some (some q) := by rw [hs, List.getElem?_map, hq]; rfl
  rw [List.getElem?_map] at h1
  cases hi : is[k]? with
  | none => rw [hi] at h1; cases h1
  | some i => rw [hi] at h1; exact ⟨i, rfl, Option.some.inj h1⟩
theorem va_P.subm {D : va_G} {cl : List vw_C} {ws w : va_W} {H : Heap} (h : va_P D cl ws H) {is : List Nat} (hs : is.map (fun i => ws[i]?) = w.map some) : va_P D cl w H := fun k q hk => by
  obtain ⟨i, -, hi⟩ := sub_at hs hk
  exact h i q hi
section Rows9
variable {g : GX} {C : CX} {own : String} {cc : ByteArray} {nL : Nat} {R : Room} {ws : va_W} {lv : List (Nat × Value)} {rest : List Value} {pc k n : Nat}
theorem st_iconst (X : OK g C own cc nL R) {a : Int} {v : Int32} (hd : decode cc pc = .ok (.iconst a, 1)) (hv : Int32.ofInt a = v) (kk : ST g C ws lv (.int v :: rest) (pc + 1) k n) : ST g C ws lv (rest) pc k n := by
  obtain ⟨l, D, cI, cJ⟩ := g
  obtain ⟨p, e, R9, s, m, args, below, meth, c, A, nL9, Q⟩ := C
  obtain ⟨hx, hb, hml, rfl, rfl, hown, hts, hK, hA, hT, hZ, hst9, hlk⟩ := X
  intro H locs ls hP hD hS hl
  exact lv_iconst hx hb hd hv (kk H locs ls hP hD hS hl)
theorem st_bipush (X : OK g C own cc nL R) {a : Int} {v : Int32} (hd : decode cc pc = .ok (.bipush a, 2)) (hv : (Int8.ofInt a).toInt32 = v) (kk : ST g C ws lv (.int v :: rest) (pc + 2) k n) : ST g C ws lv (rest) pc k n := by
  obtain ⟨l, D, cI, cJ⟩ := g
  obtain ⟨p, e, R9, s, m, args, below, meth, c, A, nL9, Q⟩ := C
  obtain ⟨hx, hb, hml, rfl, rfl, hown, hts, hK, hA, hT, hZ, hst9, hlk⟩ := X
  intro H locs ls hP hD hS hl
  exact lv_bipush hx hb hd hv (kk H locs ls hP hD hS hl)
theorem st_sipush (X : OK g C own cc nL R) {a : Int} {v : Int32} (hd : decode cc pc = .ok (.sipush a, 3)) (hv : (Int16.ofInt a).toInt32 = v) (kk : ST g C ws lv (.int v :: rest) (pc + 3) k n) : ST g C ws lv (rest) pc k n := by
  obtain ⟨l, D, cI, cJ⟩ := g
  obtain ⟨p, e, R9, s, m, args, below, meth, c, A, nL9, Q⟩ := C
  obtain ⟨hx, hb, hml, rfl, rfl, hown, hts, hK, hA, hT, hZ, hst9, hlk⟩ := X
  intro H locs ls hP hD hS hl
  exact lv_sipush hx hb hd hv (kk H locs ls hP hD hS hl)
theorem st_lconst (X : OK g C own cc nL R) {a : Fin 2} {v : Int64} (hd : decode cc pc = .ok (.lconst a, 1)) (hv : Int64.ofNat (a : Nat) = v) (kk : ST g C ws lv (.long v :: rest) (pc + 1) k n) : ST g C ws lv (rest) pc k n := by
  obtain ⟨l, D, cI, cJ⟩ := g
  obtain ⟨p, e, R9, s, m, args, below, meth, c, A, nL9, Q⟩ := C
  obtain ⟨hx, hb, hml, rfl, rfl, hown, hts, hK, hA, hT, hZ, hst9, hlk⟩ := X
  intro H locs ls hP hD hS hl
  exact lv_lconst hx hb hd hv (kk H locs ls hP hD hS hl)
theorem st_ldc2 (X : OK g C own cc nL R) {ix : Nat} {v : Int64} (hw : Cond.constantLong own ix v ∈ WALL) (hd : decode cc pc = .ok (.ldc2_w ix, 3)) (kk : ST g C ws lv (.long v :: rest) (pc + 3) k n) : ST g C ws lv (rest) pc k n := by
  obtain ⟨l, D, cI, cJ⟩ := g
  obtain ⟨p, e, R9, s, m, args, below, meth, c, A, nL9, Q⟩ := C
  obtain ⟨hx, hb, hml, rfl, rfl, hown, hts, hK, hA, hT, hZ, hst9, hlk⟩ := X
  intro H locs ls hP hD hS hl
  exact lv_ldc2 hx hb hown (hts _ hw) hd (kk H locs ls hP hD hS hl)
theorem st_ldcw (X : OK g C own cc nL R) {ix : Nat} {v : Int32} (hw : Cond.constant own ix v ∈ WALL) (hd : decode cc pc = .ok (.ldc_w ix, 3)) (kk : ST g C ws lv (.int v :: rest) (pc + 3) k n) : ST g C ws lv (rest) pc k n := by
  obtain ⟨l, D, cI, cJ⟩ := g
  obtain ⟨p, e, R9, s, m, args, below, meth, c, A, nL9, Q⟩ := C
  obtain ⟨hx, hb, hml, rfl, rfl, hown, hts, hK, hA, hT, hZ, hst9, hlk⟩ := X
  intro H locs ls hP hD hS hl
  exact lv_ldcw hx hb hown (hts _ hw) hd (kk H locs ls hP hD hS hl)
theorem st_iload_n (X : OK g C own cc nL R) {a : Fin 4} {i : Nat} {x : Int32} (q : Nat) (hd : decode cc pc = .ok (.iload_n a, 1)) (hi : (a : Nat) = i) (hq : lv[q]? = some (i, .int x)) (kk : ST g C ws lv (.int x :: rest) (pc + 1) k n) : ST g C ws lv (rest) pc k n := by
  obtain ⟨l, D, cI, cJ⟩ := g
  obtain ⟨p, e, R9, s, m, args, below, meth, c, A, nL9, Q⟩ := C
  obtain ⟨hx, hb, hml, rfl, rfl, hown, hts, hK, hA, hT, hZ, hst9, hlk⟩ := X
  intro H locs ls hP hD hS hl
  exact lv_iload_n hx hb hd hi (lv_at hl q hq) (kk H locs ls hP hD hS hl)
theorem st_iload (X : OK g C own cc nL R) {i : Nat} {x : Int32} (q : Nat) (hd : decode cc pc = .ok (.iload i, 2)) (hq : lv[q]? = some (i, .int x)) (kk : ST g C ws lv (.int x :: rest) (pc + 2) k n) : ST g C ws lv (rest) pc k n := by
  obtain ⟨l, D, cI, cJ⟩ := g
  obtain ⟨p, e, R9, s, m, args, below, meth, c, A, nL9, Q⟩ := C
  obtain ⟨hx, hb, hml, rfl, rfl, hown, hts, hK, hA, hT, hZ, hst9, hlk⟩ := X
  intro H locs ls hP hD hS hl
  exact lv_iload hx hb hd (lv_at hl q hq) (kk H locs ls hP hD hS hl)
theorem st_istore_n (X : OK g C own cc nL R) {a : Fin 4} {i : Nat} {x : Int32} {lv2 : List (Nat × Value)} (hd : decode cc pc = .ok (.istore_n a, 1)) (hi : (a : Nat) = i) (hn : i < nL) (hl2 : (i, Value.int x) :: lv.filter (fun q => !(q.1 == i) && !(q.1 + 1 == i && q.2.category == 2)) = lv2) (kk : ST g C ws lv2 rest (pc + 1) k n) : ST g C ws lv (.int x :: rest) pc k n := by
  obtain ⟨l, D, cI, cJ⟩ := g
  obtain ⟨p, e, R9, s, m, args, below, meth, c, A, nL9, Q⟩ := C
  obtain ⟨hx, hb, hml, rfl, rfl, hown, hts, hK, hA, hT, hZ, hst9, hlk⟩ := X
  intro H locs ls hP hD hS hl
  exact lv_istore_n hx hb hd hi hl hn hl2 (fun ls9 hl9 => kk H locs ls9 hP hD hS hl9)
theorem st_istore (X : OK g C own cc nL R) {i : Nat} {x : Int32} {lv2 : List (Nat × Value)} (hd : decode cc pc = .ok (.istore i, 2)) (hn : i < nL) (hl2 : (i, Value.int x) :: lv.filter (fun q => !(q.1 == i) && !(q.1 + 1 == i && q.2.category == 2)) = lv2) (kk : ST g C ws lv2 rest (pc + 2) k n) : ST g C ws lv (.int x :: rest) pc k n := by
  obtain ⟨l, D, cI, cJ⟩ := g
  obtain ⟨p, e, R9, s, m, args, below, meth, c, A, nL9, Q⟩ := C
  obtain ⟨hx, hb, hml, rfl, rfl, hown, hts, hK, hA, hT, hZ, hst9, hlk⟩ := X
  intro H locs ls hP hD hS hl
  exact lv_istore hx hb hd hl hn hl2 (fun ls9 hl9 => kk H locs ls9 hP hD hS hl9)
theorem st_lload_n (X : OK g C own cc nL R) {a : Fin 4} {i : Nat} {x : Int64} (q : Nat) (hd : decode cc pc = .ok (.lload_n a, 1)) (hi : (a : Nat) = i) (hq : lv[q]? = some (i, .long x)) (kk : ST g C ws lv (.long x :: rest) (pc + 1) k n) : ST g C ws lv (rest) pc k n := by
  obtain ⟨l, D, cI, cJ⟩ := g
  obtain ⟨p, e, R9, s, m, args, below, meth, c, A, nL9, Q⟩ := C
  obtain ⟨hx, hb, hml, rfl, rfl, hown, hts, hK, hA, hT, hZ, hst9, hlk⟩ := X
  intro H locs ls hP hD hS hl
  exact lv_lload_n hx hb hd hi (lv_at hl q hq) (kk H locs ls hP hD hS hl)
theorem st_lload (X : OK g C own cc nL R) {i : Nat} {x : Int64} (q : Nat) (hd : decode cc pc = .ok (.lload i, 2)) (hq : lv[q]? = some (i, .long x)) (kk : ST g C ws lv (.long x :: rest) (pc + 2) k n) : ST g C ws lv (rest) pc k n := by
  obtain ⟨l, D, cI, cJ⟩ := g
  obtain ⟨p, e, R9, s, m, args, below, meth, c, A, nL9, Q⟩ := C
  obtain ⟨hx, hb, hml, rfl, rfl, hown, hts, hK, hA, hT, hZ, hst9, hlk⟩ := X
  intro H locs ls hP hD hS hl
  exact lv_lload hx hb hd (lv_at hl q hq) (kk H locs ls hP hD hS hl)
theorem st_lstore_n (X : OK g C own cc nL R) {a : Fin 4} {i : Nat} {x : Int64} {lv2 : List (Nat × Value)} (hd : decode cc pc = .ok (.lstore_n a, 1)) (hi : (a : Nat) = i) (hn : i + 1 < nL) (hl2 : (i, Value.long x) :: lv.filter (fun q => !(q.1 == i) && (!(q.1 == i + 1) && !(q.1 + 1 == i && q.2.category == 2))) = lv2) (kk : ST g C ws lv2 rest (pc + 1) k n) : ST g C ws lv (.long x :: rest) pc k n := by
  obtain ⟨l, D, cI, cJ⟩ := g
  obtain ⟨p, e, R9, s, m, args, below, meth, c, A, nL9, Q⟩ := C
  obtain ⟨hx, hb, hml, rfl, rfl, hown, hts, hK, hA, hT, hZ, hst9, hlk⟩ := X
  intro H locs ls hP hD hS hl
  exact lv_lstore_n hx hb hd hi hl hn hl2 (fun ls9 hl9 => kk H locs ls9 hP hD hS hl9)
theorem st_lstore (X : OK g C own cc nL R) {i : Nat} {x : Int64} {lv2 : List (Nat × Value)} (hd : decode cc pc = .ok (.lstore i, 2)) (hn : i + 1 < nL) (hl2 : (i, Value.long x) :: lv.filter (fun q => !(q.1 == i) && (!(q.1 == i + 1) && !(q.1 + 1 == i && q.2.category == 2))) = lv2) (kk : ST g C ws lv2 rest (pc + 2) k n) : ST g C ws lv (.long x :: rest) pc k n := by
  obtain ⟨l, D, cI, cJ⟩ := g
  obtain ⟨p, e, R9, s, m, args, below, meth, c, A, nL9, Q⟩ := C
  obtain ⟨hx, hb, hml, rfl, rfl, hown, hts, hK, hA, hT, hZ, hst9, hlk⟩ := X
  intro H locs ls hP hD hS hl
  exact lv_lstore hx hb hd hl hn hl2 (fun ls9 hl9 => kk H locs ls9 hP hD hS hl9)
theorem st_aload_n (X : OK g C own cc nL R) {a : Fin 4} {i : Nat} {x : Nat} (q : Nat) (hd : decode cc pc = .ok (.aload_n a, 1)) (hi : (a : Nat) = i) (hq : lv[q]? = some (i, .ref x)) (kk : ST g C ws lv (.ref x :: rest) (pc + 1) k n) : ST g C ws lv (rest) pc k n := by
  obtain ⟨l, D, cI, cJ⟩ := g
  obtain ⟨p, e, R9, s, m, args, below, meth, c, A, nL9, Q⟩ := C
  obtain ⟨hx, hb, hml, rfl, rfl, hown, hts, hK, hA, hT, hZ, hst9, hlk⟩ := X
  intro H locs ls hP hD hS hl
  exact lv_aload_n hx hb hd hi (lv_at hl q hq) (kk H locs ls hP hD hS hl)
theorem st_aload (X : OK g C own cc nL R) {i : Nat} {x : Nat} (q : Nat) (hd : decode cc pc = .ok (.aload i, 2)) (hq : lv[q]? = some (i, .ref x)) (kk : ST g C ws lv (.ref x :: rest) (pc + 2) k n) : ST g C ws lv (rest) pc k n := by
  obtain ⟨l, D, cI, cJ⟩ := g
  obtain ⟨p, e, R9, s, m, args, below, meth, c, A, nL9, Q⟩ := C
  obtain ⟨hx, hb, hml, rfl, rfl, hown, hts, hK, hA, hT, hZ, hst9, hlk⟩ := X
  intro H locs ls hP hD hS hl
  exact lv_aload hx hb hd (lv_at hl q hq) (kk H locs ls hP hD hS hl)
theorem st_astore_n (X : OK g C own cc nL R) {a : Fin 4} {i : Nat} {x : Nat} {lv2 : List (Nat × Value)} (hd : decode cc pc = .ok (.astore_n a, 1)) (hi : (a : Nat) = i) (hn : i < nL) (hl2 : (i, Value.ref x) :: lv.filter (fun q => !(q.1 == i) && !(q.1 + 1 == i && q.2.category == 2)) = lv2) (kk : ST g C ws lv2 rest (pc + 1) k n) : ST g C ws lv (.ref x :: rest) pc k n := by
  obtain ⟨l, D, cI, cJ⟩ := g
  obtain ⟨p, e, R9, s, m, args, below, meth, c, A, nL9, Q⟩ := C
  obtain ⟨hx, hb, hml, rfl, rfl, hown, hts, hK, hA, hT, hZ, hst9, hlk⟩ := X
  intro H locs ls hP hD hS hl
  exact lv_astore_n hx hb hd hi hl hn hl2 (fun ls9 hl9 => kk H locs ls9 hP hD hS hl9)
theorem st_astore (X : OK g C own cc nL R) {i : Nat} {x : Nat} {lv2 : List (Nat × Value)} (hd : decode cc pc = .ok (.astore i, 2)) (hn : i < nL) (hl2 : (i, Value.ref x) :: lv.filter (fun q => !(q.1 == i) && !(q.1 + 1 == i && q.2.category == 2)) = lv2) (kk : ST g C ws lv2 rest (pc + 2) k n) : ST g C ws lv (.ref x :: rest) pc k n := by
  obtain ⟨l, D, cI, cJ⟩ := g
  obtain ⟨p, e, R9, s, m, args, below, meth, c, A, nL9, Q⟩ := C
  obtain ⟨hx, hb, hml, rfl, rfl, hown, hts, hK, hA, hT, hZ, hst9, hlk⟩ := X
  intro H locs ls hP hD hS hl
  exact lv_astore hx hb hd hl hn hl2 (fun ls9 hl9 => kk H locs ls9 hP hD hS hl9)
theorem st_iinc (X : OK g C own cc nL R) {i : Nat} {a : Int} {x v : Int32} {lv2 : List (Nat × Value)} (q : Nat) (hd : decode cc pc = .ok (.iinc i a, 3)) (hq : lv[q]? = some (i, .int x)) (hv : x + Int32.ofInt a = v) (hn : i < nL) (hl2 : (i, Value.int v) :: lv.filter (fun q => !(q.1 == i) && !(q.1 + 1 == i && q.2.category == 2)) = lv2) (kk : ST g C ws lv2 rest (pc + 3) k n) : ST g C ws lv rest pc k n := by
  obtain ⟨l, D, cI, cJ⟩ := g
  obtain ⟨p, e, R9, s, m, args, below, meth, c, A, nL9, Q⟩ := C
  obtain ⟨hx, hb, hml, rfl, rfl, hown, hts, hK, hA, hT, hZ, hst9, hlk⟩ := X
  intro H locs ls hP hD hS hl
  exact lv_iinc hx hb hd hl hq hv hn hl2 (fun ls9 hl9 => kk H locs ls9 hP hD hS hl9)
theorem st_iadd (X : OK g C own cc nL R) {x y : Int32} (hd : decode cc pc = .ok (.iadd, 1)) (kk : ST g C ws lv (.int (x + y) :: rest) (pc + 1) k n) : ST g C ws lv (.int y :: .int x :: rest) pc k n := by
  obtain ⟨l, D, cI, cJ⟩ := g
  obtain ⟨p, e, R9, s, m, args, below, meth, c, A, nL9, Q⟩ := C
  obtain ⟨hx, hb, hml, rfl, rfl, hown, hts, hK, hA, hT, hZ, hst9, hlk⟩ := X
  intro H locs ls hP hD hS hl
  exact lv_iadd hx hb hd (kk H locs ls hP hD hS hl)
theorem st_isub (X : OK g C own cc nL R) {x y : Int32} (hd : decode cc pc = .ok (.isub, 1)) (kk : ST g C ws lv (.int (x - y) :: rest) (pc + 1) k n) : ST g C ws lv (.int y :: .int x :: rest) pc k n := by
  obtain ⟨l, D, cI, cJ⟩ := g
  obtain ⟨p, e, R9, s, m, args, below, meth, c, A, nL9, Q⟩ := C
  obtain ⟨hx, hb, hml, rfl, rfl, hown, hts, hK, hA, hT, hZ, hst9, hlk⟩ := X
  intro H locs ls hP hD hS hl
  exact lv_isub hx hb hd (kk H locs ls hP hD hS hl)
theorem st_imul (X : OK g C own cc nL R) {x y : Int32} (hd : decode cc pc = .ok (.imul, 1)) (kk : ST g C ws lv (.int (x * y) :: rest) (pc + 1) k n) : ST g C ws lv (.int y :: .int x :: rest) pc k n := by
  obtain ⟨l, D, cI, cJ⟩ := g
  obtain ⟨p, e, R9, s, m, args, below, meth, c, A, nL9, Q⟩ := C
  obtain ⟨hx, hb, hml, rfl, rfl, hown, hts, hK, hA, hT, hZ, hst9, hlk⟩ := X
  intro H locs ls hP hD hS hl
  exact lv_imul hx hb hd (kk H locs ls hP hD hS hl)
theorem st_iand (X : OK g C own cc nL R) {x y : Int32} (hd : decode cc pc = .ok (.iand, 1)) (kk : ST g C ws lv (.int (x &&& y) :: rest) (pc + 1) k n) : ST g C ws lv (.int y :: .int x :: rest) pc k n := by
  obtain ⟨l, D, cI, cJ⟩ := g
  obtain ⟨p, e, R9, s, m, args, below, meth, c, A, nL9, Q⟩ := C
  obtain ⟨hx, hb, hml, rfl, rfl, hown, hts, hK, hA, hT, hZ, hst9, hlk⟩ := X
  intro H locs ls hP hD hS hl
  exact lv_iand hx hb hd (kk H locs ls hP hD hS hl)
theorem st_ior (X : OK g C own cc nL R) {x y : Int32} (hd : decode cc pc = .ok (.ior, 1)) (kk : ST g C ws lv (.int (x ||| y) :: rest) (pc + 1) k n) : ST g C ws lv (.int y :: .int x :: rest) pc k n := by
  obtain ⟨l, D, cI, cJ⟩ := g
  obtain ⟨p, e, R9, s, m, args, below, meth, c, A, nL9, Q⟩ := C
  obtain ⟨hx, hb, hml, rfl, rfl, hown, hts, hK, hA, hT, hZ, hst9, hlk⟩ := X
  intro H locs ls hP hD hS hl
  exact lv_ior hx hb hd (kk H locs ls hP hD hS hl)
theorem st_ishl (X : OK g C own cc nL R) {x y : Int32} (hd : decode cc pc = .ok (.ishl, 1)) (kk : ST g C ws lv (.int (x <<< (y &&& 31)) :: rest) (pc + 1) k n) : ST g C ws lv (.int y :: .int x :: rest) pc k n := by
  obtain ⟨l, D, cI, cJ⟩ := g
  obtain ⟨p, e, R9, s, m, args, below, meth, c, A, nL9, Q⟩ := C
  obtain ⟨hx, hb, hml, rfl, rfl, hown, hts, hK, hA, hT, hZ, hst9, hlk⟩ := X
  intro H locs ls hP hD hS hl
  exact lv_ishl hx hb hd (kk H locs ls hP hD hS hl)
theorem st_ishr (X : OK g C own cc nL R) {x y : Int32} (hd : decode cc pc = .ok (.ishr, 1)) (kk : ST g C ws lv (.int (x >>> (y &&& 31)) :: rest) (pc + 1) k n) : ST g C ws lv (.int y :: .int x :: rest) pc k n := by
  obtain ⟨l, D, cI, cJ⟩ := g
  obtain ⟨p, e, R9, s, m, args, below, meth, c, A, nL9, Q⟩ := C
  obtain ⟨hx, hb, hml, rfl, rfl, hown, hts, hK, hA, hT, hZ, hst9, hlk⟩ := X
  intro H locs ls hP hD hS hl
  exact lv_ishr hx hb hd (kk H locs ls hP hD hS hl)
theorem st_iushr (X : OK g C own cc nL R) {x y : Int32} (hd : decode cc pc = .ok (.iushr, 1)) (kk : ST g C ws lv (.int ((x.toUInt32 >>> (y.toUInt32 &&& Int32.toUInt32 31)).toInt32) :: rest) (pc + 1) k n) : ST g C ws lv (.int y :: .int x :: rest) pc k n := by
  obtain ⟨l, D, cI, cJ⟩ := g
  obtain ⟨p, e, R9, s, m, args, below, meth, c, A, nL9, Q⟩ := C
  obtain ⟨hx, hb, hml, rfl, rfl, hown, hts, hK, hA, hT, hZ, hst9, hlk⟩ := X
  intro H locs ls hP hD hS hl
  exact lv_iushr hx hb hd rfl (kk H locs ls hP hD hS hl)
theorem st_ladd (X : OK g C own cc nL R) {x y : Int64} (hd : decode cc pc = .ok (.ladd, 1)) (kk : ST g C ws lv (.long (x + y) :: rest) (pc + 1) k n) : ST g C ws lv (.long y :: .long x :: rest) pc k n := by
  obtain ⟨l, D, cI, cJ⟩ := g
  obtain ⟨p, e, R9, s, m, args, below, meth, c, A, nL9, Q⟩ := C
  obtain ⟨hx, hb, hml, rfl, rfl, hown, hts, hK, hA, hT, hZ, hst9, hlk⟩ := X
  intro H locs ls hP hD hS hl
  exact lv_ladd hx hb hd (kk H locs ls hP hD hS hl)
theorem st_lsub (X : OK g C own cc nL R) {x y : Int64} (hd : decode cc pc = .ok (.lsub, 1)) (kk : ST g C ws lv (.long (x - y) :: rest) (pc + 1) k n) : ST g C ws lv (.long y :: .long x :: rest) pc k n := by
  obtain ⟨l, D, cI, cJ⟩ := g
  obtain ⟨p, e, R9, s, m, args, below, meth, c, A, nL9, Q⟩ := C
  obtain ⟨hx, hb, hml, rfl, rfl, hown, hts, hK, hA, hT, hZ, hst9, hlk⟩ := X
  intro H locs ls hP hD hS hl
  exact lv_lsub hx hb hd (kk H locs ls hP hD hS hl)
theorem st_lmul (X : OK g C own cc nL R) {x y : Int64} (hd : decode cc pc = .ok (.lmul, 1)) (kk : ST g C ws lv (.long (x * y) :: rest) (pc + 1) k n) : ST g C ws lv (.long y :: .long x :: rest) pc k n := by
  obtain ⟨l, D, cI, cJ⟩ := g
  obtain ⟨p, e, R9, s, m, args, below, meth, c, A, nL9, Q⟩ := C
  obtain ⟨hx, hb, hml, rfl, rfl, hown, hts, hK, hA, hT, hZ, hst9, hlk⟩ := X
  intro H locs ls hP hD hS hl
  exact lv_lmul hx hb hd (kk H locs ls hP hD hS hl)
theorem st_land (X : OK g C own cc nL R) {x y : Int64} (hd : decode cc pc = .ok (.land, 1)) (kk : ST g C ws lv (.long (x &&& y) :: rest) (pc + 1) k n) : ST g C ws lv (.long y :: .long x :: rest) pc k n := by
  obtain ⟨l, D, cI, cJ⟩ := g
  obtain ⟨p, e, R9, s, m, args, below, meth, c, A, nL9, Q⟩ := C
  obtain ⟨hx, hb, hml, rfl, rfl, hown, hts, hK, hA, hT, hZ, hst9, hlk⟩ := X
  intro H locs ls hP hD hS hl
  exact lv_land hx hb hd (kk H locs ls hP hD hS hl)
theorem st_lor (X : OK g C own cc nL R) {x y : Int64} (hd : decode cc pc = .ok (.lor, 1)) (kk : ST g C ws lv (.long (x ||| y) :: rest) (pc + 1) k n) : ST g C ws lv (.long y :: .long x :: rest) pc k n := by
  obtain ⟨l, D, cI, cJ⟩ := g
  obtain ⟨p, e, R9, s, m, args, below, meth, c, A, nL9, Q⟩ := C
  obtain ⟨hx, hb, hml, rfl, rfl, hown, hts, hK, hA, hT, hZ, hst9, hlk⟩ := X
  intro H locs ls hP hD hS hl
  exact lv_lor hx hb hd (kk H locs ls hP hD hS hl)
theorem st_ldiv (X : OK g C own cc nL R) {x y : Int64} (hd : decode cc pc = .ok (.ldiv, 1)) (hne : ¬ y = 0) (kk : ST g C ws lv (.long (x / y) :: rest) (pc + 1) k n) : ST g C ws lv (.long y :: .long x :: rest) pc k n := by
  obtain ⟨l, D, cI, cJ⟩ := g
  obtain ⟨p, e, R9, s, m, args, below, meth, c, A, nL9, Q⟩ := C
  obtain ⟨hx, hb, hml, rfl, rfl, hown, hts, hK, hA, hT, hZ, hst9, hlk⟩ := X
  intro H locs ls hP hD hS hl
  exact lv_ldiv hx hb hd hne (kk H locs ls hP hD hS hl)
theorem st_lrem (X : OK g C own cc nL R) {x y : Int64} (hd : decode cc pc = .ok (.lrem, 1)) (hne : ¬ y = 0) (kk : ST g C ws lv (.long (x - x / y * y) :: rest) (pc + 1) k n) : ST g C ws lv (.long y :: .long x :: rest) pc k n := by
  obtain ⟨l, D, cI, cJ⟩ := g
  obtain ⟨p, e, R9, s, m, args, below, meth, c, A, nL9, Q⟩ := C
  obtain ⟨hx, hb, hml, rfl, rfl, hown, hts, hK, hA, hT, hZ, hst9, hlk⟩ := X
  intro H locs ls hP hD hS hl
  exact lv_lrem hx hb hd hne (kk H locs ls hP hD hS hl)
theorem st_lshl (X : OK g C own cc nL R) {x : Int64} {y : Int32} (hd : decode cc pc = .ok (.lshl, 1)) (kk : ST g C ws lv (.long (x <<< (y.toInt64 &&& 63)) :: rest) (pc + 1) k n) : ST g C ws lv (.int y :: .long x :: rest) pc k n := by
  obtain ⟨l, D, cI, cJ⟩ := g
  obtain ⟨p, e, R9, s, m, args, below, meth, c, A, nL9, Q⟩ := C
  obtain ⟨hx, hb, hml, rfl, rfl, hown, hts, hK, hA, hT, hZ, hst9, hlk⟩ := X
  intro H locs ls hP hD hS hl
  exact lv_lshl hx hb hd rfl (kk H locs ls hP hD hS hl)
theorem st_i2l (X : OK g C own cc nL R) {x : Int32} (hd : decode cc pc = .ok (.i2l, 1)) (kk : ST g C ws lv (.long x.toInt64 :: rest) (pc + 1) k n) : ST g C ws lv (.int x :: rest) pc k n := by
  obtain ⟨l, D, cI, cJ⟩ := g
  obtain ⟨p, e, R9, s, m, args, below, meth, c, A, nL9, Q⟩ := C
  obtain ⟨hx, hb, hml, rfl, rfl, hown, hts, hK, hA, hT, hZ, hst9, hlk⟩ := X
  intro H locs ls hP hD hS hl
  exact lv_i2l hx hb hd rfl (kk H locs ls hP hD hS hl)
theorem st_l2i (X : OK g C own cc nL R) {x : Int64} (hd : decode cc pc = .ok (.l2i, 1)) (kk : ST g C ws lv (.int x.toInt32 :: rest) (pc + 1) k n) : ST g C ws lv (.long x :: rest) pc k n := by
  obtain ⟨l, D, cI, cJ⟩ := g
  obtain ⟨p, e, R9, s, m, args, below, meth, c, A, nL9, Q⟩ := C
  obtain ⟨hx, hb, hml, rfl, rfl, hown, hts, hK, hA, hT, hZ, hst9, hlk⟩ := X
  intro H locs ls hP hD hS hl
  exact lv_l2i hx hb hd rfl (kk H locs ls hP hD hS hl)
theorem st_dup (X : OK g C own cc nL R) {v : Value} (hd : decode cc pc = .ok (.dup, 1)) (hv : v.category = 1) (kk : ST g C ws lv (v :: v :: rest) (pc + 1) k n) : ST g C ws lv (v :: rest) pc k n := by
  obtain ⟨l, D, cI, cJ⟩ := g
  obtain ⟨p, e, R9, s, m, args, below, meth, c, A, nL9, Q⟩ := C
  obtain ⟨hx, hb, hml, rfl, rfl, hown, hts, hK, hA, hT, hZ, hst9, hlk⟩ := X
  intro H locs ls hP hD hS hl
  exact lv_dup hx hb hd hv (kk H locs ls hP hD hS hl)
theorem st_dup2_11 (X : OK g C own cc nL R) {v w : Value} (hd : decode cc pc = .ok (.dup2, 1)) (hv : v.category = 1) (hw : w.category = 1) (kk : ST g C ws lv (v :: w :: v :: w :: rest) (pc + 1) k n) : ST g C ws lv (v :: w :: rest) pc k n := by
  obtain ⟨l, D, cI, cJ⟩ := g
  obtain ⟨p, e, R9, s, m, args, below, meth, c, A, nL9, Q⟩ := C
  obtain ⟨hx, hb, hml, rfl, rfl, hown, hts, hK, hA, hT, hZ, hst9, hlk⟩ := X
  intro H locs ls hP hD hS hl
  exact lv_dup2_11 hx hb hd hv hw (kk H locs ls hP hD hS hl)
theorem st_if_eq (X : OK g C own cc nL R) {x : Int32} {off : Int} (tgt : Nat) (hd : decode cc pc = .ok (.ifCond .eq off, 3)) (ht : (pc : Int) + off = (tgt : Int)) (kt : x = 0 → ST g C ws lv rest tgt k n) (kf : ¬ x = 0 → ST g C ws lv rest (pc + 3) k n) : ST g C ws lv (.int x :: rest) pc k n := by
  obtain ⟨l, D, cI, cJ⟩ := g
  obtain ⟨p, e, R9, s, m, args, below, meth, c, A, nL9, Q⟩ := C
  obtain ⟨hx, hb, hml, rfl, rfl, hown, hts, hK, hA, hT, hZ, hst9, hlk⟩ := X
  intro H locs ls hP hD hS hl
  exact lv_if_eq hx hb hd ht (fun q => kt q H locs ls hP hD hS hl) (fun q => kf q H locs ls hP hD hS hl)
theorem st_icmp_eq (X : OK g C own cc nL R) {x y : Int32} {off : Int} (tgt : Nat) (hd : decode cc pc = .ok (.if_icmp .eq off, 3)) (ht : (pc : Int) + off = (tgt : Int)) (kt : x = y → ST g C ws lv rest tgt k n) (kf : ¬ x = y → ST g C ws lv rest (pc + 3) k n) : ST g C ws lv (.int y :: .int x :: rest) pc k n := by
  obtain ⟨l, D, cI, cJ⟩ := g
  obtain ⟨p, e, R9, s, m, args, below, meth, c, A, nL9, Q⟩ := C
  obtain ⟨hx, hb, hml, rfl, rfl, hown, hts, hK, hA, hT, hZ, hst9, hlk⟩ := X
  intro H locs ls hP hD hS hl
  exact lv_icmp_eq hx hb hd ht (fun q => kt q H locs ls hP hD hS hl) (fun q => kf q H locs ls hP hD hS hl)
theorem st_if_ne (X : OK g C own cc nL R) {x : Int32} {off : Int} (tgt : Nat) (hd : decode cc pc = .ok (.ifCond .ne off, 3)) (ht : (pc : Int) + off = (tgt : Int)) (kt : ¬ x = 0 → ST g C ws lv rest tgt k n) (kf : x = 0 → ST g C ws lv rest (pc + 3) k n) : ST g C ws lv (.int x :: rest) pc k n := by
  obtain ⟨l, D, cI, cJ⟩ := g
  obtain ⟨p, e, R9, s, m, args, below, meth, c, A, nL9, Q⟩ := C
  obtain ⟨hx, hb, hml, rfl, rfl, hown, hts, hK, hA, hT, hZ, hst9, hlk⟩ := X
  intro H locs ls hP hD hS hl
  exact lv_if_ne hx hb hd ht (fun q => kt q H locs ls hP hD hS hl) (fun q => kf q H locs ls hP hD hS hl)
theorem st_icmp_ne (X : OK g C own cc nL R) {x y : Int32} {off : Int} (tgt : Nat) (hd : decode cc pc = .ok (.if_icmp .ne off, 3)) (ht : (pc : Int) + off = (tgt : Int)) (kt : ¬ x = y → ST g C ws lv rest tgt k n) (kf : x = y → ST g C ws lv rest (pc + 3) k n) : ST g C ws lv (.int y :: .int x :: rest) pc k n := by
  obtain ⟨l, D, cI, cJ⟩ := g
  obtain ⟨p, e, R9, s, m, args, below, meth, c, A, nL9, Q⟩ := C
  obtain ⟨hx, hb, hml, rfl, rfl, hown, hts, hK, hA, hT, hZ, hst9, hlk⟩ := X
  intro H locs ls hP hD hS hl
  exact lv_icmp_ne hx hb hd ht (fun q => kt q H locs ls hP hD hS hl) (fun q => kf q H locs ls hP hD hS hl)
theorem st_if_lt (X : OK g C own cc nL R) {x : Int32} {off : Int} (tgt : Nat) (hd : decode cc pc = .ok (.ifCond .lt off, 3)) (ht : (pc : Int) + off = (tgt : Int)) (kt : x < 0 → ST g C ws lv rest tgt k n) (kf : ¬ x < 0 → ST g C ws lv rest (pc + 3) k n) : ST g C ws lv (.int x :: rest) pc k n := by
  obtain ⟨l, D, cI, cJ⟩ := g
  obtain ⟨p, e, R9, s, m, args, below, meth, c, A, nL9, Q⟩ := C
  obtain ⟨hx, hb, hml, rfl, rfl, hown, hts, hK, hA, hT, hZ, hst9, hlk⟩ := X
  intro H locs ls hP hD hS hl
  exact lv_if_lt hx hb hd ht (fun q => kt q H locs ls hP hD hS hl) (fun q => kf q H locs ls hP hD hS hl)
theorem st_icmp_lt (X : OK g C own cc nL R) {x y : Int32} {off : Int} (tgt : Nat) (hd : decode cc pc = .ok (.if_icmp .lt off, 3)) (ht : (pc : Int) + off = (tgt : Int)) (kt : x < y → ST g C ws lv rest tgt k n) (kf : ¬ x < y → ST g C ws lv rest (pc + 3) k n) : ST g C ws lv (.int y :: .int x :: rest) pc k n := by
  obtain ⟨l, D, cI, cJ⟩ := g
  obtain ⟨p, e, R9, s, m, args, below, meth, c, A, nL9, Q⟩ := C
  obtain ⟨hx, hb, hml, rfl, rfl, hown, hts, hK, hA, hT, hZ, hst9, hlk⟩ := X
  intro H locs ls hP hD hS hl
  exact lv_icmp_lt hx hb hd ht (fun q => kt q H locs ls hP hD hS hl) (fun q => kf q H locs ls hP hD hS hl)
theorem st_if_ge (X : OK g C own cc nL R) {x : Int32} {off : Int} (tgt : Nat) (hd : decode cc pc = .ok (.ifCond .ge off, 3)) (ht : (pc : Int) + off = (tgt : Int)) (kt : 0 ≤ x → ST g C ws lv rest tgt k n) (kf : ¬ 0 ≤ x → ST g C ws lv rest (pc + 3) k n) : ST g C ws lv (.int x :: rest) pc k n := by
  obtain ⟨l, D, cI, cJ⟩ := g
  obtain ⟨p, e, R9, s, m, args, below, meth, c, A, nL9, Q⟩ := C
  obtain ⟨hx, hb, hml, rfl, rfl, hown, hts, hK, hA, hT, hZ, hst9, hlk⟩ := X
  intro H locs ls hP hD hS hl
  exact lv_if_ge hx hb hd ht (fun q => kt q H locs ls hP hD hS hl) (fun q => kf q H locs ls hP hD hS hl)
theorem st_icmp_ge (X : OK g C own cc nL R) {x y : Int32} {off : Int} (tgt : Nat) (hd : decode cc pc = .ok (.if_icmp .ge off, 3)) (ht : (pc : Int) + off = (tgt : Int)) (kt : y ≤ x → ST g C ws lv rest tgt k n) (kf : ¬ y ≤ x → ST g C ws lv rest (pc + 3) k n) : ST g C ws lv (.int y :: .int x :: rest) pc k n := by
  obtain ⟨l, D, cI, cJ⟩ := g
  obtain ⟨p, e, R9, s, m, args, below, meth, c, A, nL9, Q⟩ := C
  obtain ⟨hx, hb, hml, rfl, rfl, hown, hts, hK, hA, hT, hZ, hst9, hlk⟩ := X
  intro H locs ls hP hD hS hl
  exact lv_icmp_ge hx hb hd ht (fun q => kt q H locs ls hP hD hS hl) (fun q => kf q H locs ls hP hD hS hl)
theorem st_if_gt (X : OK g C own cc nL R) {x : Int32} {off : Int} (tgt : Nat) (hd : decode cc pc = .ok (.ifCond .gt off, 3)) (ht : (pc : Int) + off = (tgt : Int)) (kt : 0 < x → ST g C ws lv rest tgt k n) (kf : ¬ 0 < x → ST g C ws lv rest (pc + 3) k n) : ST g C ws lv (.int x :: rest) pc k n := by
  obtain ⟨l, D, cI, cJ⟩ := g
  obtain ⟨p, e, R9, s, m, args, below, meth, c, A, nL9, Q⟩ := C
  obtain ⟨hx, hb, hml, rfl, rfl, hown, hts, hK, hA, hT, hZ, hst9, hlk⟩ := X
  intro H locs ls hP hD hS hl
  exact lv_if_gt hx hb hd ht (fun q => kt q H locs ls hP hD hS hl) (fun q => kf q H locs ls hP hD hS hl)
theorem st_icmp_gt (X : OK g C own cc nL R) {x y : Int32} {off : Int} (tgt : Nat) (hd : decode cc pc = .ok (.if_icmp .gt off, 3)) (ht : (pc : Int) + off = (tgt : Int)) (kt : y < x → ST g C ws lv rest tgt k n) (kf : ¬ y < x → ST g C ws lv rest (pc + 3) k n) : ST g C ws lv (.int y :: .int x :: rest) pc k n := by
  obtain ⟨l, D, cI, cJ⟩ := g
  obtain ⟨p, e, R9, s, m, args, below, meth, c, A, nL9, Q⟩ := C
  obtain ⟨hx, hb, hml, rfl, rfl, hown, hts, hK, hA, hT, hZ, hst9, hlk⟩ := X
  intro H locs ls hP hD hS hl
  exact lv_icmp_gt hx hb hd ht (fun q => kt q H locs ls hP hD hS hl) (fun q => kf q H locs ls hP hD hS hl)
theorem st_if_le (X : OK g C own cc nL R) {x : Int32} {off : Int} (tgt : Nat) (hd : decode cc pc = .ok (.ifCond .le off, 3)) (ht : (pc : Int) + off = (tgt : Int)) (kt : x ≤ 0 → ST g C ws lv rest tgt k n) (kf : ¬ x ≤ 0 → ST g C ws lv rest (pc + 3) k n) : ST g C ws lv (.int x :: rest) pc k n := by
  obtain ⟨l, D, cI, cJ⟩ := g
  obtain ⟨p, e, R9, s, m, args, below, meth, c, A, nL9, Q⟩ := C
  obtain ⟨hx, hb, hml, rfl, rfl, hown, hts, hK, hA, hT, hZ, hst9, hlk⟩ := X
  intro H locs ls hP hD hS hl
  exact lv_if_le hx hb hd ht (fun q => kt q H locs ls hP hD hS hl) (fun q => kf q H locs ls hP hD hS hl)
theorem st_icmp_le (X : OK g C own cc nL R) {x y : Int32} {off : Int} (tgt : Nat) (hd : decode cc pc = .ok (.if_icmp .le off, 3)) (ht : (pc : Int) + off = (tgt : Int)) (kt : x ≤ y → ST g C ws lv rest tgt k n) (kf : ¬ x ≤ y → ST g C ws lv rest (pc + 3) k n) : ST g C ws lv (.int y :: .int x :: rest) pc k n := by
  obtain ⟨l, D, cI, cJ⟩ := g
  obtain ⟨p, e, R9, s, m, args, below, meth, c, A, nL9, Q⟩ := C
  obtain ⟨hx, hb, hml, rfl, rfl, hown, hts, hK, hA, hT, hZ, hst9, hlk⟩ := X
  intro H locs ls hP hD hS hl
  exact lv_icmp_le hx hb hd ht (fun q => kt q H locs ls hP hD hS hl) (fun q => kf q H locs ls hP hD hS hl)
theorem lg_c_lt (x y : Int64) : (lg_cmp x y < 0) ↔ x < y := by
  unfold lg_cmp
  simp only [gt_iff_lt, Int64.lt_iff_toInt_lt, ← Int64.toInt_inj]
  repeat' split
  all_goals simp
  all_goals omega
theorem lg_c_eq (x y : Int64) : (lg_cmp x y = 0) ↔ x = y := by
  unfold lg_cmp
  simp only [gt_iff_lt, Int64.lt_iff_toInt_lt, ← Int64.toInt_inj]
  repeat' split
  all_goals simp
  all_goals omega
theorem st_lcmp_eq (X : OK g C own cc nL R) {x y : Int64} {off : Int} (tgt : Nat) (hd0 : decode cc pc = .ok (.lcmp, 1)) (hd : decode cc (pc + 1) = .ok (.ifCond .eq off, 3)) (ht : ((pc + 1 : Nat) : Int) + off = (tgt : Int)) (kt : x = y → ST g C ws lv rest tgt k n) (kf : ¬ x = y → ST g C ws lv rest (pc + 4) k n) : ST g C ws lv (.long y :: .long x :: rest) pc k n := by
  obtain ⟨l, D, cI, cJ⟩ := g
  obtain ⟨p, e, R9, s, m, args, below, meth, c, A, nL9, Q⟩ := C
  obtain ⟨hx, hb, hml, rfl, rfl, hown, hts, hK, hA, hT, hZ, hst9, hlk⟩ := X
  intro H locs ls hP hD hS hl
  exact W.lcmp hx hb hd0 (lv_if_eq hx hb hd ht (fun q => kt ((lg_c_eq x y).mp q) H locs ls hP hD hS hl) (fun q => kf (fun z => q ((lg_c_eq x y).mpr z)) H locs ls hP hD hS hl))
theorem st_lcmp_ne (X : OK g C own cc nL R) {x y : Int64} {off : Int} (tgt : Nat) (hd0 : decode cc pc = .ok (.lcmp, 1)) (hd : decode cc (pc + 1) = .ok (.ifCond .ne off, 3)) (ht : ((pc + 1 : Nat) : Int) + off = (tgt : Int)) (kt : ¬ x = y → ST g C ws lv rest tgt k n) (kf : x = y → ST g C ws lv rest (pc + 4) k n) : ST g C ws lv (.long y :: .long x :: rest) pc k n := by
  obtain ⟨l, D, cI, cJ⟩ := g
  obtain ⟨p, e, R9, s, m, args, below, meth, c, A, nL9, Q⟩ := C
  obtain ⟨hx, hb, hml, rfl, rfl, hown, hts, hK, hA, hT, hZ, hst9, hlk⟩ := X
  intro H locs ls hP hD hS hl
  exact W.lcmp hx hb hd0 (lv_if_ne hx hb hd ht (fun q => kt (fun z => q ((lg_c_eq x y).mpr z)) H locs ls hP hD hS hl) (fun q => kf ((lg_c_eq x y).mp q) H locs ls hP hD hS hl))
theorem st_lcmp_lt (X : OK g C own cc nL R) {x y : Int64} {off : Int} (tgt : Nat) (hd0 : decode cc pc = .ok (.lcmp, 1)) (hd : decode cc (pc + 1) = .ok (.ifCond .lt off, 3)) (ht : ((pc + 1 : Nat) : Int) + off = (tgt : Int)) (kt : x < y → ST g C ws lv rest tgt k n) (kf : ¬ x < y → ST g C ws lv rest (pc + 4) k n) : ST g C ws lv (.long y :: .long x :: rest) pc k n := by
  obtain ⟨l, D, cI, cJ⟩ := g
  obtain ⟨p, e, R9, s, m, args, below, meth, c, A, nL9, Q⟩ := C
  obtain ⟨hx, hb, hml, rfl, rfl, hown, hts, hK, hA, hT, hZ, hst9, hlk⟩ := X
  intro H locs ls hP hD hS hl
  exact W.lcmp hx hb hd0 (lv_if_lt hx hb hd ht (fun q => kt ((lg_c_lt x y).mp q) H locs ls hP hD hS hl) (fun q => kf (fun z => q ((lg_c_lt x y).mpr z)) H locs ls hP hD hS hl))
theorem st_lcmp_ge (X : OK g C own cc nL R) {x y : Int64} {off : Int} (tgt : Nat) (hd0 : decode cc pc = .ok (.lcmp, 1)) (hd : decode cc (pc + 1) = .ok (.ifCond .ge off, 3)) (ht : ((pc + 1 : Nat) : Int) + off = (tgt : Int)) (kt : y ≤ x → ST g C ws lv rest tgt k n) (kf : ¬ y ≤ x → ST g C ws lv rest (pc + 4) k n) : ST g C ws lv (.long y :: .long x :: rest) pc k n := by
  obtain ⟨l, D, cI, cJ⟩ := g
  obtain ⟨p, e, R9, s, m, args, below, meth, c, A, nL9, Q⟩ := C
  obtain ⟨hx, hb, hml, rfl, rfl, hown, hts, hK, hA, hT, hZ, hst9, hlk⟩ := X
  intro H locs ls hP hD hS hl
  exact W.lcmp hx hb hd0 (lv_if_ge hx hb hd ht (fun q => kt ((lg_cmp_ge x y).mp q) H locs ls hP hD hS hl) (fun q => kf (fun z => q ((lg_cmp_ge x y).mpr z)) H locs ls hP hD hS hl))
theorem st_lcmp_gt (X : OK g C own cc nL R) {x y : Int64} {off : Int} (tgt : Nat) (hd0 : decode cc pc = .ok (.lcmp, 1)) (hd : decode cc (pc + 1) = .ok (.ifCond .gt off, 3)) (ht : ((pc + 1 : Nat) : Int) + off = (tgt : Int)) (kt : y < x → ST g C ws lv rest tgt k n) (kf : ¬ y < x → ST g C ws lv rest (pc + 4) k n) : ST g C ws lv (.long y :: .long x :: rest) pc k n := by
  obtain ⟨l, D, cI, cJ⟩ := g
  obtain ⟨p, e, R9, s, m, args, below, meth, c, A, nL9, Q⟩ := C
  obtain ⟨hx, hb, hml, rfl, rfl, hown, hts, hK, hA, hT, hZ, hst9, hlk⟩ := X
  intro H locs ls hP hD hS hl
  exact W.lcmp hx hb hd0 (lv_if_gt hx hb hd ht (fun q => kt ((lg_cmp_gt x y).mp q) H locs ls hP hD hS hl) (fun q => kf (fun z => q ((lg_cmp_gt x y).mpr z)) H locs ls hP hD hS hl))
theorem st_lcmp_le (X : OK g C own cc nL R) {x y : Int64} {off : Int} (tgt : Nat) (hd0 : decode cc pc = .ok (.lcmp, 1)) (hd : decode cc (pc + 1) = .ok (.ifCond .le off, 3)) (ht : ((pc + 1 : Nat) : Int) + off = (tgt : Int)) (kt : x ≤ y → ST g C ws lv rest tgt k n) (kf : ¬ x ≤ y → ST g C ws lv rest (pc + 4) k n) : ST g C ws lv (.long y :: .long x :: rest) pc k n := by
  obtain ⟨l, D, cI, cJ⟩ := g
  obtain ⟨p, e, R9, s, m, args, below, meth, c, A, nL9, Q⟩ := C
  obtain ⟨hx, hb, hml, rfl, rfl, hown, hts, hK, hA, hT, hZ, hst9, hlk⟩ := X
  intro H locs ls hP hD hS hl
  exact W.lcmp hx hb hd0 (lv_if_le hx hb hd ht (fun q => kt ((lg_cmp_le x y).mp q) H locs ls hP hD hS hl) (fun q => kf (fun z => q ((lg_cmp_le x y).mpr z)) H locs ls hP hD hS hl))
theorem st_goto (X : OK g C own cc nL R) {off : Int} (tgt : Nat) (hd : decode cc pc = .ok (.goto off, 3)) (ht : (pc : Int) + off = (tgt : Int)) (kk : ST g C ws lv rest tgt k n) : ST g C ws lv rest pc k n := by
  obtain ⟨l, D, cI, cJ⟩ := g
  obtain ⟨p, e, R9, s, m, args, below, meth, c, A, nL9, Q⟩ := C
  obtain ⟨hx, hb, hml, rfl, rfl, hown, hts, hK, hA, hT, hZ, hst9, hlk⟩ := X
  intro H locs ls hP hD hS hl
  exact lv_goto hx hb hd ht (kk H locs ls hP hD hS hl)
theorem st_lv (qs : List Nat) {lv2 : List (Nat × Value)} (h : lv_pick lv qs = lv2) (kk : ST g C ws lv2 rest pc k n) : ST g C ws lv rest pc k n := by
  obtain ⟨l, D, cI, cJ⟩ := g
  obtain ⟨p, e, R9, s, m, args, below, meth, c, A, nL9, Q⟩ := C
  intro H locs ls hP hD hS hl
  exact kk H locs ls hP hD hS (lv_sub hl qs h)
theorem st_perm {ws2 : va_W} (is : List Nat) (h : is.map (fun i => ws[i]?) = ws2.map some) (hn : va_nd is = true) (kk : ST g C ws2 lv rest pc k n) : ST g C ws lv rest pc k n := by
  obtain ⟨l, D, cI, cJ⟩ := g
  obtain ⟨p, e, R9, s, m, args, below, meth, c, A, nL9, Q⟩ := C
  intro H locs ls hP hD hS hl
  exact kk H locs ls (hP.subm h) (hD.sub is hn h) hS hl
theorem st_widen {k2 n2 : Nat} (h1 : k ≤ k2) (h2 : n ≤ n2) (kk : ST g C ws lv rest pc k2 n2) : ST g C ws lv rest pc k n := by
  obtain ⟨l, D, cI, cJ⟩ := g
  obtain ⟨p, e, R9, s, m, args, below, meth, c, A, nL9, Q⟩ := C
  intro H locs ls hP hD hS hl
  exact W.widen h1 h2 (kk H locs ls hP hD hS hl)
theorem st_get (X : OK g C own cc nL R) {Cn : String} {T : u_T} {N ci ix a : Nat} {fs : List Value} {v : Value} (hin : ∀ w ∈ u_ws Cn T N, w ∈ WALL) (q0 j : Nat) (hw : Cond.fieldLink own ix (T j).1 (T j).2.1 (T j).2.2.1 ∈ WALL) (he : ws[q0]? = some (a, .inr (ci, fs))) (hc : vwCl[ci]? = some (Cn, T, N)) (hj : j < N) (hv : fs[j]? = some v) (hd : decode cc pc = .ok (.getfield ix, 3)) (kk : ST g C ws lv (v :: rest) (pc + 3) k n) : ST g C ws lv (.ref a :: rest) pc k n := by
  obtain ⟨l, D, cI, cJ⟩ := g
  obtain ⟨p, e, R9, s, m, args, below, meth, c, A, nL9, Q⟩ := C
  obtain ⟨hx, hb, hml, rfl, rfl, hown, hts, hK, hA, hT, hZ, hst9, hlk⟩ := X
  intro H locs ls hP hD hS hl
  exact va_get (D := D) hx hb hts hin hown hK hP q0 he hc j hj (hts _ hw) (fun _ h9 => h9) hv hd (kk H locs ls hP hD hS hl)
theorem st_getN (X : OK g C own cc nL R) {Cn : String} {T : u_T} {N ci ix a : Nat} {fs : List Value} {v : Value} (hin : ∀ w ∈ u_ws Cn T N, w ∈ WALL) {host : String} (q0 j : Nat) (hw : Cond.fieldLinkNest own ix (T j).1 (T j).2.1 (T j).2.2.1 host ∈ NALL) (he : ws[q0]? = some (a, .inr (ci, fs))) (hc : vwCl[ci]? = some (Cn, T, N)) (hj : j < N) (hv : fs[j]? = some v) (hd : decode cc pc = .ok (.getfield ix, 3)) (kk : ST g C ws lv (v :: rest) (pc + 3) k n) : ST g C ws lv (.ref a :: rest) pc k n := by
  obtain ⟨l, D, cI, cJ⟩ := g
  obtain ⟨p, e, R9, s, m, args, below, meth, c, A, nL9, Q⟩ := C
  obtain ⟨hx, hb, hml, rfl, rfl, hown, hts, hK, hA, hT, hZ, hst9, hlk⟩ := X
  intro H locs ls hP hD hS hl
  exact va_getN (D := D) hx hb hts hin hown hK hP q0 he hc j hj (va_Nw.use rfl (hT.1 _ hw)) (fun _ h9 => h9) hv hd (kk H locs ls hP hD hS hl)

theorem st_put (X : OK g C own cc nL R) {Cn : String} {T : u_T} {N ci ix a : Nat} {fs : List Value} {v : Value} (hin : ∀ w ∈ u_ws Cn T N, w ∈ WALL) (ty0 : Nat → FieldType) (hty : ∀ k, k < N → parseFieldDescriptor (T k).2.2.1 = some (ty0 k)) (hnm : ∀ a, a < N → ∀ b, b < N → a ≠ b → (T a).2.1 ≠ (T b).2.1) (q0 j : Nat) (hw : Cond.fieldLink own ix (T j).1 (T j).2.1 (T j).2.2.1 ∈ WALL) (he : ws[q0]? = some (a, .inr (ci, fs))) (hc : vwCl[ci]? = some (Cn, T, N)) (hj : j < N) (hfin : (T j).2.2.2 = false) {ty : FieldType} (hp : parseFieldDescriptor (T j).2.2.1 = some ty) (hnr : narrow ty v = v) (hft : fits ty v = true) (hlf : j < fs.length) {ws2 : va_W} (hws : ws.set q0 (a, .inr (ci, fs.set j v)) = ws2) (hd : decode cc pc = .ok (.putfield ix, 3)) (kk : ST g C ws2 lv rest (pc + 3) k n) : ST g C ws lv (v :: .ref a :: rest) pc k n := by
  obtain ⟨l, D, cI, cJ⟩ := g
  obtain ⟨p, e, R9, s, m, args, below, meth, c, A, nL9, Q⟩ := C
  obtain ⟨hx, hb, hml, rfl, rfl, hown, hts, hK, hA, hT, hZ, hst9, hlk⟩ := X
  intro H locs ls hP hD hS hl
  subst hws
  exact va_put (D := D) hx hb hts hin ty0 hty hnm hown hK hP hD hS q0 he hc j hj (hts _ hw) (fun _ h9 => h9) hfin hp hnr hft hlf hd (fun H1 locs1 hP1 hD1 hS1 => kk H1 locs1 ls hP1 hD1 hS1 hl)
def INIT (C : CX) : Prop := match C with
  | (_, _, _, _, _, _, _, meth, _, _, _, _) => meth.name = "<init>"
theorem st_putF (X : OK g C own cc nL R) {Cn : String} {T : u_T} {N ci ix a : Nat} {fs : List Value} {v : Value} (hin : ∀ w ∈ u_ws Cn T N, w ∈ WALL) (ty0 : Nat → FieldType) (hty : ∀ k, k < N → parseFieldDescriptor (T k).2.2.1 = some (ty0 k)) (hnm : ∀ a, a < N → ∀ b, b < N → a ≠ b → (T a).2.1 ≠ (T b).2.1) (q0 j : Nat) (hw : Cond.fieldLink own ix (T j).1 (T j).2.1 (T j).2.2.1 ∈ WALL) (he : ws[q0]? = some (a, .inr (ci, fs))) (hc : vwCl[ci]? = some (Cn, T, N)) (hj : j < N) (hfin : (T j).2.2.2 = true) (hnm2 : INIT C) (hdecl : (T j).1 = own) {ty : FieldType} (hp : parseFieldDescriptor (T j).2.2.1 = some ty) (hnr : narrow ty v = v) (hft : fits ty v = true) (hlf : j < fs.length) {ws2 : va_W} (hws : ws.set q0 (a, .inr (ci, fs.set j v)) = ws2) (hd : decode cc pc = .ok (.putfield ix, 3)) (kk : ST g C ws2 lv rest (pc + 3) k n) : ST g C ws lv (v :: .ref a :: rest) pc k n := by
  obtain ⟨l, D, cI, cJ⟩ := g
  obtain ⟨p, e, R9, s, m, args, below, meth, c, A, nL9, Q⟩ := C
  obtain ⟨hx, hb, hml, rfl, rfl, hown, hts, hK, hA, hT, hZ, hst9, hlk⟩ := X
  intro H locs ls hP hD hS hl
  subst hws
  exact va_putF (D := D) hx hb hts hin ty0 hty hnm hown hK hP hD hS q0 he hc j hj (hts _ hw) (fun _ h9 => h9) hfin hnm2 hdecl hp hnr hft hlf hd (fun H1 locs1 hP1 hD1 hS1 => kk H1 locs1 ls hP1 hD1 hS1 hl)
theorem st_iald (X : OK g C own cc nL R) {a N : Nat} {f : Nat → Int32} {i : Int32} (q0 : Nat) (ha : ws[q0]? = some (a, .inl (g.2.2.1, N, .inl f))) (hi : vp_in i N) (hd : decode cc pc = .ok (.iaload, 1)) (kk : ST g C ws lv (.int (f i.toNatClampNeg) :: rest) (pc + 1) k n) : ST g C ws lv (.int i :: .ref a :: rest) pc k n := by
  obtain ⟨l, D, cI, cJ⟩ := g
  obtain ⟨p, e, R9, s, m, args, below, meth, c, A, nL9, Q⟩ := C
  obtain ⟨hx, hb, hml, rfl, rfl, hown, hts, hK, hA, hT, hZ, hst9, hlk⟩ := X
  intro H locs ls hP hD hS hl
  exact va_iald hx hb hK hP q0 0 ha rfl hi hd (kk H locs ls hP hD hS hl)
theorem st_iast (X : OK g C own cc nL R) {a N : Nat} {f : Nat → Int32} {i : Int32} {x : Int32} {ws2 : va_W} (q0 : Nat) (ha : ws[q0]? = some (a, .inl (g.2.2.1, N, .inl f))) (hi : vp_in i N) (hws : ws.set q0 (a, .inl (g.2.2.1, N, .inl (upd f i.toNatClampNeg x))) = ws2) (hd : decode cc pc = .ok (.iastore, 1)) (kk : ST g C ws2 lv rest (pc + 1) k n) : ST g C ws lv (.int x :: .int i :: .ref a :: rest) pc k n := by
  obtain ⟨l, D, cI, cJ⟩ := g
  obtain ⟨p, e, R9, s, m, args, below, meth, c, A, nL9, Q⟩ := C
  obtain ⟨hx, hb, hml, rfl, rfl, hown, hts, hK, hA, hT, hZ, hst9, hlk⟩ := X
  intro H locs ls hP hD hS hl
  subst hws
  exact va_iast hx hb hK hP hD hS q0 0 ha rfl hi hd (fun H1 locs1 hP1 hD1 hS1 => kk H1 locs1 ls hP1 hD1 hS1 hl)
theorem st_lald (X : OK g C own cc nL R) {a N : Nat} {f : Nat → Int64} {i : Int32} (q0 : Nat) (ha : ws[q0]? = some (a, .inl (g.2.2.2, N, .inr (.inl f)))) (hi : vp_in i N) (hd : decode cc pc = .ok (.laload, 1)) (kk : ST g C ws lv (.long (f i.toNatClampNeg) :: rest) (pc + 1) k n) : ST g C ws lv (.int i :: .ref a :: rest) pc k n := by
  obtain ⟨l, D, cI, cJ⟩ := g
  obtain ⟨p, e, R9, s, m, args, below, meth, c, A, nL9, Q⟩ := C
  obtain ⟨hx, hb, hml, rfl, rfl, hown, hts, hK, hA, hT, hZ, hst9, hlk⟩ := X
  intro H locs ls hP hD hS hl
  exact va_lald hx hb hK hP q0 1 ha rfl hi hd (kk H locs ls hP hD hS hl)
theorem st_last (X : OK g C own cc nL R) {a N : Nat} {f : Nat → Int64} {i : Int32} {x : Int64} {ws2 : va_W} (q0 : Nat) (ha : ws[q0]? = some (a, .inl (g.2.2.2, N, .inr (.inl f)))) (hi : vp_in i N) (hws : ws.set q0 (a, .inl (g.2.2.2, N, .inr (.inl (vp_updL f i.toNatClampNeg x)))) = ws2) (hd : decode cc pc = .ok (.lastore, 1)) (kk : ST g C ws2 lv rest (pc + 1) k n) : ST g C ws lv (.long x :: .int i :: .ref a :: rest) pc k n := by
  obtain ⟨l, D, cI, cJ⟩ := g
  obtain ⟨p, e, R9, s, m, args, below, meth, c, A, nL9, Q⟩ := C
  obtain ⟨hx, hb, hml, rfl, rfl, hown, hts, hK, hA, hT, hZ, hst9, hlk⟩ := X
  intro H locs ls hP hD hS hl
  subst hws
  exact va_last hx hb hK hP hD hS q0 1 ha rfl hi hd (fun H1 locs1 hP1 hD1 hS1 => kk H1 locs1 ls hP1 hD1 hS1 hl)
end Rows9
