abbrev aI (g : GX) (a n : Nat) (f : Nat → Int32) : Nat × va_E := (a, .inl (g.2.2.1, n, .inl f))
abbrev aJ (g : GX) (a n : Nat) (f : Nat → Int64) : Nat × va_E := (a, .inl (g.2.2.2, n, .inr (.inl f)))
section Rows11
variable {g : GX} {C : CX} {ws : va_W} {lv : List (Nat × Value)} {rest : List Value} {pc k n : Nat}
theorem st_topi {x : Int32} (kk : ∀ y : Int32, y = x → ST g C ws lv (.int y :: rest) pc k n) : ST g C ws lv (.int x :: rest) pc k n := kk x rfl
theorem st_topl {x : Int64} (kk : ∀ y : Int64, y = x → ST g C ws lv (.long y :: rest) pc k n) : ST g C ws lv (.long x :: rest) pc k n := kk x rfl
end Rows11
theorem cti_of {g : GX} {y : MethodName} {cc : ByteArray} {maxL : Nat} {ret : Option FieldType} {rm : Room} {as : List Value} {ws0 : va_W} {Qk : Nat → Array Value → State → Outcome → State → Prop} (hg : g.1.stackTraces = false) (hy : plainName y.cls = true) (hlen : (lg_sl as).length ≤ maxL) (hyn : y.name = "<init>")
    (body : ∀ (sz : Nat) (C : CX), OK g C y.cls cc maxL rm → RT C ret (va_A ws0 sz) (Qk sz) rm.cells rm.slots → INIT C → ST g C ws0 (lv_args 0 as) [] 0 0 0) : CT g y cc maxL ret rm as ws0 Qk := by
  obtain ⟨l, D, cI, cJ⟩ := g
  intro sz
  refine Met.ofW (cc := cc) (maxL := maxL) (ret := ret) hy rfl ?_
  intro p e s m args below meth c s₁ B hml hv
  obtain ⟨rfl, hsz, hP, hK, hD0, hT, hZ⟩ := hv
  subst hsz
  have hD := hD0.self (sz := s.heap.size)
  have hts := atoms_spec (ws := Cond.code y cc maxL ret :: WALL) B.pre
  have K := body s.heap.size (p, e, rm, s, m, as.toArray, below, meth, c, va_A ws0 s.heap.size, maxL, MQ below (Qk s.heap.size) as.toArray s rm.cells rm.slots (va_A ws0 s.heap.size)) ⟨B.exec, B.bytes, hml, rfl, rfl, findClass_of_methodNamed B.named, fun w h => hts w (List.mem_cons_of_mem _ h), hK, fun q h => Or.inr h, hT, hZ, hg, B.notSynchronized⟩ ⟨B.returns, rfl, rfl⟩ ((name_of_methodNamed B.named B.method).1.trans hyn)
  have hl := lv_entry as hlen
  rw [lg_entry_eq]
  exact K s.heap [] _ hP hD va_S.rf hl
