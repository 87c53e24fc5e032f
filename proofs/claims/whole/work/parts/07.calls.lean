theorem nb_bool {v : Int32} (h : v = 0 ∨ v = 1) : narrow .boolean (.int v) = .int v ∧ fits .boolean (.int v) = true := by
  rcases h with rfl | rfl <;> exact ⟨by decide +kernel, by decide +kernel⟩
section Rows10
variable {g : GX} {C : CX} {own : String} {cc : ByteArray} {nL : Nat} {R : Room} {ws : va_W} {lv : List (Nat × Value)} {rest : List Value} {pc k n : Nat} {S : Type} {wf : S → va_W} {ws0 : va_W} {sz mc ms : Nat}
theorem st_iret (X : OK g C own cc nL R) {post : Int32 → S → Prop} (hr : RT C (some .int) (va_A ws0 sz) (QI g ws0 wf post sz) mc ms) {v : Int32} (u : S) (hp : post v u) (hw : wf u = ws) (hk : k ≤ mc) (hn : n ≤ ms) (hd : decode cc pc = .ok (.ireturn, 1)) : ST g C ws lv [.int v] pc k n := by
  obtain ⟨l, D, cI, cJ⟩ := g
  obtain ⟨p, e, R9, s, m, args, below, meth, c, A, nL9, Q⟩ := C
  obtain ⟨hx, hb, hml, rfl, rfl, hown, hts, hK, hA, hT, hZ, hst9, hlk⟩ := X
  obtain ⟨hr1, rfl, rfl⟩ := hr
  subst hw
  intro H locs ls hP hD hS hl
  exact W.widen hk hn (W.iret hx hb hr1 (fun t ht hW => ⟨⟨v, u, rfl, hp, by rw [ht]; exact hP, va_K.moved hW.alike hK, hD⟩, hS.F ht⟩) hS.2.2 hd hlk)
theorem st_iretX (X : OK g C own cc nL R) {post : Int32 → S → Prop} {XC : String → State → State → Prop} (hr : RTX C (some .int) (va_A ws0 sz) (QI g ws0 wf post sz) XC mc ms) {v : Int32} (u : S) (hp : post v u) (hw : wf u = ws) (hk : k ≤ mc) (hn : n ≤ ms) (hd : decode cc pc = .ok (.ireturn, 1)) : ST g C ws lv [.int v] pc k n := by
  obtain ⟨l, D, cI, cJ⟩ := g
  obtain ⟨p, e, R9, s, m, args, below, meth, c, A, nL9, Q⟩ := C
  obtain ⟨hx, hb, hml, rfl, rfl, hown, hts, hK, hA, hT, hZ, hst9, hlk⟩ := X
  obtain ⟨hr1, rfl, rfl⟩ := hr
  subst hw
  intro H locs ls hP hD hS hl
  exact vx_ret (W.widen hk hn (W.iret hx hb hr1 (fun t ht hW => ⟨⟨v, u, rfl, hp, by rw [ht]; exact hP, va_K.moved hW.alike hK, hD⟩, hS.F ht⟩) hS.2.2 hd hlk))
theorem st_zret (X : OK g C own cc nL R) {post : Int32 → S → Prop} (hr : RT C (some .boolean) (va_A ws0 sz) (QI g ws0 wf post sz) mc ms) {v : Int32} (u : S) (hp : post v u) (hz : v = 0 ∨ v = 1) (hw : wf u = ws) (hk : k ≤ mc) (hn : n ≤ ms) (hd : decode cc pc = .ok (.ireturn, 1)) : ST g C ws lv [.int v] pc k n := by
  obtain ⟨l, D, cI, cJ⟩ := g
  obtain ⟨p, e, R9, s, m, args, below, meth, c, A, nL9, Q⟩ := C
  obtain ⟨hx, hb, hml, rfl, rfl, hown, hts, hK, hA, hT, hZ, hst9, hlk⟩ := X
  obtain ⟨hr1, rfl, rfl⟩ := hr
  subst hw
  intro H locs ls hP hD hS hl
  exact W.widen hk hn (W.zret hx hb hr1 (nb_bool hz).1 (fun t ht hW => ⟨⟨v, u, rfl, hp, by rw [ht]; exact hP, va_K.moved hW.alike hK, hD⟩, hS.F ht⟩) hS.2.2 hd hlk)
theorem st_zretX (X : OK g C own cc nL R) {post : Int32 → S → Prop} {XC : String → State → State → Prop} (hr : RTX C (some .boolean) (va_A ws0 sz) (QI g ws0 wf post sz) XC mc ms) {v : Int32} (u : S) (hp : post v u) (hz : v = 0 ∨ v = 1) (hw : wf u = ws) (hk : k ≤ mc) (hn : n ≤ ms) (hd : decode cc pc = .ok (.ireturn, 1)) : ST g C ws lv [.int v] pc k n := by
  obtain ⟨l, D, cI, cJ⟩ := g
  obtain ⟨p, e, R9, s, m, args, below, meth, c, A, nL9, Q⟩ := C
  obtain ⟨hx, hb, hml, rfl, rfl, hown, hts, hK, hA, hT, hZ, hst9, hlk⟩ := X
  obtain ⟨hr1, rfl, rfl⟩ := hr
  subst hw
  intro H locs ls hP hD hS hl
  exact vx_ret (W.widen hk hn (W.zret hx hb hr1 (nb_bool hz).1 (fun t ht hW => ⟨⟨v, u, rfl, hp, by rw [ht]; exact hP, va_K.moved hW.alike hK, hD⟩, hS.F ht⟩) hS.2.2 hd hlk))
theorem st_lret (X : OK g C own cc nL R) {post : Int64 → S → Prop} (hr : RT C (some .long) (va_A ws0 sz) (QL g ws0 wf post sz) mc ms) {v : Int64} (u : S) (hp : post v u) (hw : wf u = ws) (hk : k ≤ mc) (hn : n ≤ ms) (hd : decode cc pc = .ok (.lreturn, 1)) : ST g C ws lv [.long v] pc k n := by
  obtain ⟨l, D, cI, cJ⟩ := g
  obtain ⟨p, e, R9, s, m, args, below, meth, c, A, nL9, Q⟩ := C
  obtain ⟨hx, hb, hml, rfl, rfl, hown, hts, hK, hA, hT, hZ, hst9, hlk⟩ := X
  obtain ⟨hr1, rfl, rfl⟩ := hr
  subst hw
  intro H locs ls hP hD hS hl
  exact W.widen hk hn (W.lret hx hb hr1 (fun t ht hW => ⟨⟨v, u, rfl, hp, by rw [ht]; exact hP, va_K.moved hW.alike hK, hD⟩, hS.F ht⟩) hS.2.2 hd hlk)
theorem st_lretX (X : OK g C own cc nL R) {post : Int64 → S → Prop} {XC : String → State → State → Prop} (hr : RTX C (some .long) (va_A ws0 sz) (QL g ws0 wf post sz) XC mc ms) {v : Int64} (u : S) (hp : post v u) (hw : wf u = ws) (hk : k ≤ mc) (hn : n ≤ ms) (hd : decode cc pc = .ok (.lreturn, 1)) : ST g C ws lv [.long v] pc k n := by
  obtain ⟨l, D, cI, cJ⟩ := g
  obtain ⟨p, e, R9, s, m, args, below, meth, c, A, nL9, Q⟩ := C
  obtain ⟨hx, hb, hml, rfl, rfl, hown, hts, hK, hA, hT, hZ, hst9, hlk⟩ := X
  obtain ⟨hr1, rfl, rfl⟩ := hr
  subst hw
  intro H locs ls hP hD hS hl
  exact vx_ret (W.widen hk hn (W.lret hx hb hr1 (fun t ht hW => ⟨⟨v, u, rfl, hp, by rw [ht]; exact hP, va_K.moved hW.alike hK, hD⟩, hS.F ht⟩) hS.2.2 hd hlk))
theorem st_vret (X : OK g C own cc nL R) {post : S → Prop} (hr : RT C (none) (va_A ws0 sz) (QV g ws0 wf post sz) mc ms) (u : S) (hp : post u) (hw : wf u = ws) (hk : k ≤ mc) (hn : n ≤ ms) (hd : decode cc pc = .ok (.return_, 1)) : ST g C ws lv [] pc k n := by
  obtain ⟨l, D, cI, cJ⟩ := g
  obtain ⟨p, e, R9, s, m, args, below, meth, c, A, nL9, Q⟩ := C
  obtain ⟨hx, hb, hml, rfl, rfl, hown, hts, hK, hA, hT, hZ, hst9, hlk⟩ := X
  obtain ⟨hr1, rfl, rfl⟩ := hr
  subst hw
  intro H locs ls hP hD hS hl
  exact W.widen hk hn (W.vret hx hb hr1 (fun t ht hW => ⟨⟨u, rfl, hp, by rw [ht]; exact hP, va_K.moved hW.alike hK, hD⟩, hS.F ht⟩) hS.2.2 hd hlk)
theorem st_vretX (X : OK g C own cc nL R) {post : S → Prop} {XC : String → State → State → Prop} (hr : RTX C (none) (va_A ws0 sz) (QV g ws0 wf post sz) XC mc ms) (u : S) (hp : post u) (hw : wf u = ws) (hk : k ≤ mc) (hn : n ≤ ms) (hd : decode cc pc = .ok (.return_, 1)) : ST g C ws lv [] pc k n := by
  obtain ⟨l, D, cI, cJ⟩ := g
  obtain ⟨p, e, R9, s, m, args, below, meth, c, A, nL9, Q⟩ := C
  obtain ⟨hx, hb, hml, rfl, rfl, hown, hts, hK, hA, hT, hZ, hst9, hlk⟩ := X
  obtain ⟨hr1, rfl, rfl⟩ := hr
  subst hw
  intro H locs ls hP hD hS hl
  exact vx_ret (W.widen hk hn (W.vret hx hb hr1 (fun t ht hW => ⟨⟨u, rfl, hp, by rw [ht]; exact hP, va_K.moved hW.alike hK, hD⟩, hS.F ht⟩) hS.2.2 hd hlk))
theorem st_newaI (X : OK g C own cc nL R) {i : Int32} (N : Nat) (hi : ¬ i < 0) (hN : i.toNatClampNeg = N) (hB : N * 4 ≤ 536870912) (hc : k + 1 ≤ R.cells) (hs : n + N ≤ R.slots) (hd : decode cc pc = .ok (.newarray .int, 2)) (kk : ∀ q : Nat, ST g C (ws ++ [(q, .inl (g.2.2.1, N, .inl (fun _ => 0)))]) lv (.ref q :: rest) (pc + 2) (k + 1) (n + N)) : ST g C ws lv (.int i :: rest) pc k n := by
  obtain ⟨l, D, cI, cJ⟩ := g
  obtain ⟨p, e, R9, s, m, args, below, meth, c, A, nL9, Q⟩ := C
  obtain ⟨hx, hb, hml, rfl, rfl, hown, hts, hK, hA, hT, hZ, hst9, hlk⟩ := X
  intro H locs ls hP hD hS hl
  refine va_newa (atype := .int) hx hb (hts _ wa_int) rfl hK hP hD hS hA (a0 := (N, .inl (fun _ => 0))) (fun _ => rfl) hi hN hB hc hs hd (fun q cA H1 hK1 hP1 hD1 hS1 => ?_)
  have e1 := (hK1.2 2 _ rfl).2
  have e2 := (hK.2 0 _ rfl).2
  have e3 : cA = cI := Option.some.inj (e1.symm.trans e2)
  subst e3
  exact kk q H1 locs ls hP1 hD1 hS1 hl
theorem st_newaJ (X : OK g C own cc nL R) {i : Int32} (N : Nat) (hi : ¬ i < 0) (hN : i.toNatClampNeg = N) (hB : N * 8 ≤ 536870912) (hc : k + 1 ≤ R.cells) (hs : n + N ≤ R.slots) (hd : decode cc pc = .ok (.newarray .long, 2)) (kk : ∀ q : Nat, ST g C (ws ++ [(q, .inl (g.2.2.2, N, .inr (.inl (fun _ => 0))))]) lv (.ref q :: rest) (pc + 2) (k + 1) (n + N)) : ST g C ws lv (.int i :: rest) pc k n := by
  obtain ⟨l, D, cI, cJ⟩ := g
  obtain ⟨p, e, R9, s, m, args, below, meth, c, A, nL9, Q⟩ := C
  obtain ⟨hx, hb, hml, rfl, rfl, hown, hts, hK, hA, hT, hZ, hst9, hlk⟩ := X
  intro H locs ls hP hD hS hl
  refine va_newa (atype := .long) hx hb (hts _ wa_long) rfl hK hP hD hS hA (a0 := (N, .inr (.inl (fun _ => 0)))) (fun _ => rfl) hi hN hB hc hs hd (fun q cA H1 hK1 hP1 hD1 hS1 => ?_)
  have e1 := (hK1.2 2 _ rfl).2
  have e2 := (hK.2 1 _ rfl).2
  have e3 : cA = cJ := Option.some.inj (e1.symm.trans e2)
  subst e3
  exact kk q H1 locs ls hP1 hD1 hS1 hl
theorem st_new (X : OK g C own cc nL R) {Cn : String} {T : u_T} {N ci ix : Nat} {fs : List Value} (hin : ∀ w ∈ u_ws Cn T N, w ∈ WALL) (ty : Nat → FieldType) (hty : ∀ k, k < N → parseFieldDescriptor (T k).2.2.1 = some (ty k)) (hcl : Cond.classLink own ix Cn ∈ WALL) (hit : Cond.instantiable Cn N ∈ WALL) (hini : Cond.initialized Cn ∈ WALL) (hc0 : vwCl[ci]? = some (Cn, T, N)) (hfs : ∀ j, j < N → defaultValue (ty j) = vp_V fs j) (hc : k + 1 ≤ R.cells) (hs : n + N ≤ R.slots) (hd : decode cc pc = .ok (.new ix, 3)) (kk : ∀ q : Nat, ST g C (ws ++ [(q, .inr (ci, fs))]) lv (.ref q :: rest) (pc + 3) (k + 1) (n + N)) : ST g C ws lv rest pc k n := by
  obtain ⟨l, D, cI, cJ⟩ := g
  obtain ⟨p, e, R9, s, m, args, below, meth, c, A, nL9, Q⟩ := C
  obtain ⟨hx, hb, hml, rfl, rfl, hown, hts, hK, hA, hT, hZ, hst9, hlk⟩ := X
  intro H locs ls hP hD hS hl
  exact va_new hx hb hts hin ty hty hown (hts _ hcl) (hts _ hit) (hts _ hini) hK hP hD hS hA hc0 hfs hc hs hd (fun q H1 hP1 hD1 hS1 => kk q H1 locs ls hP1 hD1 hS1 hl)
theorem st_objInit (X : OK g C own cc nL R) {ix a : Nat} (hw : Cond.methodLink own ix objectInit ∈ WALL) (hf : 1 ≤ R.frames) (hlo : (rest.map fun v => v.category).sum + 12 ≤ R.locals) (hd : decode cc pc = .ok (.invokespecial ix, 3)) (kk : ST g C ws lv rest (pc + 3) k n) : ST g C ws lv (.ref a :: rest) pc k n := by
  obtain ⟨l, D, cI, cJ⟩ := g
  obtain ⟨p, e, R9, s, m, args, below, meth, c, A, nL9, Q⟩ := C
  obtain ⟨hx, hb, hml, rfl, rfl, hown, hts, hK, hA, hT, hZ, hst9, hlk⟩ := X
  intro H locs ls hP hD hS hl
  exact W.objInit hx hb hown (hts _ hw) (hts _ wi_objInit) (hts _ wc_objInit) rfl (by rw [hml]; exact hl.1) rfl hd hf (by show 2 * 0 + _ + 12 ≤ _; omega) (kk H locs ls hP hD hS hl)
theorem st_maxI (X : OK g C own cc nL R) {ix : Nat} {x y : Int32} (hw : Cond.methodLink own ix Lib.Math.max.name ∈ WALL) (hf : 1 ≤ R.frames) (hlo : (rest.map fun v => v.category).sum + 13 ≤ R.locals) (hc : k ≤ R.cells) (hs : n ≤ R.slots) (hd : decode cc pc = .ok (.invokestatic ix, 3)) (kk : ST g C ws lv (.int (if x < y then y else x) :: rest) (pc + 3) k n) : ST g C ws lv (.int y :: .int x :: rest) pc k n := by
  obtain ⟨l, D, cI, cJ⟩ := g
  obtain ⟨p, e, R9, s, m, args, below, meth, c, A, nL9, Q⟩ := C
  obtain ⟨hx, hb, hml, rfl, rfl, hown, hts, hK, hA, hT, hZ, hst9, hlk⟩ := X
  intro H locs ls hP hD hS hl
  exact va_mmax hx hb (by rw [hml]; exact hl.1.symm) hown (hts _ hw) (hts _ ws_maxI) (hts _ wz_Math) (hts _ wc_maxI) hf hlo hc hs hd (kk H locs ls hP hD hS hl)
theorem st_maxJ (X : OK g C own cc nL R) {ix : Nat} {x y : Int64} (hw : Cond.methodLink own ix Lib.MathLoose.max_long.x ∈ WALL) (hf : 1 ≤ R.frames) (hlo : (rest.map fun v => v.category).sum + 15 ≤ R.locals) (hc : k ≤ R.cells) (hs : n ≤ R.slots) (hd : decode cc pc = .ok (.invokestatic ix, 3)) (kk : ST g C ws lv (.long (if y < x then x else y) :: rest) (pc + 3) k n) : ST g C ws lv (.long y :: .long x :: rest) pc k n := by
  obtain ⟨l, D, cI, cJ⟩ := g
  obtain ⟨p, e, R9, s, m, args, below, meth, c, A, nL9, Q⟩ := C
  obtain ⟨hx, hb, hml, rfl, rfl, hown, hts, hK, hA, hT, hZ, hst9, hlk⟩ := X
  intro H locs ls hP hD hS hl
  exact va_mmax_long hx hb (by rw [hml]; exact hl.1.symm) hown (hts _ hw) (hts _ ws_maxJ) (hts _ wz_Math) (hts _ wc_maxJ) hf hlo hc hs hd (kk H locs ls hP hD hS hl)
def RN (g : GX) (C : CX) (wc : va_W) (pc : Nat) (st0 rest : List Value) (k n mc ms : Nat) (Qa : Nat → State → Outcome → State → Prop) : Prop := match g, C with
  | (l, D, _, _), (p, e, R, s, m, args, below, meth, c, _, nL, _) => ∀ (H : Heap) (locs : List Loc) (ls : Array Slot), va_P D vwCl wc H → va_D (fun _ => True) wc → ZZ (va_A wc H.size) s H → ls.size = nL → va_Run p l e R s m args below meth c H locs k n mc ms (F0 m pc ls st0) rest (Qa H.size) (va_A wc H.size)
def RNX (g : GX) (C : CX) (wc : va_W) (pc : Nat) (st0 rest : List Value) (k n mc ms : Nat) (Qa : Nat → State → Outcome → State → Prop) (XC : Nat → String → State → State → Prop) : Prop := match g, C with
  | (l, D, _, _), (p, e, R, s, m, args, below, meth, c, _, nL, _) => ∀ (H : Heap) (locs : List Loc) (ls : Array Slot), va_P D vwCl wc H → va_D (fun _ => True) wc → ZZ (va_A wc H.size) s H → ls.size = nL → vx_Run p l e R s m args below meth c H locs k n mc ms (F0 m pc ls st0) rest (Qa H.size) (XC H.size) (va_A wc H.size)
theorem pre_at {g : GX} {s : State} {H : Heap} {as : List Value} {wc : va_W} (hP : va_P g.2.1 vwCl wc H) (hK : va_K g.2.1 vwCl [(g.2.2.1, .int), (g.2.2.2, .long)] s) (hD : va_D (fun _ => True) wc) (hT : TBL s) (hZ : ZZ (va_A wc H.size) s H) : ∀ U : State, U.heap = H → s.WarmedH U.vm → PRE g as wc H.size as.toArray U := by
  obtain ⟨l, D, cI, cJ⟩ := g
  intro U hU hW
  exact ⟨rfl, by rw [hU], by rw [hU]; exact hP, va_K.moved hW.alike hK, hD, TBL.warm hW hT, by rw [hU]; exact ZZ.moved hW.alike hZ⟩
theorem cb_of {R : Room} {s : State} {args : Array Value} {own : String} {ix : Nat} {y : MethodName} {bytes : ByteArray} {maxL : Nat} {ret : Option FieldType} {rm : Room} {N : Nat} (hts : ∀ w ∈ WALL, w.before args s = true) (hlink : Cond.methodLink own ix y ∈ WALL) (hin : Cond.initialized y.cls ∈ WALL) (hcode : Cond.code y bytes maxL ret ∈ WALL)
    (hd : y.cls ≠ "java/lang/invoke/MethodHandle" ∧ y.cls ≠ "java/lang/invoke/VarHandle" ∧ (parseMethodDescriptor y.desc).map (fun d => d.parameters.length) = some N) (hR : rm.frames + 1 ≤ R.frames ∧ 8 + (maxL + 11) + rm.locals ≤ R.locals) : CallB R s args own ix y bytes maxL ret (.code y bytes maxL ret :: WALL) rm rm.cells rm.slots N :=
  ⟨rfl, rfl, hR.1, hR.2, wall_pay hcode hts, List.mem_cons_self, hts _ hcode, hts _ hin, ⟨hd.1, hd.2.1⟩, fun sig h => by have h2 := hd.2.2; rw [h] at h2; exact (Option.some.inj h2).symm, hts _ hlink⟩
theorem cn_of {R : Room} {s : State} {args : Array Value} {own host : String} {ix : Nat} {y : MethodName} {bytes : ByteArray} {maxL : Nat} {ret : Option FieldType} {rm : Room} {N : Nat} (hts : ∀ w ∈ WALL, w.before args s = true) (hT : TBL s) (hlink : Cond.methodLinkNest own ix y host ∈ NALL) (hin : Cond.initialized y.cls ∈ WALL) (hcode : Cond.code y bytes maxL ret ∈ WALL)
    (hd : y.cls ≠ "java/lang/invoke/MethodHandle" ∧ y.cls ≠ "java/lang/invoke/VarHandle" ∧ (parseMethodDescriptor y.desc).map (fun d => d.parameters.length) = some N) (hR : rm.frames + 1 ≤ R.frames ∧ 8 + (maxL + 11) + rm.locals ≤ R.locals) : va_CN R s args own ix y host bytes maxL ret (.code y bytes maxL ret :: WALL) rm rm.cells rm.slots N :=
  ⟨⟨rfl, rfl, hR.1, hR.2, wall_pay hcode hts, List.mem_cons_self⟩, hts _ hcode, hts _ hin, ⟨hd.1, hd.2.1⟩, fun sig h => by have h2 := hd.2.2; rw [h] at h2; exact (Option.some.inj h2).symm, va_Nw.use rfl (hT.1 _ hlink)⟩
theorem rn_S (X : OK g C own cc nL R) {y : MethodName} {bytes : ByteArray} {maxL ix : Nat} {ret : Option FieldType} {rm : Room} {As : List Value} {wc : va_W} {Qk : Nat → Array Value → State → Outcome → State → Prop} (hM : CT g y bytes maxL ret rm As wc Qk) (hlink : Cond.methodLink own ix y ∈ WALL) (hst : Cond.static y ∈ WALL) (hin : Cond.initialized y.cls ∈ WALL) (hcode : Cond.code y bytes maxL ret ∈ WALL) (hd9 : y.cls ≠ "java/lang/invoke/MethodHandle" ∧ y.cls ≠ "java/lang/invoke/VarHandle" ∧ (parseMethodDescriptor y.desc).map (fun d => d.parameters.length) = some As.length) (hR : rm.frames + 1 ≤ R.frames ∧ 8 + (maxL + 11) + rm.locals ≤ R.locals) (hrest : (rest.map fun v => v.category).sum ≤ 8) (hf : k + rm.cells ≤ R.cells ∧ n + rm.slots ≤ R.slots) (hd : decode cc pc = .ok (.invokestatic ix, 3)) : RN g C wc pc (As.reverse ++ rest) rest k n rm.cells rm.slots (fun sz => Qk sz As.toArray) := by
  obtain ⟨l, D, cI, cJ⟩ := g
  obtain ⟨p, e, R9, s, m, args, below, meth, c, A, nL9, Q⟩ := C
  obtain ⟨hx, hb, hml, rfl, rfl, hown, hts, hK, hA, hT, hZ, hst9, hlk⟩ := X
  intro H locs ls hPc hDc hZc hl
  exact va_runS ⟨hx, hb, hml, hown, hts⟩ (hM H.size) ⟨cb_of hts hlink hin hcode hd9 hR, hts _ hst⟩ ⟨PRE.blind _ _ _ _, pre_at (g := (l, D, cI, cJ)) hPc hK hDc hT hZc⟩ rfl rfl hl rfl (lv_room hrest) hd hf
theorem rn_V (X : OK g C own cc nL R) {y : MethodName} {bytes : ByteArray} {maxL ix : Nat} {ret : Option FieldType} {rm : Room} {As : List Value} {wc : va_W} {Qk : Nat → Array Value → State → Outcome → State → Prop} {b q0 ci : Nat} {T : u_T} {N : Nat} {fs : List Value} (hM : CT g y bytes maxL ret rm (.ref b :: As) wc Qk) (he : wc[q0]? = some (b, .inr (ci, fs))) (hc0 : vwCl[ci]? = some (y.cls, T, N)) (hlink : Cond.methodLink own ix y ∈ WALL) (hst : Cond.instanceMethod y ∈ WALL) (hsel : Cond.selects y.cls y y ∈ WALL) (hin : Cond.initialized y.cls ∈ WALL) (hcode : Cond.code y bytes maxL ret ∈ WALL) (hd9 : y.cls ≠ "java/lang/invoke/MethodHandle" ∧ y.cls ≠ "java/lang/invoke/VarHandle" ∧ (parseMethodDescriptor y.desc).map (fun d => d.parameters.length) = some As.length) (hR : rm.frames + 1 ≤ R.frames ∧ 8 + (maxL + 11) + rm.locals ≤ R.locals) (hrest : (rest.map fun v => v.category).sum ≤ 8) (hf : k + rm.cells ≤ R.cells ∧ n + rm.slots ≤ R.slots) (hd : decode cc pc = .ok (.invokevirtual ix, 3)) : RN g C wc pc (As.reverse ++ .ref b :: rest) rest k n rm.cells rm.slots (fun sz => Qk sz (Value.ref b :: As).toArray) := by
  obtain ⟨l, D, cI, cJ⟩ := g
  obtain ⟨p, e, R9, s, m, args, below, meth, c, A, nL9, Q⟩ := C
  obtain ⟨hx, hb, hml, rfl, rfl, hown, hts, hK, hA, hT, hZ, hst9, hlk⟩ := X
  intro H locs ls hPc hDc hZc hl
  exact va_runV ⟨hx, hb, hml, hown, hts⟩ (hM H.size) ⟨cb_of hts hlink hin hcode hd9 hR, hts _ hst, hts _ hsel⟩ ⟨PRE.blind _ _ _ _, va_recv hK hPc hc0 he, pre_at (g := (l, D, cI, cJ)) hPc hK hDc hT hZc⟩ rfl rfl hl rfl (lv_room hrest) hd hf
theorem rn_VN (X : OK g C own cc nL R) {y : MethodName} {bytes : ByteArray} {maxL ix : Nat} {ret : Option FieldType} {rm : Room} {As : List Value} {wc : va_W} {Qk : Nat → Array Value → State → Outcome → State → Prop} {host : String} {b q0 ci : Nat} {T : u_T} {N : Nat} {fs : List Value} (hM : CT g y bytes maxL ret rm (.ref b :: As) wc Qk) (he : wc[q0]? = some (b, .inr (ci, fs))) (hc0 : vwCl[ci]? = some (y.cls, T, N)) (hlink : Cond.methodLinkNest own ix y host ∈ NALL) (hst : Cond.instanceMethod y ∈ WALL) (hsel : Cond.selects y.cls y y ∈ WALL) (hin : Cond.initialized y.cls ∈ WALL) (hcode : Cond.code y bytes maxL ret ∈ WALL) (hd9 : y.cls ≠ "java/lang/invoke/MethodHandle" ∧ y.cls ≠ "java/lang/invoke/VarHandle" ∧ (parseMethodDescriptor y.desc).map (fun d => d.parameters.length) = some As.length) (hR : rm.frames + 1 ≤ R.frames ∧ 8 + (maxL + 11) + rm.locals ≤ R.locals) (hrest : (rest.map fun v => v.category).sum ≤ 8) (hf : k + rm.cells ≤ R.cells ∧ n + rm.slots ≤ R.slots) (hd : decode cc pc = .ok (.invokevirtual ix, 3)) : RN g C wc pc (As.reverse ++ .ref b :: rest) rest k n rm.cells rm.slots (fun sz => Qk sz (Value.ref b :: As).toArray) := by
  obtain ⟨l, D, cI, cJ⟩ := g
  obtain ⟨p, e, R9, s, m, args, below, meth, c, A, nL9, Q⟩ := C
  obtain ⟨hx, hb, hml, rfl, rfl, hown, hts, hK, hA, hT, hZ, hst9, hlk⟩ := X
  intro H locs ls hPc hDc hZc hl
  exact va_runVN ⟨hx, hb, hml, hown, hts⟩ (hM H.size) ⟨cn_of hts hT hlink hin hcode hd9 hR, hts _ hst, hts _ hsel⟩ ⟨PRE.blind _ _ _ _, va_recv hK hPc hc0 he, pre_at (g := (l, D, cI, cJ)) hPc hK hDc hT hZc⟩ rfl rfl hl rfl (lv_room hrest) hd hf
theorem rn_SN (X : OK g C own cc nL R) {y : MethodName} {bytes : ByteArray} {maxL ix : Nat} {ret : Option FieldType} {rm : Room} {As : List Value} {wc : va_W} {Qk : Nat → Array Value → State → Outcome → State → Prop} {host : String} (hM : CT g y bytes maxL ret rm As wc Qk) (hlink : Cond.methodLinkNest own ix y host ∈ NALL) (hst : Cond.static y ∈ WALL) (hin : Cond.initialized y.cls ∈ WALL) (hcode : Cond.code y bytes maxL ret ∈ WALL) (hd9 : y.cls ≠ "java/lang/invoke/MethodHandle" ∧ y.cls ≠ "java/lang/invoke/VarHandle" ∧ (parseMethodDescriptor y.desc).map (fun d => d.parameters.length) = some As.length) (hR : rm.frames + 1 ≤ R.frames ∧ 8 + (maxL + 11) + rm.locals ≤ R.locals) (hrest : (rest.map fun v => v.category).sum ≤ 8) (hf : k + rm.cells ≤ R.cells ∧ n + rm.slots ≤ R.slots) (hd : decode cc pc = .ok (.invokestatic ix, 3)) : RN g C wc pc (As.reverse ++ rest) rest k n rm.cells rm.slots (fun sz => Qk sz As.toArray) := by
  obtain ⟨l, D, cI, cJ⟩ := g
  obtain ⟨p, e, R9, s, m, args, below, meth, c, A, nL9, Q⟩ := C
  obtain ⟨hx, hb, hml, rfl, rfl, hown, hts, hK, hA, hT, hZ, hst9, hlk⟩ := X
  intro H locs ls hPc hDc hZc hl
  exact va_runSN ⟨hx, hb, hml, hown, hts⟩ (hM H.size) ⟨cn_of hts hT hlink hin hcode hd9 hR, hts _ hst, trivial⟩ ⟨PRE.blind _ _ _ _, pre_at (g := (l, D, cI, cJ)) hPc hK hDc hT hZc⟩ rfl rfl hl rfl (lv_room hrest) hd hf
theorem rn_I (X : OK g C own cc nL R) {y : MethodName} {bytes : ByteArray} {maxL ix : Nat} {ret : Option FieldType} {rm : Room} {As : List Value} {wc : va_W} {Qk : Nat → Array Value → State → Outcome → State → Prop} {b : Nat} (hM : CT g y bytes maxL none rm (.ref b :: As) wc Qk) (hlink : Cond.methodLink own ix y ∈ WALL) (hyi : y.name = "<init>") (hst : Cond.instanceMethod y ∈ WALL) (hin : Cond.initialized y.cls ∈ WALL) (hcode : Cond.code y bytes maxL none ∈ WALL) (hd9 : y.cls ≠ "java/lang/invoke/MethodHandle" ∧ y.cls ≠ "java/lang/invoke/VarHandle" ∧ (parseMethodDescriptor y.desc).map (fun d => d.parameters.length) = some As.length) (hR : rm.frames + 1 ≤ R.frames ∧ 8 + (maxL + 11) + rm.locals ≤ R.locals) (hrest : (rest.map fun v => v.category).sum ≤ 8) (hf : k + rm.cells ≤ R.cells ∧ n + rm.slots ≤ R.slots) (hd : decode cc pc = .ok (.invokespecial ix, 3)) : RN g C wc pc (As.reverse ++ .ref b :: rest) rest k n rm.cells rm.slots (fun sz => Qk sz (Value.ref b :: As).toArray) := by
  obtain ⟨l, D, cI, cJ⟩ := g
  obtain ⟨p, e, R9, s, m, args, below, meth, c, A, nL9, Q⟩ := C
  obtain ⟨hx, hb, hml, rfl, rfl, hown, hts, hK, hA, hT, hZ, hst9, hlk⟩ := X
  intro H locs ls hPc hDc hZc hl
  exact va_runI ⟨hx, hb, hml, hown, hts⟩ (hM H.size) ⟨cb_of hts hlink hin hcode hd9 hR, hyi, hts _ hst⟩ ⟨PRE.blind _ _ _ _, pre_at (g := (l, D, cI, cJ)) hPc hK hDc hT hZc⟩ rfl rfl hl rfl (lv_room hrest) hd hf
theorem rn_IN (X : OK g C own cc nL R) {y : MethodName} {bytes : ByteArray} {maxL ix : Nat} {ret : Option FieldType} {rm : Room} {As : List Value} {wc : va_W} {Qk : Nat → Array Value → State → Outcome → State → Prop} {host : String} {b : Nat} (hM : CT g y bytes maxL none rm (.ref b :: As) wc Qk) (hlink : Cond.methodLinkNest own ix y host ∈ NALL) (hyi : y.name = "<init>") (hst : Cond.instanceMethod y ∈ WALL) (hin : Cond.initialized y.cls ∈ WALL) (hcode : Cond.code y bytes maxL none ∈ WALL) (hd9 : y.cls ≠ "java/lang/invoke/MethodHandle" ∧ y.cls ≠ "java/lang/invoke/VarHandle" ∧ (parseMethodDescriptor y.desc).map (fun d => d.parameters.length) = some As.length) (hR : rm.frames + 1 ≤ R.frames ∧ 8 + (maxL + 11) + rm.locals ≤ R.locals) (hrest : (rest.map fun v => v.category).sum ≤ 8) (hf : k + rm.cells ≤ R.cells ∧ n + rm.slots ≤ R.slots) (hd : decode cc pc = .ok (.invokespecial ix, 3)) : RN g C wc pc (As.reverse ++ .ref b :: rest) rest k n rm.cells rm.slots (fun sz => Qk sz (Value.ref b :: As).toArray) := by
  obtain ⟨l, D, cI, cJ⟩ := g
  obtain ⟨p, e, R9, s, m, args, below, meth, c, A, nL9, Q⟩ := C
  obtain ⟨hx, hb, hml, rfl, rfl, hown, hts, hK, hA, hT, hZ, hst9, hlk⟩ := X
  intro H locs ls hPc hDc hZc hl
  exact va_runIN ⟨hx, hb, hml, hown, hts⟩ (hM H.size) ⟨cn_of hts hT hlink hin hcode hd9 hR, hyi, hts _ hst⟩ ⟨PRE.blind _ _ _ _, pre_at (g := (l, D, cI, cJ)) hPc hK hDc hT hZc⟩ rfl rfl hl rfl (lv_room hrest) hd hf
theorem rn_SW (X : OK g C own cc nL R) {y : MethodName} {bytes : ByteArray} {maxL ix : Nat} {ret : Option FieldType} {rm : Room} {As : List Value} {wc : va_W} {Qk : Nat → Array Value → State → Outcome → State → Prop} {hh : List (Nat × Nat × Nat × Nat)} (hM : CTW g y bytes maxL ret hh rm As wc Qk) (hlink : Cond.methodLink own ix y ∈ WALL) (hst : Cond.static y ∈ WALL) (hin : Cond.initialized y.cls ∈ WALL) (hcode : Cond.codeWith y bytes maxL ret hh ∈ WALL) (hd9 : y.cls ≠ "java/lang/invoke/MethodHandle" ∧ y.cls ≠ "java/lang/invoke/VarHandle" ∧ (parseMethodDescriptor y.desc).map (fun d => d.parameters.length) = some As.length) (hR : rm.frames + 1 ≤ R.frames ∧ 8 + (maxL + 11) + rm.locals ≤ R.locals) (hrest : (rest.map fun v => v.category).sum ≤ 8) (hf : k + rm.cells ≤ R.cells ∧ n + rm.slots ≤ R.slots) (hd : decode cc pc = .ok (.invokestatic ix, 3)) : RN g C wc pc (As.reverse ++ rest) rest k n rm.cells rm.slots (fun sz => Qk sz As.toArray) := by
  obtain ⟨l, D, cI, cJ⟩ := g
  obtain ⟨p, e, R9, s, m, args, below, meth, c, A, nL9, Q⟩ := C
  obtain ⟨hx, hb, hml, rfl, rfl, hown, hts, hK, hA, hT, hZ, hst9, hlk⟩ := X
  intro H locs ls hPc hDc hZc hl
  exact vx_runSW ⟨hx, hb, hml, hown, hts⟩ (hM H.size) ⟨⟨rfl, rfl, hR.1, hR.2, wall_pay hcode hts, List.mem_cons_self⟩, hts _ hcode, hts _ hin, ⟨hd9.1, hd9.2.1⟩, fun sig h => by have h2 := hd9.2.2; rw [h] at h2; exact (Option.some.inj h2).symm, hts _ hlink, hts _ hst⟩ ⟨PRE.blind _ _ _ _, pre_at (g := (l, D, cI, cJ)) hPc hK hDc hT hZc⟩ rfl rfl hl rfl (lv_room hrest) hd hf
theorem rn_SX (X : OK g C own cc nL R) {y : MethodName} {bytes : ByteArray} {maxL ix : Nat} {ret : Option FieldType} {rm : Room} {As : List Value} {wc : va_W} {Qk : Nat → Array Value → State → Outcome → State → Prop} {XC : Nat → String → State → State → Prop} (hM : CTX g y bytes maxL ret rm As wc Qk XC) (hlink : Cond.methodLink own ix y ∈ WALL) (hst : Cond.static y ∈ WALL) (hin : Cond.initialized y.cls ∈ WALL) (hcode : Cond.code y bytes maxL ret ∈ WALL) (hd9 : y.cls ≠ "java/lang/invoke/MethodHandle" ∧ y.cls ≠ "java/lang/invoke/VarHandle" ∧ (parseMethodDescriptor y.desc).map (fun d => d.parameters.length) = some As.length) (hR : rm.frames + 1 ≤ R.frames ∧ 8 + (maxL + 11) + rm.locals ≤ R.locals) (hrest : (rest.map fun v => v.category).sum ≤ 8) (hf : k + rm.cells ≤ R.cells ∧ n + rm.slots ≤ R.slots) (hd : decode cc pc = .ok (.invokestatic ix, 3)) : RNX g C wc pc (As.reverse ++ rest) rest k n rm.cells rm.slots (fun sz => Qk sz As.toArray) XC := by
  obtain ⟨l, D, cI, cJ⟩ := g
  obtain ⟨p, e, R9, s, m, args, below, meth, c, A, nL9, Q⟩ := C
  obtain ⟨hx, hb, hml, rfl, rfl, hown, hts, hK, hA, hT, hZ, hst9, hlk⟩ := X
  intro H locs ls hPc hDc hZc hl
  exact vx_runS ⟨hx, hb, hml, hown, hts⟩ (hM H.size) ⟨cb_of hts hlink hin hcode hd9 hR, hts _ hst⟩ ⟨PRE.blind _ _ _ _, pre_at (g := (l, D, cI, cJ)) hPc hK hDc hT hZc⟩ rfl rfl hl rfl (lv_room hrest) hd hf
theorem rn_VX (X : OK g C own cc nL R) {y : MethodName} {bytes : ByteArray} {maxL ix : Nat} {ret : Option FieldType} {rm : Room} {As : List Value} {wc : va_W} {Qk : Nat → Array Value → State → Outcome → State → Prop} {XC : Nat → String → State → State → Prop} {b q0 ci : Nat} {T : u_T} {N : Nat} {fs : List Value} (hM : CTX g y bytes maxL ret rm (.ref b :: As) wc Qk XC) (he : wc[q0]? = some (b, .inr (ci, fs))) (hc0 : vwCl[ci]? = some (y.cls, T, N)) (hlink : Cond.methodLink own ix y ∈ WALL) (hst : Cond.instanceMethod y ∈ WALL) (hsel : Cond.selects y.cls y y ∈ WALL) (hin : Cond.initialized y.cls ∈ WALL) (hcode : Cond.code y bytes maxL ret ∈ WALL) (hd9 : y.cls ≠ "java/lang/invoke/MethodHandle" ∧ y.cls ≠ "java/lang/invoke/VarHandle" ∧ (parseMethodDescriptor y.desc).map (fun d => d.parameters.length) = some As.length) (hR : rm.frames + 1 ≤ R.frames ∧ 8 + (maxL + 11) + rm.locals ≤ R.locals) (hrest : (rest.map fun v => v.category).sum ≤ 8) (hf : k + rm.cells ≤ R.cells ∧ n + rm.slots ≤ R.slots) (hd : decode cc pc = .ok (.invokevirtual ix, 3)) : RNX g C wc pc (As.reverse ++ .ref b :: rest) rest k n rm.cells rm.slots (fun sz => Qk sz (Value.ref b :: As).toArray) XC := by
  obtain ⟨l, D, cI, cJ⟩ := g
  obtain ⟨p, e, R9, s, m, args, below, meth, c, A, nL9, Q⟩ := C
  obtain ⟨hx, hb, hml, rfl, rfl, hown, hts, hK, hA, hT, hZ, hst9, hlk⟩ := X
  intro H locs ls hPc hDc hZc hl
  exact vx_runV ⟨hx, hb, hml, hown, hts⟩ (hM H.size) ⟨cb_of hts hlink hin hcode hd9 hR, hts _ hst, hts _ hsel⟩ ⟨PRE.blind _ _ _ _, va_recv hK hPc hc0 he, pre_at (g := (l, D, cI, cJ)) hPc hK hDc hT hZc⟩ rfl rfl hl rfl (lv_room hrest) hd hf
theorem st_calli (X : OK g C own cc nL R) {wc : va_W} {post : Int32 → S → Prop} {st0 : List Value} {a : Array Value} (hr : RN g C wc pc st0 rest k n mc ms (fun sz => QI g wc wf post sz a)) (isC isR : List Nat) {wr : va_W} (hC : isC.map (fun i => ws[i]?) = wc.map some) (hR : isR.map (fun i => ws[i]?) = wr.map some) (hnC : va_nd isC = true) (hnR : va_nd isR = true) (hdis : ∀ i ∈ isR, i ∉ isC) (kk : ∀ (r : Int32) (u : S), post r u → ST g C (wr ++ wf u) lv (.int r :: rest) (pc + 3) (k + mc) (n + ms)) : ST g C ws lv st0 pc k n := by
  obtain ⟨l, D, cI, cJ⟩ := g
  obtain ⟨p, e, R9, s, m, args, below, meth, c, A, nL9, Q⟩ := C
  obtain ⟨hx, hb, hml, rfl, rfl, hown, hts, hK, hA, hT, hZ, hst9, hlk⟩ := X
  intro H locs ls hP hD hS hl
  have hFc := va_free (wc := wc) hD hS hA isC hC
  have hPc := hP.subm hC
  have hDc : va_D (fun _ => True) wc := (hD.sub isC hnC hC).weaken (fun _ _ _ _ => trivial)
  have hZc : ZZ (va_A wc H.size) s H := (hZ.kept hS.2.1).narrow hFc
  refine va_calli (hr H locs ls hPc hDc hZc hl.1) hS (fun q _ h => hFc q h) hFc (fun r u t H1 locs1 ht hvm hw hB hz1 hk1 hS1 => ?_)
  obtain ⟨hP1, -, hD1⟩ := hB
  rw [ht] at hP1
  obtain ⟨hP2, hD2⟩ := va_join hP hD isC isR hC hR hnR hdis hk1 hFc hP1 hD1
  exact kk r u hw H1 locs1 ls hP2 hD2 hS1 hl
theorem st_calll (X : OK g C own cc nL R) {wc : va_W} {post : Int64 → S → Prop} {st0 : List Value} {a : Array Value} (hr : RN g C wc pc st0 rest k n mc ms (fun sz => QL g wc wf post sz a)) (isC isR : List Nat) {wr : va_W} (hC : isC.map (fun i => ws[i]?) = wc.map some) (hR : isR.map (fun i => ws[i]?) = wr.map some) (hnC : va_nd isC = true) (hnR : va_nd isR = true) (hdis : ∀ i ∈ isR, i ∉ isC) (kk : ∀ (r : Int64) (u : S), post r u → ST g C (wr ++ wf u) lv (.long r :: rest) (pc + 3) (k + mc) (n + ms)) : ST g C ws lv st0 pc k n := by
  obtain ⟨l, D, cI, cJ⟩ := g
  obtain ⟨p, e, R9, s, m, args, below, meth, c, A, nL9, Q⟩ := C
  obtain ⟨hx, hb, hml, rfl, rfl, hown, hts, hK, hA, hT, hZ, hst9, hlk⟩ := X
  intro H locs ls hP hD hS hl
  have hFc := va_free (wc := wc) hD hS hA isC hC
  have hPc := hP.subm hC
  have hDc : va_D (fun _ => True) wc := (hD.sub isC hnC hC).weaken (fun _ _ _ _ => trivial)
  have hZc : ZZ (va_A wc H.size) s H := (hZ.kept hS.2.1).narrow hFc
  refine va_calll (hr H locs ls hPc hDc hZc hl.1) hS (fun q _ h => hFc q h) hFc (fun r u t H1 locs1 ht hvm hw hB hz1 hk1 hS1 => ?_)
  obtain ⟨hP1, -, hD1⟩ := hB
  rw [ht] at hP1
  obtain ⟨hP2, hD2⟩ := va_join hP hD isC isR hC hR hnR hdis hk1 hFc hP1 hD1
  exact kk r u hw H1 locs1 ls hP2 hD2 hS1 hl
theorem st_callv (X : OK g C own cc nL R) {wc : va_W} {post : S → Prop} {st0 : List Value} {a : Array Value} (hr : RN g C wc pc st0 rest k n mc ms (fun sz => QV g wc wf post sz a)) (isC isR : List Nat) {wr : va_W} (hC : isC.map (fun i => ws[i]?) = wc.map some) (hR : isR.map (fun i => ws[i]?) = wr.map some) (hnC : va_nd isC = true) (hnR : va_nd isR = true) (hdis : ∀ i ∈ isR, i ∉ isC) (kk : ∀ (u : S), post u → ST g C (wr ++ wf u) lv (rest) (pc + 3) (k + mc) (n + ms)) : ST g C ws lv st0 pc k n := by
  obtain ⟨l, D, cI, cJ⟩ := g
  obtain ⟨p, e, R9, s, m, args, below, meth, c, A, nL9, Q⟩ := C
  obtain ⟨hx, hb, hml, rfl, rfl, hown, hts, hK, hA, hT, hZ, hst9, hlk⟩ := X
  intro H locs ls hP hD hS hl
  have hFc := va_free (wc := wc) hD hS hA isC hC
  have hPc := hP.subm hC
  have hDc : va_D (fun _ => True) wc := (hD.sub isC hnC hC).weaken (fun _ _ _ _ => trivial)
  have hZc : ZZ (va_A wc H.size) s H := (hZ.kept hS.2.1).narrow hFc
  refine va_callv (hr H locs ls hPc hDc hZc hl.1) hS (fun q _ h => hFc q h) hFc (fun u t H1 locs1 ht hvm hw hB hz1 hk1 hS1 => ?_)
  obtain ⟨hP1, -, hD1⟩ := hB
  rw [ht] at hP1
  obtain ⟨hP2, hD2⟩ := va_join hP hD isC isR hC hR hnR hdis hk1 hFc hP1 hD1
  exact kk u hw H1 locs1 ls hP2 hD2 hS1 hl
/-- an exception of class E is over the frame at pc -/
def STX (g : GX) (C : CX) (ws : va_W) (lv : List (Nat × Value)) (rest : List Value) (pc k n : Nat) (E : String) : Prop := match g, C with
  | (l, D, _, _), (p, e, R, s, m, args, below, meth, c, A, nL, Q) => ∀ (H : Heap) (locs : List Loc) (ls : Array Slot) (q : Addr) (ce : Cell), va_P D vwCl ws H → va_D A ws → va_S A s.heap H locs → lv_has ls nL lv → H[q]? = some ce → ce.vm = .none → s.vm.findClass E = some ce.cls → vx_W p l e R s m args below meth c H locs k n Q (F0 m pc ls rest) q
theorem st_xcalli (X : OK g C own cc nL R) {wc : va_W} {post : Int32 → S → Prop} {SX : Type} {wfx : SX → va_W} {px : String → SX → Prop} {st0 : List Value} {a : Array Value} (hr : RNX g C wc pc st0 rest k n mc ms (fun sz => QI g wc wf post sz a) (fun sz => QX g wc wfx px sz)) (isC isR : List Nat) {wr : va_W} (hC : isC.map (fun i => ws[i]?) = wc.map some) (hR : isR.map (fun i => ws[i]?) = wr.map some) (hnC : va_nd isC = true) (hnR : va_nd isR = true) (hdis : ∀ i ∈ isR, i ∉ isC) (kx : ∀ (E : String) (u : SX), px E u → STX g C (wr ++ wfx u) lv rest pc (k + mc) (n + ms) E) (kk : ∀ (r : Int32) (u : S), post r u → ST g C (wr ++ wf u) lv (.int r :: rest) (pc + 3) (k + mc) (n + ms)) : ST g C ws lv st0 pc k n := by
  obtain ⟨l, D, cI, cJ⟩ := g
  obtain ⟨p, e, R9, s, m, args, below, meth, c, A, nL9, Q⟩ := C
  obtain ⟨hx, hb, hml, rfl, rfl, hown, hts, hK, hA, hT, hZ, hst9, hlk⟩ := X
  intro H locs ls hP hD hS hl
  have hFc := va_free (wc := wc) hD hS hA isC hC
  have hPc := hP.subm hC
  have hDc : va_D (fun _ => True) wc := (hD.sub isC hnC hC).weaken (fun _ _ _ _ => trivial)
  have hZc : ZZ (va_A wc H.size) s H := (hZ.kept hS.2.1).narrow hFc
  refine vx_calli (hr H locs ls hPc hDc hZc hl.1) hS (fun q _ h => hFc q h) hFc (fun q _ h => hFc q h) (fun E ce q9 u t H1 locs1 ht hvm _ hB hz1 hk1 hS1 hce hcv hcl => ?_) (fun r u t H1 locs1 ht hvm hw hB hz1 hk1 hS1 => ?_)
  · obtain ⟨hpx, hP1, -, hD1⟩ := hB
    rw [ht] at hP1
    obtain ⟨hP2, hD2⟩ := va_join hP hD isC isR hC hR hnR hdis hk1 hFc hP1 hD1
    exact kx E u hpx H1 locs1 ls q9 ce hP2 hD2 hS1 hl hce hcv hcl
  · obtain ⟨hP1, -, hD1⟩ := hB
    rw [ht] at hP1
    obtain ⟨hP2, hD2⟩ := va_join hP hD isC isR hC hR hnR hdis hk1 hFc hP1 hD1
    exact kk r u hw H1 locs1 ls hP2 hD2 hS1 hl
theorem st_xcalll (X : OK g C own cc nL R) {wc : va_W} {post : Int64 → S → Prop} {SX : Type} {wfx : SX → va_W} {px : String → SX → Prop} {st0 : List Value} {a : Array Value} (hr : RNX g C wc pc st0 rest k n mc ms (fun sz => QL g wc wf post sz a) (fun sz => QX g wc wfx px sz)) (isC isR : List Nat) {wr : va_W} (hC : isC.map (fun i => ws[i]?) = wc.map some) (hR : isR.map (fun i => ws[i]?) = wr.map some) (hnC : va_nd isC = true) (hnR : va_nd isR = true) (hdis : ∀ i ∈ isR, i ∉ isC) (kx : ∀ (E : String) (u : SX), px E u → STX g C (wr ++ wfx u) lv rest pc (k + mc) (n + ms) E) (kk : ∀ (r : Int64) (u : S), post r u → ST g C (wr ++ wf u) lv (.long r :: rest) (pc + 3) (k + mc) (n + ms)) : ST g C ws lv st0 pc k n := by
  obtain ⟨l, D, cI, cJ⟩ := g
  obtain ⟨p, e, R9, s, m, args, below, meth, c, A, nL9, Q⟩ := C
  obtain ⟨hx, hb, hml, rfl, rfl, hown, hts, hK, hA, hT, hZ, hst9, hlk⟩ := X
  intro H locs ls hP hD hS hl
  have hFc := va_free (wc := wc) hD hS hA isC hC
  have hPc := hP.subm hC
  have hDc : va_D (fun _ => True) wc := (hD.sub isC hnC hC).weaken (fun _ _ _ _ => trivial)
  have hZc : ZZ (va_A wc H.size) s H := (hZ.kept hS.2.1).narrow hFc
  refine vx_calll (hr H locs ls hPc hDc hZc hl.1) hS (fun q _ h => hFc q h) hFc (fun q _ h => hFc q h) (fun E ce q9 u t H1 locs1 ht hvm _ hB hz1 hk1 hS1 hce hcv hcl => ?_) (fun r u t H1 locs1 ht hvm hw hB hz1 hk1 hS1 => ?_)
  · obtain ⟨hpx, hP1, -, hD1⟩ := hB
    rw [ht] at hP1
    obtain ⟨hP2, hD2⟩ := va_join hP hD isC isR hC hR hnR hdis hk1 hFc hP1 hD1
    exact kx E u hpx H1 locs1 ls q9 ce hP2 hD2 hS1 hl hce hcv hcl
  · obtain ⟨hP1, -, hD1⟩ := hB
    rw [ht] at hP1
    obtain ⟨hP2, hD2⟩ := va_join hP hD isC isR hC hR hnR hdis hk1 hFc hP1 hD1
    exact kk r u hw H1 locs1 ls hP2 hD2 hS1 hl
theorem st_xcallv (X : OK g C own cc nL R) {wc : va_W} {post : S → Prop} {SX : Type} {wfx : SX → va_W} {px : String → SX → Prop} {st0 : List Value} {a : Array Value} (hr : RNX g C wc pc st0 rest k n mc ms (fun sz => QV g wc wf post sz a) (fun sz => QX g wc wfx px sz)) (isC isR : List Nat) {wr : va_W} (hC : isC.map (fun i => ws[i]?) = wc.map some) (hR : isR.map (fun i => ws[i]?) = wr.map some) (hnC : va_nd isC = true) (hnR : va_nd isR = true) (hdis : ∀ i ∈ isR, i ∉ isC) (kx : ∀ (E : String) (u : SX), px E u → STX g C (wr ++ wfx u) lv rest pc (k + mc) (n + ms) E) (kk : ∀ (u : S), post u → ST g C (wr ++ wf u) lv (rest) (pc + 3) (k + mc) (n + ms)) : ST g C ws lv st0 pc k n := by
  obtain ⟨l, D, cI, cJ⟩ := g
  obtain ⟨p, e, R9, s, m, args, below, meth, c, A, nL9, Q⟩ := C
  obtain ⟨hx, hb, hml, rfl, rfl, hown, hts, hK, hA, hT, hZ, hst9, hlk⟩ := X
  intro H locs ls hP hD hS hl
  have hFc := va_free (wc := wc) hD hS hA isC hC
  have hPc := hP.subm hC
  have hDc : va_D (fun _ => True) wc := (hD.sub isC hnC hC).weaken (fun _ _ _ _ => trivial)
  have hZc : ZZ (va_A wc H.size) s H := (hZ.kept hS.2.1).narrow hFc
  refine vx_callv (hr H locs ls hPc hDc hZc hl.1) hS (fun q _ h => hFc q h) hFc (fun q _ h => hFc q h) (fun E ce q9 u t H1 locs1 ht hvm _ hB hz1 hk1 hS1 hce hcv hcl => ?_) (fun u t H1 locs1 ht hvm hw hB hz1 hk1 hS1 => ?_)
  · obtain ⟨hpx, hP1, -, hD1⟩ := hB
    rw [ht] at hP1
    obtain ⟨hP2, hD2⟩ := va_join hP hD isC isR hC hR hnR hdis hk1 hFc hP1 hD1
    exact kx E u hpx H1 locs1 ls q9 ce hP2 hD2 hS1 hl hce hcv hcl
  · obtain ⟨hP1, -, hD1⟩ := hB
    rw [ht] at hP1
    obtain ⟨hP2, hD2⟩ := va_join hP hD isC isR hC hR hnR hdis hk1 hFc hP1 hD1
    exact kk u hw H1 locs1 ls hP2 hD2 hS1 hl
theorem stx_out (X : OK g C own cc nL R) {E : String} {ret : Option FieldType} {Qc : Array Value → State → Outcome → State → Prop} {px : String → S → Prop} (hr : RTX C ret (va_A ws0 sz) Qc (QX g ws0 wf px sz) mc ms) (ht : TAB C []) (u : S) (hp : px E u) (hw : wf u = ws) (hk : k ≤ mc) (hn : n ≤ ms) : STX g C ws lv rest pc k n E := by
  obtain ⟨l, D, cI, cJ⟩ := g
  obtain ⟨p, e, R9, s, m, args, below, meth, c, A, nL9, Q⟩ := C
  obtain ⟨hx, hb, hml, rfl, rfl, hown, hts, hK, hA, hT, hZ, hst9, hlk⟩ := X
  obtain ⟨hr1, rfl, rfl⟩ := hr
  subst hw
  intro H locs ls q ce hP hD hS hl hce hcv hcl
  have ht : c.exceptionTable.toList = [] := ht
  exact vx_out (fun x hx => by rw [ht] at hx; cases hx) hlk hce hcv hcl (fun t hth hal => ⟨u, trivial, ⟨hp, by rw [hth]; exact hP, va_K.moved hal hK, hD⟩, hS.F hth⟩) hS.2.2 hk hn
theorem stx_perm {ws2 : va_W} {E : String} (is : List Nat) (h : is.map (fun i => ws[i]?) = ws2.map some) (hn : va_nd is = true) (kk : STX g C ws2 lv rest pc k n E) : STX g C ws lv rest pc k n E := by
  obtain ⟨l, D, cI, cJ⟩ := g
  obtain ⟨p, e, R9, s, m, args, below, meth, c, A, nL9, Q⟩ := C
  intro H locs ls q ce hP hD hS hl
  exact kk H locs ls q ce (hP.subm h) (hD.sub is hn h) hS hl
theorem stx_catch0 (X : OK g C own cc nL R) {E nm : String} {a b h t : Nat} {tl : List (Nat × Nat × Nat × Nat)} (ht : TAB C ((a, b, h, t) :: tl)) (hlink : Cond.classLink own t nm ∈ WALL) (hcast : Cond.castable E nm ∈ NALL) (hcov : a ≤ pc ∧ pc < b) (h0 : t ≠ 0) (kk : ∀ q : Nat, ST g C ws lv [.ref q] h k n) : STX g C ws lv rest pc k n E := by
  obtain ⟨l, D, cI, cJ⟩ := g
  obtain ⟨p, e, R9, s, m, args, below, meth, c, A, nL9, Q⟩ := C
  obtain ⟨hx, hb, hml, rfl, rfl, hown, hts, hK, hA, hT, hZ, hst9, hlk⟩ := X
  intro H locs ls q ce hP hD hS hl hce hcv hcl
  exact vx_catch hown [] _ _ ht (fun z hz => by cases hz) (by simp [covers, hcov.1, hcov.2]) h0 (hts _ hlink) (va_Nw.use rfl (hT.1 _ hcast)) hce hcv hcl (kk q H locs ls hP hD hS hl)
theorem stx_catch1 (X : OK g C own cc nL R) {E nm nm0 : String} {a b h t a0 b0 h00 t0 : Nat} {tl : List (Nat × Nat × Nat × Nat)} (ht : TAB C ((a0, b0, h00, t0) :: (a, b, h, t) :: tl)) (hlink0 : Cond.classLink own t0 nm0 ∈ WALL) (hnc : ∀ U : State, TBL U → va_Nc E nm0 U) (h00 : t0 ≠ 0) (hlink : Cond.classLink own t nm ∈ WALL) (hcast : Cond.castable E nm ∈ NALL) (hcov : a ≤ pc ∧ pc < b) (h0 : t ≠ 0) (kk : ∀ q : Nat, ST g C ws lv [.ref q] h k n) : STX g C ws lv rest pc k n E := by
  obtain ⟨l, D, cI, cJ⟩ := g
  obtain ⟨p, e, R9, s, m, args, below, meth, c, A, nL9, Q⟩ := C
  obtain ⟨hx, hb, hml, rfl, rfl, hown, hts, hK, hA, hT, hZ, hst9, hlk⟩ := X
  intro H locs ls q ce hP hD hS hl hce hcv hcl
  refine vx_catch hown [_] _ _ ht (fun z hz => ?_) (by simp [covers, hcov.1, hcov.2]) h0 (hts _ hlink) (va_Nw.use rfl (hT.1 _ hcast)) hce hcv hcl (kk q H locs ls hP hD hS hl)
  rw [List.mem_singleton.mp hz]
  exact Or.inr ⟨h00, nm0, hts _ hlink0, hnc s hT⟩
theorem st_throw (X : OK g C own cc nL R) {cls text : String} {names : List String} {ik is ic : Nat} {ret : Option FieldType} {Qc : Array Value → State → Outcome → State → Prop} {px : String → S → Prop} (hr : RTX C ret (va_A ws0 sz) Qc (QX g ws0 wf px sz) mc ms) (ht : TAB C []) (hfit : Bundle.fit cls = true) (hnf : ∀ n ∈ names, Bundle.fit n = true) (hk : Cond.classLink own ik cls ∈ WALL) (hini : Cond.initialized cls ∈ WALL) (hstr : ∀ U : State, TBL U → ∃ sa, vk_R own is text sa U) (hat : ∀ w ∈ vx_atS own ic cls names, w ∈ WALL ∨ w ∈ NALL)
    (hgood : ∀ w ∈ Cond.classLink own ik cls :: Cond.initialized cls :: vx_atS own ic cls names, vx_ot w = true) (u : S) (hp : px cls u) (hw : wf u = ws)
    (d0 : decode cc pc = .ok (.new ik, 3)) (d3 : decode cc (pc + 3) = .ok (.dup, 1)) (d4 : decode cc (pc + 4) = .ok (.ldc is, 2)) (d6 : decode cc (pc + 6) = .ok (.invokespecial ic, 3)) (d9 : decode cc (pc + 9) = .ok (.athrow, 1))
    (hRf : names.length + 3 < R.frames) (hRl : (rest.map fun v => v.category).sum + (13 * (names.length + 1) + 43) ≤ R.locals) (hRc : k + 1 ≤ R.cells) (hRs : n + 6 ≤ R.slots) (hc : k + 1 ≤ mc) (hs : n + 6 ≤ ms) : ST g C ws lv rest pc k n := by
  obtain ⟨l, D, cI, cJ⟩ := g
  obtain ⟨p, e, R9, s, m, args, below, meth, c, A, nL9, Q⟩ := C
  obtain ⟨hx, hb, hml, rfl, rfl, hown, hts, hK, hA, hT, hZ, hst9, hlk⟩ := X
  obtain ⟨hr1, rfl, rfl⟩ := hr
  subst hw
  intro H locs ls hP hD hS hl
  have ht : c.exceptionTable.toList = [] := ht
  obtain ⟨sa, hsa⟩ := hstr s hT
  refine vx_throwS hx hb hst9 hown hfit hnf (hts _ hk) (hts _ hini) hsa (fun w hw => (hat w hw).elim (fun h => hts _ h) (fun h => va_Nw.use (nall_tab h) (hT.1 _ h))) hgood hZ.1 hZ.2 hS (by rw [hml]; exact hl.1) d0 d3 d4 d6 d9 (fun x hx => by rw [ht] at hx; cases hx) hRf hRl hRc hRs hlk (fun t hal hz hk9 => ?_) hS.2.2 hc hs
  refine ⟨u, trivial, ⟨hp, hP.kept (fun j q hq => hk9 q.1 (vx_lt hP hq)), va_K.moved hal hK, hD⟩, Nat.le_trans hS.1 hz, fun q h1 h2 => ?_⟩
  rw [hk9 q (Nat.lt_of_lt_of_le h1 hS.1)]
  exact hS.2.1 q h1 h2
end Rows10
