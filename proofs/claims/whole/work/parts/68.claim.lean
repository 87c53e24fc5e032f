/-! the claim -/
theorem tb_157 : Cond.stringRef R_C iMsgI tMsgI ∈ tables_1 := List.mem_of_getElem? (i := 224) (by decide +kernel)
theorem tb_164 : Cond.stringRef R_C iMsgN tMsgN ∈ tables_1 := List.mem_of_getElem? (i := 267) (by decide +kernel)
theorem tb_U : Cond.laysStatic Bundle.tN "UNASSIGNED_STACK" Bundle.steD ∈ tables_1 := List.mem_of_getElem? (i := 211) (by decide +kernel)
theorem tb_S : Cond.laysStatic Bundle.tN "SUPPRESSED_SENTINEL" Bundle.listD ∈ tables_1 := List.mem_of_getElem? (i := 213) (by decide +kernel)
theorem tb_T : Cond.initialized Bundle.tN ∈ tables_1 := List.mem_of_getElem? (i := 9) (by decide +kernel)
theorem ws_of (w : Cond) (h : w ∈ WALL) : w ∈ lw_tbl := (List.mem_filter.mp h).1
theorem arr_of {ty : FieldType} {args : Array Value} {s : State} (h : (Cond.arrayClass ty).before args s = true) (ht : ∀ C, ty ≠ .object C) : ∃ cA, ArrOfT s cA ty ∧ va_RA s cA ty := by
  obtain ⟨cA, kA, comp, h1, h2, h3⟩ := Cond.arrayClass_spec (args := args) (first := s) (o := none) (s := s) (idx := []) (type := ty) h
  refine ⟨cA, fun n z => ⟨fun k h => (by cases h), kA, h2, comp, h3⟩, ?_⟩
  cases ty with
  | object C => exact absurd rfl (ht C)
  | _ => exact h1
theorem str_of {own tx : String} {k : Nat} {args : Array Value} {s : State} (h1 : (Cond.stringRef own k tx).before args s = true) (h2 : (Cond.exactly (.string own k) "java/lang/String").before args s = true) : ∃ sa, vk_R own k tx sa s := by
  obtain ⟨a, c, cA, kA, q1, -⟩ := Cond.exactly_spec (args := args) (first := s) (o := none) (s := s) (idx := []) (t := .string own k) (cls := "java/lang/String") h2
  exact ⟨a, vk_R.of h1 q1⟩
set_option maxHeartbeats 4000000 in
set_option maxRecDepth 100000 in
/-- the law, from its entry -/
theorem whole_start {p : Program} {e : Env} {s : State} {m : MethodId} {below : List Frame} {meth : Method} {c : Code} (l : Launch) (hl : l.stackTraces = false) {b L : Nat} {xs : Nat → Int32} (hL : L ≤ 4096) (C0 : lw_At p s m meth c b L xs) : W p l e room_1 s m #[Value.ref b] below meth c s.heap [] 0 0 (lw_Z below #[Value.ref b] s) (entryFrame m ([Value.ref b] : List Value).toArray 8) := by
  obtain ⟨hx, hb, hr, hml, hown, hts, hX, hbl, hlocks, hgv⟩ := C0
  have hn := flat_of_before _ hgv
  have hW : ∀ w ∈ WALL, w.before #[Value.ref b] s = true := fun w hw => hts w (ws_of w hw)
  have hT1 : ∀ w ∈ tables_1, w.before #[Value.ref b] s = true := fun w hw => hts w (List.mem_append_right _ hw)
  obtain ⟨c0, i0, k0⟩ := u_known (C := R_K) (T := T_K) (N := 2) (n := 2) hW in_K (hW _ wt_K)
  obtain ⟨c1, i1, k1⟩ := u_known (C := R_Q) (T := T_Q) (N := 5) (n := 5) hW in_Q (hW _ wt_Q)
  obtain ⟨c2, i2, k2⟩ := u_known (C := R_Ra) (T := T_Ra) (N := 5) (n := 5) hW in_Ra (hW _ wt_Ra)
  obtain ⟨c3, i3, k3⟩ := u_known (C := R_St) (T := T_St) (N := 2) (n := 2) hW in_St (hW _ wt_St)
  obtain ⟨c4, i4, k4⟩ := u_known (C := R_Y) (T := T_Y) (N := 3) (n := 3) hW in_Y (hW _ wt_Y)
  obtain ⟨c5, i5, k5⟩ := u_known (C := R_C) (T := T_C) (N := 13) (n := 13) hW in_C (hW _ wt_C)
  obtain ⟨c6, i6, k6⟩ := u_known (C := R_M) (T := T_M) (N := 31) (n := 31) hW in_M (hW _ wt_M)
  obtain ⟨cI, aI1, aI2⟩ := arr_of (hW _ wa_int) (fun C h => by cases h)
  obtain ⟨cJ, aJ1, aJ2⟩ := arr_of (hW _ wa_long) (fun C h => by cases h)
  obtain ⟨D, hKc⟩ : ∃ D : va_G, ∀ (k : Nat) (q : vw_C), vwCl[k]? = some q → u_Kn s q.1 q.2.1 q.2.2 (D.1 k) (D.2 k) := by
    refine ⟨(fun k => if k = 0 then c0 else if k = 1 then c1 else if k = 2 then c2 else if k = 3 then c3 else if k = 4 then c4 else if k = 5 then c5 else c6, fun k => if k = 0 then i0 else if k = 1 then i1 else if k = 2 then i2 else if k = 3 then i3 else if k = 4 then i4 else if k = 5 then i5 else i6), ?_⟩
    intro k q hq
    match k, hq with
    | 0, hq => cases hq; exact k0
    | 1, hq => cases hq; exact k1
    | 2, hq => cases hq; exact k2
    | 3, hq => cases hq; exact k3
    | 4, hq => cases hq; exact k4
    | 5, hq => cases hq; exact k5
    | 6, hq => cases hq; exact k6
    | k + 7, hq => simp [vwCl] at hq
  have hK : va_K D vwCl [(cI, .int), (cJ, .long)] s := by
    refine ⟨hKc, fun k q hq => ?_⟩
    match k, hq with
    | 0, hq => cases hq; exact ⟨aI1, aI2⟩
    | 1, hq => cases hq; exact ⟨aJ1, aJ2⟩
    | k + 2, hq => simp at hq
  have hnA : ∀ a : Nat, a < s.heap.size → ¬ (fun q : Nat => s.heap.size ≤ q) a := fun a h => Nat.not_le.mpr h
  have hTb : TBL s := ⟨fun w hw => va_Nw.of (nall_tab hw) (hT1 w (List.mem_filter.mp hw).1), str_of (hT1 _ tb_157) (hn (.exactly (.string R_C iMsgI) "java/lang/String") (by decide +kernel)), str_of (hT1 _ tb_164) (hn (.exactly (.string R_C iMsgN) "java/lang/String") (by decide +kernel)), va_Nc.of (hn (.not (.castable eI eA)) (by decide +kernel)), va_Nc.of (hn (.not (.castable eA eI)) (by decide +kernel))⟩
  have hZZ : ZZ (fun q : Nat => s.heap.size ≤ q) s s.heap := ⟨vx_Zqof (hT1 _ tb_U) (hT1 _ tb_T) (hn (.isRef (.static Bundle.tN "UNASSIGNED_STACK" Bundle.steD)) (by decide +kernel)) hnA, vx_Zqof (hT1 _ tb_S) (hT1 _ tb_T) (hn (.isRef (.static Bundle.tN "SUPPRESSED_SENTINEL" Bundle.listD)) (by decide +kernel)) hnA⟩
  have X : OK (l, D, cI, cJ) (p, e, rm_law, s, m, #[Value.ref b], below, meth, c, (fun q : Nat => s.heap.size ≤ q), 8, lw_Z below #[Value.ref b] s) R_L code 8 rm_law := ⟨hx, hb, hml, rfl, rfl, hown, hW, hK, fun q h => h, hTb, hZZ, hl, hlocks⟩
  have SC : SCR (p, e, rm_law, s, m, #[Value.ref b], below, meth, c, (fun q : Nat => s.heap.size ≤ q), 8, lw_Z below #[Value.ref b] s) b L xs := ⟨hX, hbl, hnA b hbl⟩
  have hr9 : LRT (p, e, rm_law, s, m, #[Value.ref b], below, meth, c, (fun q : Nat => s.heap.size ≤ q), 8, lw_Z below #[Value.ref b] s) b := ⟨rfl, hr, rfl, rfl⟩
  have K9 := law_p (g := (l, D, cI, cJ)) hl X (b := b) _ (fun a_t a_used a_stock a_alts a_asm a_placed a_sp a_sp_froms a_sp_froms_keys a_sp_froms_sizes a_sp_cents a_rt a_rt_days a_rt_days_keys a_rt_days_sizes a_rt_aboves a_rt_belows a_rt_aboveNow a_rt_belowNow a_yl a_yl_aboves a_yl_belows a_m a_m_stepCount a_m_froms a_m_cents a_m_uses a_m_stocks a_m_alternates a_m_assemblies a_m_placings a_m_yieldAbove a_m_yieldBelow a_m_dayCount a_m_days a_m_rateAbove a_m_rateBelow a_m_costs a_m_pieces a_m_maker a_m_partOf a_m_keptCosts a_m_keptPieces a_m_keptMaker a_m_keptPart a_m_oldCosts a_out a_dr a_dr_costs a_dr_pieces a_dr_makers a_dr_parts a_la a_la_costs a_la_pieces a_la_makers a_la_parts a_be a_be_costs a_be_pieces a_be_makers a_be_parts partCount tooling used stock alts asm placed sp_froms_keys sp_froms_sizes sp_cents rt_days_keys rt_days_sizes rt_aboves rt_belows rt_aboveNow rt_belowNow yl_count yl_aboves yl_belows dr_rowCount dr_costs dr_pieces dr_makers dr_parts la_rowCount la_costs la_pieces la_makers la_parts be_rowCount be_costs be_pieces be_makers be_parts m_thrown m_parts m_yields m_tools m_can m_sum m_ran m_keptRows m_stepCount m_froms m_cents m_uses m_stocks m_alternates m_assemblies m_placings m_yieldAbove m_yieldBelow m_dayCount m_days m_rateAbove m_rateBelow m_costs m_pieces m_maker m_partOf m_keptCosts m_keptPieces m_keptMaker m_keptPart m_oldCosts out h => law_loop hl X SC hr9 hL 513 0 (by omega) (by omega) a_dr a_dr_costs a_dr_pieces a_dr_makers a_dr_parts a_la a_la_costs a_la_pieces a_la_makers a_la_parts a_be a_be_costs a_be_pieces a_be_makers a_be_parts partCount tooling used stock alts asm placed sp_froms_keys sp_froms_sizes sp_cents rt_days_keys rt_days_sizes rt_aboves rt_belows rt_aboveNow rt_belowNow yl_count yl_aboves yl_belows dr_rowCount dr_costs dr_pieces dr_makers dr_parts la_rowCount la_costs la_pieces la_makers la_parts be_rowCount be_costs be_pieces be_makers be_parts m_thrown m_parts m_yields m_tools m_can m_sum m_ran m_keptRows m_stepCount m_froms m_cents m_uses m_stocks m_alternates m_assemblies m_placings m_yieldAbove m_yieldBelow m_dayCount m_days m_rateAbove m_rateBelow m_costs m_pieces m_maker m_partOf m_keptCosts m_keptPieces m_keptMaker m_keptPart m_oldCosts out h) pro0
  have hP : va_P D vwCl [] s.heap := fun k q h => by simp at h
  have hD : va_D (fun q : Nat => s.heap.size ≤ q) [] := ⟨fun i j p q h => by simp at h, fun k q h => by simp at h⟩
  have hl9 := lv_entry ([.ref b]) (n := 8) (Nat.le_of_ble_eq_true rfl)
  rw [lg_entry_eq]
  exact K9 s.heap [] _ hP hD va_S.rf hl9
set_option maxHeartbeats 4000000 in
theorem lw_walk (l : Launch) (hl : l.stackTraces = false) (b : Addr) (xs : List Int32) : MetFree l x (headSpec (Jvm.Cond.code x code maxLocals ret :: tables_1) room_1) (lw_P b xs) (fun _ _ _ _ _ => True) lw_Q := by
  refine MetFree.of_bodyS (code := code) (maxLocals := maxLocals) (ret := ret) (by decide) ?_ ?_
  · intro args s m h hn
    obtain ⟨meth, c, h1, h2, h3, h4, h5, h6, -, -⟩ := Cond.code_spec hn (atoms_spec (ws := Jvm.Cond.code x code maxLocals ret :: tables_1) h _ List.mem_cons_self)
    exact ⟨meth, c, h1, h2, h3, h4, h5, h6⟩
  · intro p e s m args below meth c s₁ B hml0 hP _
    obtain ⟨rfl, hx, hbd, hgv⟩ := hP
    obtain ⟨scr, harrAt, hlist, hof, hsmall⟩ := hx
    obtain ⟨hcb, hkn, -, -⟩ := State.arrayAt?_spec harrAt
    have hown : s.vm.findClass R_law = some m.cls := findClass_of_methodNamed B.named
    have hts0 : ∀ c ∈ (Jvm.Cond.code x code maxLocals ret :: tables_1), c.before #[Value.ref b] s = true := atoms_spec (ws := Jvm.Cond.code x code maxLocals ret :: tables_1) B.pre
    have hts : ∀ w ∈ lw_tbl, w.before #[Value.ref b] s = true := k2_hts_sels lw_privs (fun w hw => hts0 w (List.mem_cons_of_mem _ hw)) lw_privs_ok
    have hml : c.maxLocals = 8 := B.maxLocals_eq (hts0 _ List.mem_cons_self)
    have X₀ : Stand p l e room_1 s m #[Value.ref b] below meth c s₁ [] 0 0 := Stand.of_body B
    have hh0 : s₁.heap = s.heap := by rw [B.state]; rfl
    have hsz : scr.slots.size = xs.length := by rw [← Array.length_toList, hlist, List.length_map]
    have hval : ∀ j : Nat, j < xs.length → scr.slots[j]? = some (.int (xs.getD j 0)) := fun j hj => by
      rw [← Array.getElem?_toList, hlist]
      simp [hj]
    have hbl : b < s.heap.size := (Array.getElem?_eq_some_iff.mp hcb).1
    have hX : va_X b xs.length (fun j => xs.getD j 0) s s.heap := ⟨scr, hcb, hof, hkn, hsz, hval⟩
    have K : W p l e room_1 s m #[Value.ref b] below meth c s₁.heap [] 0 0 (lw_Z below #[Value.ref b] s) (entryFrame m ([Value.ref b] : List Value).toArray 8) := by
      rw [hh0]
      exact whole_start l hl hbd ⟨B.exec, B.bytes, B.returns, hml, hown, hts, hX, hbl, B.notSynchronized, hgv⟩
    obtain ⟨t, a1, o, b1, b2, b3⟩ := K s₁ rfl X₀
    exact ⟨t, o, a1, b1, b2, b3⟩
theorem lw_pre_spec {args : Array Value} {s : State} (h : (Jvm.Cond.and given_1 narrow_1).before args s = true) (hr : rest_1_c.before args s = true) : ∃ (b : Addr) (xs : List Int32), lw_P b xs args s := by
  have hs := flat_of_before _ h
  have hq := flat_of_before _ hr
  have hc : (Cond.count 1).before args s = true := hs _ (by decide +kernel)
  have harr : (Cond.arrayOf (.arg 0) .int).before args s = true := hs _ (by decide +kernel)
  have hle : (Cond.le (.length (.arg 0)) (.int 4096)).before args s = true := hs _ (by decide +kernel)
  have hlen : (Cond.isInt (.length (.arg 0))).before args s = true := hq _ (by decide +kernel)
  have hall : (Cond.all (.arg 0) (.isInt (.elem (.arg 0) (.index 0)))).before args s = true := hq _ (by decide +kernel)
  obtain ⟨b, xs, hb, hx⟩ := State.ints_of_pre rfl harr hlen hall
  have hsm : xs.length < 2 ^ 31 := hx.choose_spec.2.2.2
  have hev : (Term.length (.arg 0)).eval args s none [] s = some (.int xs.length.toInt32) := hx.length_eval hb
  have hv := Cond.le_ints hev (show (Term.int 4096).eval args s none [] s = some (.int 4096) from rfl)
  have hd : xs.length.toInt32 ≤ 4096 := by
    simpa [Cond.before, Cond.holds, hv] using hle
  have hN : xs.length ≤ 4096 := (Int32.ofNat_le_ofNat hsm (by decide)).mp (show Int32.ofNat xs.length ≤ Int32.ofNat 4096 from hd)
  exact ⟨b, xs, Cond.one_arg hc (show args[0]? = some (.ref b) from hb), hx, hN, h⟩
theorem lw_comes (l : Launch) (hl : l.stackTraces = false) : Comes l x (Jvm.Cond.code x code maxLocals ret :: tables_1) room_1 (fun tb e args s => Calls_1 tb e args s ∧ rest_1 tb e args s ∧ Pre_1 tb e args s)
    (fun _ _ args s o t => lw_Q args s o t) := by
  intro p e ha hc hk s m args below hf hfit hheap happ hpre
  obtain ⟨b, xs, hP⟩ := lw_pre_spec hpre.2.2 hpre.2.1
  obtain ⟨k, o, h1, h2, h3, hQ⟩ := lw_walk l hl b xs p e ha hc hk s m args below hf ((Spec.applies_iff_loose hf).mp happ).1 hP trivial
  exact ⟨k, o, h1, h2, h3, hQ⟩
theorem lw_frame {s t : State} {o : Outcome} {args : Array Value} (h : Framed s o t [] 601024 7293034) :
    Framed s o t (fieldLocs frame_1_writes args s ++ arrayLocs frame_1_arrays args s ++ staticLocs frame_1_statics s) 601024 7293034 := h
theorem lw_limb (L : Cond) (hL : ∀ (args : Array Value) (s t : State), L.after args s (.returned (some (.int 1))) t = true) :
    ArmFor flags0 classFile x code maxLocals ret World_1 tables_1 room_1 Calls_1 rest_1 Pre_1
      (fun tb e a s o t => postC L tb e a s o t ∧ Framed s o t (fieldLocs frame_1_writes a s ++ arrayLocs frame_1_arrays a s ++ staticLocs frame_1_statics s) 601024 7293034) := by
  intro l hf0 _ _ p e ha hc hk s m args below hf hfit hheap happ hpre
  obtain ⟨k, o, h1, h2, h3, rfl, hF⟩ := lw_comes l (by unfold Launch.stackTraces; rw [hf0]; decide) p e ha hc hk s m args below hf hfit hheap happ hpre
  exact ⟨k, _, h1, h2, h3, hL args s _, lw_frame hF⟩
theorem i_vc : Claimed_1_1 ∧ Claimed_1_2 := ⟨lw_limb limb_1_1 (fun args s t => by simp [limb_1_1, Cond.after, Cond.holds, Cond.value]), lw_limb limb_1_2 (fun args s t => Cond.after_iff.mpr (by
  first | (rw [show limb_1_2 = Cond.eq .result (.int 1) from rfl, Cond.eq_ints (x := 1) (y := 1) rfl rfl]; simp; done) | (simp [limb_1_2, Cond.value, Term.eval]; done)))⟩
