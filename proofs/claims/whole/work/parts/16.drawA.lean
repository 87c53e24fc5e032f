theorem h9_C_mayStandIn : y_C_mayStandIn.cls ≠ "java/lang/invoke/MethodHandle" ∧ y_C_mayStandIn.cls ≠ "java/lang/invoke/VarHandle" ∧ (parseMethodDescriptor y_C_mayStandIn.desc).map (fun d => d.parameters.length) = some 2 := by decide +kernel
def wp_C_mayStandIn_J23 (Q : Int32 → Prop) (v1 : Int32) : Prop :=
  (v1 = 0 ∨ v1 = 1) ∧ Q v1
def wp_C_mayStandIn_J18 (Q : Int32 → Prop) : Prop :=
  wp_C_mayStandIn_J23 Q 1
def wp_C_mayStandIn (other : Int32) (part : Int32) (alts : Nat → Int32) (Q : Int32 → Prop) : Prop :=
  ((other = part) → wp_C_mayStandIn_J18 Q) ∧
  ((¬ other = part) → vp_in part 30 ∧
  ((((alts part.toNatClampNeg) &&& (1 <<< (other &&& 31))) = 0) → wp_C_mayStandIn_J23 Q 0) ∧
  ((¬ ((alts part.toNatClampNeg) &&& (1 <<< (other &&& 31))) = 0) → wp_C_mayStandIn_J18 Q))
set_option maxHeartbeats 4000000 in
set_option maxRecDepth 100000 in
theorem k_C_mayStandIn (g : GX) (hg : g.1.stackTraces = false) (a_t : Nat) (other : Int32) (part : Int32) (a_used : Nat) (a_stock : Nat) (a_alts : Nat) (a_asm : Nat) (a_placed : Nat) (a_sp : Nat) (a_rt : Nat) (a_yl : Nat) (partCount : Int32) (tooling : Int64) (a_dr : Nat) (a_la : Nat) (a_be : Nat) (alts : Nat → Int32) (Q : Int32 → Prop) (hw : wp_C_mayStandIn other part alts Q) : CT g y_C_mayStandIn c_C_mayStandIn 3 (some .boolean) ({ frames := 0, cells := 0, slots := 0, locals := 0 } : Room) [.ref a_t, .int other, .int part] [(a_t, .inr (5, [.ref a_used, .ref a_stock, .ref a_alts, .ref a_asm, .ref a_placed, .ref a_sp, .ref a_rt, .ref a_yl, .int partCount, .long tooling, .ref a_dr, .ref a_la, .ref a_be])), aI g a_alts 30 alts] (QI g [(a_t, .inr (5, [.ref a_used, .ref a_stock, .ref a_alts, .ref a_asm, .ref a_placed, .ref a_sp, .ref a_rt, .ref a_yl, .int partCount, .long tooling, .ref a_dr, .ref a_la, .ref a_be])), aI g a_alts 30 alts] (fun u : Unit => [(a_t, .inr (5, [.ref a_used, .ref a_stock, .ref a_alts, .ref a_asm, .ref a_placed, .ref a_sp, .ref a_rt, .ref a_yl, .int partCount, .long tooling, .ref a_dr, .ref a_la, .ref a_be])), aI g a_alts 30 alts]) (fun r u => Q r)) := by
  refine ct_of hg (by decide) (Nat.le_of_ble_eq_true rfl) (fun sz C X hr => ?_)
  unfold wp_C_mayStandIn at hw
  show ST g C [(a_t, .inr (5, [.ref a_used, .ref a_stock, .ref a_alts, .ref a_asm, .ref a_placed, .ref a_sp, .ref a_rt, .ref a_yl, .int partCount, .long tooling, .ref a_dr, .ref a_la, .ref a_be])), aI g a_alts 30 alts] [(0, .ref a_t), (1, .int other), (2, .int part)] [] 0 0 0
  refine st_iload_n X 1 d_C_mayStandIn_0 rfl rfl ?_
  refine st_iload_n X 2 d_C_mayStandIn_1 rfl rfl ?_
  have J23 : ∀ (v1 : Int32), wp_C_mayStandIn_J23 Q v1 → ST g C [(a_t, .inr (5, [.ref a_used, .ref a_stock, .ref a_alts, .ref a_asm, .ref a_placed, .ref a_sp, .ref a_rt, .ref a_yl, .int partCount, .long tooling, .ref a_dr, .ref a_la, .ref a_be])), aI g a_alts 30 alts] [(0, .ref a_t), (1, .int other), (2, .int part)] [.int v1] 23 0 0 := by
    intro v1 hw
    unfold wp_C_mayStandIn_J23 at hw
    obtain ⟨hz, hw⟩ := hw
    exact st_zret X hr () hw hz rfl (by decide) (by decide) d_C_mayStandIn_23
  have J18 : wp_C_mayStandIn_J18 Q → ST g C [(a_t, .inr (5, [.ref a_used, .ref a_stock, .ref a_alts, .ref a_asm, .ref a_placed, .ref a_sp, .ref a_rt, .ref a_yl, .int partCount, .long tooling, .ref a_dr, .ref a_la, .ref a_be])), aI g a_alts 30 alts] [(0, .ref a_t), (1, .int other), (2, .int part)] [] 18 0 0 := by
    intro hw
    unfold wp_C_mayStandIn_J18 at hw
    refine st_iconst X (v := 1) d_C_mayStandIn_18 (by decide) ?_
    refine st_goto X 23 d_C_mayStandIn_19 (by decide) ?_
    refine st_lv [0, 1, 2] rfl ?_
    exact J23 1 hw
  refine st_icmp_eq X 18 d_C_mayStandIn_2 (by decide) (fun hc => ?_) (fun hc => ?_)
  · replace hw := hw.1 hc
    refine st_lv [0, 1, 2] rfl ?_
    exact J18 hw
  · replace hw := hw.2 hc
    refine st_aload_n X 0 d_C_mayStandIn_5 rfl rfl ?_
    refine st_get X (ci := 5) in_C 0 2 wf_C_18 rfl rfl (by decide) rfl d_C_mayStandIn_6 ?_
    refine st_iload_n X 2 d_C_mayStandIn_9 rfl rfl ?_
    obtain ⟨hb1, hw⟩ := hw
    refine st_iald X 1 rfl hb1 d_C_mayStandIn_10 ?_
    refine st_iconst X (v := 1) d_C_mayStandIn_11 (by decide) ?_
    refine st_iload_n X 1 d_C_mayStandIn_12 rfl rfl ?_
    refine st_ishl X d_C_mayStandIn_13 ?_
    refine st_iand X d_C_mayStandIn_14 ?_
    refine st_if_eq X 22 d_C_mayStandIn_15 (by decide) (fun hc => ?_) (fun hc => ?_)
    · replace hw := hw.1 hc
      refine st_iconst X (v := 0) d_C_mayStandIn_22 (by decide) ?_
      refine st_lv [0, 1, 2] rfl ?_
      exact J23 0 hw
    · replace hw := hw.2 hc
      refine st_lv [0, 1, 2] rfl ?_
      exact J18 hw

theorem h9_C_offerSteps : y_C_offerSteps.cls ≠ "java/lang/invoke/MethodHandle" ∧ y_C_offerSteps.cls ≠ "java/lang/invoke/VarHandle" ∧ (parseMethodDescriptor y_C_offerSteps.desc).map (fun d => d.parameters.length) = some 4 := by decide +kernel
def wp_C_offerSteps_L41 (row : Int32) (needed : Int64) (maker : Int32) (sp_froms_keys : Nat → Int64) (sp_cents : Nat → Int64) (rt_aboveNow : Nat → Int64) (rt_belowNow : Nat → Int64) (v1 : Int32) (r2 : Int32) (Q : (Nat → Int64) → (Nat → Int32) → (Nat → Int32) → (Nat → Int32) → Prop) : Nat → Int32 → (Nat → Int64) → (Nat → Int32) → (Nat → Int32) → (Nat → Int32) → Prop
  | 0, _, _, _, _, _ => False
  | n41 + 1, v4, f5, f6, f7, f8 =>
  ((r2 ≤ v4) → Q f5 f6 f7 f8) ∧
  ((¬ r2 ≤ v4) → wp_St_fromAt v4 sp_froms_keys (fun r9 =>
  ∀ x10 : Int64, x10 = (if r9 < needed then needed else r9) →
  vp_in v4 1488 ∧
  wp_Ra_exchange maker (x10 * (sp_cents v4.toNatClampNeg)) rt_aboveNow rt_belowNow (fun r11 =>
  wp_Q_consider row r11 v1 maker x10.toInt32 f5 f6 f7 f8 (fun u12 u13 u14 u15 =>
  ∀ x16 : Int32, x16 = v4 + 1 →
  (wp_C_offerSteps_L41 row needed maker sp_froms_keys sp_cents rt_aboveNow rt_belowNow v1 r2 Q n41) x16 u12 u13 u14 u15))))
def wp_C_offerSteps_J13 (row : Int32) (needed : Int64) (thing : Int32) (maker : Int32) (sp_froms_keys : Nat → Int64) (sp_froms_sizes : Nat → Int32) (sp_cents : Nat → Int64) (rt_aboveNow : Nat → Int64) (rt_belowNow : Nat → Int64) (dr_costs : Nat → Int64) (dr_pieces : Nat → Int32) (dr_makers : Nat → Int32) (dr_parts : Nat → Int32) (Q : (Nat → Int64) → (Nat → Int32) → (Nat → Int32) → (Nat → Int32) → Prop) (v1 : Int32) : Prop :=
  wp_St_endSlot thing maker sp_froms_sizes (fun r2 =>
  wp_St_firstSlot thing maker (fun r3 =>
  ∃ n41 : Nat, wp_C_offerSteps_L41 row needed maker sp_froms_keys sp_cents rt_aboveNow rt_belowNow v1 r2 Q n41 r3 dr_costs dr_pieces dr_makers dr_parts))
def wp_C_offerSteps (row : Int32) (needed : Int64) (thing : Int32) (maker : Int32) (sp_froms_keys : Nat → Int64) (sp_froms_sizes : Nat → Int32) (sp_cents : Nat → Int64) (rt_aboveNow : Nat → Int64) (rt_belowNow : Nat → Int64) (dr_costs : Nat → Int64) (dr_pieces : Nat → Int32) (dr_makers : Nat → Int32) (dr_parts : Nat → Int32) (Q : (Nat → Int64) → (Nat → Int32) → (Nat → Int32) → (Nat → Int32) → Prop) : Prop :=
  ((¬ thing = 30) → wp_C_offerSteps_J13 row needed thing maker sp_froms_keys sp_froms_sizes sp_cents rt_aboveNow rt_belowNow dr_costs dr_pieces dr_makers dr_parts Q thing) ∧
  ((thing = 30) → wp_C_offerSteps_J13 row needed thing maker sp_froms_keys sp_froms_sizes sp_cents rt_aboveNow rt_belowNow dr_costs dr_pieces dr_makers dr_parts Q (-1))
set_option maxHeartbeats 4000000 in
set_option maxRecDepth 100000 in
theorem k_C_offerSteps (g : GX) (hg : g.1.stackTraces = false) (a_t : Nat) (row : Int32) (needed : Int64) (thing : Int32) (maker : Int32) (a_used : Nat) (a_stock : Nat) (a_alts : Nat) (a_asm : Nat) (a_placed : Nat) (a_sp : Nat) (a_rt : Nat) (a_yl : Nat) (partCount : Int32) (tooling : Int64) (a_dr : Nat) (a_la : Nat) (a_be : Nat) (a_sp_froms : Nat) (a_sp_cents : Nat) (a_sp_froms_keys : Nat) (a_sp_froms_sizes : Nat) (sp_froms_keys : Nat → Int64) (sp_froms_sizes : Nat → Int32) (sp_cents : Nat → Int64) (a_rt_days : Nat) (a_rt_aboves : Nat) (a_rt_belows : Nat) (a_rt_aboveNow : Nat) (a_rt_belowNow : Nat) (rt_aboveNow : Nat → Int64) (rt_belowNow : Nat → Int64) (a_dr_costs : Nat) (a_dr_pieces : Nat) (a_dr_makers : Nat) (a_dr_parts : Nat) (dr_rowCount : Int32) (dr_costs : Nat → Int64) (dr_pieces : Nat → Int32) (dr_makers : Nat → Int32) (dr_parts : Nat → Int32) (Q : (Nat → Int64) → (Nat → Int32) → (Nat → Int32) → (Nat → Int32) → Prop) (hw : wp_C_offerSteps row needed thing maker sp_froms_keys sp_froms_sizes sp_cents rt_aboveNow rt_belowNow dr_costs dr_pieces dr_makers dr_parts Q) : CT g y_C_offerSteps c_C_offerSteps 13 none ({ frames := 2, cells := 0, slots := 0, locals := 52 } : Room) [.ref a_t, .int row, .long needed, .int thing, .int maker] [(a_t, .inr (5, [.ref a_used, .ref a_stock, .ref a_alts, .ref a_asm, .ref a_placed, .ref a_sp, .ref a_rt, .ref a_yl, .int partCount, .long tooling, .ref a_dr, .ref a_la, .ref a_be])), (a_sp, .inr (3, [.ref a_sp_froms, .ref a_sp_cents])), (a_sp_froms, .inr (0, [.ref a_sp_froms_keys, .ref a_sp_froms_sizes])), aJ g a_sp_froms_keys 1488 sp_froms_keys, aI g a_sp_froms_sizes 248 sp_froms_sizes, aJ g a_sp_cents 1488 sp_cents, (a_rt, .inr (2, [.ref a_rt_days, .ref a_rt_aboves, .ref a_rt_belows, .ref a_rt_aboveNow, .ref a_rt_belowNow])), aJ g a_rt_aboveNow 8 rt_aboveNow, aJ g a_rt_belowNow 8 rt_belowNow, (a_dr, .inr (1, [.ref a_dr_costs, .ref a_dr_pieces, .ref a_dr_makers, .ref a_dr_parts, .int dr_rowCount])), aJ g a_dr_costs 33 dr_costs, aI g a_dr_pieces 33 dr_pieces, aI g a_dr_makers 33 dr_makers, aI g a_dr_parts 33 dr_parts] (QV g [(a_t, .inr (5, [.ref a_used, .ref a_stock, .ref a_alts, .ref a_asm, .ref a_placed, .ref a_sp, .ref a_rt, .ref a_yl, .int partCount, .long tooling, .ref a_dr, .ref a_la, .ref a_be])), (a_sp, .inr (3, [.ref a_sp_froms, .ref a_sp_cents])), (a_sp_froms, .inr (0, [.ref a_sp_froms_keys, .ref a_sp_froms_sizes])), aJ g a_sp_froms_keys 1488 sp_froms_keys, aI g a_sp_froms_sizes 248 sp_froms_sizes, aJ g a_sp_cents 1488 sp_cents, (a_rt, .inr (2, [.ref a_rt_days, .ref a_rt_aboves, .ref a_rt_belows, .ref a_rt_aboveNow, .ref a_rt_belowNow])), aJ g a_rt_aboveNow 8 rt_aboveNow, aJ g a_rt_belowNow 8 rt_belowNow, (a_dr, .inr (1, [.ref a_dr_costs, .ref a_dr_pieces, .ref a_dr_makers, .ref a_dr_parts, .int dr_rowCount])), aJ g a_dr_costs 33 dr_costs, aI g a_dr_pieces 33 dr_pieces, aI g a_dr_makers 33 dr_makers, aI g a_dr_parts 33 dr_parts] (fun u : (Nat → Int64) × (Nat → Int32) × (Nat → Int32) × (Nat → Int32) => [(a_t, .inr (5, [.ref a_used, .ref a_stock, .ref a_alts, .ref a_asm, .ref a_placed, .ref a_sp, .ref a_rt, .ref a_yl, .int partCount, .long tooling, .ref a_dr, .ref a_la, .ref a_be])), (a_sp, .inr (3, [.ref a_sp_froms, .ref a_sp_cents])), (a_sp_froms, .inr (0, [.ref a_sp_froms_keys, .ref a_sp_froms_sizes])), aJ g a_sp_froms_keys 1488 sp_froms_keys, aI g a_sp_froms_sizes 248 sp_froms_sizes, aJ g a_sp_cents 1488 sp_cents, (a_rt, .inr (2, [.ref a_rt_days, .ref a_rt_aboves, .ref a_rt_belows, .ref a_rt_aboveNow, .ref a_rt_belowNow])), aJ g a_rt_aboveNow 8 rt_aboveNow, aJ g a_rt_belowNow 8 rt_belowNow, (a_dr, .inr (1, [.ref a_dr_costs, .ref a_dr_pieces, .ref a_dr_makers, .ref a_dr_parts, .int dr_rowCount])), aJ g a_dr_costs 33 u.1, aI g a_dr_pieces 33 u.2.1, aI g a_dr_makers 33 u.2.2.1, aI g a_dr_parts 33 u.2.2.2]) (fun u => Q u.1 u.2.1 u.2.2.1 u.2.2.2)) := by
  refine ct_of hg (by decide) (Nat.le_of_ble_eq_true rfl) (fun sz C X hr => ?_)
  unfold wp_C_offerSteps at hw
  show ST g C [(a_t, .inr (5, [.ref a_used, .ref a_stock, .ref a_alts, .ref a_asm, .ref a_placed, .ref a_sp, .ref a_rt, .ref a_yl, .int partCount, .long tooling, .ref a_dr, .ref a_la, .ref a_be])), (a_sp, .inr (3, [.ref a_sp_froms, .ref a_sp_cents])), (a_sp_froms, .inr (0, [.ref a_sp_froms_keys, .ref a_sp_froms_sizes])), aJ g a_sp_froms_keys 1488 sp_froms_keys, aI g a_sp_froms_sizes 248 sp_froms_sizes, aJ g a_sp_cents 1488 sp_cents, (a_rt, .inr (2, [.ref a_rt_days, .ref a_rt_aboves, .ref a_rt_belows, .ref a_rt_aboveNow, .ref a_rt_belowNow])), aJ g a_rt_aboveNow 8 rt_aboveNow, aJ g a_rt_belowNow 8 rt_belowNow, (a_dr, .inr (1, [.ref a_dr_costs, .ref a_dr_pieces, .ref a_dr_makers, .ref a_dr_parts, .int dr_rowCount])), aJ g a_dr_costs 33 dr_costs, aI g a_dr_pieces 33 dr_pieces, aI g a_dr_makers 33 dr_makers, aI g a_dr_parts 33 dr_parts] [(0, .ref a_t), (1, .int row), (2, .long needed), (4, .int thing), (5, .int maker)] [] 0 0 0
  refine st_iload X 3 d_C_offerSteps_0 rfl ?_
  refine st_bipush X (v := 30) d_C_offerSteps_2 (by decide) ?_
  have J13 : ∀ (v1 : Int32), wp_C_offerSteps_J13 row needed thing maker sp_froms_keys sp_froms_sizes sp_cents rt_aboveNow rt_belowNow dr_costs dr_pieces dr_makers dr_parts Q v1 → ST g C [(a_t, .inr (5, [.ref a_used, .ref a_stock, .ref a_alts, .ref a_asm, .ref a_placed, .ref a_sp, .ref a_rt, .ref a_yl, .int partCount, .long tooling, .ref a_dr, .ref a_la, .ref a_be])), (a_sp, .inr (3, [.ref a_sp_froms, .ref a_sp_cents])), (a_sp_froms, .inr (0, [.ref a_sp_froms_keys, .ref a_sp_froms_sizes])), aJ g a_sp_froms_keys 1488 sp_froms_keys, aI g a_sp_froms_sizes 248 sp_froms_sizes, aJ g a_sp_cents 1488 sp_cents, (a_rt, .inr (2, [.ref a_rt_days, .ref a_rt_aboves, .ref a_rt_belows, .ref a_rt_aboveNow, .ref a_rt_belowNow])), aJ g a_rt_aboveNow 8 rt_aboveNow, aJ g a_rt_belowNow 8 rt_belowNow, (a_dr, .inr (1, [.ref a_dr_costs, .ref a_dr_pieces, .ref a_dr_makers, .ref a_dr_parts, .int dr_rowCount])), aJ g a_dr_costs 33 dr_costs, aI g a_dr_pieces 33 dr_pieces, aI g a_dr_makers 33 dr_makers, aI g a_dr_parts 33 dr_parts] [(0, .ref a_t), (1, .int row), (2, .long needed), (4, .int thing), (5, .int maker)] [.int v1] 13 0 0 := by
    intro v1 hw
    unfold wp_C_offerSteps_J13 at hw
    refine st_istore X (lv2 := [(6, .int v1), (0, .ref a_t), (1, .int row), (2, .long needed), (4, .int thing), (5, .int maker)]) d_C_offerSteps_13 (by decide) rfl ?_
    refine st_aload_n X 1 d_C_offerSteps_15 rfl rfl ?_
    refine st_get X (ci := 5) in_C 0 5 wf_C_31 rfl rfl (by decide) rfl d_C_offerSteps_16 ?_
    refine st_iload X 4 d_C_offerSteps_19 rfl ?_
    refine st_iload X 5 d_C_offerSteps_21 rfl ?_
    have hR := rn_VN (pc := 23) (k := 0) (n := 0) (As := [.int thing, .int maker]) (rest := []) X (k_St_endSlot g hg a_sp thing maker a_sp_froms a_sp_cents a_sp_froms_keys a_sp_froms_sizes sp_froms_sizes _ hw) (q0 := 0) rfl rfl nl_C_195 wi_St_endSlot wl_St_endSlot wz_St wc_St_endSlot h9_St_endSlot ⟨by decide, by decide⟩ (Nat.le_of_ble_eq_true rfl) ⟨by decide, by decide⟩ d_C_offerSteps_23
    refine st_calli X hR [1, 2, 4] [0, 3, 5, 6, 7, 8, 9, 10, 11, 12, 13] (wr := [(a_t, .inr (5, [.ref a_used, .ref a_stock, .ref a_alts, .ref a_asm, .ref a_placed, .ref a_sp, .ref a_rt, .ref a_yl, .int partCount, .long tooling, .ref a_dr, .ref a_la, .ref a_be])), aJ g a_sp_froms_keys 1488 sp_froms_keys, aJ g a_sp_cents 1488 sp_cents, (a_rt, .inr (2, [.ref a_rt_days, .ref a_rt_aboves, .ref a_rt_belows, .ref a_rt_aboveNow, .ref a_rt_belowNow])), aJ g a_rt_aboveNow 8 rt_aboveNow, aJ g a_rt_belowNow 8 rt_belowNow, (a_dr, .inr (1, [.ref a_dr_costs, .ref a_dr_pieces, .ref a_dr_makers, .ref a_dr_parts, .int dr_rowCount])), aJ g a_dr_costs 33 dr_costs, aI g a_dr_pieces 33 dr_pieces, aI g a_dr_makers 33 dr_makers, aI g a_dr_parts 33 dr_parts]) rfl rfl (by decide) (by decide) (by decide) (fun r2 u9 hw => ?_)
    try dsimp only at hw
    refine st_widen (k2 := 0) (n2 := 0) (by decide) (by decide) ?_
    refine st_perm (ws2 := [(a_t, .inr (5, [.ref a_used, .ref a_stock, .ref a_alts, .ref a_asm, .ref a_placed, .ref a_sp, .ref a_rt, .ref a_yl, .int partCount, .long tooling, .ref a_dr, .ref a_la, .ref a_be])), (a_sp, .inr (3, [.ref a_sp_froms, .ref a_sp_cents])), (a_sp_froms, .inr (0, [.ref a_sp_froms_keys, .ref a_sp_froms_sizes])), aJ g a_sp_froms_keys 1488 sp_froms_keys, aI g a_sp_froms_sizes 248 sp_froms_sizes, aJ g a_sp_cents 1488 sp_cents, (a_rt, .inr (2, [.ref a_rt_days, .ref a_rt_aboves, .ref a_rt_belows, .ref a_rt_aboveNow, .ref a_rt_belowNow])), aJ g a_rt_aboveNow 8 rt_aboveNow, aJ g a_rt_belowNow 8 rt_belowNow, (a_dr, .inr (1, [.ref a_dr_costs, .ref a_dr_pieces, .ref a_dr_makers, .ref a_dr_parts, .int dr_rowCount])), aJ g a_dr_costs 33 dr_costs, aI g a_dr_pieces 33 dr_pieces, aI g a_dr_makers 33 dr_makers, aI g a_dr_parts 33 dr_parts]) [0, 11, 12, 1, 13, 2, 3, 4, 5, 6, 7, 8, 9, 10] rfl (by decide) ?_
    show ST g C [(a_t, .inr (5, [.ref a_used, .ref a_stock, .ref a_alts, .ref a_asm, .ref a_placed, .ref a_sp, .ref a_rt, .ref a_yl, .int partCount, .long tooling, .ref a_dr, .ref a_la, .ref a_be])), (a_sp, .inr (3, [.ref a_sp_froms, .ref a_sp_cents])), (a_sp_froms, .inr (0, [.ref a_sp_froms_keys, .ref a_sp_froms_sizes])), aJ g a_sp_froms_keys 1488 sp_froms_keys, aI g a_sp_froms_sizes 248 sp_froms_sizes, aJ g a_sp_cents 1488 sp_cents, (a_rt, .inr (2, [.ref a_rt_days, .ref a_rt_aboves, .ref a_rt_belows, .ref a_rt_aboveNow, .ref a_rt_belowNow])), aJ g a_rt_aboveNow 8 rt_aboveNow, aJ g a_rt_belowNow 8 rt_belowNow, (a_dr, .inr (1, [.ref a_dr_costs, .ref a_dr_pieces, .ref a_dr_makers, .ref a_dr_parts, .int dr_rowCount])), aJ g a_dr_costs 33 dr_costs, aI g a_dr_pieces 33 dr_pieces, aI g a_dr_makers 33 dr_makers, aI g a_dr_parts 33 dr_parts] [(6, .int v1), (0, .ref a_t), (1, .int row), (2, .long needed), (4, .int thing), (5, .int maker)] [.int r2] 26 0 0
    refine st_istore X (lv2 := [(7, .int r2), (6, .int v1), (0, .ref a_t), (1, .int row), (2, .long needed), (4, .int thing), (5, .int maker)]) d_C_offerSteps_26 (by decide) rfl ?_
    refine st_aload_n X 2 d_C_offerSteps_28 rfl rfl ?_
    refine st_get X (ci := 5) in_C 0 5 wf_C_31 rfl rfl (by decide) rfl d_C_offerSteps_29 ?_
    refine st_iload X 5 d_C_offerSteps_32 rfl ?_
    refine st_iload X 6 d_C_offerSteps_34 rfl ?_
    have hR := rn_VN (pc := 36) (k := 0) (n := 0) (As := [.int thing, .int maker]) (rest := []) X (k_St_firstSlot g hg a_sp thing maker a_sp_froms a_sp_cents a_sp_froms_keys a_sp_froms_sizes _ hw) (q0 := 0) rfl rfl nl_C_199 wi_St_firstSlot wl_St_firstSlot wz_St wc_St_firstSlot h9_St_firstSlot ⟨by decide, by decide⟩ (Nat.le_of_ble_eq_true rfl) ⟨by decide, by decide⟩ d_C_offerSteps_36
    refine st_calli X hR [1, 2] [0, 3, 4, 5, 6, 7, 8, 9, 10, 11, 12, 13] (wr := [(a_t, .inr (5, [.ref a_used, .ref a_stock, .ref a_alts, .ref a_asm, .ref a_placed, .ref a_sp, .ref a_rt, .ref a_yl, .int partCount, .long tooling, .ref a_dr, .ref a_la, .ref a_be])), aJ g a_sp_froms_keys 1488 sp_froms_keys, aI g a_sp_froms_sizes 248 sp_froms_sizes, aJ g a_sp_cents 1488 sp_cents, (a_rt, .inr (2, [.ref a_rt_days, .ref a_rt_aboves, .ref a_rt_belows, .ref a_rt_aboveNow, .ref a_rt_belowNow])), aJ g a_rt_aboveNow 8 rt_aboveNow, aJ g a_rt_belowNow 8 rt_belowNow, (a_dr, .inr (1, [.ref a_dr_costs, .ref a_dr_pieces, .ref a_dr_makers, .ref a_dr_parts, .int dr_rowCount])), aJ g a_dr_costs 33 dr_costs, aI g a_dr_pieces 33 dr_pieces, aI g a_dr_makers 33 dr_makers, aI g a_dr_parts 33 dr_parts]) rfl rfl (by decide) (by decide) (by decide) (fun r3 u9 hw => ?_)
    try dsimp only at hw
    refine st_widen (k2 := 0) (n2 := 0) (by decide) (by decide) ?_
    refine st_perm (ws2 := [(a_t, .inr (5, [.ref a_used, .ref a_stock, .ref a_alts, .ref a_asm, .ref a_placed, .ref a_sp, .ref a_rt, .ref a_yl, .int partCount, .long tooling, .ref a_dr, .ref a_la, .ref a_be])), (a_sp, .inr (3, [.ref a_sp_froms, .ref a_sp_cents])), (a_sp_froms, .inr (0, [.ref a_sp_froms_keys, .ref a_sp_froms_sizes])), aJ g a_sp_froms_keys 1488 sp_froms_keys, aI g a_sp_froms_sizes 248 sp_froms_sizes, aJ g a_sp_cents 1488 sp_cents, (a_rt, .inr (2, [.ref a_rt_days, .ref a_rt_aboves, .ref a_rt_belows, .ref a_rt_aboveNow, .ref a_rt_belowNow])), aJ g a_rt_aboveNow 8 rt_aboveNow, aJ g a_rt_belowNow 8 rt_belowNow, (a_dr, .inr (1, [.ref a_dr_costs, .ref a_dr_pieces, .ref a_dr_makers, .ref a_dr_parts, .int dr_rowCount])), aJ g a_dr_costs 33 dr_costs, aI g a_dr_pieces 33 dr_pieces, aI g a_dr_makers 33 dr_makers, aI g a_dr_parts 33 dr_parts]) [0, 12, 13, 1, 2, 3, 4, 5, 6, 7, 8, 9, 10, 11] rfl (by decide) ?_
    show ST g C [(a_t, .inr (5, [.ref a_used, .ref a_stock, .ref a_alts, .ref a_asm, .ref a_placed, .ref a_sp, .ref a_rt, .ref a_yl, .int partCount, .long tooling, .ref a_dr, .ref a_la, .ref a_be])), (a_sp, .inr (3, [.ref a_sp_froms, .ref a_sp_cents])), (a_sp_froms, .inr (0, [.ref a_sp_froms_keys, .ref a_sp_froms_sizes])), aJ g a_sp_froms_keys 1488 sp_froms_keys, aI g a_sp_froms_sizes 248 sp_froms_sizes, aJ g a_sp_cents 1488 sp_cents, (a_rt, .inr (2, [.ref a_rt_days, .ref a_rt_aboves, .ref a_rt_belows, .ref a_rt_aboveNow, .ref a_rt_belowNow])), aJ g a_rt_aboveNow 8 rt_aboveNow, aJ g a_rt_belowNow 8 rt_belowNow, (a_dr, .inr (1, [.ref a_dr_costs, .ref a_dr_pieces, .ref a_dr_makers, .ref a_dr_parts, .int dr_rowCount])), aJ g a_dr_costs 33 dr_costs, aI g a_dr_pieces 33 dr_pieces, aI g a_dr_makers 33 dr_makers, aI g a_dr_parts 33 dr_parts] [(7, .int r2), (6, .int v1), (0, .ref a_t), (1, .int row), (2, .long needed), (4, .int thing), (5, .int maker)] [.int r3] 39 0 0
    refine st_istore X (lv2 := [(8, .int r3), (7, .int r2), (6, .int v1), (0, .ref a_t), (1, .int row), (2, .long needed), (4, .int thing), (5, .int maker)]) d_C_offerSteps_39 (by decide) rfl ?_
    have L41 : ∀ (n41 : Nat) (v4 : Int32) (f5 : Nat → Int64) (f6 : Nat → Int32) (f7 : Nat → Int32) (f8 : Nat → Int32), wp_C_offerSteps_L41 row needed maker sp_froms_keys sp_cents rt_aboveNow rt_belowNow v1 r2 Q n41 v4 f5 f6 f7 f8 → ST g C [(a_t, .inr (5, [.ref a_used, .ref a_stock, .ref a_alts, .ref a_asm, .ref a_placed, .ref a_sp, .ref a_rt, .ref a_yl, .int partCount, .long tooling, .ref a_dr, .ref a_la, .ref a_be])), (a_sp, .inr (3, [.ref a_sp_froms, .ref a_sp_cents])), (a_sp_froms, .inr (0, [.ref a_sp_froms_keys, .ref a_sp_froms_sizes])), aJ g a_sp_froms_keys 1488 sp_froms_keys, aI g a_sp_froms_sizes 248 sp_froms_sizes, aJ g a_sp_cents 1488 sp_cents, (a_rt, .inr (2, [.ref a_rt_days, .ref a_rt_aboves, .ref a_rt_belows, .ref a_rt_aboveNow, .ref a_rt_belowNow])), aJ g a_rt_aboveNow 8 rt_aboveNow, aJ g a_rt_belowNow 8 rt_belowNow, (a_dr, .inr (1, [.ref a_dr_costs, .ref a_dr_pieces, .ref a_dr_makers, .ref a_dr_parts, .int dr_rowCount])), aJ g a_dr_costs 33 f5, aI g a_dr_pieces 33 f6, aI g a_dr_makers 33 f7, aI g a_dr_parts 33 f8] [(0, .ref a_t), (1, .int row), (2, .long needed), (4, .int thing), (5, .int maker), (6, .int v1), (7, .int r2), (8, .int v4)] [] 41 0 0 := by
      intro n41
      induction n41 with
      | zero => intro v4 f5 f6 f7 f8 hw; exact hw.elim
      | succ n41 ih41 =>
        intro v4 f5 f6 f7 f8 hw
        rw [wp_C_offerSteps_L41] at hw
        refine st_iload X 7 d_C_offerSteps_41 rfl ?_
        refine st_iload X 6 d_C_offerSteps_43 rfl ?_
        refine st_icmp_ge X 110 d_C_offerSteps_45 (by decide) (fun hc => ?_) (fun hc => ?_)
        · replace hw := hw.1 hc
          exact st_vret X hr (f5, f6, f7, f8) hw rfl (by decide) (by decide) d_C_offerSteps_110
        · replace hw := hw.2 hc
          refine st_lload_n X 2 d_C_offerSteps_48 rfl rfl ?_
          refine st_aload_n X 0 d_C_offerSteps_49 rfl rfl ?_
          refine st_get X (ci := 5) in_C 0 5 wf_C_31 rfl rfl (by decide) rfl d_C_offerSteps_50 ?_
          refine st_iload X 7 d_C_offerSteps_53 rfl ?_
          have hR := rn_VN (pc := 55) (k := 0) (n := 0) (As := [.int v4]) (rest := [.long needed]) X (k_St_fromAt g hg a_sp v4 a_sp_froms a_sp_cents a_sp_froms_keys a_sp_froms_sizes sp_froms_keys _ hw) (q0 := 0) rfl rfl nl_C_202 wi_St_fromAt wl_St_fromAt wz_St wc_St_fromAt h9_St_fromAt ⟨by decide, by decide⟩ (Nat.le_of_ble_eq_true rfl) ⟨by decide, by decide⟩ d_C_offerSteps_55
          refine st_calll X hR [1, 2, 3] [0, 4, 5, 6, 7, 8, 9, 10, 11, 12, 13] (wr := [(a_t, .inr (5, [.ref a_used, .ref a_stock, .ref a_alts, .ref a_asm, .ref a_placed, .ref a_sp, .ref a_rt, .ref a_yl, .int partCount, .long tooling, .ref a_dr, .ref a_la, .ref a_be])), aI g a_sp_froms_sizes 248 sp_froms_sizes, aJ g a_sp_cents 1488 sp_cents, (a_rt, .inr (2, [.ref a_rt_days, .ref a_rt_aboves, .ref a_rt_belows, .ref a_rt_aboveNow, .ref a_rt_belowNow])), aJ g a_rt_aboveNow 8 rt_aboveNow, aJ g a_rt_belowNow 8 rt_belowNow, (a_dr, .inr (1, [.ref a_dr_costs, .ref a_dr_pieces, .ref a_dr_makers, .ref a_dr_parts, .int dr_rowCount])), aJ g a_dr_costs 33 f5, aI g a_dr_pieces 33 f6, aI g a_dr_makers 33 f7, aI g a_dr_parts 33 f8]) rfl rfl (by decide) (by decide) (by decide) (fun r9 u9 hw => ?_)
          try dsimp only at hw
          refine st_widen (k2 := 0) (n2 := 0) (by decide) (by decide) ?_
          refine st_perm (ws2 := [(a_t, .inr (5, [.ref a_used, .ref a_stock, .ref a_alts, .ref a_asm, .ref a_placed, .ref a_sp, .ref a_rt, .ref a_yl, .int partCount, .long tooling, .ref a_dr, .ref a_la, .ref a_be])), (a_sp, .inr (3, [.ref a_sp_froms, .ref a_sp_cents])), (a_sp_froms, .inr (0, [.ref a_sp_froms_keys, .ref a_sp_froms_sizes])), aJ g a_sp_froms_keys 1488 sp_froms_keys, aI g a_sp_froms_sizes 248 sp_froms_sizes, aJ g a_sp_cents 1488 sp_cents, (a_rt, .inr (2, [.ref a_rt_days, .ref a_rt_aboves, .ref a_rt_belows, .ref a_rt_aboveNow, .ref a_rt_belowNow])), aJ g a_rt_aboveNow 8 rt_aboveNow, aJ g a_rt_belowNow 8 rt_belowNow, (a_dr, .inr (1, [.ref a_dr_costs, .ref a_dr_pieces, .ref a_dr_makers, .ref a_dr_parts, .int dr_rowCount])), aJ g a_dr_costs 33 f5, aI g a_dr_pieces 33 f6, aI g a_dr_makers 33 f7, aI g a_dr_parts 33 f8]) [0, 11, 12, 13, 1, 2, 3, 4, 5, 6, 7, 8, 9, 10] rfl (by decide) ?_
          show ST g C [(a_t, .inr (5, [.ref a_used, .ref a_stock, .ref a_alts, .ref a_asm, .ref a_placed, .ref a_sp, .ref a_rt, .ref a_yl, .int partCount, .long tooling, .ref a_dr, .ref a_la, .ref a_be])), (a_sp, .inr (3, [.ref a_sp_froms, .ref a_sp_cents])), (a_sp_froms, .inr (0, [.ref a_sp_froms_keys, .ref a_sp_froms_sizes])), aJ g a_sp_froms_keys 1488 sp_froms_keys, aI g a_sp_froms_sizes 248 sp_froms_sizes, aJ g a_sp_cents 1488 sp_cents, (a_rt, .inr (2, [.ref a_rt_days, .ref a_rt_aboves, .ref a_rt_belows, .ref a_rt_aboveNow, .ref a_rt_belowNow])), aJ g a_rt_aboveNow 8 rt_aboveNow, aJ g a_rt_belowNow 8 rt_belowNow, (a_dr, .inr (1, [.ref a_dr_costs, .ref a_dr_pieces, .ref a_dr_makers, .ref a_dr_parts, .int dr_rowCount])), aJ g a_dr_costs 33 f5, aI g a_dr_pieces 33 f6, aI g a_dr_makers 33 f7, aI g a_dr_parts 33 f8] [(0, .ref a_t), (1, .int row), (2, .long needed), (4, .int thing), (5, .int maker), (6, .int v1), (7, .int r2), (8, .int v4)] [.long r9, .long needed] 58 0 0
          refine st_maxJ X wm_C_206 (by decide) (Nat.le_of_ble_eq_true rfl) (by decide) (by decide) d_C_offerSteps_58 ?_
          refine st_topl (fun x10 hx10 => ?_)
          replace hw := hw x10 hx10
          refine st_lstore X (lv2 := [(9, .long x10), (0, .ref a_t), (1, .int row), (2, .long needed), (4, .int thing), (5, .int maker), (6, .int v1), (7, .int r2), (8, .int v4)]) d_C_offerSteps_61 (by decide) rfl ?_
          refine st_aload_n X 1 d_C_offerSteps_63 rfl rfl ?_
          refine st_get X (ci := 5) in_C 0 6 wf_C_38 rfl rfl (by decide) rfl d_C_offerSteps_64 ?_
          refine st_iload X 5 d_C_offerSteps_67 rfl ?_
          refine st_lload X 0 d_C_offerSteps_69 rfl ?_
          refine st_aload_n X 1 d_C_offerSteps_71 rfl rfl ?_
          refine st_get X (ci := 5) in_C 0 5 wf_C_31 rfl rfl (by decide) rfl d_C_offerSteps_72 ?_
          refine st_getN X (ci := 3) in_St 1 1 nf_C_212 rfl rfl (by decide) rfl d_C_offerSteps_75 ?_
          refine st_iload X 8 d_C_offerSteps_78 rfl ?_
          obtain ⟨hb1, hw⟩ := hw
          refine st_lald X 5 rfl hb1 d_C_offerSteps_80 ?_
          refine st_lmul X d_C_offerSteps_81 ?_
          have hR := rn_VN (pc := 82) (k := 0) (n := 0) (As := [.int maker, .long (x10 * (sp_cents v4.toNatClampNeg))]) (rest := []) X (k_Ra_exchange g hg a_rt maker (x10 * (sp_cents v4.toNatClampNeg)) a_rt_days a_rt_aboves a_rt_belows a_rt_aboveNow a_rt_belowNow rt_aboveNow rt_belowNow _ hw) (q0 := 0) rfl rfl nl_C_215 wi_Ra_exchange wl_Ra_exchange wz_Ra wc_Ra_exchange h9_Ra_exchange ⟨by decide, by decide⟩ (Nat.le_of_ble_eq_true rfl) ⟨by decide, by decide⟩ d_C_offerSteps_82
          refine st_calll X hR [6, 7, 8] [0, 1, 2, 3, 4, 5, 9, 10, 11, 12, 13] (wr := [(a_t, .inr (5, [.ref a_used, .ref a_stock, .ref a_alts, .ref a_asm, .ref a_placed, .ref a_sp, .ref a_rt, .ref a_yl, .int partCount, .long tooling, .ref a_dr, .ref a_la, .ref a_be])), (a_sp, .inr (3, [.ref a_sp_froms, .ref a_sp_cents])), (a_sp_froms, .inr (0, [.ref a_sp_froms_keys, .ref a_sp_froms_sizes])), aJ g a_sp_froms_keys 1488 sp_froms_keys, aI g a_sp_froms_sizes 248 sp_froms_sizes, aJ g a_sp_cents 1488 sp_cents, (a_dr, .inr (1, [.ref a_dr_costs, .ref a_dr_pieces, .ref a_dr_makers, .ref a_dr_parts, .int dr_rowCount])), aJ g a_dr_costs 33 f5, aI g a_dr_pieces 33 f6, aI g a_dr_makers 33 f7, aI g a_dr_parts 33 f8]) rfl rfl (by decide) (by decide) (by decide) (fun r11 u9 hw => ?_)
          try dsimp only at hw
          refine st_widen (k2 := 0) (n2 := 0) (by decide) (by decide) ?_
          refine st_perm (ws2 := [(a_t, .inr (5, [.ref a_used, .ref a_stock, .ref a_alts, .ref a_asm, .ref a_placed, .ref a_sp, .ref a_rt, .ref a_yl, .int partCount, .long tooling, .ref a_dr, .ref a_la, .ref a_be])), (a_sp, .inr (3, [.ref a_sp_froms, .ref a_sp_cents])), (a_sp_froms, .inr (0, [.ref a_sp_froms_keys, .ref a_sp_froms_sizes])), aJ g a_sp_froms_keys 1488 sp_froms_keys, aI g a_sp_froms_sizes 248 sp_froms_sizes, aJ g a_sp_cents 1488 sp_cents, (a_rt, .inr (2, [.ref a_rt_days, .ref a_rt_aboves, .ref a_rt_belows, .ref a_rt_aboveNow, .ref a_rt_belowNow])), aJ g a_rt_aboveNow 8 rt_aboveNow, aJ g a_rt_belowNow 8 rt_belowNow, (a_dr, .inr (1, [.ref a_dr_costs, .ref a_dr_pieces, .ref a_dr_makers, .ref a_dr_parts, .int dr_rowCount])), aJ g a_dr_costs 33 f5, aI g a_dr_pieces 33 f6, aI g a_dr_makers 33 f7, aI g a_dr_parts 33 f8]) [0, 1, 2, 3, 4, 5, 11, 12, 13, 6, 7, 8, 9, 10] rfl (by decide) ?_
          show ST g C [(a_t, .inr (5, [.ref a_used, .ref a_stock, .ref a_alts, .ref a_asm, .ref a_placed, .ref a_sp, .ref a_rt, .ref a_yl, .int partCount, .long tooling, .ref a_dr, .ref a_la, .ref a_be])), (a_sp, .inr (3, [.ref a_sp_froms, .ref a_sp_cents])), (a_sp_froms, .inr (0, [.ref a_sp_froms_keys, .ref a_sp_froms_sizes])), aJ g a_sp_froms_keys 1488 sp_froms_keys, aI g a_sp_froms_sizes 248 sp_froms_sizes, aJ g a_sp_cents 1488 sp_cents, (a_rt, .inr (2, [.ref a_rt_days, .ref a_rt_aboves, .ref a_rt_belows, .ref a_rt_aboveNow, .ref a_rt_belowNow])), aJ g a_rt_aboveNow 8 rt_aboveNow, aJ g a_rt_belowNow 8 rt_belowNow, (a_dr, .inr (1, [.ref a_dr_costs, .ref a_dr_pieces, .ref a_dr_makers, .ref a_dr_parts, .int dr_rowCount])), aJ g a_dr_costs 33 f5, aI g a_dr_pieces 33 f6, aI g a_dr_makers 33 f7, aI g a_dr_parts 33 f8] [(9, .long x10), (0, .ref a_t), (1, .int row), (2, .long needed), (4, .int thing), (5, .int maker), (6, .int v1), (7, .int r2), (8, .int v4)] [.long r11] 85 0 0
          refine st_lstore X (lv2 := [(11, .long r11), (9, .long x10), (0, .ref a_t), (1, .int row), (2, .long needed), (4, .int thing), (5, .int maker), (6, .int v1), (7, .int r2), (8, .int v4)]) d_C_offerSteps_85 (by decide) rfl ?_
          refine st_aload_n X 2 d_C_offerSteps_87 rfl rfl ?_
          refine st_get X (ci := 5) in_C 0 10 wf_C_60 rfl rfl (by decide) rfl d_C_offerSteps_88 ?_
          refine st_iload_n X 3 d_C_offerSteps_91 rfl rfl ?_
          refine st_lload X 0 d_C_offerSteps_92 rfl ?_
          refine st_iload X 7 d_C_offerSteps_94 rfl ?_
          refine st_iload X 6 d_C_offerSteps_96 rfl ?_
          refine st_lload X 1 d_C_offerSteps_98 rfl ?_
          refine st_l2i X d_C_offerSteps_100 ?_
          have hR := rn_VN (pc := 101) (k := 0) (n := 0) (As := [.int row, .long r11, .int v1, .int maker, .int x10.toInt32]) (rest := []) X (k_Q_consider g hg a_dr row r11 v1 maker x10.toInt32 a_dr_costs a_dr_pieces a_dr_makers a_dr_parts dr_rowCount f5 f6 f7 f8 _ hw) (q0 := 0) rfl rfl nl_C_219 wi_Q_consider wl_Q_consider wz_Q wc_Q_consider h9_Q_consider ⟨by decide, by decide⟩ (Nat.le_of_ble_eq_true rfl) ⟨by decide, by decide⟩ d_C_offerSteps_101
          refine st_callv X hR [9, 10, 11, 12, 13] [0, 1, 2, 3, 4, 5, 6, 7, 8] (wr := [(a_t, .inr (5, [.ref a_used, .ref a_stock, .ref a_alts, .ref a_asm, .ref a_placed, .ref a_sp, .ref a_rt, .ref a_yl, .int partCount, .long tooling, .ref a_dr, .ref a_la, .ref a_be])), (a_sp, .inr (3, [.ref a_sp_froms, .ref a_sp_cents])), (a_sp_froms, .inr (0, [.ref a_sp_froms_keys, .ref a_sp_froms_sizes])), aJ g a_sp_froms_keys 1488 sp_froms_keys, aI g a_sp_froms_sizes 248 sp_froms_sizes, aJ g a_sp_cents 1488 sp_cents, (a_rt, .inr (2, [.ref a_rt_days, .ref a_rt_aboves, .ref a_rt_belows, .ref a_rt_aboveNow, .ref a_rt_belowNow])), aJ g a_rt_aboveNow 8 rt_aboveNow, aJ g a_rt_belowNow 8 rt_belowNow]) rfl rfl (by decide) (by decide) (by decide) (fun u9 hw => ?_)
          obtain ⟨u12, u13, u14, u15⟩ := u9
          try dsimp only at hw
          refine st_widen (k2 := 0) (n2 := 0) (by decide) (by decide) ?_
          refine st_perm (ws2 := [(a_t, .inr (5, [.ref a_used, .ref a_stock, .ref a_alts, .ref a_asm, .ref a_placed, .ref a_sp, .ref a_rt, .ref a_yl, .int partCount, .long tooling, .ref a_dr, .ref a_la, .ref a_be])), (a_sp, .inr (3, [.ref a_sp_froms, .ref a_sp_cents])), (a_sp_froms, .inr (0, [.ref a_sp_froms_keys, .ref a_sp_froms_sizes])), aJ g a_sp_froms_keys 1488 sp_froms_keys, aI g a_sp_froms_sizes 248 sp_froms_sizes, aJ g a_sp_cents 1488 sp_cents, (a_rt, .inr (2, [.ref a_rt_days, .ref a_rt_aboves, .ref a_rt_belows, .ref a_rt_aboveNow, .ref a_rt_belowNow])), aJ g a_rt_aboveNow 8 rt_aboveNow, aJ g a_rt_belowNow 8 rt_belowNow, (a_dr, .inr (1, [.ref a_dr_costs, .ref a_dr_pieces, .ref a_dr_makers, .ref a_dr_parts, .int dr_rowCount])), aJ g a_dr_costs 33 u12, aI g a_dr_pieces 33 u13, aI g a_dr_makers 33 u14, aI g a_dr_parts 33 u15]) [0, 1, 2, 3, 4, 5, 6, 7, 8, 9, 10, 11, 12, 13] rfl (by decide) ?_
          show ST g C [(a_t, .inr (5, [.ref a_used, .ref a_stock, .ref a_alts, .ref a_asm, .ref a_placed, .ref a_sp, .ref a_rt, .ref a_yl, .int partCount, .long tooling, .ref a_dr, .ref a_la, .ref a_be])), (a_sp, .inr (3, [.ref a_sp_froms, .ref a_sp_cents])), (a_sp_froms, .inr (0, [.ref a_sp_froms_keys, .ref a_sp_froms_sizes])), aJ g a_sp_froms_keys 1488 sp_froms_keys, aI g a_sp_froms_sizes 248 sp_froms_sizes, aJ g a_sp_cents 1488 sp_cents, (a_rt, .inr (2, [.ref a_rt_days, .ref a_rt_aboves, .ref a_rt_belows, .ref a_rt_aboveNow, .ref a_rt_belowNow])), aJ g a_rt_aboveNow 8 rt_aboveNow, aJ g a_rt_belowNow 8 rt_belowNow, (a_dr, .inr (1, [.ref a_dr_costs, .ref a_dr_pieces, .ref a_dr_makers, .ref a_dr_parts, .int dr_rowCount])), aJ g a_dr_costs 33 u12, aI g a_dr_pieces 33 u13, aI g a_dr_makers 33 u14, aI g a_dr_parts 33 u15] [(11, .long r11), (9, .long x10), (0, .ref a_t), (1, .int row), (2, .long needed), (4, .int thing), (5, .int maker), (6, .int v1), (7, .int r2), (8, .int v4)] [] 104 0 0
          obtain ⟨x16, hx16⟩ : ∃ z : Int32, z = v4 + 1 := ⟨_, rfl⟩
          replace hw := hw x16 hx16
          refine st_iinc X (v := x16) (lv2 := [(8, .int x16), (11, .long r11), (9, .long x10), (0, .ref a_t), (1, .int row), (2, .long needed), (4, .int thing), (5, .int maker), (6, .int v1), (7, .int r2)]) 9 d_C_offerSteps_104 rfl (by rw [hx16]; rfl) (by decide) rfl ?_
          refine st_goto X 41 d_C_offerSteps_107 (by decide) ?_
          refine st_lv [3, 4, 5, 6, 7, 8, 9, 0] rfl ?_
          exact ih41 x16 u12 u13 u14 u15 hw
    obtain ⟨n41, hw⟩ := hw
    refine st_lv [3, 4, 5, 6, 7, 2, 1, 0] rfl ?_
    exact L41 n41 r3 dr_costs dr_pieces dr_makers dr_parts hw
  refine st_icmp_ne X 11 d_C_offerSteps_4 (by decide) (fun hc => ?_) (fun hc => ?_)
  · replace hw := hw.1 hc
    refine st_iload X 3 d_C_offerSteps_11 rfl ?_
    refine st_lv [0, 1, 2, 3, 4] rfl ?_
    exact J13 thing hw
  · replace hw := hw.2 hc
    refine st_iconst X (v := (-1)) d_C_offerSteps_7 (by decide) ?_
    refine st_goto X 13 d_C_offerSteps_8 (by decide) ?_
    refine st_lv [0, 1, 2, 3, 4] rfl ?_
    exact J13 (-1) hw

theorem h9_C_assemblyCost : y_C_assemblyCost.cls ≠ "java/lang/invoke/MethodHandle" ∧ y_C_assemblyCost.cls ≠ "java/lang/invoke/VarHandle" ∧ (parseMethodDescriptor y_C_assemblyCost.desc).map (fun d => d.parameters.length) = some 1 := by decide +kernel
def wp_C_assemblyCost_L5 (started : Int64) (asm : Nat → Int64) (placed : Nat → Int64) (Q : Int64 → Prop) : Nat → Int64 → Int32 → Prop
  | 0, _, _ => False
  | n5 + 1, v1, v2 =>
  ((8 ≤ v2) → Q v1) ∧
  ((¬ 8 ≤ v2) → vp_in v2 8 ∧
  vp_in v2 8 ∧
  wp_C_divideUp ((started * (placed v2.toNatClampNeg)) * (asm v2.toNatClampNeg)) (1000 : Int64) (fun r3 =>
  ∀ x4 : Int64, x4 = v1 + r3 →
  ∀ x5 : Int32, x5 = v2 + 1 →
  (wp_C_assemblyCost_L5 started asm placed Q n5) x4 x5))
def wp_C_assemblyCost (started : Int64) (asm : Nat → Int64) (placed : Nat → Int64) (Q : Int64 → Prop) : Prop :=
  ∃ n5 : Nat, wp_C_assemblyCost_L5 started asm placed Q n5 0 0
set_option maxHeartbeats 4000000 in
set_option maxRecDepth 100000 in
theorem k_C_assemblyCost (g : GX) (hg : g.1.stackTraces = false) (a_t : Nat) (started : Int64) (a_used : Nat) (a_stock : Nat) (a_alts : Nat) (a_asm : Nat) (a_placed : Nat) (a_sp : Nat) (a_rt : Nat) (a_yl : Nat) (partCount : Int32) (tooling : Int64) (a_dr : Nat) (a_la : Nat) (a_be : Nat) (asm : Nat → Int64) (placed : Nat → Int64) (Q : Int64 → Prop) (hw : wp_C_assemblyCost started asm placed Q) : CT g y_C_assemblyCost c_C_assemblyCost 6 (some .long) ({ frames := 1, cells := 0, slots := 0, locals := 23 } : Room) [.ref a_t, .long started] [(a_t, .inr (5, [.ref a_used, .ref a_stock, .ref a_alts, .ref a_asm, .ref a_placed, .ref a_sp, .ref a_rt, .ref a_yl, .int partCount, .long tooling, .ref a_dr, .ref a_la, .ref a_be])), aJ g a_asm 8 asm, aJ g a_placed 8 placed] (QL g [(a_t, .inr (5, [.ref a_used, .ref a_stock, .ref a_alts, .ref a_asm, .ref a_placed, .ref a_sp, .ref a_rt, .ref a_yl, .int partCount, .long tooling, .ref a_dr, .ref a_la, .ref a_be])), aJ g a_asm 8 asm, aJ g a_placed 8 placed] (fun u : Unit => [(a_t, .inr (5, [.ref a_used, .ref a_stock, .ref a_alts, .ref a_asm, .ref a_placed, .ref a_sp, .ref a_rt, .ref a_yl, .int partCount, .long tooling, .ref a_dr, .ref a_la, .ref a_be])), aJ g a_asm 8 asm, aJ g a_placed 8 placed]) (fun r u => Q r)) := by
  refine ct_of hg (by decide) (Nat.le_of_ble_eq_true rfl) (fun sz C X hr => ?_)
  unfold wp_C_assemblyCost at hw
  show ST g C [(a_t, .inr (5, [.ref a_used, .ref a_stock, .ref a_alts, .ref a_asm, .ref a_placed, .ref a_sp, .ref a_rt, .ref a_yl, .int partCount, .long tooling, .ref a_dr, .ref a_la, .ref a_be])), aJ g a_asm 8 asm, aJ g a_placed 8 placed] [(0, .ref a_t), (1, .long started)] [] 0 0 0
  refine st_lconst X (v := 0) d_C_assemblyCost_0 (by decide) ?_
  refine st_lstore_n X (lv2 := [(3, .long 0), (0, .ref a_t), (1, .long started)]) d_C_assemblyCost_1 rfl (by decide) rfl ?_
  refine st_iconst X (v := 0) d_C_assemblyCost_2 (by decide) ?_
  refine st_istore X (lv2 := [(5, .int 0), (3, .long 0), (0, .ref a_t), (1, .long started)]) d_C_assemblyCost_3 (by decide) rfl ?_
  have L5 : ∀ (n5 : Nat) (v1 : Int64) (v2 : Int32), wp_C_assemblyCost_L5 started asm placed Q n5 v1 v2 → ST g C [(a_t, .inr (5, [.ref a_used, .ref a_stock, .ref a_alts, .ref a_asm, .ref a_placed, .ref a_sp, .ref a_rt, .ref a_yl, .int partCount, .long tooling, .ref a_dr, .ref a_la, .ref a_be])), aJ g a_asm 8 asm, aJ g a_placed 8 placed] [(0, .ref a_t), (1, .long started), (3, .long v1), (5, .int v2)] [] 5 0 0 := by
    intro n5
    induction n5 with
    | zero => intro v1 v2 hw; exact hw.elim
    | succ n5 ih5 =>
      intro v1 v2 hw
      rw [wp_C_assemblyCost_L5] at hw
      refine st_iload X 3 d_C_assemblyCost_5 rfl ?_
      refine st_bipush X (v := 8) d_C_assemblyCost_7 (by decide) ?_
      refine st_icmp_ge X 44 d_C_assemblyCost_9 (by decide) (fun hc => ?_) (fun hc => ?_)
      · replace hw := hw.1 hc
        refine st_lload_n X 2 d_C_assemblyCost_44 rfl rfl ?_
        exact st_lret X hr () hw rfl (by decide) (by decide) d_C_assemblyCost_45
      · replace hw := hw.2 hc
        refine st_lload_n X 2 d_C_assemblyCost_12 rfl rfl ?_
        refine st_lload_n X 1 d_C_assemblyCost_13 rfl rfl ?_
        refine st_aload_n X 0 d_C_assemblyCost_14 rfl rfl ?_
        refine st_get X (ci := 5) in_C 0 4 wf_C_25 rfl rfl (by decide) rfl d_C_assemblyCost_15 ?_
        refine st_iload X 3 d_C_assemblyCost_18 rfl ?_
        obtain ⟨hb1, hw⟩ := hw
        refine st_lald X 2 rfl hb1 d_C_assemblyCost_20 ?_
        refine st_lmul X d_C_assemblyCost_21 ?_
        refine st_aload_n X 0 d_C_assemblyCost_22 rfl rfl ?_
        refine st_get X (ci := 5) in_C 0 3 wf_C_22 rfl rfl (by decide) rfl d_C_assemblyCost_23 ?_
        refine st_iload X 3 d_C_assemblyCost_26 rfl ?_
        obtain ⟨hb2, hw⟩ := hw
        refine st_lald X 1 rfl hb2 d_C_assemblyCost_28 ?_
        refine st_lmul X d_C_assemblyCost_29 ?_
        refine st_ldc2 X wv_C_82 d_C_assemblyCost_30 ?_
        have hR := rn_S (pc := 33) (k := 0) (n := 0) (As := [.long ((started * (placed v2.toNatClampNeg)) * (asm v2.toNatClampNeg)), .long 1000]) (rest := [.long v1]) X (k_C_divideUp g hg ((started * (placed v2.toNatClampNeg)) * (asm v2.toNatClampNeg)) (1000 : Int64) _ hw) wm_C_223 ws_C_divideUp wz_C wc_C_divideUp h9_C_divideUp ⟨by decide, by decide⟩ (Nat.le_of_ble_eq_true rfl) ⟨by decide, by decide⟩ d_C_assemblyCost_33
        refine st_calll X hR [] [0, 1, 2] (wr := [(a_t, .inr (5, [.ref a_used, .ref a_stock, .ref a_alts, .ref a_asm, .ref a_placed, .ref a_sp, .ref a_rt, .ref a_yl, .int partCount, .long tooling, .ref a_dr, .ref a_la, .ref a_be])), aJ g a_asm 8 asm, aJ g a_placed 8 placed]) rfl rfl (by decide) (by decide) (by decide) (fun r3 u9 hw => ?_)
        try dsimp only at hw
        refine st_widen (k2 := 0) (n2 := 0) (by decide) (by decide) ?_
        refine st_perm (ws2 := [(a_t, .inr (5, [.ref a_used, .ref a_stock, .ref a_alts, .ref a_asm, .ref a_placed, .ref a_sp, .ref a_rt, .ref a_yl, .int partCount, .long tooling, .ref a_dr, .ref a_la, .ref a_be])), aJ g a_asm 8 asm, aJ g a_placed 8 placed]) [0, 1, 2] rfl (by decide) ?_
        show ST g C [(a_t, .inr (5, [.ref a_used, .ref a_stock, .ref a_alts, .ref a_asm, .ref a_placed, .ref a_sp, .ref a_rt, .ref a_yl, .int partCount, .long tooling, .ref a_dr, .ref a_la, .ref a_be])), aJ g a_asm 8 asm, aJ g a_placed 8 placed] [(0, .ref a_t), (1, .long started), (3, .long v1), (5, .int v2)] [.long r3, .long v1] 36 0 0
        refine st_ladd X d_C_assemblyCost_36 ?_
        refine st_topl (fun x4 hx4 => ?_)
        replace hw := hw x4 hx4
        refine st_lstore_n X (lv2 := [(3, .long x4), (0, .ref a_t), (1, .long started), (5, .int v2)]) d_C_assemblyCost_37 rfl (by decide) rfl ?_
        obtain ⟨x5, hx5⟩ : ∃ z : Int32, z = v2 + 1 := ⟨_, rfl⟩
        replace hw := hw x5 hx5
        refine st_iinc X (v := x5) (lv2 := [(5, .int x5), (3, .long x4), (0, .ref a_t), (1, .long started)]) 3 d_C_assemblyCost_38 rfl (by rw [hx5]; rfl) (by decide) rfl ?_
        refine st_goto X 5 d_C_assemblyCost_41 (by decide) ?_
        refine st_lv [2, 3, 1, 0] rfl ?_
        exact ih5 x4 x5 hw
  obtain ⟨n5, hw⟩ := hw
  refine st_lv [2, 3, 1, 0] rfl ?_
  exact L5 n5 0 0 hw
