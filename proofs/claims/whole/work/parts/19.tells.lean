theorem h9_C_part : y_C_part.cls ≠ "java/lang/invoke/MethodHandle" ∧ y_C_part.cls ≠ "java/lang/invoke/VarHandle" ∧ (parseMethodDescriptor y_C_part.desc).map (fun d => d.parameters.length) = some 0 := by decide +kernel
def wp_C_part (partCount : Int32) (Q : Int32 → Int32 → Prop) : Prop :=
  ((partCount < 30) → ∀ x1 : Int32, x1 = partCount + 1 →
  Q partCount x1) ∧
  ((¬ partCount < 30) → Q (-1) partCount)
set_option maxHeartbeats 4000000 in
set_option maxRecDepth 100000 in
theorem k_C_part (g : GX) (hg : g.1.stackTraces = false) (a_t : Nat) (a_used : Nat) (a_stock : Nat) (a_alts : Nat) (a_asm : Nat) (a_placed : Nat) (a_sp : Nat) (a_rt : Nat) (a_yl : Nat) (partCount : Int32) (tooling : Int64) (a_dr : Nat) (a_la : Nat) (a_be : Nat) (Q : Int32 → Int32 → Prop) (hw : wp_C_part partCount Q) : CT g y_C_part c_C_part 2 (some .int) ({ frames := 0, cells := 0, slots := 0, locals := 0 } : Room) [.ref a_t] [(a_t, .inr (5, [.ref a_used, .ref a_stock, .ref a_alts, .ref a_asm, .ref a_placed, .ref a_sp, .ref a_rt, .ref a_yl, .int partCount, .long tooling, .ref a_dr, .ref a_la, .ref a_be]))] (QI g [(a_t, .inr (5, [.ref a_used, .ref a_stock, .ref a_alts, .ref a_asm, .ref a_placed, .ref a_sp, .ref a_rt, .ref a_yl, .int partCount, .long tooling, .ref a_dr, .ref a_la, .ref a_be]))] (fun u : Int32 => [(a_t, .inr (5, [.ref a_used, .ref a_stock, .ref a_alts, .ref a_asm, .ref a_placed, .ref a_sp, .ref a_rt, .ref a_yl, .int u, .long tooling, .ref a_dr, .ref a_la, .ref a_be]))]) (fun r u => Q r u)) := by
  refine ct_of hg (by decide) (Nat.le_of_ble_eq_true rfl) (fun sz C X hr => ?_)
  unfold wp_C_part at hw
  show ST g C [(a_t, .inr (5, [.ref a_used, .ref a_stock, .ref a_alts, .ref a_asm, .ref a_placed, .ref a_sp, .ref a_rt, .ref a_yl, .int partCount, .long tooling, .ref a_dr, .ref a_la, .ref a_be]))] [(0, .ref a_t)] [] 0 0 0
  refine st_aload_n X 0 d_C_part_0 rfl rfl ?_
  refine st_get X (ci := 5) in_C 0 8 wf_C_49 rfl rfl (by decide) rfl d_C_part_1 ?_
  refine st_bipush X (v := 30) d_C_part_4 (by decide) ?_
  refine st_icmp_lt X 11 d_C_part_6 (by decide) (fun hc => ?_) (fun hc => ?_)
  · replace hw := hw.1 hc
    refine st_aload_n X 0 d_C_part_11 rfl rfl ?_
    refine st_get X (ci := 5) in_C 0 8 wf_C_49 rfl rfl (by decide) rfl d_C_part_12 ?_
    refine st_istore_n X (lv2 := [(1, .int partCount), (0, .ref a_t)]) d_C_part_15 rfl (by decide) rfl ?_
    refine st_aload_n X 1 d_C_part_16 rfl rfl ?_
    refine st_dup X d_C_part_17 rfl ?_
    refine st_get X (ci := 5) in_C 0 8 wf_C_49 rfl rfl (by decide) rfl d_C_part_18 ?_
    refine st_iconst X (v := 1) d_C_part_21 (by decide) ?_
    refine st_iadd X d_C_part_22 ?_
    refine st_topi (fun x1 hx1 => ?_)
    replace hw := hw x1 hx1
    refine st_put X (ci := 5) (ty := .int) in_C t_C to_C nm_C 0 8 wf_C_49 rfl rfl (by decide) rfl (by decide +kernel) rfl rfl (Nat.le_of_ble_eq_true rfl) (ws2 := [(a_t, .inr (5, [.ref a_used, .ref a_stock, .ref a_alts, .ref a_asm, .ref a_placed, .ref a_sp, .ref a_rt, .ref a_yl, .int x1, .long tooling, .ref a_dr, .ref a_la, .ref a_be]))]) rfl d_C_part_23 ?_
    refine st_iload_n X 0 d_C_part_26 rfl rfl ?_
    exact st_iret X hr x1 hw rfl (by decide) (by decide) d_C_part_27
  · replace hw := hw.2 hc
    refine st_iconst X (v := (-1)) d_C_part_9 (by decide) ?_
    exact st_iret X hr partCount hw rfl (by decide) (by decide) d_C_part_10

theorem h9_C_price : y_C_price.cls ≠ "java/lang/invoke/MethodHandle" ∧ y_C_price.cls ≠ "java/lang/invoke/VarHandle" ∧ (parseMethodDescriptor y_C_price.desc).map (fun d => d.parameters.length) = some 4 := by decide +kernel
def wp_C_price (part : Int32) (maker : Int32) (from_ : Int64) (cents : Int64) (partCount : Int32) (sp_froms_keys : Nat → Int64) (sp_froms_sizes : Nat → Int32) (sp_cents : Nat → Int64) (Q : Int32 → (Nat → Int64) → (Nat → Int32) → (Nat → Int64) → Prop) (XE : String → (Nat → Int64) → (Nat → Int32) → (Nat → Int64) → Prop) : Prop :=
  wp_C_needIndex part partCount (
  wp_C_needIndex maker (8 : Int32) (
  wp_C_needStep from_ cents (
  wp_St_tell part maker from_ cents sp_froms_keys sp_froms_sizes sp_cents (fun r4 u1 u2 u3 =>
  (r4 = 0 ∨ r4 = 1) ∧ Q r4 u1 u2 u3)) (fun E9 => XE E9 sp_froms_keys sp_froms_sizes sp_cents)) (fun E9 => XE E9 sp_froms_keys sp_froms_sizes sp_cents)) (fun E9 => XE E9 sp_froms_keys sp_froms_sizes sp_cents)
set_option maxHeartbeats 4000000 in
set_option maxRecDepth 100000 in
theorem k_C_price (g : GX) (hg : g.1.stackTraces = false) (a_t : Nat) (part : Int32) (maker : Int32) (from_ : Int64) (cents : Int64) (a_used : Nat) (a_stock : Nat) (a_alts : Nat) (a_asm : Nat) (a_placed : Nat) (a_sp : Nat) (a_rt : Nat) (a_yl : Nat) (partCount : Int32) (tooling : Int64) (a_dr : Nat) (a_la : Nat) (a_be : Nat) (a_sp_froms : Nat) (a_sp_cents : Nat) (a_sp_froms_keys : Nat) (a_sp_froms_sizes : Nat) (sp_froms_keys : Nat → Int64) (sp_froms_sizes : Nat → Int32) (sp_cents : Nat → Int64) (Q : Int32 → (Nat → Int64) → (Nat → Int32) → (Nat → Int64) → Prop) (XE : String → (Nat → Int64) → (Nat → Int32) → (Nat → Int64) → Prop) (hw : wp_C_price part maker from_ cents partCount sp_froms_keys sp_froms_sizes sp_cents Q XE) : CTX g y_C_price c_C_price 7 (some .boolean) ({ frames := 8, cells := 4, slots := 24, locals := 130 } : Room) [.ref a_t, .int part, .int maker, .long from_, .long cents] [(a_t, .inr (5, [.ref a_used, .ref a_stock, .ref a_alts, .ref a_asm, .ref a_placed, .ref a_sp, .ref a_rt, .ref a_yl, .int partCount, .long tooling, .ref a_dr, .ref a_la, .ref a_be])), (a_sp, .inr (3, [.ref a_sp_froms, .ref a_sp_cents])), (a_sp_froms, .inr (0, [.ref a_sp_froms_keys, .ref a_sp_froms_sizes])), aJ g a_sp_froms_keys 1488 sp_froms_keys, aI g a_sp_froms_sizes 248 sp_froms_sizes, aJ g a_sp_cents 1488 sp_cents] (QI g [(a_t, .inr (5, [.ref a_used, .ref a_stock, .ref a_alts, .ref a_asm, .ref a_placed, .ref a_sp, .ref a_rt, .ref a_yl, .int partCount, .long tooling, .ref a_dr, .ref a_la, .ref a_be])), (a_sp, .inr (3, [.ref a_sp_froms, .ref a_sp_cents])), (a_sp_froms, .inr (0, [.ref a_sp_froms_keys, .ref a_sp_froms_sizes])), aJ g a_sp_froms_keys 1488 sp_froms_keys, aI g a_sp_froms_sizes 248 sp_froms_sizes, aJ g a_sp_cents 1488 sp_cents] (fun u : (Nat → Int64) × (Nat → Int32) × (Nat → Int64) => [(a_t, .inr (5, [.ref a_used, .ref a_stock, .ref a_alts, .ref a_asm, .ref a_placed, .ref a_sp, .ref a_rt, .ref a_yl, .int partCount, .long tooling, .ref a_dr, .ref a_la, .ref a_be])), (a_sp, .inr (3, [.ref a_sp_froms, .ref a_sp_cents])), (a_sp_froms, .inr (0, [.ref a_sp_froms_keys, .ref a_sp_froms_sizes])), aJ g a_sp_froms_keys 1488 u.1, aI g a_sp_froms_sizes 248 u.2.1, aJ g a_sp_cents 1488 u.2.2]) (fun r u => Q r u.1 u.2.1 u.2.2)) (QX g [(a_t, .inr (5, [.ref a_used, .ref a_stock, .ref a_alts, .ref a_asm, .ref a_placed, .ref a_sp, .ref a_rt, .ref a_yl, .int partCount, .long tooling, .ref a_dr, .ref a_la, .ref a_be])), (a_sp, .inr (3, [.ref a_sp_froms, .ref a_sp_cents])), (a_sp_froms, .inr (0, [.ref a_sp_froms_keys, .ref a_sp_froms_sizes])), aJ g a_sp_froms_keys 1488 sp_froms_keys, aI g a_sp_froms_sizes 248 sp_froms_sizes, aJ g a_sp_cents 1488 sp_cents] (fun u : (Nat → Int64) × (Nat → Int32) × (Nat → Int64) => [(a_t, .inr (5, [.ref a_used, .ref a_stock, .ref a_alts, .ref a_asm, .ref a_placed, .ref a_sp, .ref a_rt, .ref a_yl, .int partCount, .long tooling, .ref a_dr, .ref a_la, .ref a_be])), (a_sp, .inr (3, [.ref a_sp_froms, .ref a_sp_cents])), (a_sp_froms, .inr (0, [.ref a_sp_froms_keys, .ref a_sp_froms_sizes])), aJ g a_sp_froms_keys 1488 u.1, aI g a_sp_froms_sizes 248 u.2.1, aJ g a_sp_cents 1488 u.2.2]) (fun E u => XE E u.1 u.2.1 u.2.2)) := by
  refine ctx_of hg (by decide) (Nat.le_of_ble_eq_true rfl) (fun sz C X hr htab => ?_)
  unfold wp_C_price at hw
  show ST g C [(a_t, .inr (5, [.ref a_used, .ref a_stock, .ref a_alts, .ref a_asm, .ref a_placed, .ref a_sp, .ref a_rt, .ref a_yl, .int partCount, .long tooling, .ref a_dr, .ref a_la, .ref a_be])), (a_sp, .inr (3, [.ref a_sp_froms, .ref a_sp_cents])), (a_sp_froms, .inr (0, [.ref a_sp_froms_keys, .ref a_sp_froms_sizes])), aJ g a_sp_froms_keys 1488 sp_froms_keys, aI g a_sp_froms_sizes 248 sp_froms_sizes, aJ g a_sp_cents 1488 sp_cents] [(0, .ref a_t), (1, .int part), (2, .int maker), (3, .long from_), (5, .long cents)] [] 0 0 0
  refine st_iload_n X 1 d_C_price_0 rfl rfl ?_
  refine st_aload_n X 0 d_C_price_1 rfl rfl ?_
  refine st_get X (ci := 5) in_C 0 8 wf_C_49 rfl rfl (by decide) rfl d_C_price_2 ?_
  have hR := rn_SX (pc := 5) (k := 0) (n := 0) (As := [.int part, .int partCount]) (rest := []) X (k_C_needIndex g hg part partCount _ _ hw) wm_C_70 ws_C_needIndex wz_C wc_C_needIndex h9_C_needIndex ⟨by decide, by decide⟩ (Nat.le_of_ble_eq_true rfl) ⟨by decide, by decide⟩ d_C_price_5
  refine st_xcallv X hR [] [0, 1, 2, 3, 4, 5] (wr := [(a_t, .inr (5, [.ref a_used, .ref a_stock, .ref a_alts, .ref a_asm, .ref a_placed, .ref a_sp, .ref a_rt, .ref a_yl, .int partCount, .long tooling, .ref a_dr, .ref a_la, .ref a_be])), (a_sp, .inr (3, [.ref a_sp_froms, .ref a_sp_cents])), (a_sp_froms, .inr (0, [.ref a_sp_froms_keys, .ref a_sp_froms_sizes])), aJ g a_sp_froms_keys 1488 sp_froms_keys, aI g a_sp_froms_sizes 248 sp_froms_sizes, aJ g a_sp_cents 1488 sp_cents]) rfl rfl (by decide) (by decide) (by decide) (fun E9 u9 hw => ?_) (fun u9 hw => ?_)
  · refine stx_perm (ws2 := [(a_t, .inr (5, [.ref a_used, .ref a_stock, .ref a_alts, .ref a_asm, .ref a_placed, .ref a_sp, .ref a_rt, .ref a_yl, .int partCount, .long tooling, .ref a_dr, .ref a_la, .ref a_be])), (a_sp, .inr (3, [.ref a_sp_froms, .ref a_sp_cents])), (a_sp_froms, .inr (0, [.ref a_sp_froms_keys, .ref a_sp_froms_sizes])), aJ g a_sp_froms_keys 1488 sp_froms_keys, aI g a_sp_froms_sizes 248 sp_froms_sizes, aJ g a_sp_cents 1488 sp_cents]) [0, 1, 2, 3, 4, 5] rfl (by decide) ?_
    exact stx_out X hr htab (sp_froms_keys, sp_froms_sizes, sp_cents) hw rfl (by decide) (by decide)
  refine st_widen (k2 := 1) (n2 := 6) (by decide) (by decide) ?_
  show ST g C [(a_t, .inr (5, [.ref a_used, .ref a_stock, .ref a_alts, .ref a_asm, .ref a_placed, .ref a_sp, .ref a_rt, .ref a_yl, .int partCount, .long tooling, .ref a_dr, .ref a_la, .ref a_be])), (a_sp, .inr (3, [.ref a_sp_froms, .ref a_sp_cents])), (a_sp_froms, .inr (0, [.ref a_sp_froms_keys, .ref a_sp_froms_sizes])), aJ g a_sp_froms_keys 1488 sp_froms_keys, aI g a_sp_froms_sizes 248 sp_froms_sizes, aJ g a_sp_cents 1488 sp_cents] [(0, .ref a_t), (1, .int part), (2, .int maker), (3, .long from_), (5, .long cents)] [] 8 1 6
  refine st_iload_n X 2 d_C_price_8 rfl rfl ?_
  refine st_bipush X (v := 8) d_C_price_9 (by decide) ?_
  have hR := rn_SX (pc := 11) (k := 1) (n := 6) (As := [.int maker, .int 8]) (rest := []) X (k_C_needIndex g hg maker (8 : Int32) _ _ hw) wm_C_70 ws_C_needIndex wz_C wc_C_needIndex h9_C_needIndex ⟨by decide, by decide⟩ (Nat.le_of_ble_eq_true rfl) ⟨by decide, by decide⟩ d_C_price_11
  refine st_xcallv X hR [] [0, 1, 2, 3, 4, 5] (wr := [(a_t, .inr (5, [.ref a_used, .ref a_stock, .ref a_alts, .ref a_asm, .ref a_placed, .ref a_sp, .ref a_rt, .ref a_yl, .int partCount, .long tooling, .ref a_dr, .ref a_la, .ref a_be])), (a_sp, .inr (3, [.ref a_sp_froms, .ref a_sp_cents])), (a_sp_froms, .inr (0, [.ref a_sp_froms_keys, .ref a_sp_froms_sizes])), aJ g a_sp_froms_keys 1488 sp_froms_keys, aI g a_sp_froms_sizes 248 sp_froms_sizes, aJ g a_sp_cents 1488 sp_cents]) rfl rfl (by decide) (by decide) (by decide) (fun E9 u9 hw => ?_) (fun u9 hw => ?_)
  · refine stx_perm (ws2 := [(a_t, .inr (5, [.ref a_used, .ref a_stock, .ref a_alts, .ref a_asm, .ref a_placed, .ref a_sp, .ref a_rt, .ref a_yl, .int partCount, .long tooling, .ref a_dr, .ref a_la, .ref a_be])), (a_sp, .inr (3, [.ref a_sp_froms, .ref a_sp_cents])), (a_sp_froms, .inr (0, [.ref a_sp_froms_keys, .ref a_sp_froms_sizes])), aJ g a_sp_froms_keys 1488 sp_froms_keys, aI g a_sp_froms_sizes 248 sp_froms_sizes, aJ g a_sp_cents 1488 sp_cents]) [0, 1, 2, 3, 4, 5] rfl (by decide) ?_
    exact stx_out X hr htab (sp_froms_keys, sp_froms_sizes, sp_cents) hw rfl (by decide) (by decide)
  refine st_widen (k2 := 2) (n2 := 12) (by decide) (by decide) ?_
  show ST g C [(a_t, .inr (5, [.ref a_used, .ref a_stock, .ref a_alts, .ref a_asm, .ref a_placed, .ref a_sp, .ref a_rt, .ref a_yl, .int partCount, .long tooling, .ref a_dr, .ref a_la, .ref a_be])), (a_sp, .inr (3, [.ref a_sp_froms, .ref a_sp_cents])), (a_sp_froms, .inr (0, [.ref a_sp_froms_keys, .ref a_sp_froms_sizes])), aJ g a_sp_froms_keys 1488 sp_froms_keys, aI g a_sp_froms_sizes 248 sp_froms_sizes, aJ g a_sp_cents 1488 sp_cents] [(0, .ref a_t), (1, .int part), (2, .int maker), (3, .long from_), (5, .long cents)] [] 14 2 12
  refine st_lload_n X 3 d_C_price_14 rfl rfl ?_
  refine st_lload X 4 d_C_price_15 rfl ?_
  have hR := rn_SX (pc := 17) (k := 2) (n := 12) (As := [.long from_, .long cents]) (rest := []) X (k_C_needStep g hg from_ cents _ _ hw) wm_C_74 ws_C_needStep wz_C wc_C_needStep h9_C_needStep ⟨by decide, by decide⟩ (Nat.le_of_ble_eq_true rfl) ⟨by decide, by decide⟩ d_C_price_17
  refine st_xcallv X hR [] [0, 1, 2, 3, 4, 5] (wr := [(a_t, .inr (5, [.ref a_used, .ref a_stock, .ref a_alts, .ref a_asm, .ref a_placed, .ref a_sp, .ref a_rt, .ref a_yl, .int partCount, .long tooling, .ref a_dr, .ref a_la, .ref a_be])), (a_sp, .inr (3, [.ref a_sp_froms, .ref a_sp_cents])), (a_sp_froms, .inr (0, [.ref a_sp_froms_keys, .ref a_sp_froms_sizes])), aJ g a_sp_froms_keys 1488 sp_froms_keys, aI g a_sp_froms_sizes 248 sp_froms_sizes, aJ g a_sp_cents 1488 sp_cents]) rfl rfl (by decide) (by decide) (by decide) (fun E9 u9 hw => ?_) (fun u9 hw => ?_)
  · refine stx_perm (ws2 := [(a_t, .inr (5, [.ref a_used, .ref a_stock, .ref a_alts, .ref a_asm, .ref a_placed, .ref a_sp, .ref a_rt, .ref a_yl, .int partCount, .long tooling, .ref a_dr, .ref a_la, .ref a_be])), (a_sp, .inr (3, [.ref a_sp_froms, .ref a_sp_cents])), (a_sp_froms, .inr (0, [.ref a_sp_froms_keys, .ref a_sp_froms_sizes])), aJ g a_sp_froms_keys 1488 sp_froms_keys, aI g a_sp_froms_sizes 248 sp_froms_sizes, aJ g a_sp_cents 1488 sp_cents]) [0, 1, 2, 3, 4, 5] rfl (by decide) ?_
    exact stx_out X hr htab (sp_froms_keys, sp_froms_sizes, sp_cents) hw rfl (by decide) (by decide)
  refine st_widen (k2 := 4) (n2 := 24) (by decide) (by decide) ?_
  show ST g C [(a_t, .inr (5, [.ref a_used, .ref a_stock, .ref a_alts, .ref a_asm, .ref a_placed, .ref a_sp, .ref a_rt, .ref a_yl, .int partCount, .long tooling, .ref a_dr, .ref a_la, .ref a_be])), (a_sp, .inr (3, [.ref a_sp_froms, .ref a_sp_cents])), (a_sp_froms, .inr (0, [.ref a_sp_froms_keys, .ref a_sp_froms_sizes])), aJ g a_sp_froms_keys 1488 sp_froms_keys, aI g a_sp_froms_sizes 248 sp_froms_sizes, aJ g a_sp_cents 1488 sp_cents] [(0, .ref a_t), (1, .int part), (2, .int maker), (3, .long from_), (5, .long cents)] [] 20 4 24
  refine st_aload_n X 0 d_C_price_20 rfl rfl ?_
  refine st_get X (ci := 5) in_C 0 5 wf_C_31 rfl rfl (by decide) rfl d_C_price_21 ?_
  refine st_iload_n X 1 d_C_price_24 rfl rfl ?_
  refine st_iload_n X 2 d_C_price_25 rfl rfl ?_
  refine st_lload_n X 3 d_C_price_26 rfl rfl ?_
  refine st_lload X 4 d_C_price_27 rfl ?_
  have hR := rn_VN (pc := 29) (k := 4) (n := 24) (As := [.int part, .int maker, .long from_, .long cents]) (rest := []) X (k_St_tell g hg a_sp part maker from_ cents a_sp_froms a_sp_cents a_sp_froms_keys a_sp_froms_sizes sp_froms_keys sp_froms_sizes sp_cents _ hw) (q0 := 0) rfl rfl nl_C_78 wi_St_tell wl_St_tell wz_St wc_St_tell h9_St_tell ⟨by decide, by decide⟩ (Nat.le_of_ble_eq_true rfl) ⟨by decide, by decide⟩ d_C_price_29
  refine st_calli X hR [1, 2, 3, 4, 5] [0] (wr := [(a_t, .inr (5, [.ref a_used, .ref a_stock, .ref a_alts, .ref a_asm, .ref a_placed, .ref a_sp, .ref a_rt, .ref a_yl, .int partCount, .long tooling, .ref a_dr, .ref a_la, .ref a_be]))]) rfl rfl (by decide) (by decide) (by decide) (fun r4 u9 hw => ?_)
  obtain ⟨u1, u2, u3⟩ := u9
  try dsimp only at hw
  refine st_widen (k2 := 4) (n2 := 24) (by decide) (by decide) ?_
  refine st_perm (ws2 := [(a_t, .inr (5, [.ref a_used, .ref a_stock, .ref a_alts, .ref a_asm, .ref a_placed, .ref a_sp, .ref a_rt, .ref a_yl, .int partCount, .long tooling, .ref a_dr, .ref a_la, .ref a_be])), (a_sp, .inr (3, [.ref a_sp_froms, .ref a_sp_cents])), (a_sp_froms, .inr (0, [.ref a_sp_froms_keys, .ref a_sp_froms_sizes])), aJ g a_sp_froms_keys 1488 u1, aI g a_sp_froms_sizes 248 u2, aJ g a_sp_cents 1488 u3]) [0, 1, 2, 3, 4, 5] rfl (by decide) ?_
  show ST g C [(a_t, .inr (5, [.ref a_used, .ref a_stock, .ref a_alts, .ref a_asm, .ref a_placed, .ref a_sp, .ref a_rt, .ref a_yl, .int partCount, .long tooling, .ref a_dr, .ref a_la, .ref a_be])), (a_sp, .inr (3, [.ref a_sp_froms, .ref a_sp_cents])), (a_sp_froms, .inr (0, [.ref a_sp_froms_keys, .ref a_sp_froms_sizes])), aJ g a_sp_froms_keys 1488 u1, aI g a_sp_froms_sizes 248 u2, aJ g a_sp_cents 1488 u3] [(0, .ref a_t), (1, .int part), (2, .int maker), (3, .long from_), (5, .long cents)] [.int r4] 32 4 24
  obtain ⟨hz, hw⟩ := hw
  exact st_zretX X hr (u1, u2, u3) hw hz rfl (by decide) (by decide) d_C_price_32

theorem h9_C_uses : y_C_uses.cls ≠ "java/lang/invoke/MethodHandle" ∧ y_C_uses.cls ≠ "java/lang/invoke/VarHandle" ∧ (parseMethodDescriptor y_C_uses.desc).map (fun d => d.parameters.length) = some 2 := by decide +kernel
def wp_C_uses (part : Int32) (n_ : Int64) (partCount : Int32) (used : Nat → Int64) (Q : Int32 → (Nat → Int64) → Prop) (XE : String → (Nat → Int64) → Prop) : Prop :=
  wp_C_needIndex part partCount (
  wp_C_needNumber n_ (0 : Int64) (1000 : Int64) (
  wp_C_tellNumber part n_ 30 used (fun r2 u1 =>
  (r2 = 0 ∨ r2 = 1) ∧ Q r2 u1)) (fun E9 => XE E9 used)) (fun E9 => XE E9 used)
set_option maxHeartbeats 4000000 in
set_option maxRecDepth 100000 in
theorem k_C_uses (g : GX) (hg : g.1.stackTraces = false) (a_t : Nat) (part : Int32) (n_ : Int64) (a_used : Nat) (a_stock : Nat) (a_alts : Nat) (a_asm : Nat) (a_placed : Nat) (a_sp : Nat) (a_rt : Nat) (a_yl : Nat) (partCount : Int32) (tooling : Int64) (a_dr : Nat) (a_la : Nat) (a_be : Nat) (used : Nat → Int64) (Q : Int32 → (Nat → Int64) → Prop) (XE : String → (Nat → Int64) → Prop) (hw : wp_C_uses part n_ partCount used Q XE) : CTX g y_C_uses c_C_uses 4 (some .boolean) ({ frames := 7, cells := 2, slots := 12, locals := 107 } : Room) [.ref a_t, .int part, .long n_] [(a_t, .inr (5, [.ref a_used, .ref a_stock, .ref a_alts, .ref a_asm, .ref a_placed, .ref a_sp, .ref a_rt, .ref a_yl, .int partCount, .long tooling, .ref a_dr, .ref a_la, .ref a_be])), aJ g a_used 30 used] (QI g [(a_t, .inr (5, [.ref a_used, .ref a_stock, .ref a_alts, .ref a_asm, .ref a_placed, .ref a_sp, .ref a_rt, .ref a_yl, .int partCount, .long tooling, .ref a_dr, .ref a_la, .ref a_be])), aJ g a_used 30 used] (fun u : (Nat → Int64) => [(a_t, .inr (5, [.ref a_used, .ref a_stock, .ref a_alts, .ref a_asm, .ref a_placed, .ref a_sp, .ref a_rt, .ref a_yl, .int partCount, .long tooling, .ref a_dr, .ref a_la, .ref a_be])), aJ g a_used 30 u]) (fun r u => Q r u)) (QX g [(a_t, .inr (5, [.ref a_used, .ref a_stock, .ref a_alts, .ref a_asm, .ref a_placed, .ref a_sp, .ref a_rt, .ref a_yl, .int partCount, .long tooling, .ref a_dr, .ref a_la, .ref a_be])), aJ g a_used 30 used] (fun u : (Nat → Int64) => [(a_t, .inr (5, [.ref a_used, .ref a_stock, .ref a_alts, .ref a_asm, .ref a_placed, .ref a_sp, .ref a_rt, .ref a_yl, .int partCount, .long tooling, .ref a_dr, .ref a_la, .ref a_be])), aJ g a_used 30 u]) (fun E u => XE E u)) := by
  refine ctx_of hg (by decide) (Nat.le_of_ble_eq_true rfl) (fun sz C X hr htab => ?_)
  unfold wp_C_uses at hw
  show ST g C [(a_t, .inr (5, [.ref a_used, .ref a_stock, .ref a_alts, .ref a_asm, .ref a_placed, .ref a_sp, .ref a_rt, .ref a_yl, .int partCount, .long tooling, .ref a_dr, .ref a_la, .ref a_be])), aJ g a_used 30 used] [(0, .ref a_t), (1, .int part), (2, .long n_)] [] 0 0 0
  refine st_iload_n X 1 d_C_uses_0 rfl rfl ?_
  refine st_aload_n X 0 d_C_uses_1 rfl rfl ?_
  refine st_get X (ci := 5) in_C 0 8 wf_C_49 rfl rfl (by decide) rfl d_C_uses_2 ?_
  have hR := rn_SX (pc := 5) (k := 0) (n := 0) (As := [.int part, .int partCount]) (rest := []) X (k_C_needIndex g hg part partCount _ _ hw) wm_C_70 ws_C_needIndex wz_C wc_C_needIndex h9_C_needIndex ⟨by decide, by decide⟩ (Nat.le_of_ble_eq_true rfl) ⟨by decide, by decide⟩ d_C_uses_5
  refine st_xcallv X hR [] [0, 1] (wr := [(a_t, .inr (5, [.ref a_used, .ref a_stock, .ref a_alts, .ref a_asm, .ref a_placed, .ref a_sp, .ref a_rt, .ref a_yl, .int partCount, .long tooling, .ref a_dr, .ref a_la, .ref a_be])), aJ g a_used 30 used]) rfl rfl (by decide) (by decide) (by decide) (fun E9 u9 hw => ?_) (fun u9 hw => ?_)
  · refine stx_perm (ws2 := [(a_t, .inr (5, [.ref a_used, .ref a_stock, .ref a_alts, .ref a_asm, .ref a_placed, .ref a_sp, .ref a_rt, .ref a_yl, .int partCount, .long tooling, .ref a_dr, .ref a_la, .ref a_be])), aJ g a_used 30 used]) [0, 1] rfl (by decide) ?_
    exact stx_out X hr htab used hw rfl (by decide) (by decide)
  refine st_widen (k2 := 1) (n2 := 6) (by decide) (by decide) ?_
  show ST g C [(a_t, .inr (5, [.ref a_used, .ref a_stock, .ref a_alts, .ref a_asm, .ref a_placed, .ref a_sp, .ref a_rt, .ref a_yl, .int partCount, .long tooling, .ref a_dr, .ref a_la, .ref a_be])), aJ g a_used 30 used] [(0, .ref a_t), (1, .int part), (2, .long n_)] [] 8 1 6
  refine st_lload_n X 2 d_C_uses_8 rfl rfl ?_
  refine st_lconst X (v := 0) d_C_uses_9 (by decide) ?_
  refine st_ldc2 X wv_C_82 d_C_uses_10 ?_
  have hR := rn_SX (pc := 13) (k := 1) (n := 6) (As := [.long n_, .long 0, .long 1000]) (rest := []) X (k_C_needNumber g hg n_ (0 : Int64) (1000 : Int64) _ _ hw) wm_C_84 ws_C_needNumber wz_C wc_C_needNumber h9_C_needNumber ⟨by decide, by decide⟩ (Nat.le_of_ble_eq_true rfl) ⟨by decide, by decide⟩ d_C_uses_13
  refine st_xcallv X hR [] [0, 1] (wr := [(a_t, .inr (5, [.ref a_used, .ref a_stock, .ref a_alts, .ref a_asm, .ref a_placed, .ref a_sp, .ref a_rt, .ref a_yl, .int partCount, .long tooling, .ref a_dr, .ref a_la, .ref a_be])), aJ g a_used 30 used]) rfl rfl (by decide) (by decide) (by decide) (fun E9 u9 hw => ?_) (fun u9 hw => ?_)
  · refine stx_perm (ws2 := [(a_t, .inr (5, [.ref a_used, .ref a_stock, .ref a_alts, .ref a_asm, .ref a_placed, .ref a_sp, .ref a_rt, .ref a_yl, .int partCount, .long tooling, .ref a_dr, .ref a_la, .ref a_be])), aJ g a_used 30 used]) [0, 1] rfl (by decide) ?_
    exact stx_out X hr htab used hw rfl (by decide) (by decide)
  refine st_widen (k2 := 2) (n2 := 12) (by decide) (by decide) ?_
  show ST g C [(a_t, .inr (5, [.ref a_used, .ref a_stock, .ref a_alts, .ref a_asm, .ref a_placed, .ref a_sp, .ref a_rt, .ref a_yl, .int partCount, .long tooling, .ref a_dr, .ref a_la, .ref a_be])), aJ g a_used 30 used] [(0, .ref a_t), (1, .int part), (2, .long n_)] [] 16 2 12
  refine st_aload_n X 0 d_C_uses_16 rfl rfl ?_
  refine st_get X (ci := 5) in_C 0 0 wf_C_11 rfl rfl (by decide) rfl d_C_uses_17 ?_
  refine st_iload_n X 1 d_C_uses_20 rfl rfl ?_
  refine st_lload_n X 2 d_C_uses_21 rfl rfl ?_
  have hR := rn_S (pc := 22) (k := 2) (n := 12) (As := [.ref a_used, .int part, .long n_]) (rest := []) X (k_C_tellNumber g hg a_used part n_ 30 used _ hw) wm_C_88 ws_C_tellNumber wz_C wc_C_tellNumber h9_C_tellNumber ⟨by decide, by decide⟩ (Nat.le_of_ble_eq_true rfl) ⟨by decide, by decide⟩ d_C_uses_22
  refine st_calli X hR [1] [0] (wr := [(a_t, .inr (5, [.ref a_used, .ref a_stock, .ref a_alts, .ref a_asm, .ref a_placed, .ref a_sp, .ref a_rt, .ref a_yl, .int partCount, .long tooling, .ref a_dr, .ref a_la, .ref a_be]))]) rfl rfl (by decide) (by decide) (by decide) (fun r2 u9 hw => ?_)
  obtain ⟨u1, hu9⟩ : ∃ z, z = u9 := ⟨_, rfl⟩
  subst hu9
  try dsimp only at hw
  refine st_widen (k2 := 2) (n2 := 12) (by decide) (by decide) ?_
  refine st_perm (ws2 := [(a_t, .inr (5, [.ref a_used, .ref a_stock, .ref a_alts, .ref a_asm, .ref a_placed, .ref a_sp, .ref a_rt, .ref a_yl, .int partCount, .long tooling, .ref a_dr, .ref a_la, .ref a_be])), aJ g a_used 30 u1]) [0, 1] rfl (by decide) ?_
  show ST g C [(a_t, .inr (5, [.ref a_used, .ref a_stock, .ref a_alts, .ref a_asm, .ref a_placed, .ref a_sp, .ref a_rt, .ref a_yl, .int partCount, .long tooling, .ref a_dr, .ref a_la, .ref a_be])), aJ g a_used 30 u1] [(0, .ref a_t), (1, .int part), (2, .long n_)] [.int r2] 25 2 12
  obtain ⟨hz, hw⟩ := hw
  exact st_zretX X hr u1 hw hz rfl (by decide) (by decide) d_C_uses_25

theorem h9_C_board : y_C_board.cls ≠ "java/lang/invoke/MethodHandle" ∧ y_C_board.cls ≠ "java/lang/invoke/VarHandle" ∧ (parseMethodDescriptor y_C_board.desc).map (fun d => d.parameters.length) = some 3 := by decide +kernel
def wp_C_board (maker : Int32) (from_ : Int64) (cents : Int64) (sp_froms_keys : Nat → Int64) (sp_froms_sizes : Nat → Int32) (sp_cents : Nat → Int64) (Q : Int32 → (Nat → Int64) → (Nat → Int32) → (Nat → Int64) → Prop) (XE : String → (Nat → Int64) → (Nat → Int32) → (Nat → Int64) → Prop) : Prop :=
  wp_C_needIndex maker (8 : Int32) (
  wp_C_needStep from_ cents (
  wp_St_tell (30 : Int32) maker from_ cents sp_froms_keys sp_froms_sizes sp_cents (fun r4 u1 u2 u3 =>
  (r4 = 0 ∨ r4 = 1) ∧ Q r4 u1 u2 u3)) (fun E9 => XE E9 sp_froms_keys sp_froms_sizes sp_cents)) (fun E9 => XE E9 sp_froms_keys sp_froms_sizes sp_cents)
set_option maxHeartbeats 4000000 in
set_option maxRecDepth 100000 in
theorem k_C_board (g : GX) (hg : g.1.stackTraces = false) (a_t : Nat) (maker : Int32) (from_ : Int64) (cents : Int64) (a_used : Nat) (a_stock : Nat) (a_alts : Nat) (a_asm : Nat) (a_placed : Nat) (a_sp : Nat) (a_rt : Nat) (a_yl : Nat) (partCount : Int32) (tooling : Int64) (a_dr : Nat) (a_la : Nat) (a_be : Nat) (a_sp_froms : Nat) (a_sp_cents : Nat) (a_sp_froms_keys : Nat) (a_sp_froms_sizes : Nat) (sp_froms_keys : Nat → Int64) (sp_froms_sizes : Nat → Int32) (sp_cents : Nat → Int64) (Q : Int32 → (Nat → Int64) → (Nat → Int32) → (Nat → Int64) → Prop) (XE : String → (Nat → Int64) → (Nat → Int32) → (Nat → Int64) → Prop) (hw : wp_C_board maker from_ cents sp_froms_keys sp_froms_sizes sp_cents Q XE) : CTX g y_C_board c_C_board 6 (some .boolean) ({ frames := 8, cells := 3, slots := 18, locals := 130 } : Room) [.ref a_t, .int maker, .long from_, .long cents] [(a_t, .inr (5, [.ref a_used, .ref a_stock, .ref a_alts, .ref a_asm, .ref a_placed, .ref a_sp, .ref a_rt, .ref a_yl, .int partCount, .long tooling, .ref a_dr, .ref a_la, .ref a_be])), (a_sp, .inr (3, [.ref a_sp_froms, .ref a_sp_cents])), (a_sp_froms, .inr (0, [.ref a_sp_froms_keys, .ref a_sp_froms_sizes])), aJ g a_sp_froms_keys 1488 sp_froms_keys, aI g a_sp_froms_sizes 248 sp_froms_sizes, aJ g a_sp_cents 1488 sp_cents] (QI g [(a_t, .inr (5, [.ref a_used, .ref a_stock, .ref a_alts, .ref a_asm, .ref a_placed, .ref a_sp, .ref a_rt, .ref a_yl, .int partCount, .long tooling, .ref a_dr, .ref a_la, .ref a_be])), (a_sp, .inr (3, [.ref a_sp_froms, .ref a_sp_cents])), (a_sp_froms, .inr (0, [.ref a_sp_froms_keys, .ref a_sp_froms_sizes])), aJ g a_sp_froms_keys 1488 sp_froms_keys, aI g a_sp_froms_sizes 248 sp_froms_sizes, aJ g a_sp_cents 1488 sp_cents] (fun u : (Nat → Int64) × (Nat → Int32) × (Nat → Int64) => [(a_t, .inr (5, [.ref a_used, .ref a_stock, .ref a_alts, .ref a_asm, .ref a_placed, .ref a_sp, .ref a_rt, .ref a_yl, .int partCount, .long tooling, .ref a_dr, .ref a_la, .ref a_be])), (a_sp, .inr (3, [.ref a_sp_froms, .ref a_sp_cents])), (a_sp_froms, .inr (0, [.ref a_sp_froms_keys, .ref a_sp_froms_sizes])), aJ g a_sp_froms_keys 1488 u.1, aI g a_sp_froms_sizes 248 u.2.1, aJ g a_sp_cents 1488 u.2.2]) (fun r u => Q r u.1 u.2.1 u.2.2)) (QX g [(a_t, .inr (5, [.ref a_used, .ref a_stock, .ref a_alts, .ref a_asm, .ref a_placed, .ref a_sp, .ref a_rt, .ref a_yl, .int partCount, .long tooling, .ref a_dr, .ref a_la, .ref a_be])), (a_sp, .inr (3, [.ref a_sp_froms, .ref a_sp_cents])), (a_sp_froms, .inr (0, [.ref a_sp_froms_keys, .ref a_sp_froms_sizes])), aJ g a_sp_froms_keys 1488 sp_froms_keys, aI g a_sp_froms_sizes 248 sp_froms_sizes, aJ g a_sp_cents 1488 sp_cents] (fun u : (Nat → Int64) × (Nat → Int32) × (Nat → Int64) => [(a_t, .inr (5, [.ref a_used, .ref a_stock, .ref a_alts, .ref a_asm, .ref a_placed, .ref a_sp, .ref a_rt, .ref a_yl, .int partCount, .long tooling, .ref a_dr, .ref a_la, .ref a_be])), (a_sp, .inr (3, [.ref a_sp_froms, .ref a_sp_cents])), (a_sp_froms, .inr (0, [.ref a_sp_froms_keys, .ref a_sp_froms_sizes])), aJ g a_sp_froms_keys 1488 u.1, aI g a_sp_froms_sizes 248 u.2.1, aJ g a_sp_cents 1488 u.2.2]) (fun E u => XE E u.1 u.2.1 u.2.2)) := by
  refine ctx_of hg (by decide) (Nat.le_of_ble_eq_true rfl) (fun sz C X hr htab => ?_)
  unfold wp_C_board at hw
  show ST g C [(a_t, .inr (5, [.ref a_used, .ref a_stock, .ref a_alts, .ref a_asm, .ref a_placed, .ref a_sp, .ref a_rt, .ref a_yl, .int partCount, .long tooling, .ref a_dr, .ref a_la, .ref a_be])), (a_sp, .inr (3, [.ref a_sp_froms, .ref a_sp_cents])), (a_sp_froms, .inr (0, [.ref a_sp_froms_keys, .ref a_sp_froms_sizes])), aJ g a_sp_froms_keys 1488 sp_froms_keys, aI g a_sp_froms_sizes 248 sp_froms_sizes, aJ g a_sp_cents 1488 sp_cents] [(0, .ref a_t), (1, .int maker), (2, .long from_), (4, .long cents)] [] 0 0 0
  refine st_iload_n X 1 d_C_board_0 rfl rfl ?_
  refine st_bipush X (v := 8) d_C_board_1 (by decide) ?_
  have hR := rn_SX (pc := 3) (k := 0) (n := 0) (As := [.int maker, .int 8]) (rest := []) X (k_C_needIndex g hg maker (8 : Int32) _ _ hw) wm_C_70 ws_C_needIndex wz_C wc_C_needIndex h9_C_needIndex ⟨by decide, by decide⟩ (Nat.le_of_ble_eq_true rfl) ⟨by decide, by decide⟩ d_C_board_3
  refine st_xcallv X hR [] [0, 1, 2, 3, 4, 5] (wr := [(a_t, .inr (5, [.ref a_used, .ref a_stock, .ref a_alts, .ref a_asm, .ref a_placed, .ref a_sp, .ref a_rt, .ref a_yl, .int partCount, .long tooling, .ref a_dr, .ref a_la, .ref a_be])), (a_sp, .inr (3, [.ref a_sp_froms, .ref a_sp_cents])), (a_sp_froms, .inr (0, [.ref a_sp_froms_keys, .ref a_sp_froms_sizes])), aJ g a_sp_froms_keys 1488 sp_froms_keys, aI g a_sp_froms_sizes 248 sp_froms_sizes, aJ g a_sp_cents 1488 sp_cents]) rfl rfl (by decide) (by decide) (by decide) (fun E9 u9 hw => ?_) (fun u9 hw => ?_)
  · refine stx_perm (ws2 := [(a_t, .inr (5, [.ref a_used, .ref a_stock, .ref a_alts, .ref a_asm, .ref a_placed, .ref a_sp, .ref a_rt, .ref a_yl, .int partCount, .long tooling, .ref a_dr, .ref a_la, .ref a_be])), (a_sp, .inr (3, [.ref a_sp_froms, .ref a_sp_cents])), (a_sp_froms, .inr (0, [.ref a_sp_froms_keys, .ref a_sp_froms_sizes])), aJ g a_sp_froms_keys 1488 sp_froms_keys, aI g a_sp_froms_sizes 248 sp_froms_sizes, aJ g a_sp_cents 1488 sp_cents]) [0, 1, 2, 3, 4, 5] rfl (by decide) ?_
    exact stx_out X hr htab (sp_froms_keys, sp_froms_sizes, sp_cents) hw rfl (by decide) (by decide)
  refine st_widen (k2 := 1) (n2 := 6) (by decide) (by decide) ?_
  show ST g C [(a_t, .inr (5, [.ref a_used, .ref a_stock, .ref a_alts, .ref a_asm, .ref a_placed, .ref a_sp, .ref a_rt, .ref a_yl, .int partCount, .long tooling, .ref a_dr, .ref a_la, .ref a_be])), (a_sp, .inr (3, [.ref a_sp_froms, .ref a_sp_cents])), (a_sp_froms, .inr (0, [.ref a_sp_froms_keys, .ref a_sp_froms_sizes])), aJ g a_sp_froms_keys 1488 sp_froms_keys, aI g a_sp_froms_sizes 248 sp_froms_sizes, aJ g a_sp_cents 1488 sp_cents] [(0, .ref a_t), (1, .int maker), (2, .long from_), (4, .long cents)] [] 6 1 6
  refine st_lload_n X 2 d_C_board_6 rfl rfl ?_
  refine st_lload X 3 d_C_board_7 rfl ?_
  have hR := rn_SX (pc := 9) (k := 1) (n := 6) (As := [.long from_, .long cents]) (rest := []) X (k_C_needStep g hg from_ cents _ _ hw) wm_C_74 ws_C_needStep wz_C wc_C_needStep h9_C_needStep ⟨by decide, by decide⟩ (Nat.le_of_ble_eq_true rfl) ⟨by decide, by decide⟩ d_C_board_9
  refine st_xcallv X hR [] [0, 1, 2, 3, 4, 5] (wr := [(a_t, .inr (5, [.ref a_used, .ref a_stock, .ref a_alts, .ref a_asm, .ref a_placed, .ref a_sp, .ref a_rt, .ref a_yl, .int partCount, .long tooling, .ref a_dr, .ref a_la, .ref a_be])), (a_sp, .inr (3, [.ref a_sp_froms, .ref a_sp_cents])), (a_sp_froms, .inr (0, [.ref a_sp_froms_keys, .ref a_sp_froms_sizes])), aJ g a_sp_froms_keys 1488 sp_froms_keys, aI g a_sp_froms_sizes 248 sp_froms_sizes, aJ g a_sp_cents 1488 sp_cents]) rfl rfl (by decide) (by decide) (by decide) (fun E9 u9 hw => ?_) (fun u9 hw => ?_)
  · refine stx_perm (ws2 := [(a_t, .inr (5, [.ref a_used, .ref a_stock, .ref a_alts, .ref a_asm, .ref a_placed, .ref a_sp, .ref a_rt, .ref a_yl, .int partCount, .long tooling, .ref a_dr, .ref a_la, .ref a_be])), (a_sp, .inr (3, [.ref a_sp_froms, .ref a_sp_cents])), (a_sp_froms, .inr (0, [.ref a_sp_froms_keys, .ref a_sp_froms_sizes])), aJ g a_sp_froms_keys 1488 sp_froms_keys, aI g a_sp_froms_sizes 248 sp_froms_sizes, aJ g a_sp_cents 1488 sp_cents]) [0, 1, 2, 3, 4, 5] rfl (by decide) ?_
    exact stx_out X hr htab (sp_froms_keys, sp_froms_sizes, sp_cents) hw rfl (by decide) (by decide)
  refine st_widen (k2 := 3) (n2 := 18) (by decide) (by decide) ?_
  show ST g C [(a_t, .inr (5, [.ref a_used, .ref a_stock, .ref a_alts, .ref a_asm, .ref a_placed, .ref a_sp, .ref a_rt, .ref a_yl, .int partCount, .long tooling, .ref a_dr, .ref a_la, .ref a_be])), (a_sp, .inr (3, [.ref a_sp_froms, .ref a_sp_cents])), (a_sp_froms, .inr (0, [.ref a_sp_froms_keys, .ref a_sp_froms_sizes])), aJ g a_sp_froms_keys 1488 sp_froms_keys, aI g a_sp_froms_sizes 248 sp_froms_sizes, aJ g a_sp_cents 1488 sp_cents] [(0, .ref a_t), (1, .int maker), (2, .long from_), (4, .long cents)] [] 12 3 18
  refine st_aload_n X 0 d_C_board_12 rfl rfl ?_
  refine st_get X (ci := 5) in_C 0 5 wf_C_31 rfl rfl (by decide) rfl d_C_board_13 ?_
  refine st_bipush X (v := 30) d_C_board_16 (by decide) ?_
  refine st_iload_n X 1 d_C_board_18 rfl rfl ?_
  refine st_lload_n X 2 d_C_board_19 rfl rfl ?_
  refine st_lload X 3 d_C_board_20 rfl ?_
  have hR := rn_VN (pc := 22) (k := 3) (n := 18) (As := [.int 30, .int maker, .long from_, .long cents]) (rest := []) X (k_St_tell g hg a_sp (30 : Int32) maker from_ cents a_sp_froms a_sp_cents a_sp_froms_keys a_sp_froms_sizes sp_froms_keys sp_froms_sizes sp_cents _ hw) (q0 := 0) rfl rfl nl_C_78 wi_St_tell wl_St_tell wz_St wc_St_tell h9_St_tell ⟨by decide, by decide⟩ (Nat.le_of_ble_eq_true rfl) ⟨by decide, by decide⟩ d_C_board_22
  refine st_calli X hR [1, 2, 3, 4, 5] [0] (wr := [(a_t, .inr (5, [.ref a_used, .ref a_stock, .ref a_alts, .ref a_asm, .ref a_placed, .ref a_sp, .ref a_rt, .ref a_yl, .int partCount, .long tooling, .ref a_dr, .ref a_la, .ref a_be]))]) rfl rfl (by decide) (by decide) (by decide) (fun r4 u9 hw => ?_)
  obtain ⟨u1, u2, u3⟩ := u9
  try dsimp only at hw
  refine st_widen (k2 := 3) (n2 := 18) (by decide) (by decide) ?_
  refine st_perm (ws2 := [(a_t, .inr (5, [.ref a_used, .ref a_stock, .ref a_alts, .ref a_asm, .ref a_placed, .ref a_sp, .ref a_rt, .ref a_yl, .int partCount, .long tooling, .ref a_dr, .ref a_la, .ref a_be])), (a_sp, .inr (3, [.ref a_sp_froms, .ref a_sp_cents])), (a_sp_froms, .inr (0, [.ref a_sp_froms_keys, .ref a_sp_froms_sizes])), aJ g a_sp_froms_keys 1488 u1, aI g a_sp_froms_sizes 248 u2, aJ g a_sp_cents 1488 u3]) [0, 1, 2, 3, 4, 5] rfl (by decide) ?_
  show ST g C [(a_t, .inr (5, [.ref a_used, .ref a_stock, .ref a_alts, .ref a_asm, .ref a_placed, .ref a_sp, .ref a_rt, .ref a_yl, .int partCount, .long tooling, .ref a_dr, .ref a_la, .ref a_be])), (a_sp, .inr (3, [.ref a_sp_froms, .ref a_sp_cents])), (a_sp_froms, .inr (0, [.ref a_sp_froms_keys, .ref a_sp_froms_sizes])), aJ g a_sp_froms_keys 1488 u1, aI g a_sp_froms_sizes 248 u2, aJ g a_sp_cents 1488 u3] [(0, .ref a_t), (1, .int maker), (2, .long from_), (4, .long cents)] [.int r4] 25 3 18
  obtain ⟨hz, hw⟩ := hw
  exact st_zretX X hr (u1, u2, u3) hw hz rfl (by decide) (by decide) d_C_board_25

theorem h9_C_assembly : y_C_assembly.cls ≠ "java/lang/invoke/MethodHandle" ∧ y_C_assembly.cls ≠ "java/lang/invoke/VarHandle" ∧ (parseMethodDescriptor y_C_assembly.desc).map (fun d => d.parameters.length) = some 2 := by decide +kernel
def wp_C_assembly (kind : Int32) (cents : Int64) (asm : Nat → Int64) (Q : Int32 → (Nat → Int64) → Prop) (XE : String → (Nat → Int64) → Prop) : Prop :=
  wp_C_needIndex kind (8 : Int32) (
  wp_C_needNumber cents (0 : Int64) (1000000 : Int64) (
  wp_C_tellNumber kind cents 8 asm (fun r2 u1 =>
  (r2 = 0 ∨ r2 = 1) ∧ Q r2 u1)) (fun E9 => XE E9 asm)) (fun E9 => XE E9 asm)
set_option maxHeartbeats 4000000 in
set_option maxRecDepth 100000 in
theorem k_C_assembly (g : GX) (hg : g.1.stackTraces = false) (a_t : Nat) (kind : Int32) (cents : Int64) (a_used : Nat) (a_stock : Nat) (a_alts : Nat) (a_asm : Nat) (a_placed : Nat) (a_sp : Nat) (a_rt : Nat) (a_yl : Nat) (partCount : Int32) (tooling : Int64) (a_dr : Nat) (a_la : Nat) (a_be : Nat) (asm : Nat → Int64) (Q : Int32 → (Nat → Int64) → Prop) (XE : String → (Nat → Int64) → Prop) (hw : wp_C_assembly kind cents asm Q XE) : CTX g y_C_assembly c_C_assembly 4 (some .boolean) ({ frames := 7, cells := 2, slots := 12, locals := 107 } : Room) [.ref a_t, .int kind, .long cents] [(a_t, .inr (5, [.ref a_used, .ref a_stock, .ref a_alts, .ref a_asm, .ref a_placed, .ref a_sp, .ref a_rt, .ref a_yl, .int partCount, .long tooling, .ref a_dr, .ref a_la, .ref a_be])), aJ g a_asm 8 asm] (QI g [(a_t, .inr (5, [.ref a_used, .ref a_stock, .ref a_alts, .ref a_asm, .ref a_placed, .ref a_sp, .ref a_rt, .ref a_yl, .int partCount, .long tooling, .ref a_dr, .ref a_la, .ref a_be])), aJ g a_asm 8 asm] (fun u : (Nat → Int64) => [(a_t, .inr (5, [.ref a_used, .ref a_stock, .ref a_alts, .ref a_asm, .ref a_placed, .ref a_sp, .ref a_rt, .ref a_yl, .int partCount, .long tooling, .ref a_dr, .ref a_la, .ref a_be])), aJ g a_asm 8 u]) (fun r u => Q r u)) (QX g [(a_t, .inr (5, [.ref a_used, .ref a_stock, .ref a_alts, .ref a_asm, .ref a_placed, .ref a_sp, .ref a_rt, .ref a_yl, .int partCount, .long tooling, .ref a_dr, .ref a_la, .ref a_be])), aJ g a_asm 8 asm] (fun u : (Nat → Int64) => [(a_t, .inr (5, [.ref a_used, .ref a_stock, .ref a_alts, .ref a_asm, .ref a_placed, .ref a_sp, .ref a_rt, .ref a_yl, .int partCount, .long tooling, .ref a_dr, .ref a_la, .ref a_be])), aJ g a_asm 8 u]) (fun E u => XE E u)) := by
  refine ctx_of hg (by decide) (Nat.le_of_ble_eq_true rfl) (fun sz C X hr htab => ?_)
  unfold wp_C_assembly at hw
  show ST g C [(a_t, .inr (5, [.ref a_used, .ref a_stock, .ref a_alts, .ref a_asm, .ref a_placed, .ref a_sp, .ref a_rt, .ref a_yl, .int partCount, .long tooling, .ref a_dr, .ref a_la, .ref a_be])), aJ g a_asm 8 asm] [(0, .ref a_t), (1, .int kind), (2, .long cents)] [] 0 0 0
  refine st_iload_n X 1 d_C_assembly_0 rfl rfl ?_
  refine st_bipush X (v := 8) d_C_assembly_1 (by decide) ?_
  have hR := rn_SX (pc := 3) (k := 0) (n := 0) (As := [.int kind, .int 8]) (rest := []) X (k_C_needIndex g hg kind (8 : Int32) _ _ hw) wm_C_70 ws_C_needIndex wz_C wc_C_needIndex h9_C_needIndex ⟨by decide, by decide⟩ (Nat.le_of_ble_eq_true rfl) ⟨by decide, by decide⟩ d_C_assembly_3
  refine st_xcallv X hR [] [0, 1] (wr := [(a_t, .inr (5, [.ref a_used, .ref a_stock, .ref a_alts, .ref a_asm, .ref a_placed, .ref a_sp, .ref a_rt, .ref a_yl, .int partCount, .long tooling, .ref a_dr, .ref a_la, .ref a_be])), aJ g a_asm 8 asm]) rfl rfl (by decide) (by decide) (by decide) (fun E9 u9 hw => ?_) (fun u9 hw => ?_)
  · refine stx_perm (ws2 := [(a_t, .inr (5, [.ref a_used, .ref a_stock, .ref a_alts, .ref a_asm, .ref a_placed, .ref a_sp, .ref a_rt, .ref a_yl, .int partCount, .long tooling, .ref a_dr, .ref a_la, .ref a_be])), aJ g a_asm 8 asm]) [0, 1] rfl (by decide) ?_
    exact stx_out X hr htab asm hw rfl (by decide) (by decide)
  refine st_widen (k2 := 1) (n2 := 6) (by decide) (by decide) ?_
  show ST g C [(a_t, .inr (5, [.ref a_used, .ref a_stock, .ref a_alts, .ref a_asm, .ref a_placed, .ref a_sp, .ref a_rt, .ref a_yl, .int partCount, .long tooling, .ref a_dr, .ref a_la, .ref a_be])), aJ g a_asm 8 asm] [(0, .ref a_t), (1, .int kind), (2, .long cents)] [] 6 1 6
  refine st_lload_n X 2 d_C_assembly_6 rfl rfl ?_
  refine st_lconst X (v := 0) d_C_assembly_7 (by decide) ?_
  refine st_ldc2 X wv_C_92 d_C_assembly_8 ?_
  have hR := rn_SX (pc := 11) (k := 1) (n := 6) (As := [.long cents, .long 0, .long 1000000]) (rest := []) X (k_C_needNumber g hg cents (0 : Int64) (1000000 : Int64) _ _ hw) wm_C_84 ws_C_needNumber wz_C wc_C_needNumber h9_C_needNumber ⟨by decide, by decide⟩ (Nat.le_of_ble_eq_true rfl) ⟨by decide, by decide⟩ d_C_assembly_11
  refine st_xcallv X hR [] [0, 1] (wr := [(a_t, .inr (5, [.ref a_used, .ref a_stock, .ref a_alts, .ref a_asm, .ref a_placed, .ref a_sp, .ref a_rt, .ref a_yl, .int partCount, .long tooling, .ref a_dr, .ref a_la, .ref a_be])), aJ g a_asm 8 asm]) rfl rfl (by decide) (by decide) (by decide) (fun E9 u9 hw => ?_) (fun u9 hw => ?_)
  · refine stx_perm (ws2 := [(a_t, .inr (5, [.ref a_used, .ref a_stock, .ref a_alts, .ref a_asm, .ref a_placed, .ref a_sp, .ref a_rt, .ref a_yl, .int partCount, .long tooling, .ref a_dr, .ref a_la, .ref a_be])), aJ g a_asm 8 asm]) [0, 1] rfl (by decide) ?_
    exact stx_out X hr htab asm hw rfl (by decide) (by decide)
  refine st_widen (k2 := 2) (n2 := 12) (by decide) (by decide) ?_
  show ST g C [(a_t, .inr (5, [.ref a_used, .ref a_stock, .ref a_alts, .ref a_asm, .ref a_placed, .ref a_sp, .ref a_rt, .ref a_yl, .int partCount, .long tooling, .ref a_dr, .ref a_la, .ref a_be])), aJ g a_asm 8 asm] [(0, .ref a_t), (1, .int kind), (2, .long cents)] [] 14 2 12
  refine st_aload_n X 0 d_C_assembly_14 rfl rfl ?_
  refine st_get X (ci := 5) in_C 0 3 wf_C_22 rfl rfl (by decide) rfl d_C_assembly_15 ?_
  refine st_iload_n X 1 d_C_assembly_18 rfl rfl ?_
  refine st_lload_n X 2 d_C_assembly_19 rfl rfl ?_
  have hR := rn_S (pc := 20) (k := 2) (n := 12) (As := [.ref a_asm, .int kind, .long cents]) (rest := []) X (k_C_tellNumber g hg a_asm kind cents 8 asm _ hw) wm_C_88 ws_C_tellNumber wz_C wc_C_tellNumber h9_C_tellNumber ⟨by decide, by decide⟩ (Nat.le_of_ble_eq_true rfl) ⟨by decide, by decide⟩ d_C_assembly_20
  refine st_calli X hR [1] [0] (wr := [(a_t, .inr (5, [.ref a_used, .ref a_stock, .ref a_alts, .ref a_asm, .ref a_placed, .ref a_sp, .ref a_rt, .ref a_yl, .int partCount, .long tooling, .ref a_dr, .ref a_la, .ref a_be]))]) rfl rfl (by decide) (by decide) (by decide) (fun r2 u9 hw => ?_)
  obtain ⟨u1, hu9⟩ : ∃ z, z = u9 := ⟨_, rfl⟩
  subst hu9
  try dsimp only at hw
  refine st_widen (k2 := 2) (n2 := 12) (by decide) (by decide) ?_
  refine st_perm (ws2 := [(a_t, .inr (5, [.ref a_used, .ref a_stock, .ref a_alts, .ref a_asm, .ref a_placed, .ref a_sp, .ref a_rt, .ref a_yl, .int partCount, .long tooling, .ref a_dr, .ref a_la, .ref a_be])), aJ g a_asm 8 u1]) [0, 1] rfl (by decide) ?_
  show ST g C [(a_t, .inr (5, [.ref a_used, .ref a_stock, .ref a_alts, .ref a_asm, .ref a_placed, .ref a_sp, .ref a_rt, .ref a_yl, .int partCount, .long tooling, .ref a_dr, .ref a_la, .ref a_be])), aJ g a_asm 8 u1] [(0, .ref a_t), (1, .int kind), (2, .long cents)] [.int r2] 23 2 12
  obtain ⟨hz, hw⟩ := hw
  exact st_zretX X hr u1 hw hz rfl (by decide) (by decide) d_C_assembly_23

theorem h9_C_placed : y_C_placed.cls ≠ "java/lang/invoke/MethodHandle" ∧ y_C_placed.cls ≠ "java/lang/invoke/VarHandle" ∧ (parseMethodDescriptor y_C_placed.desc).map (fun d => d.parameters.length) = some 2 := by decide +kernel
def wp_C_placed (kind : Int32) (n_ : Int64) (placed : Nat → Int64) (Q : Int32 → (Nat → Int64) → Prop) (XE : String → (Nat → Int64) → Prop) : Prop :=
  wp_C_needIndex kind (8 : Int32) (
  wp_C_needNumber n_ (0 : Int64) (1000 : Int64) (
  wp_C_tellNumber kind n_ 8 placed (fun r2 u1 =>
  (r2 = 0 ∨ r2 = 1) ∧ Q r2 u1)) (fun E9 => XE E9 placed)) (fun E9 => XE E9 placed)
set_option maxHeartbeats 4000000 in
set_option maxRecDepth 100000 in
theorem k_C_placed (g : GX) (hg : g.1.stackTraces = false) (a_t : Nat) (kind : Int32) (n_ : Int64) (a_used : Nat) (a_stock : Nat) (a_alts : Nat) (a_asm : Nat) (a_placed : Nat) (a_sp : Nat) (a_rt : Nat) (a_yl : Nat) (partCount : Int32) (tooling : Int64) (a_dr : Nat) (a_la : Nat) (a_be : Nat) (placed : Nat → Int64) (Q : Int32 → (Nat → Int64) → Prop) (XE : String → (Nat → Int64) → Prop) (hw : wp_C_placed kind n_ placed Q XE) : CTX g y_C_placed c_C_placed 4 (some .boolean) ({ frames := 7, cells := 2, slots := 12, locals := 107 } : Room) [.ref a_t, .int kind, .long n_] [(a_t, .inr (5, [.ref a_used, .ref a_stock, .ref a_alts, .ref a_asm, .ref a_placed, .ref a_sp, .ref a_rt, .ref a_yl, .int partCount, .long tooling, .ref a_dr, .ref a_la, .ref a_be])), aJ g a_placed 8 placed] (QI g [(a_t, .inr (5, [.ref a_used, .ref a_stock, .ref a_alts, .ref a_asm, .ref a_placed, .ref a_sp, .ref a_rt, .ref a_yl, .int partCount, .long tooling, .ref a_dr, .ref a_la, .ref a_be])), aJ g a_placed 8 placed] (fun u : (Nat → Int64) => [(a_t, .inr (5, [.ref a_used, .ref a_stock, .ref a_alts, .ref a_asm, .ref a_placed, .ref a_sp, .ref a_rt, .ref a_yl, .int partCount, .long tooling, .ref a_dr, .ref a_la, .ref a_be])), aJ g a_placed 8 u]) (fun r u => Q r u)) (QX g [(a_t, .inr (5, [.ref a_used, .ref a_stock, .ref a_alts, .ref a_asm, .ref a_placed, .ref a_sp, .ref a_rt, .ref a_yl, .int partCount, .long tooling, .ref a_dr, .ref a_la, .ref a_be])), aJ g a_placed 8 placed] (fun u : (Nat → Int64) => [(a_t, .inr (5, [.ref a_used, .ref a_stock, .ref a_alts, .ref a_asm, .ref a_placed, .ref a_sp, .ref a_rt, .ref a_yl, .int partCount, .long tooling, .ref a_dr, .ref a_la, .ref a_be])), aJ g a_placed 8 u]) (fun E u => XE E u)) := by
  refine ctx_of hg (by decide) (Nat.le_of_ble_eq_true rfl) (fun sz C X hr htab => ?_)
  unfold wp_C_placed at hw
  show ST g C [(a_t, .inr (5, [.ref a_used, .ref a_stock, .ref a_alts, .ref a_asm, .ref a_placed, .ref a_sp, .ref a_rt, .ref a_yl, .int partCount, .long tooling, .ref a_dr, .ref a_la, .ref a_be])), aJ g a_placed 8 placed] [(0, .ref a_t), (1, .int kind), (2, .long n_)] [] 0 0 0
  refine st_iload_n X 1 d_C_placed_0 rfl rfl ?_
  refine st_bipush X (v := 8) d_C_placed_1 (by decide) ?_
  have hR := rn_SX (pc := 3) (k := 0) (n := 0) (As := [.int kind, .int 8]) (rest := []) X (k_C_needIndex g hg kind (8 : Int32) _ _ hw) wm_C_70 ws_C_needIndex wz_C wc_C_needIndex h9_C_needIndex ⟨by decide, by decide⟩ (Nat.le_of_ble_eq_true rfl) ⟨by decide, by decide⟩ d_C_placed_3
  refine st_xcallv X hR [] [0, 1] (wr := [(a_t, .inr (5, [.ref a_used, .ref a_stock, .ref a_alts, .ref a_asm, .ref a_placed, .ref a_sp, .ref a_rt, .ref a_yl, .int partCount, .long tooling, .ref a_dr, .ref a_la, .ref a_be])), aJ g a_placed 8 placed]) rfl rfl (by decide) (by decide) (by decide) (fun E9 u9 hw => ?_) (fun u9 hw => ?_)
  · refine stx_perm (ws2 := [(a_t, .inr (5, [.ref a_used, .ref a_stock, .ref a_alts, .ref a_asm, .ref a_placed, .ref a_sp, .ref a_rt, .ref a_yl, .int partCount, .long tooling, .ref a_dr, .ref a_la, .ref a_be])), aJ g a_placed 8 placed]) [0, 1] rfl (by decide) ?_
    exact stx_out X hr htab placed hw rfl (by decide) (by decide)
  refine st_widen (k2 := 1) (n2 := 6) (by decide) (by decide) ?_
  show ST g C [(a_t, .inr (5, [.ref a_used, .ref a_stock, .ref a_alts, .ref a_asm, .ref a_placed, .ref a_sp, .ref a_rt, .ref a_yl, .int partCount, .long tooling, .ref a_dr, .ref a_la, .ref a_be])), aJ g a_placed 8 placed] [(0, .ref a_t), (1, .int kind), (2, .long n_)] [] 6 1 6
  refine st_lload_n X 2 d_C_placed_6 rfl rfl ?_
  refine st_lconst X (v := 0) d_C_placed_7 (by decide) ?_
  refine st_ldc2 X wv_C_82 d_C_placed_8 ?_
  have hR := rn_SX (pc := 11) (k := 1) (n := 6) (As := [.long n_, .long 0, .long 1000]) (rest := []) X (k_C_needNumber g hg n_ (0 : Int64) (1000 : Int64) _ _ hw) wm_C_84 ws_C_needNumber wz_C wc_C_needNumber h9_C_needNumber ⟨by decide, by decide⟩ (Nat.le_of_ble_eq_true rfl) ⟨by decide, by decide⟩ d_C_placed_11
  refine st_xcallv X hR [] [0, 1] (wr := [(a_t, .inr (5, [.ref a_used, .ref a_stock, .ref a_alts, .ref a_asm, .ref a_placed, .ref a_sp, .ref a_rt, .ref a_yl, .int partCount, .long tooling, .ref a_dr, .ref a_la, .ref a_be])), aJ g a_placed 8 placed]) rfl rfl (by decide) (by decide) (by decide) (fun E9 u9 hw => ?_) (fun u9 hw => ?_)
  · refine stx_perm (ws2 := [(a_t, .inr (5, [.ref a_used, .ref a_stock, .ref a_alts, .ref a_asm, .ref a_placed, .ref a_sp, .ref a_rt, .ref a_yl, .int partCount, .long tooling, .ref a_dr, .ref a_la, .ref a_be])), aJ g a_placed 8 placed]) [0, 1] rfl (by decide) ?_
    exact stx_out X hr htab placed hw rfl (by decide) (by decide)
  refine st_widen (k2 := 2) (n2 := 12) (by decide) (by decide) ?_
  show ST g C [(a_t, .inr (5, [.ref a_used, .ref a_stock, .ref a_alts, .ref a_asm, .ref a_placed, .ref a_sp, .ref a_rt, .ref a_yl, .int partCount, .long tooling, .ref a_dr, .ref a_la, .ref a_be])), aJ g a_placed 8 placed] [(0, .ref a_t), (1, .int kind), (2, .long n_)] [] 14 2 12
  refine st_aload_n X 0 d_C_placed_14 rfl rfl ?_
  refine st_get X (ci := 5) in_C 0 4 wf_C_25 rfl rfl (by decide) rfl d_C_placed_15 ?_
  refine st_iload_n X 1 d_C_placed_18 rfl rfl ?_
  refine st_lload_n X 2 d_C_placed_19 rfl rfl ?_
  have hR := rn_S (pc := 20) (k := 2) (n := 12) (As := [.ref a_placed, .int kind, .long n_]) (rest := []) X (k_C_tellNumber g hg a_placed kind n_ 8 placed _ hw) wm_C_88 ws_C_tellNumber wz_C wc_C_tellNumber h9_C_tellNumber ⟨by decide, by decide⟩ (Nat.le_of_ble_eq_true rfl) ⟨by decide, by decide⟩ d_C_placed_20
  refine st_calli X hR [1] [0] (wr := [(a_t, .inr (5, [.ref a_used, .ref a_stock, .ref a_alts, .ref a_asm, .ref a_placed, .ref a_sp, .ref a_rt, .ref a_yl, .int partCount, .long tooling, .ref a_dr, .ref a_la, .ref a_be]))]) rfl rfl (by decide) (by decide) (by decide) (fun r2 u9 hw => ?_)
  obtain ⟨u1, hu9⟩ : ∃ z, z = u9 := ⟨_, rfl⟩
  subst hu9
  try dsimp only at hw
  refine st_widen (k2 := 2) (n2 := 12) (by decide) (by decide) ?_
  refine st_perm (ws2 := [(a_t, .inr (5, [.ref a_used, .ref a_stock, .ref a_alts, .ref a_asm, .ref a_placed, .ref a_sp, .ref a_rt, .ref a_yl, .int partCount, .long tooling, .ref a_dr, .ref a_la, .ref a_be])), aJ g a_placed 8 u1]) [0, 1] rfl (by decide) ?_
  show ST g C [(a_t, .inr (5, [.ref a_used, .ref a_stock, .ref a_alts, .ref a_asm, .ref a_placed, .ref a_sp, .ref a_rt, .ref a_yl, .int partCount, .long tooling, .ref a_dr, .ref a_la, .ref a_be])), aJ g a_placed 8 u1] [(0, .ref a_t), (1, .int kind), (2, .long n_)] [.int r2] 23 2 12
  obtain ⟨hz, hw⟩ := hw
  exact st_zretX X hr u1 hw hz rfl (by decide) (by decide) d_C_placed_23

theorem h9_C_yieldOf : y_C_yieldOf.cls ≠ "java/lang/invoke/MethodHandle" ∧ y_C_yieldOf.cls ≠ "java/lang/invoke/VarHandle" ∧ (parseMethodDescriptor y_C_yieldOf.desc).map (fun d => d.parameters.length) = some 2 := by decide +kernel
def wp_C_yieldOf (above : Int64) (below : Int64) (yl_count : Int32) (yl_aboves : Nat → Int64) (yl_belows : Nat → Int64) (Q : Int32 → Int32 → (Nat → Int64) → (Nat → Int64) → Prop) (XE : String → Int32 → (Nat → Int64) → (Nat → Int64) → Prop) : Prop :=
  wp_C_needRatio above below (
  wp_C_needNumber above (1 : Int64) below (
  wp_Y_add above below yl_count yl_aboves yl_belows (fun r4 u1 u2 u3 =>
  (r4 = 0 ∨ r4 = 1) ∧ Q r4 u1 u2 u3)) (fun E9 => XE E9 yl_count yl_aboves yl_belows)) (fun E9 => XE E9 yl_count yl_aboves yl_belows)
set_option maxHeartbeats 4000000 in
set_option maxRecDepth 100000 in
theorem k_C_yieldOf (g : GX) (hg : g.1.stackTraces = false) (a_t : Nat) (above : Int64) (below : Int64) (a_used : Nat) (a_stock : Nat) (a_alts : Nat) (a_asm : Nat) (a_placed : Nat) (a_sp : Nat) (a_rt : Nat) (a_yl : Nat) (partCount : Int32) (tooling : Int64) (a_dr : Nat) (a_la : Nat) (a_be : Nat) (a_yl_aboves : Nat) (a_yl_belows : Nat) (yl_count : Int32) (yl_aboves : Nat → Int64) (yl_belows : Nat → Int64) (Q : Int32 → Int32 → (Nat → Int64) → (Nat → Int64) → Prop) (XE : String → Int32 → (Nat → Int64) → (Nat → Int64) → Prop) (hw : wp_C_yieldOf above below yl_count yl_aboves yl_belows Q XE) : CTX g y_C_yieldOf c_C_yieldOf 5 (some .boolean) ({ frames := 8, cells := 3, slots := 18, locals := 130 } : Room) [.ref a_t, .long above, .long below] [(a_t, .inr (5, [.ref a_used, .ref a_stock, .ref a_alts, .ref a_asm, .ref a_placed, .ref a_sp, .ref a_rt, .ref a_yl, .int partCount, .long tooling, .ref a_dr, .ref a_la, .ref a_be])), (a_yl, .inr (4, [.ref a_yl_aboves, .ref a_yl_belows, .int yl_count])), aJ g a_yl_aboves 8 yl_aboves, aJ g a_yl_belows 8 yl_belows] (QI g [(a_t, .inr (5, [.ref a_used, .ref a_stock, .ref a_alts, .ref a_asm, .ref a_placed, .ref a_sp, .ref a_rt, .ref a_yl, .int partCount, .long tooling, .ref a_dr, .ref a_la, .ref a_be])), (a_yl, .inr (4, [.ref a_yl_aboves, .ref a_yl_belows, .int yl_count])), aJ g a_yl_aboves 8 yl_aboves, aJ g a_yl_belows 8 yl_belows] (fun u : Int32 × (Nat → Int64) × (Nat → Int64) => [(a_t, .inr (5, [.ref a_used, .ref a_stock, .ref a_alts, .ref a_asm, .ref a_placed, .ref a_sp, .ref a_rt, .ref a_yl, .int partCount, .long tooling, .ref a_dr, .ref a_la, .ref a_be])), (a_yl, .inr (4, [.ref a_yl_aboves, .ref a_yl_belows, .int u.1])), aJ g a_yl_aboves 8 u.2.1, aJ g a_yl_belows 8 u.2.2]) (fun r u => Q r u.1 u.2.1 u.2.2)) (QX g [(a_t, .inr (5, [.ref a_used, .ref a_stock, .ref a_alts, .ref a_asm, .ref a_placed, .ref a_sp, .ref a_rt, .ref a_yl, .int partCount, .long tooling, .ref a_dr, .ref a_la, .ref a_be])), (a_yl, .inr (4, [.ref a_yl_aboves, .ref a_yl_belows, .int yl_count])), aJ g a_yl_aboves 8 yl_aboves, aJ g a_yl_belows 8 yl_belows] (fun u : Int32 × (Nat → Int64) × (Nat → Int64) => [(a_t, .inr (5, [.ref a_used, .ref a_stock, .ref a_alts, .ref a_asm, .ref a_placed, .ref a_sp, .ref a_rt, .ref a_yl, .int partCount, .long tooling, .ref a_dr, .ref a_la, .ref a_be])), (a_yl, .inr (4, [.ref a_yl_aboves, .ref a_yl_belows, .int u.1])), aJ g a_yl_aboves 8 u.2.1, aJ g a_yl_belows 8 u.2.2]) (fun E u => XE E u.1 u.2.1 u.2.2)) := by
  refine ctx_of hg (by decide) (Nat.le_of_ble_eq_true rfl) (fun sz C X hr htab => ?_)
  unfold wp_C_yieldOf at hw
  show ST g C [(a_t, .inr (5, [.ref a_used, .ref a_stock, .ref a_alts, .ref a_asm, .ref a_placed, .ref a_sp, .ref a_rt, .ref a_yl, .int partCount, .long tooling, .ref a_dr, .ref a_la, .ref a_be])), (a_yl, .inr (4, [.ref a_yl_aboves, .ref a_yl_belows, .int yl_count])), aJ g a_yl_aboves 8 yl_aboves, aJ g a_yl_belows 8 yl_belows] [(0, .ref a_t), (1, .long above), (3, .long below)] [] 0 0 0
  refine st_lload_n X 1 d_C_yieldOf_0 rfl rfl ?_
  refine st_lload_n X 2 d_C_yieldOf_1 rfl rfl ?_
  have hR := rn_SX (pc := 2) (k := 0) (n := 0) (As := [.long above, .long below]) (rest := []) X (k_C_needRatio g hg above below _ _ hw) wm_C_94 ws_C_needRatio wz_C wc_C_needRatio h9_C_needRatio ⟨by decide, by decide⟩ (Nat.le_of_ble_eq_true rfl) ⟨by decide, by decide⟩ d_C_yieldOf_2
  refine st_xcallv X hR [] [0, 1, 2, 3] (wr := [(a_t, .inr (5, [.ref a_used, .ref a_stock, .ref a_alts, .ref a_asm, .ref a_placed, .ref a_sp, .ref a_rt, .ref a_yl, .int partCount, .long tooling, .ref a_dr, .ref a_la, .ref a_be])), (a_yl, .inr (4, [.ref a_yl_aboves, .ref a_yl_belows, .int yl_count])), aJ g a_yl_aboves 8 yl_aboves, aJ g a_yl_belows 8 yl_belows]) rfl rfl (by decide) (by decide) (by decide) (fun E9 u9 hw => ?_) (fun u9 hw => ?_)
  · refine stx_perm (ws2 := [(a_t, .inr (5, [.ref a_used, .ref a_stock, .ref a_alts, .ref a_asm, .ref a_placed, .ref a_sp, .ref a_rt, .ref a_yl, .int partCount, .long tooling, .ref a_dr, .ref a_la, .ref a_be])), (a_yl, .inr (4, [.ref a_yl_aboves, .ref a_yl_belows, .int yl_count])), aJ g a_yl_aboves 8 yl_aboves, aJ g a_yl_belows 8 yl_belows]) [0, 1, 2, 3] rfl (by decide) ?_
    exact stx_out X hr htab (yl_count, yl_aboves, yl_belows) hw rfl (by decide) (by decide)
  refine st_widen (k2 := 2) (n2 := 12) (by decide) (by decide) ?_
  show ST g C [(a_t, .inr (5, [.ref a_used, .ref a_stock, .ref a_alts, .ref a_asm, .ref a_placed, .ref a_sp, .ref a_rt, .ref a_yl, .int partCount, .long tooling, .ref a_dr, .ref a_la, .ref a_be])), (a_yl, .inr (4, [.ref a_yl_aboves, .ref a_yl_belows, .int yl_count])), aJ g a_yl_aboves 8 yl_aboves, aJ g a_yl_belows 8 yl_belows] [(0, .ref a_t), (1, .long above), (3, .long below)] [] 5 2 12
  refine st_lload_n X 1 d_C_yieldOf_5 rfl rfl ?_
  refine st_lconst X (v := 1) d_C_yieldOf_6 (by decide) ?_
  refine st_lload_n X 2 d_C_yieldOf_7 rfl rfl ?_
  have hR := rn_SX (pc := 8) (k := 2) (n := 12) (As := [.long above, .long 1, .long below]) (rest := []) X (k_C_needNumber g hg above (1 : Int64) below _ _ hw) wm_C_84 ws_C_needNumber wz_C wc_C_needNumber h9_C_needNumber ⟨by decide, by decide⟩ (Nat.le_of_ble_eq_true rfl) ⟨by decide, by decide⟩ d_C_yieldOf_8
  refine st_xcallv X hR [] [0, 1, 2, 3] (wr := [(a_t, .inr (5, [.ref a_used, .ref a_stock, .ref a_alts, .ref a_asm, .ref a_placed, .ref a_sp, .ref a_rt, .ref a_yl, .int partCount, .long tooling, .ref a_dr, .ref a_la, .ref a_be])), (a_yl, .inr (4, [.ref a_yl_aboves, .ref a_yl_belows, .int yl_count])), aJ g a_yl_aboves 8 yl_aboves, aJ g a_yl_belows 8 yl_belows]) rfl rfl (by decide) (by decide) (by decide) (fun E9 u9 hw => ?_) (fun u9 hw => ?_)
  · refine stx_perm (ws2 := [(a_t, .inr (5, [.ref a_used, .ref a_stock, .ref a_alts, .ref a_asm, .ref a_placed, .ref a_sp, .ref a_rt, .ref a_yl, .int partCount, .long tooling, .ref a_dr, .ref a_la, .ref a_be])), (a_yl, .inr (4, [.ref a_yl_aboves, .ref a_yl_belows, .int yl_count])), aJ g a_yl_aboves 8 yl_aboves, aJ g a_yl_belows 8 yl_belows]) [0, 1, 2, 3] rfl (by decide) ?_
    exact stx_out X hr htab (yl_count, yl_aboves, yl_belows) hw rfl (by decide) (by decide)
  refine st_widen (k2 := 3) (n2 := 18) (by decide) (by decide) ?_
  show ST g C [(a_t, .inr (5, [.ref a_used, .ref a_stock, .ref a_alts, .ref a_asm, .ref a_placed, .ref a_sp, .ref a_rt, .ref a_yl, .int partCount, .long tooling, .ref a_dr, .ref a_la, .ref a_be])), (a_yl, .inr (4, [.ref a_yl_aboves, .ref a_yl_belows, .int yl_count])), aJ g a_yl_aboves 8 yl_aboves, aJ g a_yl_belows 8 yl_belows] [(0, .ref a_t), (1, .long above), (3, .long below)] [] 11 3 18
  refine st_aload_n X 0 d_C_yieldOf_11 rfl rfl ?_
  refine st_get X (ci := 5) in_C 0 7 wf_C_45 rfl rfl (by decide) rfl d_C_yieldOf_12 ?_
  refine st_lload_n X 1 d_C_yieldOf_15 rfl rfl ?_
  refine st_lload_n X 2 d_C_yieldOf_16 rfl rfl ?_
  have hR := rn_VN (pc := 17) (k := 3) (n := 18) (As := [.long above, .long below]) (rest := []) X (k_Y_add g hg a_yl above below a_yl_aboves a_yl_belows yl_count yl_aboves yl_belows _ hw) (q0 := 0) rfl rfl nl_C_97 wi_Y_add wl_Y_add wz_Y wc_Y_add h9_Y_add ⟨by decide, by decide⟩ (Nat.le_of_ble_eq_true rfl) ⟨by decide, by decide⟩ d_C_yieldOf_17
  refine st_calli X hR [1, 2, 3] [0] (wr := [(a_t, .inr (5, [.ref a_used, .ref a_stock, .ref a_alts, .ref a_asm, .ref a_placed, .ref a_sp, .ref a_rt, .ref a_yl, .int partCount, .long tooling, .ref a_dr, .ref a_la, .ref a_be]))]) rfl rfl (by decide) (by decide) (by decide) (fun r4 u9 hw => ?_)
  obtain ⟨u1, u2, u3⟩ := u9
  try dsimp only at hw
  refine st_widen (k2 := 3) (n2 := 18) (by decide) (by decide) ?_
  refine st_perm (ws2 := [(a_t, .inr (5, [.ref a_used, .ref a_stock, .ref a_alts, .ref a_asm, .ref a_placed, .ref a_sp, .ref a_rt, .ref a_yl, .int partCount, .long tooling, .ref a_dr, .ref a_la, .ref a_be])), (a_yl, .inr (4, [.ref a_yl_aboves, .ref a_yl_belows, .int u1])), aJ g a_yl_aboves 8 u2, aJ g a_yl_belows 8 u3]) [0, 1, 2, 3] rfl (by decide) ?_
  show ST g C [(a_t, .inr (5, [.ref a_used, .ref a_stock, .ref a_alts, .ref a_asm, .ref a_placed, .ref a_sp, .ref a_rt, .ref a_yl, .int partCount, .long tooling, .ref a_dr, .ref a_la, .ref a_be])), (a_yl, .inr (4, [.ref a_yl_aboves, .ref a_yl_belows, .int u1])), aJ g a_yl_aboves 8 u2, aJ g a_yl_belows 8 u3] [(0, .ref a_t), (1, .long above), (3, .long below)] [.int r4] 20 3 18
  obtain ⟨hz, hw⟩ := hw
  exact st_zretX X hr (u1, u2, u3) hw hz rfl (by decide) (by decide) d_C_yieldOf_20

theorem h9_C_currency : y_C_currency.cls ≠ "java/lang/invoke/MethodHandle" ∧ y_C_currency.cls ≠ "java/lang/invoke/VarHandle" ∧ (parseMethodDescriptor y_C_currency.desc).map (fun d => d.parameters.length) = some 4 := by decide +kernel
def wp_C_currency (maker : Int32) (day : Int64) (above : Int64) (below : Int64) (rt_days_keys : Nat → Int64) (rt_days_sizes : Nat → Int32) (rt_aboves : Nat → Int64) (rt_belows : Nat → Int64) (Q : Int32 → (Nat → Int64) → (Nat → Int32) → (Nat → Int64) → (Nat → Int64) → Prop) (XE : String → (Nat → Int64) → (Nat → Int32) → (Nat → Int64) → (Nat → Int64) → Prop) : Prop :=
  wp_C_needIndex maker (8 : Int32) (
  wp_C_needRatio above below (
  wp_Ra_tell maker day above below rt_days_keys rt_days_sizes rt_aboves rt_belows (fun r5 u1 u2 u3 u4 =>
  (r5 = 0 ∨ r5 = 1) ∧ Q r5 u1 u2 u3 u4)) (fun E9 => XE E9 rt_days_keys rt_days_sizes rt_aboves rt_belows)) (fun E9 => XE E9 rt_days_keys rt_days_sizes rt_aboves rt_belows)
set_option maxHeartbeats 4000000 in
set_option maxRecDepth 100000 in
theorem k_C_currency (g : GX) (hg : g.1.stackTraces = false) (a_t : Nat) (maker : Int32) (day : Int64) (above : Int64) (below : Int64) (a_used : Nat) (a_stock : Nat) (a_alts : Nat) (a_asm : Nat) (a_placed : Nat) (a_sp : Nat) (a_rt : Nat) (a_yl : Nat) (partCount : Int32) (tooling : Int64) (a_dr : Nat) (a_la : Nat) (a_be : Nat) (a_rt_days : Nat) (a_rt_aboves : Nat) (a_rt_belows : Nat) (a_rt_aboveNow : Nat) (a_rt_belowNow : Nat) (a_rt_days_keys : Nat) (a_rt_days_sizes : Nat) (rt_days_keys : Nat → Int64) (rt_days_sizes : Nat → Int32) (rt_aboves : Nat → Int64) (rt_belows : Nat → Int64) (Q : Int32 → (Nat → Int64) → (Nat → Int32) → (Nat → Int64) → (Nat → Int64) → Prop) (XE : String → (Nat → Int64) → (Nat → Int32) → (Nat → Int64) → (Nat → Int64) → Prop) (hw : wp_C_currency maker day above below rt_days_keys rt_days_sizes rt_aboves rt_belows Q XE) : CTX g y_C_currency c_C_currency 8 (some .boolean) ({ frames := 8, cells := 3, slots := 18, locals := 130 } : Room) [.ref a_t, .int maker, .long day, .long above, .long below] [(a_t, .inr (5, [.ref a_used, .ref a_stock, .ref a_alts, .ref a_asm, .ref a_placed, .ref a_sp, .ref a_rt, .ref a_yl, .int partCount, .long tooling, .ref a_dr, .ref a_la, .ref a_be])), (a_rt, .inr (2, [.ref a_rt_days, .ref a_rt_aboves, .ref a_rt_belows, .ref a_rt_aboveNow, .ref a_rt_belowNow])), (a_rt_days, .inr (0, [.ref a_rt_days_keys, .ref a_rt_days_sizes])), aJ g a_rt_days_keys 48 rt_days_keys, aI g a_rt_days_sizes 8 rt_days_sizes, aJ g a_rt_aboves 48 rt_aboves, aJ g a_rt_belows 48 rt_belows] (QI g [(a_t, .inr (5, [.ref a_used, .ref a_stock, .ref a_alts, .ref a_asm, .ref a_placed, .ref a_sp, .ref a_rt, .ref a_yl, .int partCount, .long tooling, .ref a_dr, .ref a_la, .ref a_be])), (a_rt, .inr (2, [.ref a_rt_days, .ref a_rt_aboves, .ref a_rt_belows, .ref a_rt_aboveNow, .ref a_rt_belowNow])), (a_rt_days, .inr (0, [.ref a_rt_days_keys, .ref a_rt_days_sizes])), aJ g a_rt_days_keys 48 rt_days_keys, aI g a_rt_days_sizes 8 rt_days_sizes, aJ g a_rt_aboves 48 rt_aboves, aJ g a_rt_belows 48 rt_belows] (fun u : (Nat → Int64) × (Nat → Int32) × (Nat → Int64) × (Nat → Int64) => [(a_t, .inr (5, [.ref a_used, .ref a_stock, .ref a_alts, .ref a_asm, .ref a_placed, .ref a_sp, .ref a_rt, .ref a_yl, .int partCount, .long tooling, .ref a_dr, .ref a_la, .ref a_be])), (a_rt, .inr (2, [.ref a_rt_days, .ref a_rt_aboves, .ref a_rt_belows, .ref a_rt_aboveNow, .ref a_rt_belowNow])), (a_rt_days, .inr (0, [.ref a_rt_days_keys, .ref a_rt_days_sizes])), aJ g a_rt_days_keys 48 u.1, aI g a_rt_days_sizes 8 u.2.1, aJ g a_rt_aboves 48 u.2.2.1, aJ g a_rt_belows 48 u.2.2.2]) (fun r u => Q r u.1 u.2.1 u.2.2.1 u.2.2.2)) (QX g [(a_t, .inr (5, [.ref a_used, .ref a_stock, .ref a_alts, .ref a_asm, .ref a_placed, .ref a_sp, .ref a_rt, .ref a_yl, .int partCount, .long tooling, .ref a_dr, .ref a_la, .ref a_be])), (a_rt, .inr (2, [.ref a_rt_days, .ref a_rt_aboves, .ref a_rt_belows, .ref a_rt_aboveNow, .ref a_rt_belowNow])), (a_rt_days, .inr (0, [.ref a_rt_days_keys, .ref a_rt_days_sizes])), aJ g a_rt_days_keys 48 rt_days_keys, aI g a_rt_days_sizes 8 rt_days_sizes, aJ g a_rt_aboves 48 rt_aboves, aJ g a_rt_belows 48 rt_belows] (fun u : (Nat → Int64) × (Nat → Int32) × (Nat → Int64) × (Nat → Int64) => [(a_t, .inr (5, [.ref a_used, .ref a_stock, .ref a_alts, .ref a_asm, .ref a_placed, .ref a_sp, .ref a_rt, .ref a_yl, .int partCount, .long tooling, .ref a_dr, .ref a_la, .ref a_be])), (a_rt, .inr (2, [.ref a_rt_days, .ref a_rt_aboves, .ref a_rt_belows, .ref a_rt_aboveNow, .ref a_rt_belowNow])), (a_rt_days, .inr (0, [.ref a_rt_days_keys, .ref a_rt_days_sizes])), aJ g a_rt_days_keys 48 u.1, aI g a_rt_days_sizes 8 u.2.1, aJ g a_rt_aboves 48 u.2.2.1, aJ g a_rt_belows 48 u.2.2.2]) (fun E u => XE E u.1 u.2.1 u.2.2.1 u.2.2.2)) := by
  refine ctx_of hg (by decide) (Nat.le_of_ble_eq_true rfl) (fun sz C X hr htab => ?_)
  unfold wp_C_currency at hw
  show ST g C [(a_t, .inr (5, [.ref a_used, .ref a_stock, .ref a_alts, .ref a_asm, .ref a_placed, .ref a_sp, .ref a_rt, .ref a_yl, .int partCount, .long tooling, .ref a_dr, .ref a_la, .ref a_be])), (a_rt, .inr (2, [.ref a_rt_days, .ref a_rt_aboves, .ref a_rt_belows, .ref a_rt_aboveNow, .ref a_rt_belowNow])), (a_rt_days, .inr (0, [.ref a_rt_days_keys, .ref a_rt_days_sizes])), aJ g a_rt_days_keys 48 rt_days_keys, aI g a_rt_days_sizes 8 rt_days_sizes, aJ g a_rt_aboves 48 rt_aboves, aJ g a_rt_belows 48 rt_belows] [(0, .ref a_t), (1, .int maker), (2, .long day), (4, .long above), (6, .long below)] [] 0 0 0
  refine st_iload_n X 1 d_C_currency_0 rfl rfl ?_
  refine st_bipush X (v := 8) d_C_currency_1 (by decide) ?_
  have hR := rn_SX (pc := 3) (k := 0) (n := 0) (As := [.int maker, .int 8]) (rest := []) X (k_C_needIndex g hg maker (8 : Int32) _ _ hw) wm_C_70 ws_C_needIndex wz_C wc_C_needIndex h9_C_needIndex ⟨by decide, by decide⟩ (Nat.le_of_ble_eq_true rfl) ⟨by decide, by decide⟩ d_C_currency_3
  refine st_xcallv X hR [] [0, 1, 2, 3, 4, 5, 6] (wr := [(a_t, .inr (5, [.ref a_used, .ref a_stock, .ref a_alts, .ref a_asm, .ref a_placed, .ref a_sp, .ref a_rt, .ref a_yl, .int partCount, .long tooling, .ref a_dr, .ref a_la, .ref a_be])), (a_rt, .inr (2, [.ref a_rt_days, .ref a_rt_aboves, .ref a_rt_belows, .ref a_rt_aboveNow, .ref a_rt_belowNow])), (a_rt_days, .inr (0, [.ref a_rt_days_keys, .ref a_rt_days_sizes])), aJ g a_rt_days_keys 48 rt_days_keys, aI g a_rt_days_sizes 8 rt_days_sizes, aJ g a_rt_aboves 48 rt_aboves, aJ g a_rt_belows 48 rt_belows]) rfl rfl (by decide) (by decide) (by decide) (fun E9 u9 hw => ?_) (fun u9 hw => ?_)
  · refine stx_perm (ws2 := [(a_t, .inr (5, [.ref a_used, .ref a_stock, .ref a_alts, .ref a_asm, .ref a_placed, .ref a_sp, .ref a_rt, .ref a_yl, .int partCount, .long tooling, .ref a_dr, .ref a_la, .ref a_be])), (a_rt, .inr (2, [.ref a_rt_days, .ref a_rt_aboves, .ref a_rt_belows, .ref a_rt_aboveNow, .ref a_rt_belowNow])), (a_rt_days, .inr (0, [.ref a_rt_days_keys, .ref a_rt_days_sizes])), aJ g a_rt_days_keys 48 rt_days_keys, aI g a_rt_days_sizes 8 rt_days_sizes, aJ g a_rt_aboves 48 rt_aboves, aJ g a_rt_belows 48 rt_belows]) [0, 1, 2, 3, 4, 5, 6] rfl (by decide) ?_
    exact stx_out X hr htab (rt_days_keys, rt_days_sizes, rt_aboves, rt_belows) hw rfl (by decide) (by decide)
  refine st_widen (k2 := 1) (n2 := 6) (by decide) (by decide) ?_
  show ST g C [(a_t, .inr (5, [.ref a_used, .ref a_stock, .ref a_alts, .ref a_asm, .ref a_placed, .ref a_sp, .ref a_rt, .ref a_yl, .int partCount, .long tooling, .ref a_dr, .ref a_la, .ref a_be])), (a_rt, .inr (2, [.ref a_rt_days, .ref a_rt_aboves, .ref a_rt_belows, .ref a_rt_aboveNow, .ref a_rt_belowNow])), (a_rt_days, .inr (0, [.ref a_rt_days_keys, .ref a_rt_days_sizes])), aJ g a_rt_days_keys 48 rt_days_keys, aI g a_rt_days_sizes 8 rt_days_sizes, aJ g a_rt_aboves 48 rt_aboves, aJ g a_rt_belows 48 rt_belows] [(0, .ref a_t), (1, .int maker), (2, .long day), (4, .long above), (6, .long below)] [] 6 1 6
  refine st_lload X 3 d_C_currency_6 rfl ?_
  refine st_lload X 4 d_C_currency_8 rfl ?_
  have hR := rn_SX (pc := 10) (k := 1) (n := 6) (As := [.long above, .long below]) (rest := []) X (k_C_needRatio g hg above below _ _ hw) wm_C_94 ws_C_needRatio wz_C wc_C_needRatio h9_C_needRatio ⟨by decide, by decide⟩ (Nat.le_of_ble_eq_true rfl) ⟨by decide, by decide⟩ d_C_currency_10
  refine st_xcallv X hR [] [0, 1, 2, 3, 4, 5, 6] (wr := [(a_t, .inr (5, [.ref a_used, .ref a_stock, .ref a_alts, .ref a_asm, .ref a_placed, .ref a_sp, .ref a_rt, .ref a_yl, .int partCount, .long tooling, .ref a_dr, .ref a_la, .ref a_be])), (a_rt, .inr (2, [.ref a_rt_days, .ref a_rt_aboves, .ref a_rt_belows, .ref a_rt_aboveNow, .ref a_rt_belowNow])), (a_rt_days, .inr (0, [.ref a_rt_days_keys, .ref a_rt_days_sizes])), aJ g a_rt_days_keys 48 rt_days_keys, aI g a_rt_days_sizes 8 rt_days_sizes, aJ g a_rt_aboves 48 rt_aboves, aJ g a_rt_belows 48 rt_belows]) rfl rfl (by decide) (by decide) (by decide) (fun E9 u9 hw => ?_) (fun u9 hw => ?_)
  · refine stx_perm (ws2 := [(a_t, .inr (5, [.ref a_used, .ref a_stock, .ref a_alts, .ref a_asm, .ref a_placed, .ref a_sp, .ref a_rt, .ref a_yl, .int partCount, .long tooling, .ref a_dr, .ref a_la, .ref a_be])), (a_rt, .inr (2, [.ref a_rt_days, .ref a_rt_aboves, .ref a_rt_belows, .ref a_rt_aboveNow, .ref a_rt_belowNow])), (a_rt_days, .inr (0, [.ref a_rt_days_keys, .ref a_rt_days_sizes])), aJ g a_rt_days_keys 48 rt_days_keys, aI g a_rt_days_sizes 8 rt_days_sizes, aJ g a_rt_aboves 48 rt_aboves, aJ g a_rt_belows 48 rt_belows]) [0, 1, 2, 3, 4, 5, 6] rfl (by decide) ?_
    exact stx_out X hr htab (rt_days_keys, rt_days_sizes, rt_aboves, rt_belows) hw rfl (by decide) (by decide)
  refine st_widen (k2 := 3) (n2 := 18) (by decide) (by decide) ?_
  show ST g C [(a_t, .inr (5, [.ref a_used, .ref a_stock, .ref a_alts, .ref a_asm, .ref a_placed, .ref a_sp, .ref a_rt, .ref a_yl, .int partCount, .long tooling, .ref a_dr, .ref a_la, .ref a_be])), (a_rt, .inr (2, [.ref a_rt_days, .ref a_rt_aboves, .ref a_rt_belows, .ref a_rt_aboveNow, .ref a_rt_belowNow])), (a_rt_days, .inr (0, [.ref a_rt_days_keys, .ref a_rt_days_sizes])), aJ g a_rt_days_keys 48 rt_days_keys, aI g a_rt_days_sizes 8 rt_days_sizes, aJ g a_rt_aboves 48 rt_aboves, aJ g a_rt_belows 48 rt_belows] [(0, .ref a_t), (1, .int maker), (2, .long day), (4, .long above), (6, .long below)] [] 13 3 18
  refine st_aload_n X 0 d_C_currency_13 rfl rfl ?_
  refine st_get X (ci := 5) in_C 0 6 wf_C_38 rfl rfl (by decide) rfl d_C_currency_14 ?_
  refine st_iload_n X 1 d_C_currency_17 rfl rfl ?_
  refine st_lload_n X 2 d_C_currency_18 rfl rfl ?_
  refine st_lload X 3 d_C_currency_19 rfl ?_
  refine st_lload X 4 d_C_currency_21 rfl ?_
  have hR := rn_VN (pc := 23) (k := 3) (n := 18) (As := [.int maker, .long day, .long above, .long below]) (rest := []) X (k_Ra_tell g hg a_rt maker day above below a_rt_days a_rt_aboves a_rt_belows a_rt_aboveNow a_rt_belowNow a_rt_days_keys a_rt_days_sizes rt_days_keys rt_days_sizes rt_aboves rt_belows _ hw) (q0 := 0) rfl rfl nl_C_101 wi_Ra_tell wl_Ra_tell wz_Ra wc_Ra_tell h9_Ra_tell ⟨by decide, by decide⟩ (Nat.le_of_ble_eq_true rfl) ⟨by decide, by decide⟩ d_C_currency_23
  refine st_calli X hR [1, 2, 3, 4, 5, 6] [0] (wr := [(a_t, .inr (5, [.ref a_used, .ref a_stock, .ref a_alts, .ref a_asm, .ref a_placed, .ref a_sp, .ref a_rt, .ref a_yl, .int partCount, .long tooling, .ref a_dr, .ref a_la, .ref a_be]))]) rfl rfl (by decide) (by decide) (by decide) (fun r5 u9 hw => ?_)
  obtain ⟨u1, u2, u3, u4⟩ := u9
  try dsimp only at hw
  refine st_widen (k2 := 3) (n2 := 18) (by decide) (by decide) ?_
  refine st_perm (ws2 := [(a_t, .inr (5, [.ref a_used, .ref a_stock, .ref a_alts, .ref a_asm, .ref a_placed, .ref a_sp, .ref a_rt, .ref a_yl, .int partCount, .long tooling, .ref a_dr, .ref a_la, .ref a_be])), (a_rt, .inr (2, [.ref a_rt_days, .ref a_rt_aboves, .ref a_rt_belows, .ref a_rt_aboveNow, .ref a_rt_belowNow])), (a_rt_days, .inr (0, [.ref a_rt_days_keys, .ref a_rt_days_sizes])), aJ g a_rt_days_keys 48 u1, aI g a_rt_days_sizes 8 u2, aJ g a_rt_aboves 48 u3, aJ g a_rt_belows 48 u4]) [0, 1, 2, 3, 4, 5, 6] rfl (by decide) ?_
  show ST g C [(a_t, .inr (5, [.ref a_used, .ref a_stock, .ref a_alts, .ref a_asm, .ref a_placed, .ref a_sp, .ref a_rt, .ref a_yl, .int partCount, .long tooling, .ref a_dr, .ref a_la, .ref a_be])), (a_rt, .inr (2, [.ref a_rt_days, .ref a_rt_aboves, .ref a_rt_belows, .ref a_rt_aboveNow, .ref a_rt_belowNow])), (a_rt_days, .inr (0, [.ref a_rt_days_keys, .ref a_rt_days_sizes])), aJ g a_rt_days_keys 48 u1, aI g a_rt_days_sizes 8 u2, aJ g a_rt_aboves 48 u3, aJ g a_rt_belows 48 u4] [(0, .ref a_t), (1, .int maker), (2, .long day), (4, .long above), (6, .long below)] [.int r5] 26 3 18
  obtain ⟨hz, hw⟩ := hw
  exact st_zretX X hr (u1, u2, u3, u4) hw hz rfl (by decide) (by decide) d_C_currency_26

theorem h9_C_tooling : y_C_tooling.cls ≠ "java/lang/invoke/MethodHandle" ∧ y_C_tooling.cls ≠ "java/lang/invoke/VarHandle" ∧ (parseMethodDescriptor y_C_tooling.desc).map (fun d => d.parameters.length) = some 1 := by decide +kernel
def wp_C_tooling_J22 (cents : Int64) (Q : Int32 → Int64 → Prop) (v1 : Int32) : Prop :=
  (v1 = 0 ∨ v1 = 1) ∧ Q v1 cents
def wp_C_tooling (cents : Int64) (tooling : Int64) (Q : Int32 → Int64 → Prop) (XE : String → Int64 → Prop) : Prop :=
  wp_C_needNumber cents (0 : Int64) (1000000000 : Int64) (
  ((tooling = cents) → wp_C_tooling_J22 cents Q 0) ∧
  ((¬ tooling = cents) → wp_C_tooling_J22 cents Q 1)) (fun E9 => XE E9 tooling)
set_option maxHeartbeats 4000000 in
set_option maxRecDepth 100000 in
theorem k_C_tooling (g : GX) (hg : g.1.stackTraces = false) (a_t : Nat) (cents : Int64) (a_used : Nat) (a_stock : Nat) (a_alts : Nat) (a_asm : Nat) (a_placed : Nat) (a_sp : Nat) (a_rt : Nat) (a_yl : Nat) (partCount : Int32) (tooling : Int64) (a_dr : Nat) (a_la : Nat) (a_be : Nat) (Q : Int32 → Int64 → Prop) (XE : String → Int64 → Prop) (hw : wp_C_tooling cents tooling Q XE) : CTX g y_C_tooling c_C_tooling 4 (some .boolean) ({ frames := 7, cells := 1, slots := 6, locals := 107 } : Room) [.ref a_t, .long cents] [(a_t, .inr (5, [.ref a_used, .ref a_stock, .ref a_alts, .ref a_asm, .ref a_placed, .ref a_sp, .ref a_rt, .ref a_yl, .int partCount, .long tooling, .ref a_dr, .ref a_la, .ref a_be]))] (QI g [(a_t, .inr (5, [.ref a_used, .ref a_stock, .ref a_alts, .ref a_asm, .ref a_placed, .ref a_sp, .ref a_rt, .ref a_yl, .int partCount, .long tooling, .ref a_dr, .ref a_la, .ref a_be]))] (fun u : Int64 => [(a_t, .inr (5, [.ref a_used, .ref a_stock, .ref a_alts, .ref a_asm, .ref a_placed, .ref a_sp, .ref a_rt, .ref a_yl, .int partCount, .long u, .ref a_dr, .ref a_la, .ref a_be]))]) (fun r u => Q r u)) (QX g [(a_t, .inr (5, [.ref a_used, .ref a_stock, .ref a_alts, .ref a_asm, .ref a_placed, .ref a_sp, .ref a_rt, .ref a_yl, .int partCount, .long tooling, .ref a_dr, .ref a_la, .ref a_be]))] (fun u : Int64 => [(a_t, .inr (5, [.ref a_used, .ref a_stock, .ref a_alts, .ref a_asm, .ref a_placed, .ref a_sp, .ref a_rt, .ref a_yl, .int partCount, .long u, .ref a_dr, .ref a_la, .ref a_be]))]) (fun E u => XE E u)) := by
  refine ctx_of hg (by decide) (Nat.le_of_ble_eq_true rfl) (fun sz C X hr htab => ?_)
  unfold wp_C_tooling at hw
  show ST g C [(a_t, .inr (5, [.ref a_used, .ref a_stock, .ref a_alts, .ref a_asm, .ref a_placed, .ref a_sp, .ref a_rt, .ref a_yl, .int partCount, .long tooling, .ref a_dr, .ref a_la, .ref a_be]))] [(0, .ref a_t), (1, .long cents)] [] 0 0 0
  refine st_lload_n X 1 d_C_tooling_0 rfl rfl ?_
  refine st_lconst X (v := 0) d_C_tooling_1 (by decide) ?_
  refine st_ldc2 X wv_C_104 d_C_tooling_2 ?_
  have hR := rn_SX (pc := 5) (k := 0) (n := 0) (As := [.long cents, .long 0, .long 1000000000]) (rest := []) X (k_C_needNumber g hg cents (0 : Int64) (1000000000 : Int64) _ _ hw) wm_C_84 ws_C_needNumber wz_C wc_C_needNumber h9_C_needNumber ⟨by decide, by decide⟩ (Nat.le_of_ble_eq_true rfl) ⟨by decide, by decide⟩ d_C_tooling_5
  refine st_xcallv X hR [] [0] (wr := [(a_t, .inr (5, [.ref a_used, .ref a_stock, .ref a_alts, .ref a_asm, .ref a_placed, .ref a_sp, .ref a_rt, .ref a_yl, .int partCount, .long tooling, .ref a_dr, .ref a_la, .ref a_be]))]) rfl rfl (by decide) (by decide) (by decide) (fun E9 u9 hw => ?_) (fun u9 hw => ?_)
  · refine stx_perm (ws2 := [(a_t, .inr (5, [.ref a_used, .ref a_stock, .ref a_alts, .ref a_asm, .ref a_placed, .ref a_sp, .ref a_rt, .ref a_yl, .int partCount, .long tooling, .ref a_dr, .ref a_la, .ref a_be]))]) [0] rfl (by decide) ?_
    exact stx_out X hr htab tooling hw rfl (by decide) (by decide)
  refine st_widen (k2 := 1) (n2 := 6) (by decide) (by decide) ?_
  show ST g C [(a_t, .inr (5, [.ref a_used, .ref a_stock, .ref a_alts, .ref a_asm, .ref a_placed, .ref a_sp, .ref a_rt, .ref a_yl, .int partCount, .long tooling, .ref a_dr, .ref a_la, .ref a_be]))] [(0, .ref a_t), (1, .long cents)] [] 8 1 6
  refine st_aload_n X 0 d_C_tooling_8 rfl rfl ?_
  refine st_get X (ci := 5) in_C 0 9 wf_C_53 rfl rfl (by decide) rfl d_C_tooling_9 ?_
  refine st_lload_n X 1 d_C_tooling_12 rfl rfl ?_
  have J22 : ∀ (v1 : Int32), wp_C_tooling_J22 cents Q v1 → ST g C [(a_t, .inr (5, [.ref a_used, .ref a_stock, .ref a_alts, .ref a_asm, .ref a_placed, .ref a_sp, .ref a_rt, .ref a_yl, .int partCount, .long tooling, .ref a_dr, .ref a_la, .ref a_be]))] [(0, .ref a_t), (1, .long cents)] [.int v1] 22 1 6 := by
    intro v1 hw
    unfold wp_C_tooling_J22 at hw
    refine st_istore_n X (lv2 := [(3, .int v1), (0, .ref a_t), (1, .long cents)]) d_C_tooling_22 rfl (by decide) rfl ?_
    refine st_aload_n X 1 d_C_tooling_23 rfl rfl ?_
    refine st_lload_n X 2 d_C_tooling_24 rfl rfl ?_
    refine st_put X (ci := 5) (ty := .long) in_C t_C to_C nm_C 0 9 wf_C_53 rfl rfl (by decide) rfl (by decide +kernel) rfl rfl (Nat.le_of_ble_eq_true rfl) (ws2 := [(a_t, .inr (5, [.ref a_used, .ref a_stock, .ref a_alts, .ref a_asm, .ref a_placed, .ref a_sp, .ref a_rt, .ref a_yl, .int partCount, .long cents, .ref a_dr, .ref a_la, .ref a_be]))]) rfl d_C_tooling_25 ?_
    refine st_iload_n X 0 d_C_tooling_28 rfl rfl ?_
    obtain ⟨hz, hw⟩ := hw
    exact st_zretX X hr cents hw hz rfl (by decide) (by decide) d_C_tooling_29
  refine st_lcmp_eq X 21 d_C_tooling_13 d_C_tooling_14 (by decide) (fun hc => ?_) (fun hc => ?_)
  · replace hw := hw.1 hc
    refine st_iconst X (v := 0) d_C_tooling_21 (by decide) ?_
    refine st_lv [0, 1] rfl ?_
    exact J22 0 hw
  · replace hw := hw.2 hc
    refine st_iconst X (v := 1) d_C_tooling_17 (by decide) ?_
    refine st_goto X 22 d_C_tooling_18 (by decide) ?_
    refine st_lv [0, 1] rfl ?_
    exact J22 1 hw

theorem h9_C_stock : y_C_stock.cls ≠ "java/lang/invoke/MethodHandle" ∧ y_C_stock.cls ≠ "java/lang/invoke/VarHandle" ∧ (parseMethodDescriptor y_C_stock.desc).map (fun d => d.parameters.length) = some 2 := by decide +kernel
def wp_C_stock (part : Int32) (n_ : Int64) (partCount : Int32) (stock : Nat → Int64) (Q : Int32 → (Nat → Int64) → Prop) (XE : String → (Nat → Int64) → Prop) : Prop :=
  wp_C_needIndex part partCount (
  wp_C_needNumber n_ (0 : Int64) (1000000000 : Int64) (
  wp_C_tellNumber part n_ 30 stock (fun r2 u1 =>
  (r2 = 0 ∨ r2 = 1) ∧ Q r2 u1)) (fun E9 => XE E9 stock)) (fun E9 => XE E9 stock)
set_option maxHeartbeats 4000000 in
set_option maxRecDepth 100000 in
theorem k_C_stock (g : GX) (hg : g.1.stackTraces = false) (a_t : Nat) (part : Int32) (n_ : Int64) (a_used : Nat) (a_stock : Nat) (a_alts : Nat) (a_asm : Nat) (a_placed : Nat) (a_sp : Nat) (a_rt : Nat) (a_yl : Nat) (partCount : Int32) (tooling : Int64) (a_dr : Nat) (a_la : Nat) (a_be : Nat) (stock : Nat → Int64) (Q : Int32 → (Nat → Int64) → Prop) (XE : String → (Nat → Int64) → Prop) (hw : wp_C_stock part n_ partCount stock Q XE) : CTX g y_C_stock c_C_stock 4 (some .boolean) ({ frames := 7, cells := 2, slots := 12, locals := 107 } : Room) [.ref a_t, .int part, .long n_] [(a_t, .inr (5, [.ref a_used, .ref a_stock, .ref a_alts, .ref a_asm, .ref a_placed, .ref a_sp, .ref a_rt, .ref a_yl, .int partCount, .long tooling, .ref a_dr, .ref a_la, .ref a_be])), aJ g a_stock 30 stock] (QI g [(a_t, .inr (5, [.ref a_used, .ref a_stock, .ref a_alts, .ref a_asm, .ref a_placed, .ref a_sp, .ref a_rt, .ref a_yl, .int partCount, .long tooling, .ref a_dr, .ref a_la, .ref a_be])), aJ g a_stock 30 stock] (fun u : (Nat → Int64) => [(a_t, .inr (5, [.ref a_used, .ref a_stock, .ref a_alts, .ref a_asm, .ref a_placed, .ref a_sp, .ref a_rt, .ref a_yl, .int partCount, .long tooling, .ref a_dr, .ref a_la, .ref a_be])), aJ g a_stock 30 u]) (fun r u => Q r u)) (QX g [(a_t, .inr (5, [.ref a_used, .ref a_stock, .ref a_alts, .ref a_asm, .ref a_placed, .ref a_sp, .ref a_rt, .ref a_yl, .int partCount, .long tooling, .ref a_dr, .ref a_la, .ref a_be])), aJ g a_stock 30 stock] (fun u : (Nat → Int64) => [(a_t, .inr (5, [.ref a_used, .ref a_stock, .ref a_alts, .ref a_asm, .ref a_placed, .ref a_sp, .ref a_rt, .ref a_yl, .int partCount, .long tooling, .ref a_dr, .ref a_la, .ref a_be])), aJ g a_stock 30 u]) (fun E u => XE E u)) := by
  refine ctx_of hg (by decide) (Nat.le_of_ble_eq_true rfl) (fun sz C X hr htab => ?_)
  unfold wp_C_stock at hw
  show ST g C [(a_t, .inr (5, [.ref a_used, .ref a_stock, .ref a_alts, .ref a_asm, .ref a_placed, .ref a_sp, .ref a_rt, .ref a_yl, .int partCount, .long tooling, .ref a_dr, .ref a_la, .ref a_be])), aJ g a_stock 30 stock] [(0, .ref a_t), (1, .int part), (2, .long n_)] [] 0 0 0
  refine st_iload_n X 1 d_C_stock_0 rfl rfl ?_
  refine st_aload_n X 0 d_C_stock_1 rfl rfl ?_
  refine st_get X (ci := 5) in_C 0 8 wf_C_49 rfl rfl (by decide) rfl d_C_stock_2 ?_
  have hR := rn_SX (pc := 5) (k := 0) (n := 0) (As := [.int part, .int partCount]) (rest := []) X (k_C_needIndex g hg part partCount _ _ hw) wm_C_70 ws_C_needIndex wz_C wc_C_needIndex h9_C_needIndex ⟨by decide, by decide⟩ (Nat.le_of_ble_eq_true rfl) ⟨by decide, by decide⟩ d_C_stock_5
  refine st_xcallv X hR [] [0, 1] (wr := [(a_t, .inr (5, [.ref a_used, .ref a_stock, .ref a_alts, .ref a_asm, .ref a_placed, .ref a_sp, .ref a_rt, .ref a_yl, .int partCount, .long tooling, .ref a_dr, .ref a_la, .ref a_be])), aJ g a_stock 30 stock]) rfl rfl (by decide) (by decide) (by decide) (fun E9 u9 hw => ?_) (fun u9 hw => ?_)
  · refine stx_perm (ws2 := [(a_t, .inr (5, [.ref a_used, .ref a_stock, .ref a_alts, .ref a_asm, .ref a_placed, .ref a_sp, .ref a_rt, .ref a_yl, .int partCount, .long tooling, .ref a_dr, .ref a_la, .ref a_be])), aJ g a_stock 30 stock]) [0, 1] rfl (by decide) ?_
    exact stx_out X hr htab stock hw rfl (by decide) (by decide)
  refine st_widen (k2 := 1) (n2 := 6) (by decide) (by decide) ?_
  show ST g C [(a_t, .inr (5, [.ref a_used, .ref a_stock, .ref a_alts, .ref a_asm, .ref a_placed, .ref a_sp, .ref a_rt, .ref a_yl, .int partCount, .long tooling, .ref a_dr, .ref a_la, .ref a_be])), aJ g a_stock 30 stock] [(0, .ref a_t), (1, .int part), (2, .long n_)] [] 8 1 6
  refine st_lload_n X 2 d_C_stock_8 rfl rfl ?_
  refine st_lconst X (v := 0) d_C_stock_9 (by decide) ?_
  refine st_ldc2 X wv_C_104 d_C_stock_10 ?_
  have hR := rn_SX (pc := 13) (k := 1) (n := 6) (As := [.long n_, .long 0, .long 1000000000]) (rest := []) X (k_C_needNumber g hg n_ (0 : Int64) (1000000000 : Int64) _ _ hw) wm_C_84 ws_C_needNumber wz_C wc_C_needNumber h9_C_needNumber ⟨by decide, by decide⟩ (Nat.le_of_ble_eq_true rfl) ⟨by decide, by decide⟩ d_C_stock_13
  refine st_xcallv X hR [] [0, 1] (wr := [(a_t, .inr (5, [.ref a_used, .ref a_stock, .ref a_alts, .ref a_asm, .ref a_placed, .ref a_sp, .ref a_rt, .ref a_yl, .int partCount, .long tooling, .ref a_dr, .ref a_la, .ref a_be])), aJ g a_stock 30 stock]) rfl rfl (by decide) (by decide) (by decide) (fun E9 u9 hw => ?_) (fun u9 hw => ?_)
  · refine stx_perm (ws2 := [(a_t, .inr (5, [.ref a_used, .ref a_stock, .ref a_alts, .ref a_asm, .ref a_placed, .ref a_sp, .ref a_rt, .ref a_yl, .int partCount, .long tooling, .ref a_dr, .ref a_la, .ref a_be])), aJ g a_stock 30 stock]) [0, 1] rfl (by decide) ?_
    exact stx_out X hr htab stock hw rfl (by decide) (by decide)
  refine st_widen (k2 := 2) (n2 := 12) (by decide) (by decide) ?_
  show ST g C [(a_t, .inr (5, [.ref a_used, .ref a_stock, .ref a_alts, .ref a_asm, .ref a_placed, .ref a_sp, .ref a_rt, .ref a_yl, .int partCount, .long tooling, .ref a_dr, .ref a_la, .ref a_be])), aJ g a_stock 30 stock] [(0, .ref a_t), (1, .int part), (2, .long n_)] [] 16 2 12
  refine st_aload_n X 0 d_C_stock_16 rfl rfl ?_
  refine st_get X (ci := 5) in_C 0 1 wf_C_15 rfl rfl (by decide) rfl d_C_stock_17 ?_
  refine st_iload_n X 1 d_C_stock_20 rfl rfl ?_
  refine st_lload_n X 2 d_C_stock_21 rfl rfl ?_
  have hR := rn_S (pc := 22) (k := 2) (n := 12) (As := [.ref a_stock, .int part, .long n_]) (rest := []) X (k_C_tellNumber g hg a_stock part n_ 30 stock _ hw) wm_C_88 ws_C_tellNumber wz_C wc_C_tellNumber h9_C_tellNumber ⟨by decide, by decide⟩ (Nat.le_of_ble_eq_true rfl) ⟨by decide, by decide⟩ d_C_stock_22
  refine st_calli X hR [1] [0] (wr := [(a_t, .inr (5, [.ref a_used, .ref a_stock, .ref a_alts, .ref a_asm, .ref a_placed, .ref a_sp, .ref a_rt, .ref a_yl, .int partCount, .long tooling, .ref a_dr, .ref a_la, .ref a_be]))]) rfl rfl (by decide) (by decide) (by decide) (fun r2 u9 hw => ?_)
  obtain ⟨u1, hu9⟩ : ∃ z, z = u9 := ⟨_, rfl⟩
  subst hu9
  try dsimp only at hw
  refine st_widen (k2 := 2) (n2 := 12) (by decide) (by decide) ?_
  refine st_perm (ws2 := [(a_t, .inr (5, [.ref a_used, .ref a_stock, .ref a_alts, .ref a_asm, .ref a_placed, .ref a_sp, .ref a_rt, .ref a_yl, .int partCount, .long tooling, .ref a_dr, .ref a_la, .ref a_be])), aJ g a_stock 30 u1]) [0, 1] rfl (by decide) ?_
  show ST g C [(a_t, .inr (5, [.ref a_used, .ref a_stock, .ref a_alts, .ref a_asm, .ref a_placed, .ref a_sp, .ref a_rt, .ref a_yl, .int partCount, .long tooling, .ref a_dr, .ref a_la, .ref a_be])), aJ g a_stock 30 u1] [(0, .ref a_t), (1, .int part), (2, .long n_)] [.int r2] 25 2 12
  obtain ⟨hz, hw⟩ := hw
  exact st_zretX X hr u1 hw hz rfl (by decide) (by decide) d_C_stock_25

theorem h9_C_alternate : y_C_alternate.cls ≠ "java/lang/invoke/MethodHandle" ∧ y_C_alternate.cls ≠ "java/lang/invoke/VarHandle" ∧ (parseMethodDescriptor y_C_alternate.desc).map (fun d => d.parameters.length) = some 2 := by decide +kernel
def wp_C_alternate (part : Int32) (other : Int32) (partCount : Int32) (alts : Nat → Int32) (Q : Int32 → (Nat → Int32) → Prop) (XE : String → (Nat → Int32) → Prop) : Prop :=
  wp_C_needIndex part partCount (
  wp_C_needIndex other partCount (
  wp_C_mayStandIn other part alts (fun r1 =>
  ((r1 = 0) → vp_in part 30 ∧
  ∀ x2 : Int32, x2 = (alts part.toNatClampNeg) ||| (1 <<< (other &&& 31)) →
  vp_in part 30 ∧
  ∀ f3 : Nat → Int32, f3 = upd alts part.toNatClampNeg x2 →
  ((1 : Int32) = 0 ∨ (1 : Int32) = 1) ∧ Q 1 f3) ∧
  ((¬ r1 = 0) → ((0 : Int32) = 0 ∨ (0 : Int32) = 1) ∧ Q 0 alts))) (fun E9 => XE E9 alts)) (fun E9 => XE E9 alts)
set_option maxHeartbeats 4000000 in
set_option maxRecDepth 100000 in
theorem k_C_alternate (g : GX) (hg : g.1.stackTraces = false) (a_t : Nat) (part : Int32) (other : Int32) (a_used : Nat) (a_stock : Nat) (a_alts : Nat) (a_asm : Nat) (a_placed : Nat) (a_sp : Nat) (a_rt : Nat) (a_yl : Nat) (partCount : Int32) (tooling : Int64) (a_dr : Nat) (a_la : Nat) (a_be : Nat) (alts : Nat → Int32) (Q : Int32 → (Nat → Int32) → Prop) (XE : String → (Nat → Int32) → Prop) (hw : wp_C_alternate part other partCount alts Q XE) : CTX g y_C_alternate c_C_alternate 3 (some .boolean) ({ frames := 7, cells := 2, slots := 12, locals := 103 } : Room) [.ref a_t, .int part, .int other] [(a_t, .inr (5, [.ref a_used, .ref a_stock, .ref a_alts, .ref a_asm, .ref a_placed, .ref a_sp, .ref a_rt, .ref a_yl, .int partCount, .long tooling, .ref a_dr, .ref a_la, .ref a_be])), aI g a_alts 30 alts] (QI g [(a_t, .inr (5, [.ref a_used, .ref a_stock, .ref a_alts, .ref a_asm, .ref a_placed, .ref a_sp, .ref a_rt, .ref a_yl, .int partCount, .long tooling, .ref a_dr, .ref a_la, .ref a_be])), aI g a_alts 30 alts] (fun u : (Nat → Int32) => [(a_t, .inr (5, [.ref a_used, .ref a_stock, .ref a_alts, .ref a_asm, .ref a_placed, .ref a_sp, .ref a_rt, .ref a_yl, .int partCount, .long tooling, .ref a_dr, .ref a_la, .ref a_be])), aI g a_alts 30 u]) (fun r u => Q r u)) (QX g [(a_t, .inr (5, [.ref a_used, .ref a_stock, .ref a_alts, .ref a_asm, .ref a_placed, .ref a_sp, .ref a_rt, .ref a_yl, .int partCount, .long tooling, .ref a_dr, .ref a_la, .ref a_be])), aI g a_alts 30 alts] (fun u : (Nat → Int32) => [(a_t, .inr (5, [.ref a_used, .ref a_stock, .ref a_alts, .ref a_asm, .ref a_placed, .ref a_sp, .ref a_rt, .ref a_yl, .int partCount, .long tooling, .ref a_dr, .ref a_la, .ref a_be])), aI g a_alts 30 u]) (fun E u => XE E u)) := by
  refine ctx_of hg (by decide) (Nat.le_of_ble_eq_true rfl) (fun sz C X hr htab => ?_)
  unfold wp_C_alternate at hw
  show ST g C [(a_t, .inr (5, [.ref a_used, .ref a_stock, .ref a_alts, .ref a_asm, .ref a_placed, .ref a_sp, .ref a_rt, .ref a_yl, .int partCount, .long tooling, .ref a_dr, .ref a_la, .ref a_be])), aI g a_alts 30 alts] [(0, .ref a_t), (1, .int part), (2, .int other)] [] 0 0 0
  refine st_iload_n X 1 d_C_alternate_0 rfl rfl ?_
  refine st_aload_n X 0 d_C_alternate_1 rfl rfl ?_
  refine st_get X (ci := 5) in_C 0 8 wf_C_49 rfl rfl (by decide) rfl d_C_alternate_2 ?_
  have hR := rn_SX (pc := 5) (k := 0) (n := 0) (As := [.int part, .int partCount]) (rest := []) X (k_C_needIndex g hg part partCount _ _ hw) wm_C_70 ws_C_needIndex wz_C wc_C_needIndex h9_C_needIndex ⟨by decide, by decide⟩ (Nat.le_of_ble_eq_true rfl) ⟨by decide, by decide⟩ d_C_alternate_5
  refine st_xcallv X hR [] [0, 1] (wr := [(a_t, .inr (5, [.ref a_used, .ref a_stock, .ref a_alts, .ref a_asm, .ref a_placed, .ref a_sp, .ref a_rt, .ref a_yl, .int partCount, .long tooling, .ref a_dr, .ref a_la, .ref a_be])), aI g a_alts 30 alts]) rfl rfl (by decide) (by decide) (by decide) (fun E9 u9 hw => ?_) (fun u9 hw => ?_)
  · refine stx_perm (ws2 := [(a_t, .inr (5, [.ref a_used, .ref a_stock, .ref a_alts, .ref a_asm, .ref a_placed, .ref a_sp, .ref a_rt, .ref a_yl, .int partCount, .long tooling, .ref a_dr, .ref a_la, .ref a_be])), aI g a_alts 30 alts]) [0, 1] rfl (by decide) ?_
    exact stx_out X hr htab alts hw rfl (by decide) (by decide)
  refine st_widen (k2 := 1) (n2 := 6) (by decide) (by decide) ?_
  show ST g C [(a_t, .inr (5, [.ref a_used, .ref a_stock, .ref a_alts, .ref a_asm, .ref a_placed, .ref a_sp, .ref a_rt, .ref a_yl, .int partCount, .long tooling, .ref a_dr, .ref a_la, .ref a_be])), aI g a_alts 30 alts] [(0, .ref a_t), (1, .int part), (2, .int other)] [] 8 1 6
  refine st_iload_n X 2 d_C_alternate_8 rfl rfl ?_
  refine st_aload_n X 0 d_C_alternate_9 rfl rfl ?_
  refine st_get X (ci := 5) in_C 0 8 wf_C_49 rfl rfl (by decide) rfl d_C_alternate_10 ?_
  have hR := rn_SX (pc := 13) (k := 1) (n := 6) (As := [.int other, .int partCount]) (rest := []) X (k_C_needIndex g hg other partCount _ _ hw) wm_C_70 ws_C_needIndex wz_C wc_C_needIndex h9_C_needIndex ⟨by decide, by decide⟩ (Nat.le_of_ble_eq_true rfl) ⟨by decide, by decide⟩ d_C_alternate_13
  refine st_xcallv X hR [] [0, 1] (wr := [(a_t, .inr (5, [.ref a_used, .ref a_stock, .ref a_alts, .ref a_asm, .ref a_placed, .ref a_sp, .ref a_rt, .ref a_yl, .int partCount, .long tooling, .ref a_dr, .ref a_la, .ref a_be])), aI g a_alts 30 alts]) rfl rfl (by decide) (by decide) (by decide) (fun E9 u9 hw => ?_) (fun u9 hw => ?_)
  · refine stx_perm (ws2 := [(a_t, .inr (5, [.ref a_used, .ref a_stock, .ref a_alts, .ref a_asm, .ref a_placed, .ref a_sp, .ref a_rt, .ref a_yl, .int partCount, .long tooling, .ref a_dr, .ref a_la, .ref a_be])), aI g a_alts 30 alts]) [0, 1] rfl (by decide) ?_
    exact stx_out X hr htab alts hw rfl (by decide) (by decide)
  refine st_widen (k2 := 2) (n2 := 12) (by decide) (by decide) ?_
  show ST g C [(a_t, .inr (5, [.ref a_used, .ref a_stock, .ref a_alts, .ref a_asm, .ref a_placed, .ref a_sp, .ref a_rt, .ref a_yl, .int partCount, .long tooling, .ref a_dr, .ref a_la, .ref a_be])), aI g a_alts 30 alts] [(0, .ref a_t), (1, .int part), (2, .int other)] [] 16 2 12
  refine st_aload_n X 0 d_C_alternate_16 rfl rfl ?_
  refine st_iload_n X 2 d_C_alternate_17 rfl rfl ?_
  refine st_iload_n X 1 d_C_alternate_18 rfl rfl ?_
  have hR := rn_V (pc := 19) (k := 2) (n := 12) (As := [.int other, .int part]) (rest := []) X (k_C_mayStandIn g hg a_t other part a_used a_stock a_alts a_asm a_placed a_sp a_rt a_yl partCount tooling a_dr a_la a_be alts _ hw) (q0 := 0) rfl rfl wm_C_136 wi_C_mayStandIn wl_C_mayStandIn wz_C wc_C_mayStandIn h9_C_mayStandIn ⟨by decide, by decide⟩ (Nat.le_of_ble_eq_true rfl) ⟨by decide, by decide⟩ d_C_alternate_19
  refine st_calli X hR [0, 1] [] (wr := []) rfl rfl (by decide) (by decide) (by decide) (fun r1 u9 hw => ?_)
  try dsimp only at hw
  refine st_widen (k2 := 2) (n2 := 12) (by decide) (by decide) ?_
  refine st_perm (ws2 := [(a_t, .inr (5, [.ref a_used, .ref a_stock, .ref a_alts, .ref a_asm, .ref a_placed, .ref a_sp, .ref a_rt, .ref a_yl, .int partCount, .long tooling, .ref a_dr, .ref a_la, .ref a_be])), aI g a_alts 30 alts]) [0, 1] rfl (by decide) ?_
  show ST g C [(a_t, .inr (5, [.ref a_used, .ref a_stock, .ref a_alts, .ref a_asm, .ref a_placed, .ref a_sp, .ref a_rt, .ref a_yl, .int partCount, .long tooling, .ref a_dr, .ref a_la, .ref a_be])), aI g a_alts 30 alts] [(0, .ref a_t), (1, .int part), (2, .int other)] [.int r1] 22 2 12
  refine st_if_eq X 27 d_C_alternate_22 (by decide) (fun hc => ?_) (fun hc => ?_)
  · replace hw := hw.1 hc
    refine st_aload_n X 0 d_C_alternate_27 rfl rfl ?_
    refine st_get X (ci := 5) in_C 0 2 wf_C_18 rfl rfl (by decide) rfl d_C_alternate_28 ?_
    refine st_iload_n X 1 d_C_alternate_31 rfl rfl ?_
    refine st_dup2_11 X d_C_alternate_32 rfl rfl ?_
    obtain ⟨hb1, hw⟩ := hw
    refine st_iald X 1 rfl hb1 d_C_alternate_33 ?_
    refine st_iconst X (v := 1) d_C_alternate_34 (by decide) ?_
    refine st_iload_n X 2 d_C_alternate_35 rfl rfl ?_
    refine st_ishl X d_C_alternate_36 ?_
    refine st_ior X d_C_alternate_37 ?_
    refine st_topi (fun x2 hx2 => ?_)
    replace hw := hw x2 hx2
    obtain ⟨hb2, hw⟩ := hw
    obtain ⟨f3, hf3⟩ : ∃ z : Nat → Int32, z = upd alts part.toNatClampNeg x2 := ⟨_, rfl⟩
    replace hw := hw f3 hf3
    refine st_iast X (ws2 := [(a_t, .inr (5, [.ref a_used, .ref a_stock, .ref a_alts, .ref a_asm, .ref a_placed, .ref a_sp, .ref a_rt, .ref a_yl, .int partCount, .long tooling, .ref a_dr, .ref a_la, .ref a_be])), aI g a_alts 30 f3]) 1 rfl hb2 (by rw [hf3]; rfl) d_C_alternate_38 ?_
    refine st_iconst X (v := 1) d_C_alternate_39 (by decide) ?_
    obtain ⟨hz, hw⟩ := hw
    exact st_zretX X hr f3 hw hz rfl (by decide) (by decide) d_C_alternate_40
  · replace hw := hw.2 hc
    refine st_iconst X (v := 0) d_C_alternate_25 (by decide) ?_
    obtain ⟨hz, hw⟩ := hw
    exact st_zretX X hr alts hw hz rfl (by decide) (by decide) d_C_alternate_26
