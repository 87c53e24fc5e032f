theorem wq_eA : Cond.castable eA eA ∈ NALL := mn 260 (by decide +kernel) (by decide +kernel)

theorem wq_eI : Cond.castable eI eI ∈ NALL := mn 186 (by decide +kernel) (by decide +kernel)

theorem h9_L_price : y_L_price.cls ≠ "java/lang/invoke/MethodHandle" ∧ y_L_price.cls ≠ "java/lang/invoke/VarHandle" ∧ (parseMethodDescriptor y_L_price.desc).map (fun d => d.parameters.length) = some 6 := by decide +kernel
def wp_L_price_J20 (out : Nat → Int64) (u1 : Nat → Int64) (u2 : Nat → Int32) (u3 : Nat → Int64) (Q : Int32 → (Nat → Int64) → (Nat → Int32) → (Nat → Int64) → (Nat → Int64) → Prop) (v7 : Int64) : Prop :=
  vp_in (0 : Int32) 1 ∧
  ∀ f8 : Nat → Int64, f8 = vp_updL out (0 : Int32).toNatClampNeg v7 →
  Q 0 u1 u2 u3 f8
def wp_L_price (p0 : Int32) (p1 : Int32) (p2 : Int64) (p3 : Int64) (partCount : Int32) (sp_froms_keys : Nat → Int64) (sp_froms_sizes : Nat → Int32) (sp_cents : Nat → Int64) (out : Nat → Int64) (Q : Int32 → (Nat → Int64) → (Nat → Int32) → (Nat → Int64) → (Nat → Int64) → Prop) : Prop :=
  wp_C_price p0 p1 p2 p3 partCount sp_froms_keys sp_froms_sizes sp_cents (fun r4 u1 u2 u3 =>
  ((r4 = 0) → wp_L_price_J20 out u1 u2 u3 Q 0) ∧
  ((¬ r4 = 0) → wp_L_price_J20 out u1 u2 u3 Q 1)) (fun E9 u1 u2 u3 => (E9 = eI → Q 1 u1 u2 u3 out) ∧ (E9 = eA → Q 2 u1 u2 u3 out) ∧ (E9 = eI ∨ E9 = eA))
set_option maxHeartbeats 4000000 in
set_option maxRecDepth 100000 in
theorem k_L_price (g : GX) (hg : g.1.stackTraces = false) (a_t : Nat) (p0 : Int32) (p1 : Int32) (p2 : Int64) (p3 : Int64) (a_out : Nat) (a_used : Nat) (a_stock : Nat) (a_alts : Nat) (a_asm : Nat) (a_placed : Nat) (a_sp : Nat) (a_rt : Nat) (a_yl : Nat) (partCount : Int32) (tooling : Int64) (a_dr : Nat) (a_la : Nat) (a_be : Nat) (a_sp_froms : Nat) (a_sp_cents : Nat) (a_sp_froms_keys : Nat) (a_sp_froms_sizes : Nat) (sp_froms_keys : Nat → Int64) (sp_froms_sizes : Nat → Int32) (sp_cents : Nat → Int64) (out : Nat → Int64) (Q : Int32 → (Nat → Int64) → (Nat → Int32) → (Nat → Int64) → (Nat → Int64) → Prop) (hw : wp_L_price p0 p1 p2 p3 partCount sp_froms_keys sp_froms_sizes sp_cents out Q) : CTW g y_L_price c_L_price 9 (some .int) [(0, 21, 24, 13), (0, 21, 28, 15)] ({ frames := 9, cells := 4, slots := 24, locals := 156 } : Room) [.ref a_t, .int p0, .int p1, .long p2, .long p3, .ref a_out] [(a_t, .inr (5, [.ref a_used, .ref a_stock, .ref a_alts, .ref a_asm, .ref a_placed, .ref a_sp, .ref a_rt, .ref a_yl, .int partCount, .long tooling, .ref a_dr, .ref a_la, .ref a_be])), (a_sp, .inr (3, [.ref a_sp_froms, .ref a_sp_cents])), (a_sp_froms, .inr (0, [.ref a_sp_froms_keys, .ref a_sp_froms_sizes])), aJ g a_sp_froms_keys 1488 sp_froms_keys, aI g a_sp_froms_sizes 248 sp_froms_sizes, aJ g a_sp_cents 1488 sp_cents, aJ g a_out 1 out] (QI g [(a_t, .inr (5, [.ref a_used, .ref a_stock, .ref a_alts, .ref a_asm, .ref a_placed, .ref a_sp, .ref a_rt, .ref a_yl, .int partCount, .long tooling, .ref a_dr, .ref a_la, .ref a_be])), (a_sp, .inr (3, [.ref a_sp_froms, .ref a_sp_cents])), (a_sp_froms, .inr (0, [.ref a_sp_froms_keys, .ref a_sp_froms_sizes])), aJ g a_sp_froms_keys 1488 sp_froms_keys, aI g a_sp_froms_sizes 248 sp_froms_sizes, aJ g a_sp_cents 1488 sp_cents, aJ g a_out 1 out] (fun u : (Nat → Int64) × (Nat → Int32) × (Nat → Int64) × (Nat → Int64) => [(a_t, .inr (5, [.ref a_used, .ref a_stock, .ref a_alts, .ref a_asm, .ref a_placed, .ref a_sp, .ref a_rt, .ref a_yl, .int partCount, .long tooling, .ref a_dr, .ref a_la, .ref a_be])), (a_sp, .inr (3, [.ref a_sp_froms, .ref a_sp_cents])), (a_sp_froms, .inr (0, [.ref a_sp_froms_keys, .ref a_sp_froms_sizes])), aJ g a_sp_froms_keys 1488 u.1, aI g a_sp_froms_sizes 248 u.2.1, aJ g a_sp_cents 1488 u.2.2.1, aJ g a_out 1 u.2.2.2]) (fun r u => Q r u.1 u.2.1 u.2.2.1 u.2.2.2)) := by
  refine ctw_of hg (by decide) (Nat.le_of_ble_eq_true rfl) (fun sz C X hr htab => ?_)
  unfold wp_L_price at hw
  show ST g C [(a_t, .inr (5, [.ref a_used, .ref a_stock, .ref a_alts, .ref a_asm, .ref a_placed, .ref a_sp, .ref a_rt, .ref a_yl, .int partCount, .long tooling, .ref a_dr, .ref a_la, .ref a_be])), (a_sp, .inr (3, [.ref a_sp_froms, .ref a_sp_cents])), (a_sp_froms, .inr (0, [.ref a_sp_froms_keys, .ref a_sp_froms_sizes])), aJ g a_sp_froms_keys 1488 sp_froms_keys, aI g a_sp_froms_sizes 248 sp_froms_sizes, aJ g a_sp_cents 1488 sp_cents, aJ g a_out 1 out] [(0, .ref a_t), (1, .int p0), (2, .int p1), (3, .long p2), (5, .long p3), (7, .ref a_out)] [] 0 0 0
  refine st_aload X 5 d_L_price_0 rfl ?_
  refine st_iconst X (v := 0) d_L_price_2 (by decide) ?_
  refine st_aload_n X 0 d_L_price_3 rfl rfl ?_
  refine st_iload_n X 1 d_L_price_4 rfl rfl ?_
  refine st_iload_n X 2 d_L_price_5 rfl rfl ?_
  refine st_lload_n X 3 d_L_price_6 rfl rfl ?_
  refine st_lload X 4 d_L_price_7 rfl ?_
  have hR := rn_VX (pc := 9) (k := 0) (n := 0) (As := [.int p0, .int p1, .long p2, .long p3]) (rest := [.int 0, .ref a_out]) X (k_C_price g hg a_t p0 p1 p2 p3 a_used a_stock a_alts a_asm a_placed a_sp a_rt a_yl partCount tooling a_dr a_la a_be a_sp_froms a_sp_cents a_sp_froms_keys a_sp_froms_sizes sp_froms_keys sp_froms_sizes sp_cents _ _ hw) (q0 := 0) rfl rfl wm_L_7 wi_C_price wl_C_price wz_C wc_C_price h9_C_price ⟨by decide, by decide⟩ (Nat.le_of_ble_eq_true rfl) ⟨by decide, by decide⟩ d_L_price_9
  refine st_xcalli X hR [0, 1, 2, 3, 4, 5] [6] (wr := [aJ g a_out 1 out]) rfl rfl (by decide) (by decide) (by decide) (fun E9 u9 hw => ?_) (fun r4 u9 hw => ?_)
  · skip
    obtain ⟨u1, u2, u3⟩ := u9
    try dsimp only at hw
    refine stx_perm (ws2 := [(a_t, .inr (5, [.ref a_used, .ref a_stock, .ref a_alts, .ref a_asm, .ref a_placed, .ref a_sp, .ref a_rt, .ref a_yl, .int partCount, .long tooling, .ref a_dr, .ref a_la, .ref a_be])), (a_sp, .inr (3, [.ref a_sp_froms, .ref a_sp_cents])), (a_sp_froms, .inr (0, [.ref a_sp_froms_keys, .ref a_sp_froms_sizes])), aJ g a_sp_froms_keys 1488 u1, aI g a_sp_froms_sizes 248 u2, aJ g a_sp_cents 1488 u3, aJ g a_out 1 out]) [1, 2, 3, 4, 5, 6, 0] rfl (by decide) ?_
    rcases hw.2.2 with rfl | rfl
    · replace hw := hw.1 rfl
      refine stx_catch0 X htab wk_L_13 wq_eI (by decide) (by decide) (fun q5 => ?_)
      refine st_widen (k2 := 4) (n2 := 24) (by decide) (by decide) ?_
      show ST g C [(a_t, .inr (5, [.ref a_used, .ref a_stock, .ref a_alts, .ref a_asm, .ref a_placed, .ref a_sp, .ref a_rt, .ref a_yl, .int partCount, .long tooling, .ref a_dr, .ref a_la, .ref a_be])), (a_sp, .inr (3, [.ref a_sp_froms, .ref a_sp_cents])), (a_sp_froms, .inr (0, [.ref a_sp_froms_keys, .ref a_sp_froms_sizes])), aJ g a_sp_froms_keys 1488 u1, aI g a_sp_froms_sizes 248 u2, aJ g a_sp_cents 1488 u3, aJ g a_out 1 out] [(0, .ref a_t), (1, .int p0), (2, .int p1), (3, .long p2), (5, .long p3), (7, .ref a_out)] [.ref q5] 24 4 24
      refine st_astore X (lv2 := [(8, .ref q5), (0, .ref a_t), (1, .int p0), (2, .int p1), (3, .long p2), (5, .long p3), (7, .ref a_out)]) d_L_price_24 (by decide) rfl ?_
      refine st_iconst X (v := 1) d_L_price_26 (by decide) ?_
      exact st_iret X hr (u1, u2, u3, out) hw rfl (by decide) (by decide) d_L_price_27
    · replace hw := hw.2.1 rfl
      refine stx_catch1 X htab wk_L_13 (fun U h => h.2.2.2.2) (by decide) wk_L_15 wq_eA (by decide) (by decide) (fun q6 => ?_)
      refine st_widen (k2 := 4) (n2 := 24) (by decide) (by decide) ?_
      show ST g C [(a_t, .inr (5, [.ref a_used, .ref a_stock, .ref a_alts, .ref a_asm, .ref a_placed, .ref a_sp, .ref a_rt, .ref a_yl, .int partCount, .long tooling, .ref a_dr, .ref a_la, .ref a_be])), (a_sp, .inr (3, [.ref a_sp_froms, .ref a_sp_cents])), (a_sp_froms, .inr (0, [.ref a_sp_froms_keys, .ref a_sp_froms_sizes])), aJ g a_sp_froms_keys 1488 u1, aI g a_sp_froms_sizes 248 u2, aJ g a_sp_cents 1488 u3, aJ g a_out 1 out] [(0, .ref a_t), (1, .int p0), (2, .int p1), (3, .long p2), (5, .long p3), (7, .ref a_out)] [.ref q6] 28 4 24
      refine st_astore X (lv2 := [(8, .ref q6), (0, .ref a_t), (1, .int p0), (2, .int p1), (3, .long p2), (5, .long p3), (7, .ref a_out)]) d_L_price_28 (by decide) rfl ?_
      refine st_iconst X (v := 2) d_L_price_30 (by decide) ?_
      exact st_iret X hr (u1, u2, u3, out) hw rfl (by decide) (by decide) d_L_price_31
  obtain ⟨u1, u2, u3⟩ := u9
  try dsimp only at hw
  refine st_widen (k2 := 4) (n2 := 24) (by decide) (by decide) ?_
  refine st_perm (ws2 := [(a_t, .inr (5, [.ref a_used, .ref a_stock, .ref a_alts, .ref a_asm, .ref a_placed, .ref a_sp, .ref a_rt, .ref a_yl, .int partCount, .long tooling, .ref a_dr, .ref a_la, .ref a_be])), (a_sp, .inr (3, [.ref a_sp_froms, .ref a_sp_cents])), (a_sp_froms, .inr (0, [.ref a_sp_froms_keys, .ref a_sp_froms_sizes])), aJ g a_sp_froms_keys 1488 u1, aI g a_sp_froms_sizes 248 u2, aJ g a_sp_cents 1488 u3, aJ g a_out 1 out]) [1, 2, 3, 4, 5, 6, 0] rfl (by decide) ?_
  show ST g C [(a_t, .inr (5, [.ref a_used, .ref a_stock, .ref a_alts, .ref a_asm, .ref a_placed, .ref a_sp, .ref a_rt, .ref a_yl, .int partCount, .long tooling, .ref a_dr, .ref a_la, .ref a_be])), (a_sp, .inr (3, [.ref a_sp_froms, .ref a_sp_cents])), (a_sp_froms, .inr (0, [.ref a_sp_froms_keys, .ref a_sp_froms_sizes])), aJ g a_sp_froms_keys 1488 u1, aI g a_sp_froms_sizes 248 u2, aJ g a_sp_cents 1488 u3, aJ g a_out 1 out] [(0, .ref a_t), (1, .int p0), (2, .int p1), (3, .long p2), (5, .long p3), (7, .ref a_out)] [.int r4, .int 0, .ref a_out] 12 4 24
  have J20 : ∀ (v7 : Int64), wp_L_price_J20 out u1 u2 u3 Q v7 → ST g C [(a_t, .inr (5, [.ref a_used, .ref a_stock, .ref a_alts, .ref a_asm, .ref a_placed, .ref a_sp, .ref a_rt, .ref a_yl, .int partCount, .long tooling, .ref a_dr, .ref a_la, .ref a_be])), (a_sp, .inr (3, [.ref a_sp_froms, .ref a_sp_cents])), (a_sp_froms, .inr (0, [.ref a_sp_froms_keys, .ref a_sp_froms_sizes])), aJ g a_sp_froms_keys 1488 u1, aI g a_sp_froms_sizes 248 u2, aJ g a_sp_cents 1488 u3, aJ g a_out 1 out] [(0, .ref a_t), (1, .int p0), (2, .int p1), (3, .long p2), (5, .long p3), (7, .ref a_out)] [.long v7, .int 0, .ref a_out] 20 4 24 := by
    intro v7 hw
    unfold wp_L_price_J20 at hw
    obtain ⟨hb1, hw⟩ := hw
    obtain ⟨f8, hf8⟩ : ∃ z : Nat → Int64, z = vp_updL out (0 : Int32).toNatClampNeg v7 := ⟨_, rfl⟩
    replace hw := hw f8 hf8
    refine st_last X (ws2 := [(a_t, .inr (5, [.ref a_used, .ref a_stock, .ref a_alts, .ref a_asm, .ref a_placed, .ref a_sp, .ref a_rt, .ref a_yl, .int partCount, .long tooling, .ref a_dr, .ref a_la, .ref a_be])), (a_sp, .inr (3, [.ref a_sp_froms, .ref a_sp_cents])), (a_sp_froms, .inr (0, [.ref a_sp_froms_keys, .ref a_sp_froms_sizes])), aJ g a_sp_froms_keys 1488 u1, aI g a_sp_froms_sizes 248 u2, aJ g a_sp_cents 1488 u3, aJ g a_out 1 f8]) 6 rfl hb1 (by rw [hf8]; rfl) d_L_price_20 ?_
    refine st_goto X 32 d_L_price_21 (by decide) ?_
    refine st_iconst X (v := 0) d_L_price_32 (by decide) ?_
    exact st_iret X hr (u1, u2, u3, f8) hw rfl (by decide) (by decide) d_L_price_33
  refine st_if_eq X 19 d_L_price_12 (by decide) (fun hc => ?_) (fun hc => ?_)
  · replace hw := hw.1 hc
    refine st_lconst X (v := 0) d_L_price_19 (by decide) ?_
    refine st_lv [0, 1, 2, 3, 4, 5] rfl ?_
    exact J20 0 hw
  · replace hw := hw.2 hc
    refine st_lconst X (v := 1) d_L_price_15 (by decide) ?_
    refine st_goto X 20 d_L_price_16 (by decide) ?_
    refine st_lv [0, 1, 2, 3, 4, 5] rfl ?_
    exact J20 1 hw

theorem h9_L_uses : y_L_uses.cls ≠ "java/lang/invoke/MethodHandle" ∧ y_L_uses.cls ≠ "java/lang/invoke/VarHandle" ∧ (parseMethodDescriptor y_L_uses.desc).map (fun d => d.parameters.length) = some 4 := by decide +kernel
def wp_L_uses_J17 (out : Nat → Int64) (u1 : Nat → Int64) (Q : Int32 → (Nat → Int64) → (Nat → Int64) → Prop) (v5 : Int64) : Prop :=
  vp_in (0 : Int32) 1 ∧
  ∀ f6 : Nat → Int64, f6 = vp_updL out (0 : Int32).toNatClampNeg v5 →
  Q 0 u1 f6
def wp_L_uses (p0 : Int32) (p1 : Int64) (partCount : Int32) (used : Nat → Int64) (out : Nat → Int64) (Q : Int32 → (Nat → Int64) → (Nat → Int64) → Prop) : Prop :=
  wp_C_uses p0 p1 partCount used (fun r2 u1 =>
  ((r2 = 0) → wp_L_uses_J17 out u1 Q 0) ∧
  ((¬ r2 = 0) → wp_L_uses_J17 out u1 Q 1)) (fun E9 u1 => (E9 = eI → Q 1 u1 out) ∧ (E9 = eA → Q 2 u1 out) ∧ (E9 = eI ∨ E9 = eA))
set_option maxHeartbeats 4000000 in
set_option maxRecDepth 100000 in
theorem k_L_uses (g : GX) (hg : g.1.stackTraces = false) (a_t : Nat) (p0 : Int32) (p1 : Int64) (a_out : Nat) (a_used : Nat) (a_stock : Nat) (a_alts : Nat) (a_asm : Nat) (a_placed : Nat) (a_sp : Nat) (a_rt : Nat) (a_yl : Nat) (partCount : Int32) (tooling : Int64) (a_dr : Nat) (a_la : Nat) (a_be : Nat) (used : Nat → Int64) (out : Nat → Int64) (Q : Int32 → (Nat → Int64) → (Nat → Int64) → Prop) (hw : wp_L_uses p0 p1 partCount used out Q) : CTW g y_L_uses c_L_uses 6 (some .int) [(0, 18, 21, 13), (0, 18, 25, 15)] ({ frames := 8, cells := 2, slots := 12, locals := 130 } : Room) [.ref a_t, .int p0, .long p1, .ref a_out] [(a_t, .inr (5, [.ref a_used, .ref a_stock, .ref a_alts, .ref a_asm, .ref a_placed, .ref a_sp, .ref a_rt, .ref a_yl, .int partCount, .long tooling, .ref a_dr, .ref a_la, .ref a_be])), aJ g a_used 30 used, aJ g a_out 1 out] (QI g [(a_t, .inr (5, [.ref a_used, .ref a_stock, .ref a_alts, .ref a_asm, .ref a_placed, .ref a_sp, .ref a_rt, .ref a_yl, .int partCount, .long tooling, .ref a_dr, .ref a_la, .ref a_be])), aJ g a_used 30 used, aJ g a_out 1 out] (fun u : (Nat → Int64) × (Nat → Int64) => [(a_t, .inr (5, [.ref a_used, .ref a_stock, .ref a_alts, .ref a_asm, .ref a_placed, .ref a_sp, .ref a_rt, .ref a_yl, .int partCount, .long tooling, .ref a_dr, .ref a_la, .ref a_be])), aJ g a_used 30 u.1, aJ g a_out 1 u.2]) (fun r u => Q r u.1 u.2)) := by
  refine ctw_of hg (by decide) (Nat.le_of_ble_eq_true rfl) (fun sz C X hr htab => ?_)
  unfold wp_L_uses at hw
  show ST g C [(a_t, .inr (5, [.ref a_used, .ref a_stock, .ref a_alts, .ref a_asm, .ref a_placed, .ref a_sp, .ref a_rt, .ref a_yl, .int partCount, .long tooling, .ref a_dr, .ref a_la, .ref a_be])), aJ g a_used 30 used, aJ g a_out 1 out] [(0, .ref a_t), (1, .int p0), (2, .long p1), (4, .ref a_out)] [] 0 0 0
  refine st_aload X 3 d_L_uses_0 rfl ?_
  refine st_iconst X (v := 0) d_L_uses_2 (by decide) ?_
  refine st_aload_n X 0 d_L_uses_3 rfl rfl ?_
  refine st_iload_n X 1 d_L_uses_4 rfl rfl ?_
  refine st_lload_n X 2 d_L_uses_5 rfl rfl ?_
  have hR := rn_VX (pc := 6) (k := 0) (n := 0) (As := [.int p0, .long p1]) (rest := [.int 0, .ref a_out]) X (k_C_uses g hg a_t p0 p1 a_used a_stock a_alts a_asm a_placed a_sp a_rt a_yl partCount tooling a_dr a_la a_be used _ _ hw) (q0 := 0) rfl rfl wm_L_17 wi_C_uses wl_C_uses wz_C wc_C_uses h9_C_uses ⟨by decide, by decide⟩ (Nat.le_of_ble_eq_true rfl) ⟨by decide, by decide⟩ d_L_uses_6
  refine st_xcalli X hR [0, 1] [2] (wr := [aJ g a_out 1 out]) rfl rfl (by decide) (by decide) (by decide) (fun E9 u9 hw => ?_) (fun r2 u9 hw => ?_)
  · skip
    obtain ⟨u1, hu9⟩ : ∃ z, z = u9 := ⟨_, rfl⟩
    subst hu9
    try dsimp only at hw
    refine stx_perm (ws2 := [(a_t, .inr (5, [.ref a_used, .ref a_stock, .ref a_alts, .ref a_asm, .ref a_placed, .ref a_sp, .ref a_rt, .ref a_yl, .int partCount, .long tooling, .ref a_dr, .ref a_la, .ref a_be])), aJ g a_used 30 u1, aJ g a_out 1 out]) [1, 2, 0] rfl (by decide) ?_
    rcases hw.2.2 with rfl | rfl
    · replace hw := hw.1 rfl
      refine stx_catch0 X htab wk_L_13 wq_eI (by decide) (by decide) (fun q3 => ?_)
      refine st_widen (k2 := 2) (n2 := 12) (by decide) (by decide) ?_
      show ST g C [(a_t, .inr (5, [.ref a_used, .ref a_stock, .ref a_alts, .ref a_asm, .ref a_placed, .ref a_sp, .ref a_rt, .ref a_yl, .int partCount, .long tooling, .ref a_dr, .ref a_la, .ref a_be])), aJ g a_used 30 u1, aJ g a_out 1 out] [(0, .ref a_t), (1, .int p0), (2, .long p1), (4, .ref a_out)] [.ref q3] 21 2 12
      refine st_astore X (lv2 := [(5, .ref q3), (0, .ref a_t), (1, .int p0), (2, .long p1), (4, .ref a_out)]) d_L_uses_21 (by decide) rfl ?_
      refine st_iconst X (v := 1) d_L_uses_23 (by decide) ?_
      exact st_iret X hr (u1, out) hw rfl (by decide) (by decide) d_L_uses_24
    · replace hw := hw.2.1 rfl
      refine stx_catch1 X htab wk_L_13 (fun U h => h.2.2.2.2) (by decide) wk_L_15 wq_eA (by decide) (by decide) (fun q4 => ?_)
      refine st_widen (k2 := 2) (n2 := 12) (by decide) (by decide) ?_
      show ST g C [(a_t, .inr (5, [.ref a_used, .ref a_stock, .ref a_alts, .ref a_asm, .ref a_placed, .ref a_sp, .ref a_rt, .ref a_yl, .int partCount, .long tooling, .ref a_dr, .ref a_la, .ref a_be])), aJ g a_used 30 u1, aJ g a_out 1 out] [(0, .ref a_t), (1, .int p0), (2, .long p1), (4, .ref a_out)] [.ref q4] 25 2 12
      refine st_astore X (lv2 := [(5, .ref q4), (0, .ref a_t), (1, .int p0), (2, .long p1), (4, .ref a_out)]) d_L_uses_25 (by decide) rfl ?_
      refine st_iconst X (v := 2) d_L_uses_27 (by decide) ?_
      exact st_iret X hr (u1, out) hw rfl (by decide) (by decide) d_L_uses_28
  obtain ⟨u1, hu9⟩ : ∃ z, z = u9 := ⟨_, rfl⟩
  subst hu9
  try dsimp only at hw
  refine st_widen (k2 := 2) (n2 := 12) (by decide) (by decide) ?_
  refine st_perm (ws2 := [(a_t, .inr (5, [.ref a_used, .ref a_stock, .ref a_alts, .ref a_asm, .ref a_placed, .ref a_sp, .ref a_rt, .ref a_yl, .int partCount, .long tooling, .ref a_dr, .ref a_la, .ref a_be])), aJ g a_used 30 u1, aJ g a_out 1 out]) [1, 2, 0] rfl (by decide) ?_
  show ST g C [(a_t, .inr (5, [.ref a_used, .ref a_stock, .ref a_alts, .ref a_asm, .ref a_placed, .ref a_sp, .ref a_rt, .ref a_yl, .int partCount, .long tooling, .ref a_dr, .ref a_la, .ref a_be])), aJ g a_used 30 u1, aJ g a_out 1 out] [(0, .ref a_t), (1, .int p0), (2, .long p1), (4, .ref a_out)] [.int r2, .int 0, .ref a_out] 9 2 12
  have J17 : ∀ (v5 : Int64), wp_L_uses_J17 out u1 Q v5 → ST g C [(a_t, .inr (5, [.ref a_used, .ref a_stock, .ref a_alts, .ref a_asm, .ref a_placed, .ref a_sp, .ref a_rt, .ref a_yl, .int partCount, .long tooling, .ref a_dr, .ref a_la, .ref a_be])), aJ g a_used 30 u1, aJ g a_out 1 out] [(0, .ref a_t), (1, .int p0), (2, .long p1), (4, .ref a_out)] [.long v5, .int 0, .ref a_out] 17 2 12 := by
    intro v5 hw
    unfold wp_L_uses_J17 at hw
    obtain ⟨hb1, hw⟩ := hw
    obtain ⟨f6, hf6⟩ : ∃ z : Nat → Int64, z = vp_updL out (0 : Int32).toNatClampNeg v5 := ⟨_, rfl⟩
    replace hw := hw f6 hf6
    refine st_last X (ws2 := [(a_t, .inr (5, [.ref a_used, .ref a_stock, .ref a_alts, .ref a_asm, .ref a_placed, .ref a_sp, .ref a_rt, .ref a_yl, .int partCount, .long tooling, .ref a_dr, .ref a_la, .ref a_be])), aJ g a_used 30 u1, aJ g a_out 1 f6]) 2 rfl hb1 (by rw [hf6]; rfl) d_L_uses_17 ?_
    refine st_goto X 29 d_L_uses_18 (by decide) ?_
    refine st_iconst X (v := 0) d_L_uses_29 (by decide) ?_
    exact st_iret X hr (u1, f6) hw rfl (by decide) (by decide) d_L_uses_30
  refine st_if_eq X 16 d_L_uses_9 (by decide) (fun hc => ?_) (fun hc => ?_)
  · replace hw := hw.1 hc
    refine st_lconst X (v := 0) d_L_uses_16 (by decide) ?_
    refine st_lv [0, 1, 2, 3] rfl ?_
    exact J17 0 hw
  · replace hw := hw.2 hc
    refine st_lconst X (v := 1) d_L_uses_12 (by decide) ?_
    refine st_goto X 17 d_L_uses_13 (by decide) ?_
    refine st_lv [0, 1, 2, 3] rfl ?_
    exact J17 1 hw

theorem h9_L_board : y_L_board.cls ≠ "java/lang/invoke/MethodHandle" ∧ y_L_board.cls ≠ "java/lang/invoke/VarHandle" ∧ (parseMethodDescriptor y_L_board.desc).map (fun d => d.parameters.length) = some 5 := by decide +kernel
def wp_L_board_J19 (out : Nat → Int64) (u1 : Nat → Int64) (u2 : Nat → Int32) (u3 : Nat → Int64) (Q : Int32 → (Nat → Int64) → (Nat → Int32) → (Nat → Int64) → (Nat → Int64) → Prop) (v7 : Int64) : Prop :=
  vp_in (0 : Int32) 1 ∧
  ∀ f8 : Nat → Int64, f8 = vp_updL out (0 : Int32).toNatClampNeg v7 →
  Q 0 u1 u2 u3 f8
def wp_L_board (p0 : Int32) (p1 : Int64) (p2 : Int64) (sp_froms_keys : Nat → Int64) (sp_froms_sizes : Nat → Int32) (sp_cents : Nat → Int64) (out : Nat → Int64) (Q : Int32 → (Nat → Int64) → (Nat → Int32) → (Nat → Int64) → (Nat → Int64) → Prop) : Prop :=
  wp_C_board p0 p1 p2 sp_froms_keys sp_froms_sizes sp_cents (fun r4 u1 u2 u3 =>
  ((r4 = 0) → wp_L_board_J19 out u1 u2 u3 Q 0) ∧
  ((¬ r4 = 0) → wp_L_board_J19 out u1 u2 u3 Q 1)) (fun E9 u1 u2 u3 => (E9 = eI → Q 1 u1 u2 u3 out) ∧ (E9 = eA → Q 2 u1 u2 u3 out) ∧ (E9 = eI ∨ E9 = eA))
set_option maxHeartbeats 4000000 in
set_option maxRecDepth 100000 in
theorem k_L_board (g : GX) (hg : g.1.stackTraces = false) (a_t : Nat) (p0 : Int32) (p1 : Int64) (p2 : Int64) (a_out : Nat) (a_used : Nat) (a_stock : Nat) (a_alts : Nat) (a_asm : Nat) (a_placed : Nat) (a_sp : Nat) (a_rt : Nat) (a_yl : Nat) (partCount : Int32) (tooling : Int64) (a_dr : Nat) (a_la : Nat) (a_be : Nat) (a_sp_froms : Nat) (a_sp_cents : Nat) (a_sp_froms_keys : Nat) (a_sp_froms_sizes : Nat) (sp_froms_keys : Nat → Int64) (sp_froms_sizes : Nat → Int32) (sp_cents : Nat → Int64) (out : Nat → Int64) (Q : Int32 → (Nat → Int64) → (Nat → Int32) → (Nat → Int64) → (Nat → Int64) → Prop) (hw : wp_L_board p0 p1 p2 sp_froms_keys sp_froms_sizes sp_cents out Q) : CTW g y_L_board c_L_board 8 (some .int) [(0, 20, 23, 13), (0, 20, 27, 15)] ({ frames := 9, cells := 3, slots := 18, locals := 155 } : Room) [.ref a_t, .int p0, .long p1, .long p2, .ref a_out] [(a_t, .inr (5, [.ref a_used, .ref a_stock, .ref a_alts, .ref a_asm, .ref a_placed, .ref a_sp, .ref a_rt, .ref a_yl, .int partCount, .long tooling, .ref a_dr, .ref a_la, .ref a_be])), (a_sp, .inr (3, [.ref a_sp_froms, .ref a_sp_cents])), (a_sp_froms, .inr (0, [.ref a_sp_froms_keys, .ref a_sp_froms_sizes])), aJ g a_sp_froms_keys 1488 sp_froms_keys, aI g a_sp_froms_sizes 248 sp_froms_sizes, aJ g a_sp_cents 1488 sp_cents, aJ g a_out 1 out] (QI g [(a_t, .inr (5, [.ref a_used, .ref a_stock, .ref a_alts, .ref a_asm, .ref a_placed, .ref a_sp, .ref a_rt, .ref a_yl, .int partCount, .long tooling, .ref a_dr, .ref a_la, .ref a_be])), (a_sp, .inr (3, [.ref a_sp_froms, .ref a_sp_cents])), (a_sp_froms, .inr (0, [.ref a_sp_froms_keys, .ref a_sp_froms_sizes])), aJ g a_sp_froms_keys 1488 sp_froms_keys, aI g a_sp_froms_sizes 248 sp_froms_sizes, aJ g a_sp_cents 1488 sp_cents, aJ g a_out 1 out] (fun u : (Nat → Int64) × (Nat → Int32) × (Nat → Int64) × (Nat → Int64) => [(a_t, .inr (5, [.ref a_used, .ref a_stock, .ref a_alts, .ref a_asm, .ref a_placed, .ref a_sp, .ref a_rt, .ref a_yl, .int partCount, .long tooling, .ref a_dr, .ref a_la, .ref a_be])), (a_sp, .inr (3, [.ref a_sp_froms, .ref a_sp_cents])), (a_sp_froms, .inr (0, [.ref a_sp_froms_keys, .ref a_sp_froms_sizes])), aJ g a_sp_froms_keys 1488 u.1, aI g a_sp_froms_sizes 248 u.2.1, aJ g a_sp_cents 1488 u.2.2.1, aJ g a_out 1 u.2.2.2]) (fun r u => Q r u.1 u.2.1 u.2.2.1 u.2.2.2)) := by
  refine ctw_of hg (by decide) (Nat.le_of_ble_eq_true rfl) (fun sz C X hr htab => ?_)
  unfold wp_L_board at hw
  show ST g C [(a_t, .inr (5, [.ref a_used, .ref a_stock, .ref a_alts, .ref a_asm, .ref a_placed, .ref a_sp, .ref a_rt, .ref a_yl, .int partCount, .long tooling, .ref a_dr, .ref a_la, .ref a_be])), (a_sp, .inr (3, [.ref a_sp_froms, .ref a_sp_cents])), (a_sp_froms, .inr (0, [.ref a_sp_froms_keys, .ref a_sp_froms_sizes])), aJ g a_sp_froms_keys 1488 sp_froms_keys, aI g a_sp_froms_sizes 248 sp_froms_sizes, aJ g a_sp_cents 1488 sp_cents, aJ g a_out 1 out] [(0, .ref a_t), (1, .int p0), (2, .long p1), (4, .long p2), (6, .ref a_out)] [] 0 0 0
  refine st_aload X 4 d_L_board_0 rfl ?_
  refine st_iconst X (v := 0) d_L_board_2 (by decide) ?_
  refine st_aload_n X 0 d_L_board_3 rfl rfl ?_
  refine st_iload_n X 1 d_L_board_4 rfl rfl ?_
  refine st_lload_n X 2 d_L_board_5 rfl rfl ?_
  refine st_lload X 3 d_L_board_6 rfl ?_
  have hR := rn_VX (pc := 8) (k := 0) (n := 0) (As := [.int p0, .long p1, .long p2]) (rest := [.int 0, .ref a_out]) X (k_C_board g hg a_t p0 p1 p2 a_used a_stock a_alts a_asm a_placed a_sp a_rt a_yl partCount tooling a_dr a_la a_be a_sp_froms a_sp_cents a_sp_froms_keys a_sp_froms_sizes sp_froms_keys sp_froms_sizes sp_cents _ _ hw) (q0 := 0) rfl rfl wm_L_21 wi_C_board wl_C_board wz_C wc_C_board h9_C_board ⟨by decide, by decide⟩ (Nat.le_of_ble_eq_true rfl) ⟨by decide, by decide⟩ d_L_board_8
  refine st_xcalli X hR [0, 1, 2, 3, 4, 5] [6] (wr := [aJ g a_out 1 out]) rfl rfl (by decide) (by decide) (by decide) (fun E9 u9 hw => ?_) (fun r4 u9 hw => ?_)
  · skip
    obtain ⟨u1, u2, u3⟩ := u9
    try dsimp only at hw
    refine stx_perm (ws2 := [(a_t, .inr (5, [.ref a_used, .ref a_stock, .ref a_alts, .ref a_asm, .ref a_placed, .ref a_sp, .ref a_rt, .ref a_yl, .int partCount, .long tooling, .ref a_dr, .ref a_la, .ref a_be])), (a_sp, .inr (3, [.ref a_sp_froms, .ref a_sp_cents])), (a_sp_froms, .inr (0, [.ref a_sp_froms_keys, .ref a_sp_froms_sizes])), aJ g a_sp_froms_keys 1488 u1, aI g a_sp_froms_sizes 248 u2, aJ g a_sp_cents 1488 u3, aJ g a_out 1 out]) [1, 2, 3, 4, 5, 6, 0] rfl (by decide) ?_
    rcases hw.2.2 with rfl | rfl
    · replace hw := hw.1 rfl
      refine stx_catch0 X htab wk_L_13 wq_eI (by decide) (by decide) (fun q5 => ?_)
      refine st_widen (k2 := 3) (n2 := 18) (by decide) (by decide) ?_
      show ST g C [(a_t, .inr (5, [.ref a_used, .ref a_stock, .ref a_alts, .ref a_asm, .ref a_placed, .ref a_sp, .ref a_rt, .ref a_yl, .int partCount, .long tooling, .ref a_dr, .ref a_la, .ref a_be])), (a_sp, .inr (3, [.ref a_sp_froms, .ref a_sp_cents])), (a_sp_froms, .inr (0, [.ref a_sp_froms_keys, .ref a_sp_froms_sizes])), aJ g a_sp_froms_keys 1488 u1, aI g a_sp_froms_sizes 248 u2, aJ g a_sp_cents 1488 u3, aJ g a_out 1 out] [(0, .ref a_t), (1, .int p0), (2, .long p1), (4, .long p2), (6, .ref a_out)] [.ref q5] 23 3 18
      refine st_astore X (lv2 := [(7, .ref q5), (0, .ref a_t), (1, .int p0), (2, .long p1), (4, .long p2), (6, .ref a_out)]) d_L_board_23 (by decide) rfl ?_
      refine st_iconst X (v := 1) d_L_board_25 (by decide) ?_
      exact st_iret X hr (u1, u2, u3, out) hw rfl (by decide) (by decide) d_L_board_26
    · replace hw := hw.2.1 rfl
      refine stx_catch1 X htab wk_L_13 (fun U h => h.2.2.2.2) (by decide) wk_L_15 wq_eA (by decide) (by decide) (fun q6 => ?_)
      refine st_widen (k2 := 3) (n2 := 18) (by decide) (by decide) ?_
      show ST g C [(a_t, .inr (5, [.ref a_used, .ref a_stock, .ref a_alts, .ref a_asm, .ref a_placed, .ref a_sp, .ref a_rt, .ref a_yl, .int partCount, .long tooling, .ref a_dr, .ref a_la, .ref a_be])), (a_sp, .inr (3, [.ref a_sp_froms, .ref a_sp_cents])), (a_sp_froms, .inr (0, [.ref a_sp_froms_keys, .ref a_sp_froms_sizes])), aJ g a_sp_froms_keys 1488 u1, aI g a_sp_froms_sizes 248 u2, aJ g a_sp_cents 1488 u3, aJ g a_out 1 out] [(0, .ref a_t), (1, .int p0), (2, .long p1), (4, .long p2), (6, .ref a_out)] [.ref q6] 27 3 18
      refine st_astore X (lv2 := [(7, .ref q6), (0, .ref a_t), (1, .int p0), (2, .long p1), (4, .long p2), (6, .ref a_out)]) d_L_board_27 (by decide) rfl ?_
      refine st_iconst X (v := 2) d_L_board_29 (by decide) ?_
      exact st_iret X hr (u1, u2, u3, out) hw rfl (by decide) (by decide) d_L_board_30
  obtain ⟨u1, u2, u3⟩ := u9
  try dsimp only at hw
  refine st_widen (k2 := 3) (n2 := 18) (by decide) (by decide) ?_
  refine st_perm (ws2 := [(a_t, .inr (5, [.ref a_used, .ref a_stock, .ref a_alts, .ref a_asm, .ref a_placed, .ref a_sp, .ref a_rt, .ref a_yl, .int partCount, .long tooling, .ref a_dr, .ref a_la, .ref a_be])), (a_sp, .inr (3, [.ref a_sp_froms, .ref a_sp_cents])), (a_sp_froms, .inr (0, [.ref a_sp_froms_keys, .ref a_sp_froms_sizes])), aJ g a_sp_froms_keys 1488 u1, aI g a_sp_froms_sizes 248 u2, aJ g a_sp_cents 1488 u3, aJ g a_out 1 out]) [1, 2, 3, 4, 5, 6, 0] rfl (by decide) ?_
  show ST g C [(a_t, .inr (5, [.ref a_used, .ref a_stock, .ref a_alts, .ref a_asm, .ref a_placed, .ref a_sp, .ref a_rt, .ref a_yl, .int partCount, .long tooling, .ref a_dr, .ref a_la, .ref a_be])), (a_sp, .inr (3, [.ref a_sp_froms, .ref a_sp_cents])), (a_sp_froms, .inr (0, [.ref a_sp_froms_keys, .ref a_sp_froms_sizes])), aJ g a_sp_froms_keys 1488 u1, aI g a_sp_froms_sizes 248 u2, aJ g a_sp_cents 1488 u3, aJ g a_out 1 out] [(0, .ref a_t), (1, .int p0), (2, .long p1), (4, .long p2), (6, .ref a_out)] [.int r4, .int 0, .ref a_out] 11 3 18
  have J19 : ∀ (v7 : Int64), wp_L_board_J19 out u1 u2 u3 Q v7 → ST g C [(a_t, .inr (5, [.ref a_used, .ref a_stock, .ref a_alts, .ref a_asm, .ref a_placed, .ref a_sp, .ref a_rt, .ref a_yl, .int partCount, .long tooling, .ref a_dr, .ref a_la, .ref a_be])), (a_sp, .inr (3, [.ref a_sp_froms, .ref a_sp_cents])), (a_sp_froms, .inr (0, [.ref a_sp_froms_keys, .ref a_sp_froms_sizes])), aJ g a_sp_froms_keys 1488 u1, aI g a_sp_froms_sizes 248 u2, aJ g a_sp_cents 1488 u3, aJ g a_out 1 out] [(0, .ref a_t), (1, .int p0), (2, .long p1), (4, .long p2), (6, .ref a_out)] [.long v7, .int 0, .ref a_out] 19 3 18 := by
    intro v7 hw
    unfold wp_L_board_J19 at hw
    obtain ⟨hb1, hw⟩ := hw
    obtain ⟨f8, hf8⟩ : ∃ z : Nat → Int64, z = vp_updL out (0 : Int32).toNatClampNeg v7 := ⟨_, rfl⟩
    replace hw := hw f8 hf8
    refine st_last X (ws2 := [(a_t, .inr (5, [.ref a_used, .ref a_stock, .ref a_alts, .ref a_asm, .ref a_placed, .ref a_sp, .ref a_rt, .ref a_yl, .int partCount, .long tooling, .ref a_dr, .ref a_la, .ref a_be])), (a_sp, .inr (3, [.ref a_sp_froms, .ref a_sp_cents])), (a_sp_froms, .inr (0, [.ref a_sp_froms_keys, .ref a_sp_froms_sizes])), aJ g a_sp_froms_keys 1488 u1, aI g a_sp_froms_sizes 248 u2, aJ g a_sp_cents 1488 u3, aJ g a_out 1 f8]) 6 rfl hb1 (by rw [hf8]; rfl) d_L_board_19 ?_
    refine st_goto X 31 d_L_board_20 (by decide) ?_
    refine st_iconst X (v := 0) d_L_board_31 (by decide) ?_
    exact st_iret X hr (u1, u2, u3, f8) hw rfl (by decide) (by decide) d_L_board_32
  refine st_if_eq X 18 d_L_board_11 (by decide) (fun hc => ?_) (fun hc => ?_)
  · replace hw := hw.1 hc
    refine st_lconst X (v := 0) d_L_board_18 (by decide) ?_
    refine st_lv [0, 1, 2, 3, 4] rfl ?_
    exact J19 0 hw
  · replace hw := hw.2 hc
    refine st_lconst X (v := 1) d_L_board_14 (by decide) ?_
    refine st_goto X 19 d_L_board_15 (by decide) ?_
    refine st_lv [0, 1, 2, 3, 4] rfl ?_
    exact J19 1 hw

theorem h9_L_assembly : y_L_assembly.cls ≠ "java/lang/invoke/MethodHandle" ∧ y_L_assembly.cls ≠ "java/lang/invoke/VarHandle" ∧ (parseMethodDescriptor y_L_assembly.desc).map (fun d => d.parameters.length) = some 4 := by decide +kernel
def wp_L_assembly_J17 (out : Nat → Int64) (u1 : Nat → Int64) (Q : Int32 → (Nat → Int64) → (Nat → Int64) → Prop) (v5 : Int64) : Prop :=
  vp_in (0 : Int32) 1 ∧
  ∀ f6 : Nat → Int64, f6 = vp_updL out (0 : Int32).toNatClampNeg v5 →
  Q 0 u1 f6
def wp_L_assembly (p0 : Int32) (p1 : Int64) (asm : Nat → Int64) (out : Nat → Int64) (Q : Int32 → (Nat → Int64) → (Nat → Int64) → Prop) : Prop :=
  wp_C_assembly p0 p1 asm (fun r2 u1 =>
  ((r2 = 0) → wp_L_assembly_J17 out u1 Q 0) ∧
  ((¬ r2 = 0) → wp_L_assembly_J17 out u1 Q 1)) (fun E9 u1 => (E9 = eI → Q 1 u1 out) ∧ (E9 = eA → Q 2 u1 out) ∧ (E9 = eI ∨ E9 = eA))
set_option maxHeartbeats 4000000 in
set_option maxRecDepth 100000 in
theorem k_L_assembly (g : GX) (hg : g.1.stackTraces = false) (a_t : Nat) (p0 : Int32) (p1 : Int64) (a_out : Nat) (a_used : Nat) (a_stock : Nat) (a_alts : Nat) (a_asm : Nat) (a_placed : Nat) (a_sp : Nat) (a_rt : Nat) (a_yl : Nat) (partCount : Int32) (tooling : Int64) (a_dr : Nat) (a_la : Nat) (a_be : Nat) (asm : Nat → Int64) (out : Nat → Int64) (Q : Int32 → (Nat → Int64) → (Nat → Int64) → Prop) (hw : wp_L_assembly p0 p1 asm out Q) : CTW g y_L_assembly c_L_assembly 6 (some .int) [(0, 18, 21, 13), (0, 18, 25, 15)] ({ frames := 8, cells := 2, slots := 12, locals := 130 } : Room) [.ref a_t, .int p0, .long p1, .ref a_out] [(a_t, .inr (5, [.ref a_used, .ref a_stock, .ref a_alts, .ref a_asm, .ref a_placed, .ref a_sp, .ref a_rt, .ref a_yl, .int partCount, .long tooling, .ref a_dr, .ref a_la, .ref a_be])), aJ g a_asm 8 asm, aJ g a_out 1 out] (QI g [(a_t, .inr (5, [.ref a_used, .ref a_stock, .ref a_alts, .ref a_asm, .ref a_placed, .ref a_sp, .ref a_rt, .ref a_yl, .int partCount, .long tooling, .ref a_dr, .ref a_la, .ref a_be])), aJ g a_asm 8 asm, aJ g a_out 1 out] (fun u : (Nat → Int64) × (Nat → Int64) => [(a_t, .inr (5, [.ref a_used, .ref a_stock, .ref a_alts, .ref a_asm, .ref a_placed, .ref a_sp, .ref a_rt, .ref a_yl, .int partCount, .long tooling, .ref a_dr, .ref a_la, .ref a_be])), aJ g a_asm 8 u.1, aJ g a_out 1 u.2]) (fun r u => Q r u.1 u.2)) := by
  refine ctw_of hg (by decide) (Nat.le_of_ble_eq_true rfl) (fun sz C X hr htab => ?_)
  unfold wp_L_assembly at hw
  show ST g C [(a_t, .inr (5, [.ref a_used, .ref a_stock, .ref a_alts, .ref a_asm, .ref a_placed, .ref a_sp, .ref a_rt, .ref a_yl, .int partCount, .long tooling, .ref a_dr, .ref a_la, .ref a_be])), aJ g a_asm 8 asm, aJ g a_out 1 out] [(0, .ref a_t), (1, .int p0), (2, .long p1), (4, .ref a_out)] [] 0 0 0
  refine st_aload X 3 d_L_assembly_0 rfl ?_
  refine st_iconst X (v := 0) d_L_assembly_2 (by decide) ?_
  refine st_aload_n X 0 d_L_assembly_3 rfl rfl ?_
  refine st_iload_n X 1 d_L_assembly_4 rfl rfl ?_
  refine st_lload_n X 2 d_L_assembly_5 rfl rfl ?_
  have hR := rn_VX (pc := 6) (k := 0) (n := 0) (As := [.int p0, .long p1]) (rest := [.int 0, .ref a_out]) X (k_C_assembly g hg a_t p0 p1 a_used a_stock a_alts a_asm a_placed a_sp a_rt a_yl partCount tooling a_dr a_la a_be asm _ _ hw) (q0 := 0) rfl rfl wm_L_25 wi_C_assembly wl_C_assembly wz_C wc_C_assembly h9_C_assembly ⟨by decide, by decide⟩ (Nat.le_of_ble_eq_true rfl) ⟨by decide, by decide⟩ d_L_assembly_6
  refine st_xcalli X hR [0, 1] [2] (wr := [aJ g a_out 1 out]) rfl rfl (by decide) (by decide) (by decide) (fun E9 u9 hw => ?_) (fun r2 u9 hw => ?_)
  · skip
    obtain ⟨u1, hu9⟩ : ∃ z, z = u9 := ⟨_, rfl⟩
    subst hu9
    try dsimp only at hw
    refine stx_perm (ws2 := [(a_t, .inr (5, [.ref a_used, .ref a_stock, .ref a_alts, .ref a_asm, .ref a_placed, .ref a_sp, .ref a_rt, .ref a_yl, .int partCount, .long tooling, .ref a_dr, .ref a_la, .ref a_be])), aJ g a_asm 8 u1, aJ g a_out 1 out]) [1, 2, 0] rfl (by decide) ?_
    rcases hw.2.2 with rfl | rfl
    · replace hw := hw.1 rfl
      refine stx_catch0 X htab wk_L_13 wq_eI (by decide) (by decide) (fun q3 => ?_)
      refine st_widen (k2 := 2) (n2 := 12) (by decide) (by decide) ?_
      show ST g C [(a_t, .inr (5, [.ref a_used, .ref a_stock, .ref a_alts, .ref a_asm, .ref a_placed, .ref a_sp, .ref a_rt, .ref a_yl, .int partCount, .long tooling, .ref a_dr, .ref a_la, .ref a_be])), aJ g a_asm 8 u1, aJ g a_out 1 out] [(0, .ref a_t), (1, .int p0), (2, .long p1), (4, .ref a_out)] [.ref q3] 21 2 12
      refine st_astore X (lv2 := [(5, .ref q3), (0, .ref a_t), (1, .int p0), (2, .long p1), (4, .ref a_out)]) d_L_assembly_21 (by decide) rfl ?_
      refine st_iconst X (v := 1) d_L_assembly_23 (by decide) ?_
      exact st_iret X hr (u1, out) hw rfl (by decide) (by decide) d_L_assembly_24
    · replace hw := hw.2.1 rfl
      refine stx_catch1 X htab wk_L_13 (fun U h => h.2.2.2.2) (by decide) wk_L_15 wq_eA (by decide) (by decide) (fun q4 => ?_)
      refine st_widen (k2 := 2) (n2 := 12) (by decide) (by decide) ?_
      show ST g C [(a_t, .inr (5, [.ref a_used, .ref a_stock, .ref a_alts, .ref a_asm, .ref a_placed, .ref a_sp, .ref a_rt, .ref a_yl, .int partCount, .long tooling, .ref a_dr, .ref a_la, .ref a_be])), aJ g a_asm 8 u1, aJ g a_out 1 out] [(0, .ref a_t), (1, .int p0), (2, .long p1), (4, .ref a_out)] [.ref q4] 25 2 12
      refine st_astore X (lv2 := [(5, .ref q4), (0, .ref a_t), (1, .int p0), (2, .long p1), (4, .ref a_out)]) d_L_assembly_25 (by decide) rfl ?_
      refine st_iconst X (v := 2) d_L_assembly_27 (by decide) ?_
      exact st_iret X hr (u1, out) hw rfl (by decide) (by decide) d_L_assembly_28
  obtain ⟨u1, hu9⟩ : ∃ z, z = u9 := ⟨_, rfl⟩
  subst hu9
  try dsimp only at hw
  refine st_widen (k2 := 2) (n2 := 12) (by decide) (by decide) ?_
  refine st_perm (ws2 := [(a_t, .inr (5, [.ref a_used, .ref a_stock, .ref a_alts, .ref a_asm, .ref a_placed, .ref a_sp, .ref a_rt, .ref a_yl, .int partCount, .long tooling, .ref a_dr, .ref a_la, .ref a_be])), aJ g a_asm 8 u1, aJ g a_out 1 out]) [1, 2, 0] rfl (by decide) ?_
  show ST g C [(a_t, .inr (5, [.ref a_used, .ref a_stock, .ref a_alts, .ref a_asm, .ref a_placed, .ref a_sp, .ref a_rt, .ref a_yl, .int partCount, .long tooling, .ref a_dr, .ref a_la, .ref a_be])), aJ g a_asm 8 u1, aJ g a_out 1 out] [(0, .ref a_t), (1, .int p0), (2, .long p1), (4, .ref a_out)] [.int r2, .int 0, .ref a_out] 9 2 12
  have J17 : ∀ (v5 : Int64), wp_L_assembly_J17 out u1 Q v5 → ST g C [(a_t, .inr (5, [.ref a_used, .ref a_stock, .ref a_alts, .ref a_asm, .ref a_placed, .ref a_sp, .ref a_rt, .ref a_yl, .int partCount, .long tooling, .ref a_dr, .ref a_la, .ref a_be])), aJ g a_asm 8 u1, aJ g a_out 1 out] [(0, .ref a_t), (1, .int p0), (2, .long p1), (4, .ref a_out)] [.long v5, .int 0, .ref a_out] 17 2 12 := by
    intro v5 hw
    unfold wp_L_assembly_J17 at hw
    obtain ⟨hb1, hw⟩ := hw
    obtain ⟨f6, hf6⟩ : ∃ z : Nat → Int64, z = vp_updL out (0 : Int32).toNatClampNeg v5 := ⟨_, rfl⟩
    replace hw := hw f6 hf6
    refine st_last X (ws2 := [(a_t, .inr (5, [.ref a_used, .ref a_stock, .ref a_alts, .ref a_asm, .ref a_placed, .ref a_sp, .ref a_rt, .ref a_yl, .int partCount, .long tooling, .ref a_dr, .ref a_la, .ref a_be])), aJ g a_asm 8 u1, aJ g a_out 1 f6]) 2 rfl hb1 (by rw [hf6]; rfl) d_L_assembly_17 ?_
    refine st_goto X 29 d_L_assembly_18 (by decide) ?_
    refine st_iconst X (v := 0) d_L_assembly_29 (by decide) ?_
    exact st_iret X hr (u1, f6) hw rfl (by decide) (by decide) d_L_assembly_30
  refine st_if_eq X 16 d_L_assembly_9 (by decide) (fun hc => ?_) (fun hc => ?_)
  · replace hw := hw.1 hc
    refine st_lconst X (v := 0) d_L_assembly_16 (by decide) ?_
    refine st_lv [0, 1, 2, 3] rfl ?_
    exact J17 0 hw
  · replace hw := hw.2 hc
    refine st_lconst X (v := 1) d_L_assembly_12 (by decide) ?_
    refine st_goto X 17 d_L_assembly_13 (by decide) ?_
    refine st_lv [0, 1, 2, 3] rfl ?_
    exact J17 1 hw

theorem h9_L_placed : y_L_placed.cls ≠ "java/lang/invoke/MethodHandle" ∧ y_L_placed.cls ≠ "java/lang/invoke/VarHandle" ∧ (parseMethodDescriptor y_L_placed.desc).map (fun d => d.parameters.length) = some 4 := by decide +kernel
def wp_L_placed_J17 (out : Nat → Int64) (u1 : Nat → Int64) (Q : Int32 → (Nat → Int64) → (Nat → Int64) → Prop) (v5 : Int64) : Prop :=
  vp_in (0 : Int32) 1 ∧
  ∀ f6 : Nat → Int64, f6 = vp_updL out (0 : Int32).toNatClampNeg v5 →
  Q 0 u1 f6
def wp_L_placed (p0 : Int32) (p1 : Int64) (placed : Nat → Int64) (out : Nat → Int64) (Q : Int32 → (Nat → Int64) → (Nat → Int64) → Prop) : Prop :=
  wp_C_placed p0 p1 placed (fun r2 u1 =>
  ((r2 = 0) → wp_L_placed_J17 out u1 Q 0) ∧
  ((¬ r2 = 0) → wp_L_placed_J17 out u1 Q 1)) (fun E9 u1 => (E9 = eI → Q 1 u1 out) ∧ (E9 = eA → Q 2 u1 out) ∧ (E9 = eI ∨ E9 = eA))
set_option maxHeartbeats 4000000 in
set_option maxRecDepth 100000 in
theorem k_L_placed (g : GX) (hg : g.1.stackTraces = false) (a_t : Nat) (p0 : Int32) (p1 : Int64) (a_out : Nat) (a_used : Nat) (a_stock : Nat) (a_alts : Nat) (a_asm : Nat) (a_placed : Nat) (a_sp : Nat) (a_rt : Nat) (a_yl : Nat) (partCount : Int32) (tooling : Int64) (a_dr : Nat) (a_la : Nat) (a_be : Nat) (placed : Nat → Int64) (out : Nat → Int64) (Q : Int32 → (Nat → Int64) → (Nat → Int64) → Prop) (hw : wp_L_placed p0 p1 placed out Q) : CTW g y_L_placed c_L_placed 6 (some .int) [(0, 18, 21, 13), (0, 18, 25, 15)] ({ frames := 8, cells := 2, slots := 12, locals := 130 } : Room) [.ref a_t, .int p0, .long p1, .ref a_out] [(a_t, .inr (5, [.ref a_used, .ref a_stock, .ref a_alts, .ref a_asm, .ref a_placed, .ref a_sp, .ref a_rt, .ref a_yl, .int partCount, .long tooling, .ref a_dr, .ref a_la, .ref a_be])), aJ g a_placed 8 placed, aJ g a_out 1 out] (QI g [(a_t, .inr (5, [.ref a_used, .ref a_stock, .ref a_alts, .ref a_asm, .ref a_placed, .ref a_sp, .ref a_rt, .ref a_yl, .int partCount, .long tooling, .ref a_dr, .ref a_la, .ref a_be])), aJ g a_placed 8 placed, aJ g a_out 1 out] (fun u : (Nat → Int64) × (Nat → Int64) => [(a_t, .inr (5, [.ref a_used, .ref a_stock, .ref a_alts, .ref a_asm, .ref a_placed, .ref a_sp, .ref a_rt, .ref a_yl, .int partCount, .long tooling, .ref a_dr, .ref a_la, .ref a_be])), aJ g a_placed 8 u.1, aJ g a_out 1 u.2]) (fun r u => Q r u.1 u.2)) := by
  refine ctw_of hg (by decide) (Nat.le_of_ble_eq_true rfl) (fun sz C X hr htab => ?_)
  unfold wp_L_placed at hw
  show ST g C [(a_t, .inr (5, [.ref a_used, .ref a_stock, .ref a_alts, .ref a_asm, .ref a_placed, .ref a_sp, .ref a_rt, .ref a_yl, .int partCount, .long tooling, .ref a_dr, .ref a_la, .ref a_be])), aJ g a_placed 8 placed, aJ g a_out 1 out] [(0, .ref a_t), (1, .int p0), (2, .long p1), (4, .ref a_out)] [] 0 0 0
  refine st_aload X 3 d_L_placed_0 rfl ?_
  refine st_iconst X (v := 0) d_L_placed_2 (by decide) ?_
  refine st_aload_n X 0 d_L_placed_3 rfl rfl ?_
  refine st_iload_n X 1 d_L_placed_4 rfl rfl ?_
  refine st_lload_n X 2 d_L_placed_5 rfl rfl ?_
  have hR := rn_VX (pc := 6) (k := 0) (n := 0) (As := [.int p0, .long p1]) (rest := [.int 0, .ref a_out]) X (k_C_placed g hg a_t p0 p1 a_used a_stock a_alts a_asm a_placed a_sp a_rt a_yl partCount tooling a_dr a_la a_be placed _ _ hw) (q0 := 0) rfl rfl wm_L_28 wi_C_placed wl_C_placed wz_C wc_C_placed h9_C_placed ⟨by decide, by decide⟩ (Nat.le_of_ble_eq_true rfl) ⟨by decide, by decide⟩ d_L_placed_6
  refine st_xcalli X hR [0, 1] [2] (wr := [aJ g a_out 1 out]) rfl rfl (by decide) (by decide) (by decide) (fun E9 u9 hw => ?_) (fun r2 u9 hw => ?_)
  · skip
    obtain ⟨u1, hu9⟩ : ∃ z, z = u9 := ⟨_, rfl⟩
    subst hu9
    try dsimp only at hw
    refine stx_perm (ws2 := [(a_t, .inr (5, [.ref a_used, .ref a_stock, .ref a_alts, .ref a_asm, .ref a_placed, .ref a_sp, .ref a_rt, .ref a_yl, .int partCount, .long tooling, .ref a_dr, .ref a_la, .ref a_be])), aJ g a_placed 8 u1, aJ g a_out 1 out]) [1, 2, 0] rfl (by decide) ?_
    rcases hw.2.2 with rfl | rfl
    · replace hw := hw.1 rfl
      refine stx_catch0 X htab wk_L_13 wq_eI (by decide) (by decide) (fun q3 => ?_)
      refine st_widen (k2 := 2) (n2 := 12) (by decide) (by decide) ?_
      show ST g C [(a_t, .inr (5, [.ref a_used, .ref a_stock, .ref a_alts, .ref a_asm, .ref a_placed, .ref a_sp, .ref a_rt, .ref a_yl, .int partCount, .long tooling, .ref a_dr, .ref a_la, .ref a_be])), aJ g a_placed 8 u1, aJ g a_out 1 out] [(0, .ref a_t), (1, .int p0), (2, .long p1), (4, .ref a_out)] [.ref q3] 21 2 12
      refine st_astore X (lv2 := [(5, .ref q3), (0, .ref a_t), (1, .int p0), (2, .long p1), (4, .ref a_out)]) d_L_placed_21 (by decide) rfl ?_
      refine st_iconst X (v := 1) d_L_placed_23 (by decide) ?_
      exact st_iret X hr (u1, out) hw rfl (by decide) (by decide) d_L_placed_24
    · replace hw := hw.2.1 rfl
      refine stx_catch1 X htab wk_L_13 (fun U h => h.2.2.2.2) (by decide) wk_L_15 wq_eA (by decide) (by decide) (fun q4 => ?_)
      refine st_widen (k2 := 2) (n2 := 12) (by decide) (by decide) ?_
      show ST g C [(a_t, .inr (5, [.ref a_used, .ref a_stock, .ref a_alts, .ref a_asm, .ref a_placed, .ref a_sp, .ref a_rt, .ref a_yl, .int partCount, .long tooling, .ref a_dr, .ref a_la, .ref a_be])), aJ g a_placed 8 u1, aJ g a_out 1 out] [(0, .ref a_t), (1, .int p0), (2, .long p1), (4, .ref a_out)] [.ref q4] 25 2 12
      refine st_astore X (lv2 := [(5, .ref q4), (0, .ref a_t), (1, .int p0), (2, .long p1), (4, .ref a_out)]) d_L_placed_25 (by decide) rfl ?_
      refine st_iconst X (v := 2) d_L_placed_27 (by decide) ?_
      exact st_iret X hr (u1, out) hw rfl (by decide) (by decide) d_L_placed_28
  obtain ⟨u1, hu9⟩ : ∃ z, z = u9 := ⟨_, rfl⟩
  subst hu9
  try dsimp only at hw
  refine st_widen (k2 := 2) (n2 := 12) (by decide) (by decide) ?_
  refine st_perm (ws2 := [(a_t, .inr (5, [.ref a_used, .ref a_stock, .ref a_alts, .ref a_asm, .ref a_placed, .ref a_sp, .ref a_rt, .ref a_yl, .int partCount, .long tooling, .ref a_dr, .ref a_la, .ref a_be])), aJ g a_placed 8 u1, aJ g a_out 1 out]) [1, 2, 0] rfl (by decide) ?_
  show ST g C [(a_t, .inr (5, [.ref a_used, .ref a_stock, .ref a_alts, .ref a_asm, .ref a_placed, .ref a_sp, .ref a_rt, .ref a_yl, .int partCount, .long tooling, .ref a_dr, .ref a_la, .ref a_be])), aJ g a_placed 8 u1, aJ g a_out 1 out] [(0, .ref a_t), (1, .int p0), (2, .long p1), (4, .ref a_out)] [.int r2, .int 0, .ref a_out] 9 2 12
  have J17 : ∀ (v5 : Int64), wp_L_placed_J17 out u1 Q v5 → ST g C [(a_t, .inr (5, [.ref a_used, .ref a_stock, .ref a_alts, .ref a_asm, .ref a_placed, .ref a_sp, .ref a_rt, .ref a_yl, .int partCount, .long tooling, .ref a_dr, .ref a_la, .ref a_be])), aJ g a_placed 8 u1, aJ g a_out 1 out] [(0, .ref a_t), (1, .int p0), (2, .long p1), (4, .ref a_out)] [.long v5, .int 0, .ref a_out] 17 2 12 := by
    intro v5 hw
    unfold wp_L_placed_J17 at hw
    obtain ⟨hb1, hw⟩ := hw
    obtain ⟨f6, hf6⟩ : ∃ z : Nat → Int64, z = vp_updL out (0 : Int32).toNatClampNeg v5 := ⟨_, rfl⟩
    replace hw := hw f6 hf6
    refine st_last X (ws2 := [(a_t, .inr (5, [.ref a_used, .ref a_stock, .ref a_alts, .ref a_asm, .ref a_placed, .ref a_sp, .ref a_rt, .ref a_yl, .int partCount, .long tooling, .ref a_dr, .ref a_la, .ref a_be])), aJ g a_placed 8 u1, aJ g a_out 1 f6]) 2 rfl hb1 (by rw [hf6]; rfl) d_L_placed_17 ?_
    refine st_goto X 29 d_L_placed_18 (by decide) ?_
    refine st_iconst X (v := 0) d_L_placed_29 (by decide) ?_
    exact st_iret X hr (u1, f6) hw rfl (by decide) (by decide) d_L_placed_30
  refine st_if_eq X 16 d_L_placed_9 (by decide) (fun hc => ?_) (fun hc => ?_)
  · replace hw := hw.1 hc
    refine st_lconst X (v := 0) d_L_placed_16 (by decide) ?_
    refine st_lv [0, 1, 2, 3] rfl ?_
    exact J17 0 hw
  · replace hw := hw.2 hc
    refine st_lconst X (v := 1) d_L_placed_12 (by decide) ?_
    refine st_goto X 17 d_L_placed_13 (by decide) ?_
    refine st_lv [0, 1, 2, 3] rfl ?_
    exact J17 1 hw

theorem h9_L_yieldOf : y_L_yieldOf.cls ≠ "java/lang/invoke/MethodHandle" ∧ y_L_yieldOf.cls ≠ "java/lang/invoke/VarHandle" ∧ (parseMethodDescriptor y_L_yieldOf.desc).map (fun d => d.parameters.length) = some 4 := by decide +kernel
def wp_L_yieldOf_J17 (out : Nat → Int64) (u1 : Int32) (u2 : Nat → Int64) (u3 : Nat → Int64) (Q : Int32 → Int32 → (Nat → Int64) → (Nat → Int64) → (Nat → Int64) → Prop) (v6 : Int64) : Prop :=
  vp_in (0 : Int32) 1 ∧
  ∀ f7 : Nat → Int64, f7 = vp_updL out (0 : Int32).toNatClampNeg v6 →
  Q 0 u1 u2 u3 f7
def wp_L_yieldOf (p0 : Int64) (p1 : Int64) (yl_count : Int32) (yl_aboves : Nat → Int64) (yl_belows : Nat → Int64) (out : Nat → Int64) (Q : Int32 → Int32 → (Nat → Int64) → (Nat → Int64) → (Nat → Int64) → Prop) : Prop :=
  wp_C_yieldOf p0 p1 yl_count yl_aboves yl_belows (fun r4 u1 u2 u3 =>
  ((r4 = 0) → wp_L_yieldOf_J17 out u1 u2 u3 Q 0) ∧
  ((¬ r4 = 0) → wp_L_yieldOf_J17 out u1 u2 u3 Q 1)) (fun E9 u1 u2 u3 => (E9 = eA → Q 1 u1 u2 u3 out) ∧ (E9 = eA))
set_option maxHeartbeats 4000000 in
set_option maxRecDepth 100000 in
theorem k_L_yieldOf (g : GX) (hg : g.1.stackTraces = false) (a_t : Nat) (p0 : Int64) (p1 : Int64) (a_out : Nat) (a_used : Nat) (a_stock : Nat) (a_alts : Nat) (a_asm : Nat) (a_placed : Nat) (a_sp : Nat) (a_rt : Nat) (a_yl : Nat) (partCount : Int32) (tooling : Int64) (a_dr : Nat) (a_la : Nat) (a_be : Nat) (a_yl_aboves : Nat) (a_yl_belows : Nat) (yl_count : Int32) (yl_aboves : Nat → Int64) (yl_belows : Nat → Int64) (out : Nat → Int64) (Q : Int32 → Int32 → (Nat → Int64) → (Nat → Int64) → (Nat → Int64) → Prop) (hw : wp_L_yieldOf p0 p1 yl_count yl_aboves yl_belows out Q) : CTW g y_L_yieldOf c_L_yieldOf 7 (some .int) [(0, 18, 21, 15)] ({ frames := 9, cells := 3, slots := 18, locals := 154 } : Room) [.ref a_t, .long p0, .long p1, .ref a_out] [(a_t, .inr (5, [.ref a_used, .ref a_stock, .ref a_alts, .ref a_asm, .ref a_placed, .ref a_sp, .ref a_rt, .ref a_yl, .int partCount, .long tooling, .ref a_dr, .ref a_la, .ref a_be])), (a_yl, .inr (4, [.ref a_yl_aboves, .ref a_yl_belows, .int yl_count])), aJ g a_yl_aboves 8 yl_aboves, aJ g a_yl_belows 8 yl_belows, aJ g a_out 1 out] (QI g [(a_t, .inr (5, [.ref a_used, .ref a_stock, .ref a_alts, .ref a_asm, .ref a_placed, .ref a_sp, .ref a_rt, .ref a_yl, .int partCount, .long tooling, .ref a_dr, .ref a_la, .ref a_be])), (a_yl, .inr (4, [.ref a_yl_aboves, .ref a_yl_belows, .int yl_count])), aJ g a_yl_aboves 8 yl_aboves, aJ g a_yl_belows 8 yl_belows, aJ g a_out 1 out] (fun u : Int32 × (Nat → Int64) × (Nat → Int64) × (Nat → Int64) => [(a_t, .inr (5, [.ref a_used, .ref a_stock, .ref a_alts, .ref a_asm, .ref a_placed, .ref a_sp, .ref a_rt, .ref a_yl, .int partCount, .long tooling, .ref a_dr, .ref a_la, .ref a_be])), (a_yl, .inr (4, [.ref a_yl_aboves, .ref a_yl_belows, .int u.1])), aJ g a_yl_aboves 8 u.2.1, aJ g a_yl_belows 8 u.2.2.1, aJ g a_out 1 u.2.2.2]) (fun r u => Q r u.1 u.2.1 u.2.2.1 u.2.2.2)) := by
  refine ctw_of hg (by decide) (Nat.le_of_ble_eq_true rfl) (fun sz C X hr htab => ?_)
  unfold wp_L_yieldOf at hw
  show ST g C [(a_t, .inr (5, [.ref a_used, .ref a_stock, .ref a_alts, .ref a_asm, .ref a_placed, .ref a_sp, .ref a_rt, .ref a_yl, .int partCount, .long tooling, .ref a_dr, .ref a_la, .ref a_be])), (a_yl, .inr (4, [.ref a_yl_aboves, .ref a_yl_belows, .int yl_count])), aJ g a_yl_aboves 8 yl_aboves, aJ g a_yl_belows 8 yl_belows, aJ g a_out 1 out] [(0, .ref a_t), (1, .long p0), (3, .long p1), (5, .ref a_out)] [] 0 0 0
  refine st_aload X 3 d_L_yieldOf_0 rfl ?_
  refine st_iconst X (v := 0) d_L_yieldOf_2 (by decide) ?_
  refine st_aload_n X 0 d_L_yieldOf_3 rfl rfl ?_
  refine st_lload_n X 1 d_L_yieldOf_4 rfl rfl ?_
  refine st_lload_n X 2 d_L_yieldOf_5 rfl rfl ?_
  have hR := rn_VX (pc := 6) (k := 0) (n := 0) (As := [.long p0, .long p1]) (rest := [.int 0, .ref a_out]) X (k_C_yieldOf g hg a_t p0 p1 a_used a_stock a_alts a_asm a_placed a_sp a_rt a_yl partCount tooling a_dr a_la a_be a_yl_aboves a_yl_belows yl_count yl_aboves yl_belows _ _ hw) (q0 := 0) rfl rfl wm_L_31 wi_C_yieldOf wl_C_yieldOf wz_C wc_C_yieldOf h9_C_yieldOf ⟨by decide, by decide⟩ (Nat.le_of_ble_eq_true rfl) ⟨by decide, by decide⟩ d_L_yieldOf_6
  refine st_xcalli X hR [0, 1, 2, 3] [4] (wr := [aJ g a_out 1 out]) rfl rfl (by decide) (by decide) (by decide) (fun E9 u9 hw => ?_) (fun r4 u9 hw => ?_)
  · skip
    obtain ⟨u1, u2, u3⟩ := u9
    try dsimp only at hw
    refine stx_perm (ws2 := [(a_t, .inr (5, [.ref a_used, .ref a_stock, .ref a_alts, .ref a_asm, .ref a_placed, .ref a_sp, .ref a_rt, .ref a_yl, .int partCount, .long tooling, .ref a_dr, .ref a_la, .ref a_be])), (a_yl, .inr (4, [.ref a_yl_aboves, .ref a_yl_belows, .int u1])), aJ g a_yl_aboves 8 u2, aJ g a_yl_belows 8 u3, aJ g a_out 1 out]) [1, 2, 3, 4, 0] rfl (by decide) ?_
    obtain rfl := hw.2
    · replace hw := hw.1 rfl
      refine stx_catch0 X htab wk_L_15 wq_eA (by decide) (by decide) (fun q5 => ?_)
      refine st_widen (k2 := 3) (n2 := 18) (by decide) (by decide) ?_
      show ST g C [(a_t, .inr (5, [.ref a_used, .ref a_stock, .ref a_alts, .ref a_asm, .ref a_placed, .ref a_sp, .ref a_rt, .ref a_yl, .int partCount, .long tooling, .ref a_dr, .ref a_la, .ref a_be])), (a_yl, .inr (4, [.ref a_yl_aboves, .ref a_yl_belows, .int u1])), aJ g a_yl_aboves 8 u2, aJ g a_yl_belows 8 u3, aJ g a_out 1 out] [(0, .ref a_t), (1, .long p0), (3, .long p1), (5, .ref a_out)] [.ref q5] 21 3 18
      refine st_astore X (lv2 := [(6, .ref q5), (0, .ref a_t), (1, .long p0), (3, .long p1), (5, .ref a_out)]) d_L_yieldOf_21 (by decide) rfl ?_
      refine st_iconst X (v := 1) d_L_yieldOf_23 (by decide) ?_
      exact st_iret X hr (u1, u2, u3, out) hw rfl (by decide) (by decide) d_L_yieldOf_24
  obtain ⟨u1, u2, u3⟩ := u9
  try dsimp only at hw
  refine st_widen (k2 := 3) (n2 := 18) (by decide) (by decide) ?_
  refine st_perm (ws2 := [(a_t, .inr (5, [.ref a_used, .ref a_stock, .ref a_alts, .ref a_asm, .ref a_placed, .ref a_sp, .ref a_rt, .ref a_yl, .int partCount, .long tooling, .ref a_dr, .ref a_la, .ref a_be])), (a_yl, .inr (4, [.ref a_yl_aboves, .ref a_yl_belows, .int u1])), aJ g a_yl_aboves 8 u2, aJ g a_yl_belows 8 u3, aJ g a_out 1 out]) [1, 2, 3, 4, 0] rfl (by decide) ?_
  show ST g C [(a_t, .inr (5, [.ref a_used, .ref a_stock, .ref a_alts, .ref a_asm, .ref a_placed, .ref a_sp, .ref a_rt, .ref a_yl, .int partCount, .long tooling, .ref a_dr, .ref a_la, .ref a_be])), (a_yl, .inr (4, [.ref a_yl_aboves, .ref a_yl_belows, .int u1])), aJ g a_yl_aboves 8 u2, aJ g a_yl_belows 8 u3, aJ g a_out 1 out] [(0, .ref a_t), (1, .long p0), (3, .long p1), (5, .ref a_out)] [.int r4, .int 0, .ref a_out] 9 3 18
  have J17 : ∀ (v6 : Int64), wp_L_yieldOf_J17 out u1 u2 u3 Q v6 → ST g C [(a_t, .inr (5, [.ref a_used, .ref a_stock, .ref a_alts, .ref a_asm, .ref a_placed, .ref a_sp, .ref a_rt, .ref a_yl, .int partCount, .long tooling, .ref a_dr, .ref a_la, .ref a_be])), (a_yl, .inr (4, [.ref a_yl_aboves, .ref a_yl_belows, .int u1])), aJ g a_yl_aboves 8 u2, aJ g a_yl_belows 8 u3, aJ g a_out 1 out] [(0, .ref a_t), (1, .long p0), (3, .long p1), (5, .ref a_out)] [.long v6, .int 0, .ref a_out] 17 3 18 := by
    intro v6 hw
    unfold wp_L_yieldOf_J17 at hw
    obtain ⟨hb1, hw⟩ := hw
    obtain ⟨f7, hf7⟩ : ∃ z : Nat → Int64, z = vp_updL out (0 : Int32).toNatClampNeg v6 := ⟨_, rfl⟩
    replace hw := hw f7 hf7
    refine st_last X (ws2 := [(a_t, .inr (5, [.ref a_used, .ref a_stock, .ref a_alts, .ref a_asm, .ref a_placed, .ref a_sp, .ref a_rt, .ref a_yl, .int partCount, .long tooling, .ref a_dr, .ref a_la, .ref a_be])), (a_yl, .inr (4, [.ref a_yl_aboves, .ref a_yl_belows, .int u1])), aJ g a_yl_aboves 8 u2, aJ g a_yl_belows 8 u3, aJ g a_out 1 f7]) 4 rfl hb1 (by rw [hf7]; rfl) d_L_yieldOf_17 ?_
    refine st_goto X 25 d_L_yieldOf_18 (by decide) ?_
    refine st_iconst X (v := 0) d_L_yieldOf_25 (by decide) ?_
    exact st_iret X hr (u1, u2, u3, f7) hw rfl (by decide) (by decide) d_L_yieldOf_26
  refine st_if_eq X 16 d_L_yieldOf_9 (by decide) (fun hc => ?_) (fun hc => ?_)
  · replace hw := hw.1 hc
    refine st_lconst X (v := 0) d_L_yieldOf_16 (by decide) ?_
    refine st_lv [0, 1, 2, 3] rfl ?_
    exact J17 0 hw
  · replace hw := hw.2 hc
    refine st_lconst X (v := 1) d_L_yieldOf_12 (by decide) ?_
    refine st_goto X 17 d_L_yieldOf_13 (by decide) ?_
    refine st_lv [0, 1, 2, 3] rfl ?_
    exact J17 1 hw

theorem h9_L_currency : y_L_currency.cls ≠ "java/lang/invoke/MethodHandle" ∧ y_L_currency.cls ≠ "java/lang/invoke/VarHandle" ∧ (parseMethodDescriptor y_L_currency.desc).map (fun d => d.parameters.length) = some 6 := by decide +kernel
def wp_L_currency_J21 (out : Nat → Int64) (u1 : Nat → Int64) (u2 : Nat → Int32) (u3 : Nat → Int64) (u4 : Nat → Int64) (Q : Int32 → (Nat → Int64) → (Nat → Int32) → (Nat → Int64) → (Nat → Int64) → (Nat → Int64) → Prop) (v8 : Int64) : Prop :=
  vp_in (0 : Int32) 1 ∧
  ∀ f9 : Nat → Int64, f9 = vp_updL out (0 : Int32).toNatClampNeg v8 →
  Q 0 u1 u2 u3 u4 f9
def wp_L_currency (p0 : Int32) (p1 : Int64) (p2 : Int64) (p3 : Int64) (rt_days_keys : Nat → Int64) (rt_days_sizes : Nat → Int32) (rt_aboves : Nat → Int64) (rt_belows : Nat → Int64) (out : Nat → Int64) (Q : Int32 → (Nat → Int64) → (Nat → Int32) → (Nat → Int64) → (Nat → Int64) → (Nat → Int64) → Prop) : Prop :=
  wp_C_currency p0 p1 p2 p3 rt_days_keys rt_days_sizes rt_aboves rt_belows (fun r5 u1 u2 u3 u4 =>
  ((r5 = 0) → wp_L_currency_J21 out u1 u2 u3 u4 Q 0) ∧
  ((¬ r5 = 0) → wp_L_currency_J21 out u1 u2 u3 u4 Q 1)) (fun E9 u1 u2 u3 u4 => (E9 = eI → Q 1 u1 u2 u3 u4 out) ∧ (E9 = eA → Q 2 u1 u2 u3 u4 out) ∧ (E9 = eI ∨ E9 = eA))
set_option maxHeartbeats 4000000 in
set_option maxRecDepth 100000 in
theorem k_L_currency (g : GX) (hg : g.1.stackTraces = false) (a_t : Nat) (p0 : Int32) (p1 : Int64) (p2 : Int64) (p3 : Int64) (a_out : Nat) (a_used : Nat) (a_stock : Nat) (a_alts : Nat) (a_asm : Nat) (a_placed : Nat) (a_sp : Nat) (a_rt : Nat) (a_yl : Nat) (partCount : Int32) (tooling : Int64) (a_dr : Nat) (a_la : Nat) (a_be : Nat) (a_rt_days : Nat) (a_rt_aboves : Nat) (a_rt_belows : Nat) (a_rt_aboveNow : Nat) (a_rt_belowNow : Nat) (a_rt_days_keys : Nat) (a_rt_days_sizes : Nat) (rt_days_keys : Nat → Int64) (rt_days_sizes : Nat → Int32) (rt_aboves : Nat → Int64) (rt_belows : Nat → Int64) (out : Nat → Int64) (Q : Int32 → (Nat → Int64) → (Nat → Int32) → (Nat → Int64) → (Nat → Int64) → (Nat → Int64) → Prop) (hw : wp_L_currency p0 p1 p2 p3 rt_days_keys rt_days_sizes rt_aboves rt_belows out Q) : CTW g y_L_currency c_L_currency 10 (some .int) [(0, 22, 25, 13), (0, 22, 29, 15)] ({ frames := 9, cells := 3, slots := 18, locals := 157 } : Room) [.ref a_t, .int p0, .long p1, .long p2, .long p3, .ref a_out] [(a_t, .inr (5, [.ref a_used, .ref a_stock, .ref a_alts, .ref a_asm, .ref a_placed, .ref a_sp, .ref a_rt, .ref a_yl, .int partCount, .long tooling, .ref a_dr, .ref a_la, .ref a_be])), (a_rt, .inr (2, [.ref a_rt_days, .ref a_rt_aboves, .ref a_rt_belows, .ref a_rt_aboveNow, .ref a_rt_belowNow])), (a_rt_days, .inr (0, [.ref a_rt_days_keys, .ref a_rt_days_sizes])), aJ g a_rt_days_keys 48 rt_days_keys, aI g a_rt_days_sizes 8 rt_days_sizes, aJ g a_rt_aboves 48 rt_aboves, aJ g a_rt_belows 48 rt_belows, aJ g a_out 1 out] (QI g [(a_t, .inr (5, [.ref a_used, .ref a_stock, .ref a_alts, .ref a_asm, .ref a_placed, .ref a_sp, .ref a_rt, .ref a_yl, .int partCount, .long tooling, .ref a_dr, .ref a_la, .ref a_be])), (a_rt, .inr (2, [.ref a_rt_days, .ref a_rt_aboves, .ref a_rt_belows, .ref a_rt_aboveNow, .ref a_rt_belowNow])), (a_rt_days, .inr (0, [.ref a_rt_days_keys, .ref a_rt_days_sizes])), aJ g a_rt_days_keys 48 rt_days_keys, aI g a_rt_days_sizes 8 rt_days_sizes, aJ g a_rt_aboves 48 rt_aboves, aJ g a_rt_belows 48 rt_belows, aJ g a_out 1 out] (fun u : (Nat → Int64) × (Nat → Int32) × (Nat → Int64) × (Nat → Int64) × (Nat → Int64) => [(a_t, .inr (5, [.ref a_used, .ref a_stock, .ref a_alts, .ref a_asm, .ref a_placed, .ref a_sp, .ref a_rt, .ref a_yl, .int partCount, .long tooling, .ref a_dr, .ref a_la, .ref a_be])), (a_rt, .inr (2, [.ref a_rt_days, .ref a_rt_aboves, .ref a_rt_belows, .ref a_rt_aboveNow, .ref a_rt_belowNow])), (a_rt_days, .inr (0, [.ref a_rt_days_keys, .ref a_rt_days_sizes])), aJ g a_rt_days_keys 48 u.1, aI g a_rt_days_sizes 8 u.2.1, aJ g a_rt_aboves 48 u.2.2.1, aJ g a_rt_belows 48 u.2.2.2.1, aJ g a_out 1 u.2.2.2.2]) (fun r u => Q r u.1 u.2.1 u.2.2.1 u.2.2.2.1 u.2.2.2.2)) := by
  refine ctw_of hg (by decide) (Nat.le_of_ble_eq_true rfl) (fun sz C X hr htab => ?_)
  unfold wp_L_currency at hw
  show ST g C [(a_t, .inr (5, [.ref a_used, .ref a_stock, .ref a_alts, .ref a_asm, .ref a_placed, .ref a_sp, .ref a_rt, .ref a_yl, .int partCount, .long tooling, .ref a_dr, .ref a_la, .ref a_be])), (a_rt, .inr (2, [.ref a_rt_days, .ref a_rt_aboves, .ref a_rt_belows, .ref a_rt_aboveNow, .ref a_rt_belowNow])), (a_rt_days, .inr (0, [.ref a_rt_days_keys, .ref a_rt_days_sizes])), aJ g a_rt_days_keys 48 rt_days_keys, aI g a_rt_days_sizes 8 rt_days_sizes, aJ g a_rt_aboves 48 rt_aboves, aJ g a_rt_belows 48 rt_belows, aJ g a_out 1 out] [(0, .ref a_t), (1, .int p0), (2, .long p1), (4, .long p2), (6, .long p3), (8, .ref a_out)] [] 0 0 0
  refine st_aload X 5 d_L_currency_0 rfl ?_
  refine st_iconst X (v := 0) d_L_currency_2 (by decide) ?_
  refine st_aload_n X 0 d_L_currency_3 rfl rfl ?_
  refine st_iload_n X 1 d_L_currency_4 rfl rfl ?_
  refine st_lload_n X 2 d_L_currency_5 rfl rfl ?_
  refine st_lload X 3 d_L_currency_6 rfl ?_
  refine st_lload X 4 d_L_currency_8 rfl ?_
  have hR := rn_VX (pc := 10) (k := 0) (n := 0) (As := [.int p0, .long p1, .long p2, .long p3]) (rest := [.int 0, .ref a_out]) X (k_C_currency g hg a_t p0 p1 p2 p3 a_used a_stock a_alts a_asm a_placed a_sp a_rt a_yl partCount tooling a_dr a_la a_be a_rt_days a_rt_aboves a_rt_belows a_rt_aboveNow a_rt_belowNow a_rt_days_keys a_rt_days_sizes rt_days_keys rt_days_sizes rt_aboves rt_belows _ _ hw) (q0 := 0) rfl rfl wm_L_35 wi_C_currency wl_C_currency wz_C wc_C_currency h9_C_currency ⟨by decide, by decide⟩ (Nat.le_of_ble_eq_true rfl) ⟨by decide, by decide⟩ d_L_currency_10
  refine st_xcalli X hR [0, 1, 2, 3, 4, 5, 6] [7] (wr := [aJ g a_out 1 out]) rfl rfl (by decide) (by decide) (by decide) (fun E9 u9 hw => ?_) (fun r5 u9 hw => ?_)
  · skip
    obtain ⟨u1, u2, u3, u4⟩ := u9
    try dsimp only at hw
    refine stx_perm (ws2 := [(a_t, .inr (5, [.ref a_used, .ref a_stock, .ref a_alts, .ref a_asm, .ref a_placed, .ref a_sp, .ref a_rt, .ref a_yl, .int partCount, .long tooling, .ref a_dr, .ref a_la, .ref a_be])), (a_rt, .inr (2, [.ref a_rt_days, .ref a_rt_aboves, .ref a_rt_belows, .ref a_rt_aboveNow, .ref a_rt_belowNow])), (a_rt_days, .inr (0, [.ref a_rt_days_keys, .ref a_rt_days_sizes])), aJ g a_rt_days_keys 48 u1, aI g a_rt_days_sizes 8 u2, aJ g a_rt_aboves 48 u3, aJ g a_rt_belows 48 u4, aJ g a_out 1 out]) [1, 2, 3, 4, 5, 6, 7, 0] rfl (by decide) ?_
    rcases hw.2.2 with rfl | rfl
    · replace hw := hw.1 rfl
      refine stx_catch0 X htab wk_L_13 wq_eI (by decide) (by decide) (fun q6 => ?_)
      refine st_widen (k2 := 3) (n2 := 18) (by decide) (by decide) ?_
      show ST g C [(a_t, .inr (5, [.ref a_used, .ref a_stock, .ref a_alts, .ref a_asm, .ref a_placed, .ref a_sp, .ref a_rt, .ref a_yl, .int partCount, .long tooling, .ref a_dr, .ref a_la, .ref a_be])), (a_rt, .inr (2, [.ref a_rt_days, .ref a_rt_aboves, .ref a_rt_belows, .ref a_rt_aboveNow, .ref a_rt_belowNow])), (a_rt_days, .inr (0, [.ref a_rt_days_keys, .ref a_rt_days_sizes])), aJ g a_rt_days_keys 48 u1, aI g a_rt_days_sizes 8 u2, aJ g a_rt_aboves 48 u3, aJ g a_rt_belows 48 u4, aJ g a_out 1 out] [(0, .ref a_t), (1, .int p0), (2, .long p1), (4, .long p2), (6, .long p3), (8, .ref a_out)] [.ref q6] 25 3 18
      refine st_astore X (lv2 := [(9, .ref q6), (0, .ref a_t), (1, .int p0), (2, .long p1), (4, .long p2), (6, .long p3), (8, .ref a_out)]) d_L_currency_25 (by decide) rfl ?_
      refine st_iconst X (v := 1) d_L_currency_27 (by decide) ?_
      exact st_iret X hr (u1, u2, u3, u4, out) hw rfl (by decide) (by decide) d_L_currency_28
    · replace hw := hw.2.1 rfl
      refine stx_catch1 X htab wk_L_13 (fun U h => h.2.2.2.2) (by decide) wk_L_15 wq_eA (by decide) (by decide) (fun q7 => ?_)
      refine st_widen (k2 := 3) (n2 := 18) (by decide) (by decide) ?_
      show ST g C [(a_t, .inr (5, [.ref a_used, .ref a_stock, .ref a_alts, .ref a_asm, .ref a_placed, .ref a_sp, .ref a_rt, .ref a_yl, .int partCount, .long tooling, .ref a_dr, .ref a_la, .ref a_be])), (a_rt, .inr (2, [.ref a_rt_days, .ref a_rt_aboves, .ref a_rt_belows, .ref a_rt_aboveNow, .ref a_rt_belowNow])), (a_rt_days, .inr (0, [.ref a_rt_days_keys, .ref a_rt_days_sizes])), aJ g a_rt_days_keys 48 u1, aI g a_rt_days_sizes 8 u2, aJ g a_rt_aboves 48 u3, aJ g a_rt_belows 48 u4, aJ g a_out 1 out] [(0, .ref a_t), (1, .int p0), (2, .long p1), (4, .long p2), (6, .long p3), (8, .ref a_out)] [.ref q7] 29 3 18
      refine st_astore X (lv2 := [(9, .ref q7), (0, .ref a_t), (1, .int p0), (2, .long p1), (4, .long p2), (6, .long p3), (8, .ref a_out)]) d_L_currency_29 (by decide) rfl ?_
      refine st_iconst X (v := 2) d_L_currency_31 (by decide) ?_
      exact st_iret X hr (u1, u2, u3, u4, out) hw rfl (by decide) (by decide) d_L_currency_32
  obtain ⟨u1, u2, u3, u4⟩ := u9
  try dsimp only at hw
  refine st_widen (k2 := 3) (n2 := 18) (by decide) (by decide) ?_
  refine st_perm (ws2 := [(a_t, .inr (5, [.ref a_used, .ref a_stock, .ref a_alts, .ref a_asm, .ref a_placed, .ref a_sp, .ref a_rt, .ref a_yl, .int partCount, .long tooling, .ref a_dr, .ref a_la, .ref a_be])), (a_rt, .inr (2, [.ref a_rt_days, .ref a_rt_aboves, .ref a_rt_belows, .ref a_rt_aboveNow, .ref a_rt_belowNow])), (a_rt_days, .inr (0, [.ref a_rt_days_keys, .ref a_rt_days_sizes])), aJ g a_rt_days_keys 48 u1, aI g a_rt_days_sizes 8 u2, aJ g a_rt_aboves 48 u3, aJ g a_rt_belows 48 u4, aJ g a_out 1 out]) [1, 2, 3, 4, 5, 6, 7, 0] rfl (by decide) ?_
  show ST g C [(a_t, .inr (5, [.ref a_used, .ref a_stock, .ref a_alts, .ref a_asm, .ref a_placed, .ref a_sp, .ref a_rt, .ref a_yl, .int partCount, .long tooling, .ref a_dr, .ref a_la, .ref a_be])), (a_rt, .inr (2, [.ref a_rt_days, .ref a_rt_aboves, .ref a_rt_belows, .ref a_rt_aboveNow, .ref a_rt_belowNow])), (a_rt_days, .inr (0, [.ref a_rt_days_keys, .ref a_rt_days_sizes])), aJ g a_rt_days_keys 48 u1, aI g a_rt_days_sizes 8 u2, aJ g a_rt_aboves 48 u3, aJ g a_rt_belows 48 u4, aJ g a_out 1 out] [(0, .ref a_t), (1, .int p0), (2, .long p1), (4, .long p2), (6, .long p3), (8, .ref a_out)] [.int r5, .int 0, .ref a_out] 13 3 18
  have J21 : ∀ (v8 : Int64), wp_L_currency_J21 out u1 u2 u3 u4 Q v8 → ST g C [(a_t, .inr (5, [.ref a_used, .ref a_stock, .ref a_alts, .ref a_asm, .ref a_placed, .ref a_sp, .ref a_rt, .ref a_yl, .int partCount, .long tooling, .ref a_dr, .ref a_la, .ref a_be])), (a_rt, .inr (2, [.ref a_rt_days, .ref a_rt_aboves, .ref a_rt_belows, .ref a_rt_aboveNow, .ref a_rt_belowNow])), (a_rt_days, .inr (0, [.ref a_rt_days_keys, .ref a_rt_days_sizes])), aJ g a_rt_days_keys 48 u1, aI g a_rt_days_sizes 8 u2, aJ g a_rt_aboves 48 u3, aJ g a_rt_belows 48 u4, aJ g a_out 1 out] [(0, .ref a_t), (1, .int p0), (2, .long p1), (4, .long p2), (6, .long p3), (8, .ref a_out)] [.long v8, .int 0, .ref a_out] 21 3 18 := by
    intro v8 hw
    unfold wp_L_currency_J21 at hw
    obtain ⟨hb1, hw⟩ := hw
    obtain ⟨f9, hf9⟩ : ∃ z : Nat → Int64, z = vp_updL out (0 : Int32).toNatClampNeg v8 := ⟨_, rfl⟩
    replace hw := hw f9 hf9
    refine st_last X (ws2 := [(a_t, .inr (5, [.ref a_used, .ref a_stock, .ref a_alts, .ref a_asm, .ref a_placed, .ref a_sp, .ref a_rt, .ref a_yl, .int partCount, .long tooling, .ref a_dr, .ref a_la, .ref a_be])), (a_rt, .inr (2, [.ref a_rt_days, .ref a_rt_aboves, .ref a_rt_belows, .ref a_rt_aboveNow, .ref a_rt_belowNow])), (a_rt_days, .inr (0, [.ref a_rt_days_keys, .ref a_rt_days_sizes])), aJ g a_rt_days_keys 48 u1, aI g a_rt_days_sizes 8 u2, aJ g a_rt_aboves 48 u3, aJ g a_rt_belows 48 u4, aJ g a_out 1 f9]) 7 rfl hb1 (by rw [hf9]; rfl) d_L_currency_21 ?_
    refine st_goto X 33 d_L_currency_22 (by decide) ?_
    refine st_iconst X (v := 0) d_L_currency_33 (by decide) ?_
    exact st_iret X hr (u1, u2, u3, u4, f9) hw rfl (by decide) (by decide) d_L_currency_34
  refine st_if_eq X 20 d_L_currency_13 (by decide) (fun hc => ?_) (fun hc => ?_)
  · replace hw := hw.1 hc
    refine st_lconst X (v := 0) d_L_currency_20 (by decide) ?_
    refine st_lv [0, 1, 2, 3, 4, 5] rfl ?_
    exact J21 0 hw
  · replace hw := hw.2 hc
    refine st_lconst X (v := 1) d_L_currency_16 (by decide) ?_
    refine st_goto X 21 d_L_currency_17 (by decide) ?_
    refine st_lv [0, 1, 2, 3, 4, 5] rfl ?_
    exact J21 1 hw

theorem h9_L_tooling : y_L_tooling.cls ≠ "java/lang/invoke/MethodHandle" ∧ y_L_tooling.cls ≠ "java/lang/invoke/VarHandle" ∧ (parseMethodDescriptor y_L_tooling.desc).map (fun d => d.parameters.length) = some 3 := by decide +kernel
def wp_L_tooling_J15 (out : Nat → Int64) (u1 : Int64) (Q : Int32 → Int64 → (Nat → Int64) → Prop) (v4 : Int64) : Prop :=
  vp_in (0 : Int32) 1 ∧
  ∀ f5 : Nat → Int64, f5 = vp_updL out (0 : Int32).toNatClampNeg v4 →
  Q 0 u1 f5
def wp_L_tooling (p0 : Int64) (tooling : Int64) (out : Nat → Int64) (Q : Int32 → Int64 → (Nat → Int64) → Prop) : Prop :=
  wp_C_tooling p0 tooling (fun r2 u1 =>
  ((r2 = 0) → wp_L_tooling_J15 out u1 Q 0) ∧
  ((¬ r2 = 0) → wp_L_tooling_J15 out u1 Q 1)) (fun E9 u1 => (E9 = eA → Q 1 u1 out) ∧ (E9 = eA))
set_option maxHeartbeats 4000000 in
set_option maxRecDepth 100000 in
theorem k_L_tooling (g : GX) (hg : g.1.stackTraces = false) (a_t : Nat) (p0 : Int64) (a_out : Nat) (a_used : Nat) (a_stock : Nat) (a_alts : Nat) (a_asm : Nat) (a_placed : Nat) (a_sp : Nat) (a_rt : Nat) (a_yl : Nat) (partCount : Int32) (tooling : Int64) (a_dr : Nat) (a_la : Nat) (a_be : Nat) (out : Nat → Int64) (Q : Int32 → Int64 → (Nat → Int64) → Prop) (hw : wp_L_tooling p0 tooling out Q) : CTW g y_L_tooling c_L_tooling 5 (some .int) [(0, 16, 19, 15)] ({ frames := 8, cells := 1, slots := 6, locals := 130 } : Room) [.ref a_t, .long p0, .ref a_out] [(a_t, .inr (5, [.ref a_used, .ref a_stock, .ref a_alts, .ref a_asm, .ref a_placed, .ref a_sp, .ref a_rt, .ref a_yl, .int partCount, .long tooling, .ref a_dr, .ref a_la, .ref a_be])), aJ g a_out 1 out] (QI g [(a_t, .inr (5, [.ref a_used, .ref a_stock, .ref a_alts, .ref a_asm, .ref a_placed, .ref a_sp, .ref a_rt, .ref a_yl, .int partCount, .long tooling, .ref a_dr, .ref a_la, .ref a_be])), aJ g a_out 1 out] (fun u : Int64 × (Nat → Int64) => [(a_t, .inr (5, [.ref a_used, .ref a_stock, .ref a_alts, .ref a_asm, .ref a_placed, .ref a_sp, .ref a_rt, .ref a_yl, .int partCount, .long u.1, .ref a_dr, .ref a_la, .ref a_be])), aJ g a_out 1 u.2]) (fun r u => Q r u.1 u.2)) := by
  refine ctw_of hg (by decide) (Nat.le_of_ble_eq_true rfl) (fun sz C X hr htab => ?_)
  unfold wp_L_tooling at hw
  show ST g C [(a_t, .inr (5, [.ref a_used, .ref a_stock, .ref a_alts, .ref a_asm, .ref a_placed, .ref a_sp, .ref a_rt, .ref a_yl, .int partCount, .long tooling, .ref a_dr, .ref a_la, .ref a_be])), aJ g a_out 1 out] [(0, .ref a_t), (1, .long p0), (3, .ref a_out)] [] 0 0 0
  refine st_aload_n X 2 d_L_tooling_0 rfl rfl ?_
  refine st_iconst X (v := 0) d_L_tooling_1 (by decide) ?_
  refine st_aload_n X 0 d_L_tooling_2 rfl rfl ?_
  refine st_lload_n X 1 d_L_tooling_3 rfl rfl ?_
  have hR := rn_VX (pc := 4) (k := 0) (n := 0) (As := [.long p0]) (rest := [.int 0, .ref a_out]) X (k_C_tooling g hg a_t p0 a_used a_stock a_alts a_asm a_placed a_sp a_rt a_yl partCount tooling a_dr a_la a_be _ _ hw) (q0 := 0) rfl rfl wm_L_39 wi_C_tooling wl_C_tooling wz_C wc_C_tooling h9_C_tooling ⟨by decide, by decide⟩ (Nat.le_of_ble_eq_true rfl) ⟨by decide, by decide⟩ d_L_tooling_4
  refine st_xcalli X hR [0] [1] (wr := [aJ g a_out 1 out]) rfl rfl (by decide) (by decide) (by decide) (fun E9 u9 hw => ?_) (fun r2 u9 hw => ?_)
  · skip
    obtain ⟨u1, hu9⟩ : ∃ z, z = u9 := ⟨_, rfl⟩
    subst hu9
    try dsimp only at hw
    refine stx_perm (ws2 := [(a_t, .inr (5, [.ref a_used, .ref a_stock, .ref a_alts, .ref a_asm, .ref a_placed, .ref a_sp, .ref a_rt, .ref a_yl, .int partCount, .long u1, .ref a_dr, .ref a_la, .ref a_be])), aJ g a_out 1 out]) [1, 0] rfl (by decide) ?_
    obtain rfl := hw.2
    · replace hw := hw.1 rfl
      refine stx_catch0 X htab wk_L_15 wq_eA (by decide) (by decide) (fun q3 => ?_)
      refine st_widen (k2 := 1) (n2 := 6) (by decide) (by decide) ?_
      show ST g C [(a_t, .inr (5, [.ref a_used, .ref a_stock, .ref a_alts, .ref a_asm, .ref a_placed, .ref a_sp, .ref a_rt, .ref a_yl, .int partCount, .long u1, .ref a_dr, .ref a_la, .ref a_be])), aJ g a_out 1 out] [(0, .ref a_t), (1, .long p0), (3, .ref a_out)] [.ref q3] 19 1 6
      refine st_astore X (lv2 := [(4, .ref q3), (0, .ref a_t), (1, .long p0), (3, .ref a_out)]) d_L_tooling_19 (by decide) rfl ?_
      refine st_iconst X (v := 1) d_L_tooling_21 (by decide) ?_
      exact st_iret X hr (u1, out) hw rfl (by decide) (by decide) d_L_tooling_22
  obtain ⟨u1, hu9⟩ : ∃ z, z = u9 := ⟨_, rfl⟩
  subst hu9
  try dsimp only at hw
  refine st_widen (k2 := 1) (n2 := 6) (by decide) (by decide) ?_
  refine st_perm (ws2 := [(a_t, .inr (5, [.ref a_used, .ref a_stock, .ref a_alts, .ref a_asm, .ref a_placed, .ref a_sp, .ref a_rt, .ref a_yl, .int partCount, .long u1, .ref a_dr, .ref a_la, .ref a_be])), aJ g a_out 1 out]) [1, 0] rfl (by decide) ?_
  show ST g C [(a_t, .inr (5, [.ref a_used, .ref a_stock, .ref a_alts, .ref a_asm, .ref a_placed, .ref a_sp, .ref a_rt, .ref a_yl, .int partCount, .long u1, .ref a_dr, .ref a_la, .ref a_be])), aJ g a_out 1 out] [(0, .ref a_t), (1, .long p0), (3, .ref a_out)] [.int r2, .int 0, .ref a_out] 7 1 6
  have J15 : ∀ (v4 : Int64), wp_L_tooling_J15 out u1 Q v4 → ST g C [(a_t, .inr (5, [.ref a_used, .ref a_stock, .ref a_alts, .ref a_asm, .ref a_placed, .ref a_sp, .ref a_rt, .ref a_yl, .int partCount, .long u1, .ref a_dr, .ref a_la, .ref a_be])), aJ g a_out 1 out] [(0, .ref a_t), (1, .long p0), (3, .ref a_out)] [.long v4, .int 0, .ref a_out] 15 1 6 := by
    intro v4 hw
    unfold wp_L_tooling_J15 at hw
    obtain ⟨hb1, hw⟩ := hw
    obtain ⟨f5, hf5⟩ : ∃ z : Nat → Int64, z = vp_updL out (0 : Int32).toNatClampNeg v4 := ⟨_, rfl⟩
    replace hw := hw f5 hf5
    refine st_last X (ws2 := [(a_t, .inr (5, [.ref a_used, .ref a_stock, .ref a_alts, .ref a_asm, .ref a_placed, .ref a_sp, .ref a_rt, .ref a_yl, .int partCount, .long u1, .ref a_dr, .ref a_la, .ref a_be])), aJ g a_out 1 f5]) 1 rfl hb1 (by rw [hf5]; rfl) d_L_tooling_15 ?_
    refine st_goto X 23 d_L_tooling_16 (by decide) ?_
    refine st_iconst X (v := 0) d_L_tooling_23 (by decide) ?_
    exact st_iret X hr (u1, f5) hw rfl (by decide) (by decide) d_L_tooling_24
  refine st_if_eq X 14 d_L_tooling_7 (by decide) (fun hc => ?_) (fun hc => ?_)
  · replace hw := hw.1 hc
    refine st_lconst X (v := 0) d_L_tooling_14 (by decide) ?_
    refine st_lv [0, 1, 2] rfl ?_
    exact J15 0 hw
  · replace hw := hw.2 hc
    refine st_lconst X (v := 1) d_L_tooling_10 (by decide) ?_
    refine st_goto X 15 d_L_tooling_11 (by decide) ?_
    refine st_lv [0, 1, 2] rfl ?_
    exact J15 1 hw

theorem h9_L_stock : y_L_stock.cls ≠ "java/lang/invoke/MethodHandle" ∧ y_L_stock.cls ≠ "java/lang/invoke/VarHandle" ∧ (parseMethodDescriptor y_L_stock.desc).map (fun d => d.parameters.length) = some 4 := by decide +kernel
def wp_L_stock_J17 (out : Nat → Int64) (u1 : Nat → Int64) (Q : Int32 → (Nat → Int64) → (Nat → Int64) → Prop) (v5 : Int64) : Prop :=
  vp_in (0 : Int32) 1 ∧
  ∀ f6 : Nat → Int64, f6 = vp_updL out (0 : Int32).toNatClampNeg v5 →
  Q 0 u1 f6
def wp_L_stock (p0 : Int32) (p1 : Int64) (partCount : Int32) (stock : Nat → Int64) (out : Nat → Int64) (Q : Int32 → (Nat → Int64) → (Nat → Int64) → Prop) : Prop :=
  wp_C_stock p0 p1 partCount stock (fun r2 u1 =>
  ((r2 = 0) → wp_L_stock_J17 out u1 Q 0) ∧
  ((¬ r2 = 0) → wp_L_stock_J17 out u1 Q 1)) (fun E9 u1 => (E9 = eI → Q 1 u1 out) ∧ (E9 = eA → Q 2 u1 out) ∧ (E9 = eI ∨ E9 = eA))
set_option maxHeartbeats 4000000 in
set_option maxRecDepth 100000 in
theorem k_L_stock (g : GX) (hg : g.1.stackTraces = false) (a_t : Nat) (p0 : Int32) (p1 : Int64) (a_out : Nat) (a_used : Nat) (a_stock : Nat) (a_alts : Nat) (a_asm : Nat) (a_placed : Nat) (a_sp : Nat) (a_rt : Nat) (a_yl : Nat) (partCount : Int32) (tooling : Int64) (a_dr : Nat) (a_la : Nat) (a_be : Nat) (stock : Nat → Int64) (out : Nat → Int64) (Q : Int32 → (Nat → Int64) → (Nat → Int64) → Prop) (hw : wp_L_stock p0 p1 partCount stock out Q) : CTW g y_L_stock c_L_stock 6 (some .int) [(0, 18, 21, 13), (0, 18, 25, 15)] ({ frames := 8, cells := 2, slots := 12, locals := 130 } : Room) [.ref a_t, .int p0, .long p1, .ref a_out] [(a_t, .inr (5, [.ref a_used, .ref a_stock, .ref a_alts, .ref a_asm, .ref a_placed, .ref a_sp, .ref a_rt, .ref a_yl, .int partCount, .long tooling, .ref a_dr, .ref a_la, .ref a_be])), aJ g a_stock 30 stock, aJ g a_out 1 out] (QI g [(a_t, .inr (5, [.ref a_used, .ref a_stock, .ref a_alts, .ref a_asm, .ref a_placed, .ref a_sp, .ref a_rt, .ref a_yl, .int partCount, .long tooling, .ref a_dr, .ref a_la, .ref a_be])), aJ g a_stock 30 stock, aJ g a_out 1 out] (fun u : (Nat → Int64) × (Nat → Int64) => [(a_t, .inr (5, [.ref a_used, .ref a_stock, .ref a_alts, .ref a_asm, .ref a_placed, .ref a_sp, .ref a_rt, .ref a_yl, .int partCount, .long tooling, .ref a_dr, .ref a_la, .ref a_be])), aJ g a_stock 30 u.1, aJ g a_out 1 u.2]) (fun r u => Q r u.1 u.2)) := by
  refine ctw_of hg (by decide) (Nat.le_of_ble_eq_true rfl) (fun sz C X hr htab => ?_)
  unfold wp_L_stock at hw
  show ST g C [(a_t, .inr (5, [.ref a_used, .ref a_stock, .ref a_alts, .ref a_asm, .ref a_placed, .ref a_sp, .ref a_rt, .ref a_yl, .int partCount, .long tooling, .ref a_dr, .ref a_la, .ref a_be])), aJ g a_stock 30 stock, aJ g a_out 1 out] [(0, .ref a_t), (1, .int p0), (2, .long p1), (4, .ref a_out)] [] 0 0 0
  refine st_aload X 3 d_L_stock_0 rfl ?_
  refine st_iconst X (v := 0) d_L_stock_2 (by decide) ?_
  refine st_aload_n X 0 d_L_stock_3 rfl rfl ?_
  refine st_iload_n X 1 d_L_stock_4 rfl rfl ?_
  refine st_lload_n X 2 d_L_stock_5 rfl rfl ?_
  have hR := rn_VX (pc := 6) (k := 0) (n := 0) (As := [.int p0, .long p1]) (rest := [.int 0, .ref a_out]) X (k_C_stock g hg a_t p0 p1 a_used a_stock a_alts a_asm a_placed a_sp a_rt a_yl partCount tooling a_dr a_la a_be stock _ _ hw) (q0 := 0) rfl rfl wm_L_43 wi_C_stock wl_C_stock wz_C wc_C_stock h9_C_stock ⟨by decide, by decide⟩ (Nat.le_of_ble_eq_true rfl) ⟨by decide, by decide⟩ d_L_stock_6
  refine st_xcalli X hR [0, 1] [2] (wr := [aJ g a_out 1 out]) rfl rfl (by decide) (by decide) (by decide) (fun E9 u9 hw => ?_) (fun r2 u9 hw => ?_)
  · skip
    obtain ⟨u1, hu9⟩ : ∃ z, z = u9 := ⟨_, rfl⟩
    subst hu9
    try dsimp only at hw
    refine stx_perm (ws2 := [(a_t, .inr (5, [.ref a_used, .ref a_stock, .ref a_alts, .ref a_asm, .ref a_placed, .ref a_sp, .ref a_rt, .ref a_yl, .int partCount, .long tooling, .ref a_dr, .ref a_la, .ref a_be])), aJ g a_stock 30 u1, aJ g a_out 1 out]) [1, 2, 0] rfl (by decide) ?_
    rcases hw.2.2 with rfl | rfl
    · replace hw := hw.1 rfl
      refine stx_catch0 X htab wk_L_13 wq_eI (by decide) (by decide) (fun q3 => ?_)
      refine st_widen (k2 := 2) (n2 := 12) (by decide) (by decide) ?_
      show ST g C [(a_t, .inr (5, [.ref a_used, .ref a_stock, .ref a_alts, .ref a_asm, .ref a_placed, .ref a_sp, .ref a_rt, .ref a_yl, .int partCount, .long tooling, .ref a_dr, .ref a_la, .ref a_be])), aJ g a_stock 30 u1, aJ g a_out 1 out] [(0, .ref a_t), (1, .int p0), (2, .long p1), (4, .ref a_out)] [.ref q3] 21 2 12
      refine st_astore X (lv2 := [(5, .ref q3), (0, .ref a_t), (1, .int p0), (2, .long p1), (4, .ref a_out)]) d_L_stock_21 (by decide) rfl ?_
      refine st_iconst X (v := 1) d_L_stock_23 (by decide) ?_
      exact st_iret X hr (u1, out) hw rfl (by decide) (by decide) d_L_stock_24
    · replace hw := hw.2.1 rfl
      refine stx_catch1 X htab wk_L_13 (fun U h => h.2.2.2.2) (by decide) wk_L_15 wq_eA (by decide) (by decide) (fun q4 => ?_)
      refine st_widen (k2 := 2) (n2 := 12) (by decide) (by decide) ?_
      show ST g C [(a_t, .inr (5, [.ref a_used, .ref a_stock, .ref a_alts, .ref a_asm, .ref a_placed, .ref a_sp, .ref a_rt, .ref a_yl, .int partCount, .long tooling, .ref a_dr, .ref a_la, .ref a_be])), aJ g a_stock 30 u1, aJ g a_out 1 out] [(0, .ref a_t), (1, .int p0), (2, .long p1), (4, .ref a_out)] [.ref q4] 25 2 12
      refine st_astore X (lv2 := [(5, .ref q4), (0, .ref a_t), (1, .int p0), (2, .long p1), (4, .ref a_out)]) d_L_stock_25 (by decide) rfl ?_
      refine st_iconst X (v := 2) d_L_stock_27 (by decide) ?_
      exact st_iret X hr (u1, out) hw rfl (by decide) (by decide) d_L_stock_28
  obtain ⟨u1, hu9⟩ : ∃ z, z = u9 := ⟨_, rfl⟩
  subst hu9
  try dsimp only at hw
  refine st_widen (k2 := 2) (n2 := 12) (by decide) (by decide) ?_
  refine st_perm (ws2 := [(a_t, .inr (5, [.ref a_used, .ref a_stock, .ref a_alts, .ref a_asm, .ref a_placed, .ref a_sp, .ref a_rt, .ref a_yl, .int partCount, .long tooling, .ref a_dr, .ref a_la, .ref a_be])), aJ g a_stock 30 u1, aJ g a_out 1 out]) [1, 2, 0] rfl (by decide) ?_
  show ST g C [(a_t, .inr (5, [.ref a_used, .ref a_stock, .ref a_alts, .ref a_asm, .ref a_placed, .ref a_sp, .ref a_rt, .ref a_yl, .int partCount, .long tooling, .ref a_dr, .ref a_la, .ref a_be])), aJ g a_stock 30 u1, aJ g a_out 1 out] [(0, .ref a_t), (1, .int p0), (2, .long p1), (4, .ref a_out)] [.int r2, .int 0, .ref a_out] 9 2 12
  have J17 : ∀ (v5 : Int64), wp_L_stock_J17 out u1 Q v5 → ST g C [(a_t, .inr (5, [.ref a_used, .ref a_stock, .ref a_alts, .ref a_asm, .ref a_placed, .ref a_sp, .ref a_rt, .ref a_yl, .int partCount, .long tooling, .ref a_dr, .ref a_la, .ref a_be])), aJ g a_stock 30 u1, aJ g a_out 1 out] [(0, .ref a_t), (1, .int p0), (2, .long p1), (4, .ref a_out)] [.long v5, .int 0, .ref a_out] 17 2 12 := by
    intro v5 hw
    unfold wp_L_stock_J17 at hw
    obtain ⟨hb1, hw⟩ := hw
    obtain ⟨f6, hf6⟩ : ∃ z : Nat → Int64, z = vp_updL out (0 : Int32).toNatClampNeg v5 := ⟨_, rfl⟩
    replace hw := hw f6 hf6
    refine st_last X (ws2 := [(a_t, .inr (5, [.ref a_used, .ref a_stock, .ref a_alts, .ref a_asm, .ref a_placed, .ref a_sp, .ref a_rt, .ref a_yl, .int partCount, .long tooling, .ref a_dr, .ref a_la, .ref a_be])), aJ g a_stock 30 u1, aJ g a_out 1 f6]) 2 rfl hb1 (by rw [hf6]; rfl) d_L_stock_17 ?_
    refine st_goto X 29 d_L_stock_18 (by decide) ?_
    refine st_iconst X (v := 0) d_L_stock_29 (by decide) ?_
    exact st_iret X hr (u1, f6) hw rfl (by decide) (by decide) d_L_stock_30
  refine st_if_eq X 16 d_L_stock_9 (by decide) (fun hc => ?_) (fun hc => ?_)
  · replace hw := hw.1 hc
    refine st_lconst X (v := 0) d_L_stock_16 (by decide) ?_
    refine st_lv [0, 1, 2, 3] rfl ?_
    exact J17 0 hw
  · replace hw := hw.2 hc
    refine st_lconst X (v := 1) d_L_stock_12 (by decide) ?_
    refine st_goto X 17 d_L_stock_13 (by decide) ?_
    refine st_lv [0, 1, 2, 3] rfl ?_
    exact J17 1 hw

theorem h9_L_alternate : y_L_alternate.cls ≠ "java/lang/invoke/MethodHandle" ∧ y_L_alternate.cls ≠ "java/lang/invoke/VarHandle" ∧ (parseMethodDescriptor y_L_alternate.desc).map (fun d => d.parameters.length) = some 4 := by decide +kernel
def wp_L_alternate_J16 (out : Nat → Int64) (u1 : Nat → Int32) (Q : Int32 → (Nat → Int32) → (Nat → Int64) → Prop) (v4 : Int64) : Prop :=
  vp_in (0 : Int32) 1 ∧
  ∀ f5 : Nat → Int64, f5 = vp_updL out (0 : Int32).toNatClampNeg v4 →
  Q 0 u1 f5
def wp_L_alternate (p0 : Int32) (p1 : Int32) (partCount : Int32) (alts : Nat → Int32) (out : Nat → Int64) (Q : Int32 → (Nat → Int32) → (Nat → Int64) → Prop) : Prop :=
  wp_C_alternate p0 p1 partCount alts (fun r2 u1 =>
  ((r2 = 0) → wp_L_alternate_J16 out u1 Q 0) ∧
  ((¬ r2 = 0) → wp_L_alternate_J16 out u1 Q 1)) (fun E9 u1 => (E9 = eI → Q 1 u1 out) ∧ (E9 = eI))
set_option maxHeartbeats 4000000 in
set_option maxRecDepth 100000 in
theorem k_L_alternate (g : GX) (hg : g.1.stackTraces = false) (a_t : Nat) (p0 : Int32) (p1 : Int32) (a_out : Nat) (a_used : Nat) (a_stock : Nat) (a_alts : Nat) (a_asm : Nat) (a_placed : Nat) (a_sp : Nat) (a_rt : Nat) (a_yl : Nat) (partCount : Int32) (tooling : Int64) (a_dr : Nat) (a_la : Nat) (a_be : Nat) (alts : Nat → Int32) (out : Nat → Int64) (Q : Int32 → (Nat → Int32) → (Nat → Int64) → Prop) (hw : wp_L_alternate p0 p1 partCount alts out Q) : CTW g y_L_alternate c_L_alternate 5 (some .int) [(0, 17, 20, 13)] ({ frames := 8, cells := 2, slots := 12, locals := 125 } : Room) [.ref a_t, .int p0, .int p1, .ref a_out] [(a_t, .inr (5, [.ref a_used, .ref a_stock, .ref a_alts, .ref a_asm, .ref a_placed, .ref a_sp, .ref a_rt, .ref a_yl, .int partCount, .long tooling, .ref a_dr, .ref a_la, .ref a_be])), aI g a_alts 30 alts, aJ g a_out 1 out] (QI g [(a_t, .inr (5, [.ref a_used, .ref a_stock, .ref a_alts, .ref a_asm, .ref a_placed, .ref a_sp, .ref a_rt, .ref a_yl, .int partCount, .long tooling, .ref a_dr, .ref a_la, .ref a_be])), aI g a_alts 30 alts, aJ g a_out 1 out] (fun u : (Nat → Int32) × (Nat → Int64) => [(a_t, .inr (5, [.ref a_used, .ref a_stock, .ref a_alts, .ref a_asm, .ref a_placed, .ref a_sp, .ref a_rt, .ref a_yl, .int partCount, .long tooling, .ref a_dr, .ref a_la, .ref a_be])), aI g a_alts 30 u.1, aJ g a_out 1 u.2]) (fun r u => Q r u.1 u.2)) := by
  refine ctw_of hg (by decide) (Nat.le_of_ble_eq_true rfl) (fun sz C X hr htab => ?_)
  unfold wp_L_alternate at hw
  show ST g C [(a_t, .inr (5, [.ref a_used, .ref a_stock, .ref a_alts, .ref a_asm, .ref a_placed, .ref a_sp, .ref a_rt, .ref a_yl, .int partCount, .long tooling, .ref a_dr, .ref a_la, .ref a_be])), aI g a_alts 30 alts, aJ g a_out 1 out] [(0, .ref a_t), (1, .int p0), (2, .int p1), (3, .ref a_out)] [] 0 0 0
  refine st_aload_n X 3 d_L_alternate_0 rfl rfl ?_
  refine st_iconst X (v := 0) d_L_alternate_1 (by decide) ?_
  refine st_aload_n X 0 d_L_alternate_2 rfl rfl ?_
  refine st_iload_n X 1 d_L_alternate_3 rfl rfl ?_
  refine st_iload_n X 2 d_L_alternate_4 rfl rfl ?_
  have hR := rn_VX (pc := 5) (k := 0) (n := 0) (As := [.int p0, .int p1]) (rest := [.int 0, .ref a_out]) X (k_C_alternate g hg a_t p0 p1 a_used a_stock a_alts a_asm a_placed a_sp a_rt a_yl partCount tooling a_dr a_la a_be alts _ _ hw) (q0 := 0) rfl rfl wm_L_62 wi_C_alternate wl_C_alternate wz_C wc_C_alternate h9_C_alternate ⟨by decide, by decide⟩ (Nat.le_of_ble_eq_true rfl) ⟨by decide, by decide⟩ d_L_alternate_5
  refine st_xcalli X hR [0, 1] [2] (wr := [aJ g a_out 1 out]) rfl rfl (by decide) (by decide) (by decide) (fun E9 u9 hw => ?_) (fun r2 u9 hw => ?_)
  · skip
    obtain ⟨u1, hu9⟩ : ∃ z, z = u9 := ⟨_, rfl⟩
    subst hu9
    try dsimp only at hw
    refine stx_perm (ws2 := [(a_t, .inr (5, [.ref a_used, .ref a_stock, .ref a_alts, .ref a_asm, .ref a_placed, .ref a_sp, .ref a_rt, .ref a_yl, .int partCount, .long tooling, .ref a_dr, .ref a_la, .ref a_be])), aI g a_alts 30 u1, aJ g a_out 1 out]) [1, 2, 0] rfl (by decide) ?_
    obtain rfl := hw.2
    · replace hw := hw.1 rfl
      refine stx_catch0 X htab wk_L_13 wq_eI (by decide) (by decide) (fun q3 => ?_)
      refine st_widen (k2 := 2) (n2 := 12) (by decide) (by decide) ?_
      show ST g C [(a_t, .inr (5, [.ref a_used, .ref a_stock, .ref a_alts, .ref a_asm, .ref a_placed, .ref a_sp, .ref a_rt, .ref a_yl, .int partCount, .long tooling, .ref a_dr, .ref a_la, .ref a_be])), aI g a_alts 30 u1, aJ g a_out 1 out] [(0, .ref a_t), (1, .int p0), (2, .int p1), (3, .ref a_out)] [.ref q3] 20 2 12
      refine st_astore X (lv2 := [(4, .ref q3), (0, .ref a_t), (1, .int p0), (2, .int p1), (3, .ref a_out)]) d_L_alternate_20 (by decide) rfl ?_
      refine st_iconst X (v := 1) d_L_alternate_22 (by decide) ?_
      exact st_iret X hr (u1, out) hw rfl (by decide) (by decide) d_L_alternate_23
  obtain ⟨u1, hu9⟩ : ∃ z, z = u9 := ⟨_, rfl⟩
  subst hu9
  try dsimp only at hw
  refine st_widen (k2 := 2) (n2 := 12) (by decide) (by decide) ?_
  refine st_perm (ws2 := [(a_t, .inr (5, [.ref a_used, .ref a_stock, .ref a_alts, .ref a_asm, .ref a_placed, .ref a_sp, .ref a_rt, .ref a_yl, .int partCount, .long tooling, .ref a_dr, .ref a_la, .ref a_be])), aI g a_alts 30 u1, aJ g a_out 1 out]) [1, 2, 0] rfl (by decide) ?_
  show ST g C [(a_t, .inr (5, [.ref a_used, .ref a_stock, .ref a_alts, .ref a_asm, .ref a_placed, .ref a_sp, .ref a_rt, .ref a_yl, .int partCount, .long tooling, .ref a_dr, .ref a_la, .ref a_be])), aI g a_alts 30 u1, aJ g a_out 1 out] [(0, .ref a_t), (1, .int p0), (2, .int p1), (3, .ref a_out)] [.int r2, .int 0, .ref a_out] 8 2 12
  have J16 : ∀ (v4 : Int64), wp_L_alternate_J16 out u1 Q v4 → ST g C [(a_t, .inr (5, [.ref a_used, .ref a_stock, .ref a_alts, .ref a_asm, .ref a_placed, .ref a_sp, .ref a_rt, .ref a_yl, .int partCount, .long tooling, .ref a_dr, .ref a_la, .ref a_be])), aI g a_alts 30 u1, aJ g a_out 1 out] [(0, .ref a_t), (1, .int p0), (2, .int p1), (3, .ref a_out)] [.long v4, .int 0, .ref a_out] 16 2 12 := by
    intro v4 hw
    unfold wp_L_alternate_J16 at hw
    obtain ⟨hb1, hw⟩ := hw
    obtain ⟨f5, hf5⟩ : ∃ z : Nat → Int64, z = vp_updL out (0 : Int32).toNatClampNeg v4 := ⟨_, rfl⟩
    replace hw := hw f5 hf5
    refine st_last X (ws2 := [(a_t, .inr (5, [.ref a_used, .ref a_stock, .ref a_alts, .ref a_asm, .ref a_placed, .ref a_sp, .ref a_rt, .ref a_yl, .int partCount, .long tooling, .ref a_dr, .ref a_la, .ref a_be])), aI g a_alts 30 u1, aJ g a_out 1 f5]) 2 rfl hb1 (by rw [hf5]; rfl) d_L_alternate_16 ?_
    refine st_goto X 24 d_L_alternate_17 (by decide) ?_
    refine st_iconst X (v := 0) d_L_alternate_24 (by decide) ?_
    exact st_iret X hr (u1, f5) hw rfl (by decide) (by decide) d_L_alternate_25
  refine st_if_eq X 15 d_L_alternate_8 (by decide) (fun hc => ?_) (fun hc => ?_)
  · replace hw := hw.1 hc
    refine st_lconst X (v := 0) d_L_alternate_15 (by decide) ?_
    refine st_lv [0, 1, 2, 3] rfl ?_
    exact J16 0 hw
  · replace hw := hw.2 hc
    refine st_lconst X (v := 1) d_L_alternate_11 (by decide) ?_
    refine st_goto X 16 d_L_alternate_12 (by decide) ?_
    refine st_lv [0, 1, 2, 3] rfl ?_
    exact J16 1 hw

theorem h9_L_row : y_L_row.cls ≠ "java/lang/invoke/MethodHandle" ∧ y_L_row.cls ≠ "java/lang/invoke/VarHandle" ∧ (parseMethodDescriptor y_L_row.desc).map (fun d => d.parameters.length) = some 4 := by decide +kernel
def wp_L_row (p0 : Int32) (p1 : Int32) (la_rowCount : Int32) (la_pieces : Nat → Int32) (la_makers : Nat → Int32) (la_parts : Nat → Int32) (out : Nat → Int64) (Q : Int32 → (Nat → Int64) → Prop) : Prop :=
  wp_C_row p0 p1 la_rowCount la_pieces la_makers la_parts (fun r1 =>
  ∀ x3 : Int64, x3 = r1.toInt64 →
  vp_in (0 : Int32) 1 ∧
  ∀ f4 : Nat → Int64, f4 = vp_updL out (0 : Int32).toNatClampNeg x3 →
  Q 0 f4) (fun E9 => (E9 = eI → Q 1 out) ∧ (E9 = eI))
set_option maxHeartbeats 4000000 in
set_option maxRecDepth 100000 in
theorem k_L_row (g : GX) (hg : g.1.stackTraces = false) (a_t : Nat) (p0 : Int32) (p1 : Int32) (a_out : Nat) (a_used : Nat) (a_stock : Nat) (a_alts : Nat) (a_asm : Nat) (a_placed : Nat) (a_sp : Nat) (a_rt : Nat) (a_yl : Nat) (partCount : Int32) (tooling : Int64) (a_dr : Nat) (a_la : Nat) (a_be : Nat) (a_la_costs : Nat) (a_la_pieces : Nat) (a_la_makers : Nat) (a_la_parts : Nat) (la_rowCount : Int32) (la_pieces : Nat → Int32) (la_makers : Nat → Int32) (la_parts : Nat → Int32) (out : Nat → Int64) (Q : Int32 → (Nat → Int64) → Prop) (hw : wp_L_row p0 p1 la_rowCount la_pieces la_makers la_parts out Q) : CTW g y_L_row c_L_row 5 (some .int) [(0, 10, 13, 13)] ({ frames := 8, cells := 2, slots := 12, locals := 125 } : Room) [.ref a_t, .int p0, .int p1, .ref a_out] [(a_t, .inr (5, [.ref a_used, .ref a_stock, .ref a_alts, .ref a_asm, .ref a_placed, .ref a_sp, .ref a_rt, .ref a_yl, .int partCount, .long tooling, .ref a_dr, .ref a_la, .ref a_be])), (a_la, .inr (1, [.ref a_la_costs, .ref a_la_pieces, .ref a_la_makers, .ref a_la_parts, .int la_rowCount])), aI g a_la_pieces 33 la_pieces, aI g a_la_makers 33 la_makers, aI g a_la_parts 33 la_parts, aJ g a_out 1 out] (QI g [(a_t, .inr (5, [.ref a_used, .ref a_stock, .ref a_alts, .ref a_asm, .ref a_placed, .ref a_sp, .ref a_rt, .ref a_yl, .int partCount, .long tooling, .ref a_dr, .ref a_la, .ref a_be])), (a_la, .inr (1, [.ref a_la_costs, .ref a_la_pieces, .ref a_la_makers, .ref a_la_parts, .int la_rowCount])), aI g a_la_pieces 33 la_pieces, aI g a_la_makers 33 la_makers, aI g a_la_parts 33 la_parts, aJ g a_out 1 out] (fun u : (Nat → Int64) => [(a_t, .inr (5, [.ref a_used, .ref a_stock, .ref a_alts, .ref a_asm, .ref a_placed, .ref a_sp, .ref a_rt, .ref a_yl, .int partCount, .long tooling, .ref a_dr, .ref a_la, .ref a_be])), (a_la, .inr (1, [.ref a_la_costs, .ref a_la_pieces, .ref a_la_makers, .ref a_la_parts, .int la_rowCount])), aI g a_la_pieces 33 la_pieces, aI g a_la_makers 33 la_makers, aI g a_la_parts 33 la_parts, aJ g a_out 1 u]) (fun r u => Q r u)) := by
  refine ctw_of hg (by decide) (Nat.le_of_ble_eq_true rfl) (fun sz C X hr htab => ?_)
  unfold wp_L_row at hw
  show ST g C [(a_t, .inr (5, [.ref a_used, .ref a_stock, .ref a_alts, .ref a_asm, .ref a_placed, .ref a_sp, .ref a_rt, .ref a_yl, .int partCount, .long tooling, .ref a_dr, .ref a_la, .ref a_be])), (a_la, .inr (1, [.ref a_la_costs, .ref a_la_pieces, .ref a_la_makers, .ref a_la_parts, .int la_rowCount])), aI g a_la_pieces 33 la_pieces, aI g a_la_makers 33 la_makers, aI g a_la_parts 33 la_parts, aJ g a_out 1 out] [(0, .ref a_t), (1, .int p0), (2, .int p1), (3, .ref a_out)] [] 0 0 0
  refine st_aload_n X 3 d_L_row_0 rfl rfl ?_
  refine st_iconst X (v := 0) d_L_row_1 (by decide) ?_
  refine st_aload_n X 0 d_L_row_2 rfl rfl ?_
  refine st_iload_n X 1 d_L_row_3 rfl rfl ?_
  refine st_iload_n X 2 d_L_row_4 rfl rfl ?_
  have hR := rn_VX (pc := 5) (k := 0) (n := 0) (As := [.int p0, .int p1]) (rest := [.int 0, .ref a_out]) X (k_C_row g hg a_t p0 p1 a_used a_stock a_alts a_asm a_placed a_sp a_rt a_yl partCount tooling a_dr a_la a_be a_la_costs a_la_pieces a_la_makers a_la_parts la_rowCount la_pieces la_makers la_parts _ _ hw) (q0 := 0) rfl rfl wm_L_66 wi_C_row wl_C_row wz_C wc_C_row h9_C_row ⟨by decide, by decide⟩ (Nat.le_of_ble_eq_true rfl) ⟨by decide, by decide⟩ d_L_row_5
  refine st_xcalli X hR [0, 1, 2, 3, 4] [5] (wr := [aJ g a_out 1 out]) rfl rfl (by decide) (by decide) (by decide) (fun E9 u9 hw => ?_) (fun r1 u9 hw => ?_)
  · skip
    try dsimp only at hw
    refine stx_perm (ws2 := [(a_t, .inr (5, [.ref a_used, .ref a_stock, .ref a_alts, .ref a_asm, .ref a_placed, .ref a_sp, .ref a_rt, .ref a_yl, .int partCount, .long tooling, .ref a_dr, .ref a_la, .ref a_be])), (a_la, .inr (1, [.ref a_la_costs, .ref a_la_pieces, .ref a_la_makers, .ref a_la_parts, .int la_rowCount])), aI g a_la_pieces 33 la_pieces, aI g a_la_makers 33 la_makers, aI g a_la_parts 33 la_parts, aJ g a_out 1 out]) [1, 2, 3, 4, 5, 0] rfl (by decide) ?_
    obtain rfl := hw.2
    · replace hw := hw.1 rfl
      refine stx_catch0 X htab wk_L_13 wq_eI (by decide) (by decide) (fun q2 => ?_)
      refine st_widen (k2 := 2) (n2 := 12) (by decide) (by decide) ?_
      show ST g C [(a_t, .inr (5, [.ref a_used, .ref a_stock, .ref a_alts, .ref a_asm, .ref a_placed, .ref a_sp, .ref a_rt, .ref a_yl, .int partCount, .long tooling, .ref a_dr, .ref a_la, .ref a_be])), (a_la, .inr (1, [.ref a_la_costs, .ref a_la_pieces, .ref a_la_makers, .ref a_la_parts, .int la_rowCount])), aI g a_la_pieces 33 la_pieces, aI g a_la_makers 33 la_makers, aI g a_la_parts 33 la_parts, aJ g a_out 1 out] [(0, .ref a_t), (1, .int p0), (2, .int p1), (3, .ref a_out)] [.ref q2] 13 2 12
      refine st_astore X (lv2 := [(4, .ref q2), (0, .ref a_t), (1, .int p0), (2, .int p1), (3, .ref a_out)]) d_L_row_13 (by decide) rfl ?_
      refine st_iconst X (v := 1) d_L_row_15 (by decide) ?_
      exact st_iret X hr out hw rfl (by decide) (by decide) d_L_row_16
  try dsimp only at hw
  refine st_widen (k2 := 2) (n2 := 12) (by decide) (by decide) ?_
  refine st_perm (ws2 := [(a_t, .inr (5, [.ref a_used, .ref a_stock, .ref a_alts, .ref a_asm, .ref a_placed, .ref a_sp, .ref a_rt, .ref a_yl, .int partCount, .long tooling, .ref a_dr, .ref a_la, .ref a_be])), (a_la, .inr (1, [.ref a_la_costs, .ref a_la_pieces, .ref a_la_makers, .ref a_la_parts, .int la_rowCount])), aI g a_la_pieces 33 la_pieces, aI g a_la_makers 33 la_makers, aI g a_la_parts 33 la_parts, aJ g a_out 1 out]) [1, 2, 3, 4, 5, 0] rfl (by decide) ?_
  show ST g C [(a_t, .inr (5, [.ref a_used, .ref a_stock, .ref a_alts, .ref a_asm, .ref a_placed, .ref a_sp, .ref a_rt, .ref a_yl, .int partCount, .long tooling, .ref a_dr, .ref a_la, .ref a_be])), (a_la, .inr (1, [.ref a_la_costs, .ref a_la_pieces, .ref a_la_makers, .ref a_la_parts, .int la_rowCount])), aI g a_la_pieces 33 la_pieces, aI g a_la_makers 33 la_makers, aI g a_la_parts 33 la_parts, aJ g a_out 1 out] [(0, .ref a_t), (1, .int p0), (2, .int p1), (3, .ref a_out)] [.int r1, .int 0, .ref a_out] 8 2 12
  refine st_i2l X d_L_row_8 ?_
  refine st_topl (fun x3 hx3 => ?_)
  replace hw := hw x3 hx3
  obtain ⟨hb1, hw⟩ := hw
  obtain ⟨f4, hf4⟩ : ∃ z : Nat → Int64, z = vp_updL out (0 : Int32).toNatClampNeg x3 := ⟨_, rfl⟩
  replace hw := hw f4 hf4
  refine st_last X (ws2 := [(a_t, .inr (5, [.ref a_used, .ref a_stock, .ref a_alts, .ref a_asm, .ref a_placed, .ref a_sp, .ref a_rt, .ref a_yl, .int partCount, .long tooling, .ref a_dr, .ref a_la, .ref a_be])), (a_la, .inr (1, [.ref a_la_costs, .ref a_la_pieces, .ref a_la_makers, .ref a_la_parts, .int la_rowCount])), aI g a_la_pieces 33 la_pieces, aI g a_la_makers 33 la_makers, aI g a_la_parts 33 la_parts, aJ g a_out 1 f4]) 5 rfl hb1 (by rw [hf4]; rfl) d_L_row_9 ?_
  refine st_goto X 17 d_L_row_10 (by decide) ?_
  refine st_iconst X (v := 0) d_L_row_17 (by decide) ?_
  exact st_iret X hr f4 hw rfl (by decide) (by decide) d_L_row_18
