theorem h9_Ra_tell : y_Ra_tell.cls ≠ "java/lang/invoke/MethodHandle" ∧ y_Ra_tell.cls ≠ "java/lang/invoke/VarHandle" ∧ (parseMethodDescriptor y_Ra_tell.desc).map (fun d => d.parameters.length) = some 4 := by decide +kernel
def wp_Ra_tell_J60 (u1 : Nat → Int64) (u2 : Nat → Int32) (u4 : Nat → Int64) (u6 : Nat → Int64) (Q : Int32 → (Nat → Int64) → (Nat → Int32) → (Nat → Int64) → (Nat → Int64) → Prop) (v8 : Int32) : Prop :=
  (v8 = 0 ∨ v8 = 1) ∧ Q v8 u1 u2 u4 u6
def wp_Ra_tell_J55 (u1 : Nat → Int64) (u2 : Nat → Int32) (u4 : Nat → Int64) (u6 : Nat → Int64) (Q : Int32 → (Nat → Int64) → (Nat → Int32) → (Nat → Int64) → (Nat → Int64) → Prop) : Prop :=
  wp_Ra_tell_J60 u1 u2 u4 u6 Q 1
def wp_Ra_tell (maker : Int32) (day : Int64) (above : Int64) (below : Int64) (t_days_keys : Nat → Int64) (t_days_sizes : Nat → Int32) (t_aboves : Nat → Int64) (t_belows : Nat → Int64) (Q : Int32 → (Nat → Int64) → (Nat → Int32) → (Nat → Int64) → (Nat → Int64) → Prop) : Prop :=
  wp_K_slotFor maker day 48 t_days_keys 8 t_days_sizes (fun r3 u1 u2 =>
  ((¬ r3 = (-1)) → wp_C_tellNumber r3 above 48 t_aboves (fun r5 u4 =>
  wp_C_tellNumber r3 below 48 t_belows (fun r7 u6 =>
  ((¬ r5 = 0) → wp_Ra_tell_J55 u1 u2 u4 u6 Q) ∧
  ((r5 = 0) → ((r7 = 0) → wp_Ra_tell_J60 u1 u2 u4 u6 Q 0) ∧
  ((¬ r7 = 0) → wp_Ra_tell_J55 u1 u2 u4 u6 Q))))) ∧
  ((r3 = (-1)) → ((0 : Int32) = 0 ∨ (0 : Int32) = 1) ∧ Q 0 u1 u2 t_aboves t_belows))
set_option maxHeartbeats 4000000 in
set_option maxRecDepth 100000 in
theorem k_Ra_tell (g : GX) (hg : g.1.stackTraces = false) (a_t : Nat) (maker : Int32) (day : Int64) (above : Int64) (below : Int64) (a_t_days : Nat) (a_t_aboves : Nat) (a_t_belows : Nat) (a_t_aboveNow : Nat) (a_t_belowNow : Nat) (a_t_days_keys : Nat) (a_t_days_sizes : Nat) (t_days_keys : Nat → Int64) (t_days_sizes : Nat → Int32) (t_aboves : Nat → Int64) (t_belows : Nat → Int64) (Q : Int32 → (Nat → Int64) → (Nat → Int32) → (Nat → Int64) → (Nat → Int64) → Prop) (hw : wp_Ra_tell maker day above below t_days_keys t_days_sizes t_aboves t_belows Q) : CT g y_Ra_tell c_Ra_tell 11 (some .boolean) ({ frames := 2, cells := 0, slots := 0, locals := 46 } : Room) [.ref a_t, .int maker, .long day, .long above, .long below] [(a_t, .inr (2, [.ref a_t_days, .ref a_t_aboves, .ref a_t_belows, .ref a_t_aboveNow, .ref a_t_belowNow])), (a_t_days, .inr (0, [.ref a_t_days_keys, .ref a_t_days_sizes])), aJ g a_t_days_keys 48 t_days_keys, aI g a_t_days_sizes 8 t_days_sizes, aJ g a_t_aboves 48 t_aboves, aJ g a_t_belows 48 t_belows] (QI g [(a_t, .inr (2, [.ref a_t_days, .ref a_t_aboves, .ref a_t_belows, .ref a_t_aboveNow, .ref a_t_belowNow])), (a_t_days, .inr (0, [.ref a_t_days_keys, .ref a_t_days_sizes])), aJ g a_t_days_keys 48 t_days_keys, aI g a_t_days_sizes 8 t_days_sizes, aJ g a_t_aboves 48 t_aboves, aJ g a_t_belows 48 t_belows] (fun u : (Nat → Int64) × (Nat → Int32) × (Nat → Int64) × (Nat → Int64) => [(a_t, .inr (2, [.ref a_t_days, .ref a_t_aboves, .ref a_t_belows, .ref a_t_aboveNow, .ref a_t_belowNow])), (a_t_days, .inr (0, [.ref a_t_days_keys, .ref a_t_days_sizes])), aJ g a_t_days_keys 48 u.1, aI g a_t_days_sizes 8 u.2.1, aJ g a_t_aboves 48 u.2.2.1, aJ g a_t_belows 48 u.2.2.2]) (fun r u => Q r u.1 u.2.1 u.2.2.1 u.2.2.2)) := by
  refine ct_of hg (by decide) (Nat.le_of_ble_eq_true rfl) (fun sz C X hr => ?_)
  unfold wp_Ra_tell at hw
  show ST g C [(a_t, .inr (2, [.ref a_t_days, .ref a_t_aboves, .ref a_t_belows, .ref a_t_aboveNow, .ref a_t_belowNow])), (a_t_days, .inr (0, [.ref a_t_days_keys, .ref a_t_days_sizes])), aJ g a_t_days_keys 48 t_days_keys, aI g a_t_days_sizes 8 t_days_sizes, aJ g a_t_aboves 48 t_aboves, aJ g a_t_belows 48 t_belows] [(0, .ref a_t), (1, .int maker), (2, .long day), (4, .long above), (6, .long below)] [] 0 0 0
  refine st_aload_n X 0 d_Ra_tell_0 rfl rfl ?_
  refine st_get X (ci := 2) in_Ra 0 0 wf_Ra_14 rfl rfl (by decide) rfl d_Ra_tell_1 ?_
  refine st_iload_n X 1 d_Ra_tell_4 rfl rfl ?_
  refine st_lload_n X 2 d_Ra_tell_5 rfl rfl ?_
  have hR := rn_VN (pc := 6) (k := 0) (n := 0) (As := [.int maker, .long day]) (rest := []) X (k_K_slotFor g hg a_t_days maker day a_t_days_keys a_t_days_sizes 48 t_days_keys 8 t_days_sizes _ hw) (q0 := 0) rfl rfl nl_Ra_33 wi_K_slotFor wl_K_slotFor wz_K wc_K_slotFor h9_K_slotFor ⟨by decide, by decide⟩ (Nat.le_of_ble_eq_true rfl) ⟨by decide, by decide⟩ d_Ra_tell_6
  refine st_calli X hR [1, 2, 3] [0, 4, 5] (wr := [(a_t, .inr (2, [.ref a_t_days, .ref a_t_aboves, .ref a_t_belows, .ref a_t_aboveNow, .ref a_t_belowNow])), aJ g a_t_aboves 48 t_aboves, aJ g a_t_belows 48 t_belows]) rfl rfl (by decide) (by decide) (by decide) (fun r3 u9 hw => ?_)
  obtain ⟨u1, u2⟩ := u9
  try dsimp only at hw
  refine st_widen (k2 := 0) (n2 := 0) (by decide) (by decide) ?_
  refine st_perm (ws2 := [(a_t, .inr (2, [.ref a_t_days, .ref a_t_aboves, .ref a_t_belows, .ref a_t_aboveNow, .ref a_t_belowNow])), (a_t_days, .inr (0, [.ref a_t_days_keys, .ref a_t_days_sizes])), aJ g a_t_days_keys 48 u1, aI g a_t_days_sizes 8 u2, aJ g a_t_aboves 48 t_aboves, aJ g a_t_belows 48 t_belows]) [0, 3, 4, 5, 1, 2] rfl (by decide) ?_
  show ST g C [(a_t, .inr (2, [.ref a_t_days, .ref a_t_aboves, .ref a_t_belows, .ref a_t_aboveNow, .ref a_t_belowNow])), (a_t_days, .inr (0, [.ref a_t_days_keys, .ref a_t_days_sizes])), aJ g a_t_days_keys 48 u1, aI g a_t_days_sizes 8 u2, aJ g a_t_aboves 48 t_aboves, aJ g a_t_belows 48 t_belows] [(0, .ref a_t), (1, .int maker), (2, .long day), (4, .long above), (6, .long below)] [.int r3] 9 0 0
  refine st_istore X (lv2 := [(8, .int r3), (0, .ref a_t), (1, .int maker), (2, .long day), (4, .long above), (6, .long below)]) d_Ra_tell_9 (by decide) rfl ?_
  refine st_iload X 0 d_Ra_tell_11 rfl ?_
  refine st_iconst X (v := (-1)) d_Ra_tell_13 (by decide) ?_
  refine st_icmp_ne X 19 d_Ra_tell_14 (by decide) (fun hc => ?_) (fun hc => ?_)
  · replace hw := hw.1 hc
    refine st_aload_n X 1 d_Ra_tell_19 rfl rfl ?_
    refine st_get X (ci := 2) in_Ra 0 1 wf_Ra_20 rfl rfl (by decide) rfl d_Ra_tell_20 ?_
    refine st_iload X 0 d_Ra_tell_23 rfl ?_
    refine st_lload X 4 d_Ra_tell_25 rfl ?_
    have hR := rn_SN (pc := 27) (k := 0) (n := 0) (As := [.ref a_t_aboves, .int r3, .long above]) (rest := []) X (k_C_tellNumber g hg a_t_aboves r3 above 48 t_aboves _ hw) nl_Ra_37 ws_C_tellNumber wz_C wc_C_tellNumber h9_C_tellNumber ⟨by decide, by decide⟩ (Nat.le_of_ble_eq_true rfl) ⟨by decide, by decide⟩ d_Ra_tell_27
    refine st_calli X hR [4] [0, 1, 2, 3, 5] (wr := [(a_t, .inr (2, [.ref a_t_days, .ref a_t_aboves, .ref a_t_belows, .ref a_t_aboveNow, .ref a_t_belowNow])), (a_t_days, .inr (0, [.ref a_t_days_keys, .ref a_t_days_sizes])), aJ g a_t_days_keys 48 u1, aI g a_t_days_sizes 8 u2, aJ g a_t_belows 48 t_belows]) rfl rfl (by decide) (by decide) (by decide) (fun r5 u9 hw => ?_)
    obtain ⟨u4, hu9⟩ : ∃ z, z = u9 := ⟨_, rfl⟩
    subst hu9
    try dsimp only at hw
    refine st_widen (k2 := 0) (n2 := 0) (by decide) (by decide) ?_
    refine st_perm (ws2 := [(a_t, .inr (2, [.ref a_t_days, .ref a_t_aboves, .ref a_t_belows, .ref a_t_aboveNow, .ref a_t_belowNow])), (a_t_days, .inr (0, [.ref a_t_days_keys, .ref a_t_days_sizes])), aJ g a_t_days_keys 48 u1, aI g a_t_days_sizes 8 u2, aJ g a_t_aboves 48 u4, aJ g a_t_belows 48 t_belows]) [0, 1, 2, 3, 5, 4] rfl (by decide) ?_
    show ST g C [(a_t, .inr (2, [.ref a_t_days, .ref a_t_aboves, .ref a_t_belows, .ref a_t_aboveNow, .ref a_t_belowNow])), (a_t_days, .inr (0, [.ref a_t_days_keys, .ref a_t_days_sizes])), aJ g a_t_days_keys 48 u1, aI g a_t_days_sizes 8 u2, aJ g a_t_aboves 48 u4, aJ g a_t_belows 48 t_belows] [(8, .int r3), (0, .ref a_t), (1, .int maker), (2, .long day), (4, .long above), (6, .long below)] [.int r5] 30 0 0
    refine st_istore X (lv2 := [(9, .int r5), (8, .int r3), (0, .ref a_t), (1, .int maker), (2, .long day), (4, .long above), (6, .long below)]) d_Ra_tell_30 (by decide) rfl ?_
    refine st_aload_n X 2 d_Ra_tell_32 rfl rfl ?_
    refine st_get X (ci := 2) in_Ra 0 2 wf_Ra_24 rfl rfl (by decide) rfl d_Ra_tell_33 ?_
    refine st_iload X 1 d_Ra_tell_36 rfl ?_
    refine st_lload X 6 d_Ra_tell_38 rfl ?_
    have hR := rn_SN (pc := 40) (k := 0) (n := 0) (As := [.ref a_t_belows, .int r3, .long below]) (rest := []) X (k_C_tellNumber g hg a_t_belows r3 below 48 t_belows _ hw) nl_Ra_37 ws_C_tellNumber wz_C wc_C_tellNumber h9_C_tellNumber ⟨by decide, by decide⟩ (Nat.le_of_ble_eq_true rfl) ⟨by decide, by decide⟩ d_Ra_tell_40
    refine st_calli X hR [5] [0, 1, 2, 3, 4] (wr := [(a_t, .inr (2, [.ref a_t_days, .ref a_t_aboves, .ref a_t_belows, .ref a_t_aboveNow, .ref a_t_belowNow])), (a_t_days, .inr (0, [.ref a_t_days_keys, .ref a_t_days_sizes])), aJ g a_t_days_keys 48 u1, aI g a_t_days_sizes 8 u2, aJ g a_t_aboves 48 u4]) rfl rfl (by decide) (by decide) (by decide) (fun r7 u9 hw => ?_)
    obtain ⟨u6, hu9⟩ : ∃ z, z = u9 := ⟨_, rfl⟩
    subst hu9
    try dsimp only at hw
    refine st_widen (k2 := 0) (n2 := 0) (by decide) (by decide) ?_
    refine st_perm (ws2 := [(a_t, .inr (2, [.ref a_t_days, .ref a_t_aboves, .ref a_t_belows, .ref a_t_aboveNow, .ref a_t_belowNow])), (a_t_days, .inr (0, [.ref a_t_days_keys, .ref a_t_days_sizes])), aJ g a_t_days_keys 48 u1, aI g a_t_days_sizes 8 u2, aJ g a_t_aboves 48 u4, aJ g a_t_belows 48 u6]) [0, 1, 2, 3, 4, 5] rfl (by decide) ?_
    show ST g C [(a_t, .inr (2, [.ref a_t_days, .ref a_t_aboves, .ref a_t_belows, .ref a_t_aboveNow, .ref a_t_belowNow])), (a_t_days, .inr (0, [.ref a_t_days_keys, .ref a_t_days_sizes])), aJ g a_t_days_keys 48 u1, aI g a_t_days_sizes 8 u2, aJ g a_t_aboves 48 u4, aJ g a_t_belows 48 u6] [(9, .int r5), (8, .int r3), (0, .ref a_t), (1, .int maker), (2, .long day), (4, .long above), (6, .long below)] [.int r7] 43 0 0
    refine st_istore X (lv2 := [(10, .int r7), (9, .int r5), (8, .int r3), (0, .ref a_t), (1, .int maker), (2, .long day), (4, .long above), (6, .long below)]) d_Ra_tell_43 (by decide) rfl ?_
    refine st_iload X 1 d_Ra_tell_45 rfl ?_
    have J60 : ∀ (v8 : Int32), wp_Ra_tell_J60 u1 u2 u4 u6 Q v8 → ST g C [(a_t, .inr (2, [.ref a_t_days, .ref a_t_aboves, .ref a_t_belows, .ref a_t_aboveNow, .ref a_t_belowNow])), (a_t_days, .inr (0, [.ref a_t_days_keys, .ref a_t_days_sizes])), aJ g a_t_days_keys 48 u1, aI g a_t_days_sizes 8 u2, aJ g a_t_aboves 48 u4, aJ g a_t_belows 48 u6] [(0, .ref a_t), (1, .int maker), (2, .long day), (4, .long above), (6, .long below), (8, .int r3), (9, .int r5), (10, .int r7)] [.int v8] 60 0 0 := by
      intro v8 hw
      unfold wp_Ra_tell_J60 at hw
      obtain ⟨hz, hw⟩ := hw
      exact st_zret X hr (u1, u2, u4, u6) hw hz rfl (by decide) (by decide) d_Ra_tell_60
    have J55 : wp_Ra_tell_J55 u1 u2 u4 u6 Q → ST g C [(a_t, .inr (2, [.ref a_t_days, .ref a_t_aboves, .ref a_t_belows, .ref a_t_aboveNow, .ref a_t_belowNow])), (a_t_days, .inr (0, [.ref a_t_days_keys, .ref a_t_days_sizes])), aJ g a_t_days_keys 48 u1, aI g a_t_days_sizes 8 u2, aJ g a_t_aboves 48 u4, aJ g a_t_belows 48 u6] [(0, .ref a_t), (1, .int maker), (2, .long day), (4, .long above), (6, .long below), (8, .int r3), (9, .int r5), (10, .int r7)] [] 55 0 0 := by
      intro hw
      unfold wp_Ra_tell_J55 at hw
      refine st_iconst X (v := 1) d_Ra_tell_55 (by decide) ?_
      refine st_goto X 60 d_Ra_tell_56 (by decide) ?_
      refine st_lv [0, 1, 2, 3, 4, 5, 6, 7] rfl ?_
      exact J60 1 hw
    refine st_if_ne X 55 d_Ra_tell_47 (by decide) (fun hc => ?_) (fun hc => ?_)
    · replace hw := hw.1 hc
      refine st_lv [3, 4, 5, 6, 7, 2, 1, 0] rfl ?_
      exact J55 hw
    · replace hw := hw.2 hc
      refine st_iload X 0 d_Ra_tell_50 rfl ?_
      refine st_if_eq X 59 d_Ra_tell_52 (by decide) (fun hc => ?_) (fun hc => ?_)
      · replace hw := hw.1 hc
        refine st_iconst X (v := 0) d_Ra_tell_59 (by decide) ?_
        refine st_lv [3, 4, 5, 6, 7, 2, 1, 0] rfl ?_
        exact J60 0 hw
      · replace hw := hw.2 hc
        refine st_lv [3, 4, 5, 6, 7, 2, 1, 0] rfl ?_
        exact J55 hw
  · replace hw := hw.2 hc
    refine st_iconst X (v := 0) d_Ra_tell_17 (by decide) ?_
    obtain ⟨hz, hw⟩ := hw
    exact st_zret X hr (u1, u2, t_aboves, t_belows) hw hz rfl (by decide) (by decide) d_Ra_tell_18

theorem h9_Ra_latestSlot : y_Ra_latestSlot.cls ≠ "java/lang/invoke/MethodHandle" ∧ y_Ra_latestSlot.cls ≠ "java/lang/invoke/VarHandle" ∧ (parseMethodDescriptor y_Ra_latestSlot.desc).map (fun d => d.parameters.length) = some 2 := by decide +kernel
def wp_Ra_latestSlot_J75 (v4 : Int32) (K23 : Int32 → Int32 → Prop) (v6 : Int32) : Prop :=
  ∀ x7 : Int32, x7 = v4 + 1 →
  K23 v6 x7
def wp_Ra_latestSlot_J71 (v4 : Int32) (K23 : Int32 → Int32 → Prop) : Prop :=
  wp_Ra_latestSlot_J75 v4 K23 v4
def wp_Ra_latestSlot_L23 (day : Int64) (t_days_keys : Nat → Int64) (r1 : Int32) (Q : Int32 → Prop) : Nat → Int32 → Int32 → Prop
  | 0, _, _ => False
  | n23 + 1, v3, v4 =>
  ((r1 ≤ v4) → Q v3) ∧
  ((¬ r1 ≤ v4) → vp_in v4 48 ∧
  ∀ x5 : Int64, x5 = t_days_keys v4.toNatClampNeg →
  ((day < x5) → wp_Ra_latestSlot_J75 v4 (wp_Ra_latestSlot_L23 day t_days_keys r1 Q n23) v3) ∧
  ((¬ day < x5) → ((v3 = (-1)) → wp_Ra_latestSlot_J71 v4 (wp_Ra_latestSlot_L23 day t_days_keys r1 Q n23)) ∧
  ((¬ v3 = (-1)) → vp_in v3 48 ∧
  ((x5 ≤ (t_days_keys v3.toNatClampNeg)) → wp_Ra_latestSlot_J75 v4 (wp_Ra_latestSlot_L23 day t_days_keys r1 Q n23) v3) ∧
  ((¬ x5 ≤ (t_days_keys v3.toNatClampNeg)) → wp_Ra_latestSlot_J71 v4 (wp_Ra_latestSlot_L23 day t_days_keys r1 Q n23)))))
def wp_Ra_latestSlot (maker : Int32) (day : Int64) (t_days_keys : Nat → Int64) (t_days_sizes : Nat → Int32) (Q : Int32 → Prop) : Prop :=
  wp_K_endSlot maker 8 t_days_sizes (fun r1 =>
  wp_K_firstSlot maker (fun r2 =>
  ∃ n23 : Nat, wp_Ra_latestSlot_L23 day t_days_keys r1 Q n23 (-1) r2))
set_option maxHeartbeats 4000000 in
set_option maxRecDepth 100000 in
theorem k_Ra_latestSlot (g : GX) (hg : g.1.stackTraces = false) (a_t : Nat) (maker : Int32) (day : Int64) (a_t_days : Nat) (a_t_aboves : Nat) (a_t_belows : Nat) (a_t_aboveNow : Nat) (a_t_belowNow : Nat) (a_t_days_keys : Nat) (a_t_days_sizes : Nat) (t_days_keys : Nat → Int64) (t_days_sizes : Nat → Int32) (Q : Int32 → Prop) (hw : wp_Ra_latestSlot maker day t_days_keys t_days_sizes Q) : CT g y_Ra_latestSlot c_Ra_latestSlot 9 (some .int) ({ frames := 1, cells := 0, slots := 0, locals := 21 } : Room) [.ref a_t, .int maker, .long day] [(a_t, .inr (2, [.ref a_t_days, .ref a_t_aboves, .ref a_t_belows, .ref a_t_aboveNow, .ref a_t_belowNow])), (a_t_days, .inr (0, [.ref a_t_days_keys, .ref a_t_days_sizes])), aJ g a_t_days_keys 48 t_days_keys, aI g a_t_days_sizes 8 t_days_sizes] (QI g [(a_t, .inr (2, [.ref a_t_days, .ref a_t_aboves, .ref a_t_belows, .ref a_t_aboveNow, .ref a_t_belowNow])), (a_t_days, .inr (0, [.ref a_t_days_keys, .ref a_t_days_sizes])), aJ g a_t_days_keys 48 t_days_keys, aI g a_t_days_sizes 8 t_days_sizes] (fun u : Unit => [(a_t, .inr (2, [.ref a_t_days, .ref a_t_aboves, .ref a_t_belows, .ref a_t_aboveNow, .ref a_t_belowNow])), (a_t_days, .inr (0, [.ref a_t_days_keys, .ref a_t_days_sizes])), aJ g a_t_days_keys 48 t_days_keys, aI g a_t_days_sizes 8 t_days_sizes]) (fun r u => Q r)) := by
  refine ct_of hg (by decide) (Nat.le_of_ble_eq_true rfl) (fun sz C X hr => ?_)
  unfold wp_Ra_latestSlot at hw
  show ST g C [(a_t, .inr (2, [.ref a_t_days, .ref a_t_aboves, .ref a_t_belows, .ref a_t_aboveNow, .ref a_t_belowNow])), (a_t_days, .inr (0, [.ref a_t_days_keys, .ref a_t_days_sizes])), aJ g a_t_days_keys 48 t_days_keys, aI g a_t_days_sizes 8 t_days_sizes] [(0, .ref a_t), (1, .int maker), (2, .long day)] [] 0 0 0
  refine st_iconst X (v := (-1)) d_Ra_latestSlot_0 (by decide) ?_
  refine st_istore X (lv2 := [(4, .int (-1)), (0, .ref a_t), (1, .int maker), (2, .long day)]) d_Ra_latestSlot_1 (by decide) rfl ?_
  refine st_aload_n X 1 d_Ra_latestSlot_3 rfl rfl ?_
  refine st_get X (ci := 2) in_Ra 0 0 wf_Ra_14 rfl rfl (by decide) rfl d_Ra_latestSlot_4 ?_
  refine st_iload_n X 2 d_Ra_latestSlot_7 rfl rfl ?_
  have hR := rn_VN (pc := 8) (k := 0) (n := 0) (As := [.int maker]) (rest := []) X (k_K_endSlot g hg a_t_days maker a_t_days_keys a_t_days_sizes 8 t_days_sizes _ hw) (q0 := 0) rfl rfl nl_Ra_44 wi_K_endSlot wl_K_endSlot wz_K wc_K_endSlot h9_K_endSlot ⟨by decide, by decide⟩ (Nat.le_of_ble_eq_true rfl) ⟨by decide, by decide⟩ d_Ra_latestSlot_8
  refine st_calli X hR [1, 3] [0, 2] (wr := [(a_t, .inr (2, [.ref a_t_days, .ref a_t_aboves, .ref a_t_belows, .ref a_t_aboveNow, .ref a_t_belowNow])), aJ g a_t_days_keys 48 t_days_keys]) rfl rfl (by decide) (by decide) (by decide) (fun r1 u9 hw => ?_)
  try dsimp only at hw
  refine st_widen (k2 := 0) (n2 := 0) (by decide) (by decide) ?_
  refine st_perm (ws2 := [(a_t, .inr (2, [.ref a_t_days, .ref a_t_aboves, .ref a_t_belows, .ref a_t_aboveNow, .ref a_t_belowNow])), (a_t_days, .inr (0, [.ref a_t_days_keys, .ref a_t_days_sizes])), aJ g a_t_days_keys 48 t_days_keys, aI g a_t_days_sizes 8 t_days_sizes]) [0, 2, 1, 3] rfl (by decide) ?_
  show ST g C [(a_t, .inr (2, [.ref a_t_days, .ref a_t_aboves, .ref a_t_belows, .ref a_t_aboveNow, .ref a_t_belowNow])), (a_t_days, .inr (0, [.ref a_t_days_keys, .ref a_t_days_sizes])), aJ g a_t_days_keys 48 t_days_keys, aI g a_t_days_sizes 8 t_days_sizes] [(4, .int (-1)), (0, .ref a_t), (1, .int maker), (2, .long day)] [.int r1] 11 0 0
  refine st_istore X (lv2 := [(5, .int r1), (4, .int (-1)), (0, .ref a_t), (1, .int maker), (2, .long day)]) d_Ra_latestSlot_11 (by decide) rfl ?_
  refine st_aload_n X 2 d_Ra_latestSlot_13 rfl rfl ?_
  refine st_get X (ci := 2) in_Ra 0 0 wf_Ra_14 rfl rfl (by decide) rfl d_Ra_latestSlot_14 ?_
  refine st_iload_n X 3 d_Ra_latestSlot_17 rfl rfl ?_
  have hR := rn_VN (pc := 18) (k := 0) (n := 0) (As := [.int maker]) (rest := []) X (k_K_firstSlot g hg a_t_days maker a_t_days_keys a_t_days_sizes _ hw) (q0 := 0) rfl rfl nl_Ra_48 wi_K_firstSlot wl_K_firstSlot wz_K wc_K_firstSlot h9_K_firstSlot ⟨by decide, by decide⟩ (Nat.le_of_ble_eq_true rfl) ⟨by decide, by decide⟩ d_Ra_latestSlot_18
  refine st_calli X hR [1] [0, 2, 3] (wr := [(a_t, .inr (2, [.ref a_t_days, .ref a_t_aboves, .ref a_t_belows, .ref a_t_aboveNow, .ref a_t_belowNow])), aJ g a_t_days_keys 48 t_days_keys, aI g a_t_days_sizes 8 t_days_sizes]) rfl rfl (by decide) (by decide) (by decide) (fun r2 u9 hw => ?_)
  try dsimp only at hw
  refine st_widen (k2 := 0) (n2 := 0) (by decide) (by decide) ?_
  refine st_perm (ws2 := [(a_t, .inr (2, [.ref a_t_days, .ref a_t_aboves, .ref a_t_belows, .ref a_t_aboveNow, .ref a_t_belowNow])), (a_t_days, .inr (0, [.ref a_t_days_keys, .ref a_t_days_sizes])), aJ g a_t_days_keys 48 t_days_keys, aI g a_t_days_sizes 8 t_days_sizes]) [0, 3, 1, 2] rfl (by decide) ?_
  show ST g C [(a_t, .inr (2, [.ref a_t_days, .ref a_t_aboves, .ref a_t_belows, .ref a_t_aboveNow, .ref a_t_belowNow])), (a_t_days, .inr (0, [.ref a_t_days_keys, .ref a_t_days_sizes])), aJ g a_t_days_keys 48 t_days_keys, aI g a_t_days_sizes 8 t_days_sizes] [(5, .int r1), (4, .int (-1)), (0, .ref a_t), (1, .int maker), (2, .long day)] [.int r2] 21 0 0
  refine st_istore X (lv2 := [(6, .int r2), (5, .int r1), (4, .int (-1)), (0, .ref a_t), (1, .int maker), (2, .long day)]) d_Ra_latestSlot_21 (by decide) rfl ?_
  have L23 : ∀ (n23 : Nat) (v3 : Int32) (v4 : Int32), wp_Ra_latestSlot_L23 day t_days_keys r1 Q n23 v3 v4 → ST g C [(a_t, .inr (2, [.ref a_t_days, .ref a_t_aboves, .ref a_t_belows, .ref a_t_aboveNow, .ref a_t_belowNow])), (a_t_days, .inr (0, [.ref a_t_days_keys, .ref a_t_days_sizes])), aJ g a_t_days_keys 48 t_days_keys, aI g a_t_days_sizes 8 t_days_sizes] [(0, .ref a_t), (1, .int maker), (2, .long day), (4, .int v3), (5, .int r1), (6, .int v4)] [] 23 0 0 := by
    intro n23
    induction n23 with
    | zero => intro v3 v4 hw; exact hw.elim
    | succ n23 ih23 =>
      intro v3 v4 hw
      rw [wp_Ra_latestSlot_L23] at hw
      refine st_iload X 5 d_Ra_latestSlot_23 rfl ?_
      refine st_iload X 4 d_Ra_latestSlot_25 rfl ?_
      refine st_icmp_ge X 81 d_Ra_latestSlot_27 (by decide) (fun hc => ?_) (fun hc => ?_)
      · replace hw := hw.1 hc
        refine st_iload X 3 d_Ra_latestSlot_81 rfl ?_
        exact st_iret X hr () hw rfl (by decide) (by decide) d_Ra_latestSlot_83
      · replace hw := hw.2 hc
        refine st_aload_n X 0 d_Ra_latestSlot_30 rfl rfl ?_
        refine st_get X (ci := 2) in_Ra 0 0 wf_Ra_14 rfl rfl (by decide) rfl d_Ra_latestSlot_31 ?_
        refine st_getN X (ci := 0) in_K 1 0 nf_Ra_51 rfl rfl (by decide) rfl d_Ra_latestSlot_34 ?_
        refine st_iload X 5 d_Ra_latestSlot_37 rfl ?_
        obtain ⟨hb1, hw⟩ := hw
        refine st_lald X 2 rfl hb1 d_Ra_latestSlot_39 ?_
        refine st_topl (fun x5 hx5 => ?_)
        replace hw := hw x5 hx5
        refine st_lstore X (lv2 := [(7, .long x5), (0, .ref a_t), (1, .int maker), (2, .long day), (4, .int v3), (5, .int r1), (6, .int v4)]) d_Ra_latestSlot_40 (by decide) rfl ?_
        refine st_lload X 0 d_Ra_latestSlot_42 rfl ?_
        refine st_lload_n X 3 d_Ra_latestSlot_44 rfl rfl ?_
        have J75 : ∀ (v6 : Int32), wp_Ra_latestSlot_J75 v4 (fun z0 z1 => wp_Ra_latestSlot_L23 day t_days_keys r1 Q n23 z0 z1) v6 → ST g C [(a_t, .inr (2, [.ref a_t_days, .ref a_t_aboves, .ref a_t_belows, .ref a_t_aboveNow, .ref a_t_belowNow])), (a_t_days, .inr (0, [.ref a_t_days_keys, .ref a_t_days_sizes])), aJ g a_t_days_keys 48 t_days_keys, aI g a_t_days_sizes 8 t_days_sizes] [(0, .ref a_t), (1, .int maker), (2, .long day), (4, .int v6), (5, .int r1), (6, .int v4), (7, .long x5)] [] 75 0 0 := by
          intro v6 hw
          unfold wp_Ra_latestSlot_J75 at hw
          obtain ⟨x7, hx7⟩ : ∃ z : Int32, z = v4 + 1 := ⟨_, rfl⟩
          replace hw := hw x7 hx7
          refine st_iinc X (v := x7) (lv2 := [(6, .int x7), (0, .ref a_t), (1, .int maker), (2, .long day), (4, .int v6), (5, .int r1), (7, .long x5)]) 5 d_Ra_latestSlot_75 rfl (by rw [hx7]; rfl) (by decide) rfl ?_
          refine st_goto X 23 d_Ra_latestSlot_78 (by decide) ?_
          refine st_lv [1, 2, 3, 4, 5, 0] rfl ?_
          exact ih23 v6 x7 hw
        refine st_lcmp_gt X 75 d_Ra_latestSlot_45 d_Ra_latestSlot_46 (by decide) (fun hc => ?_) (fun hc => ?_)
        · replace hw := hw.1 hc
          refine st_lv [1, 2, 3, 4, 5, 6, 0] rfl ?_
          exact J75 v3 hw
        · replace hw := hw.2 hc
          refine st_iload X 4 d_Ra_latestSlot_49 rfl ?_
          refine st_iconst X (v := (-1)) d_Ra_latestSlot_51 (by decide) ?_
          have J71 : wp_Ra_latestSlot_J71 v4 (fun z0 z1 => wp_Ra_latestSlot_L23 day t_days_keys r1 Q n23 z0 z1) → ST g C [(a_t, .inr (2, [.ref a_t_days, .ref a_t_aboves, .ref a_t_belows, .ref a_t_aboveNow, .ref a_t_belowNow])), (a_t_days, .inr (0, [.ref a_t_days_keys, .ref a_t_days_sizes])), aJ g a_t_days_keys 48 t_days_keys, aI g a_t_days_sizes 8 t_days_sizes] [(0, .ref a_t), (1, .int maker), (2, .long day), (4, .int v3), (5, .int r1), (6, .int v4), (7, .long x5)] [] 71 0 0 := by
            intro hw
            unfold wp_Ra_latestSlot_J71 at hw
            refine st_iload X 5 d_Ra_latestSlot_71 rfl ?_
            refine st_istore X (lv2 := [(4, .int v4), (0, .ref a_t), (1, .int maker), (2, .long day), (5, .int r1), (6, .int v4), (7, .long x5)]) d_Ra_latestSlot_73 (by decide) rfl ?_
            refine st_lv [1, 2, 3, 0, 4, 5, 6] rfl ?_
            exact J75 v4 hw
          refine st_icmp_eq X 71 d_Ra_latestSlot_52 (by decide) (fun hc => ?_) (fun hc => ?_)
          · replace hw := hw.1 hc
            refine st_lv [1, 2, 3, 4, 5, 6, 0] rfl ?_
            exact J71 hw
          · replace hw := hw.2 hc
            refine st_lload X 0 d_Ra_latestSlot_55 rfl ?_
            refine st_aload_n X 1 d_Ra_latestSlot_57 rfl rfl ?_
            refine st_get X (ci := 2) in_Ra 0 0 wf_Ra_14 rfl rfl (by decide) rfl d_Ra_latestSlot_58 ?_
            refine st_getN X (ci := 0) in_K 1 0 nf_Ra_51 rfl rfl (by decide) rfl d_Ra_latestSlot_61 ?_
            refine st_iload X 4 d_Ra_latestSlot_64 rfl ?_
            obtain ⟨hb2, hw⟩ := hw
            refine st_lald X 2 rfl hb2 d_Ra_latestSlot_66 ?_
            refine st_lcmp_le X 75 d_Ra_latestSlot_67 d_Ra_latestSlot_68 (by decide) (fun hc => ?_) (fun hc => ?_)
            · replace hw := hw.1 hc
              refine st_lv [1, 2, 3, 4, 5, 6, 0] rfl ?_
              exact J75 v3 hw
            · replace hw := hw.2 hc
              refine st_lv [1, 2, 3, 4, 5, 6, 0] rfl ?_
              exact J71 hw
  obtain ⟨n23, hw⟩ := hw
  refine st_lv [3, 4, 5, 2, 1, 0] rfl ?_
  exact L23 n23 (-1) r2 hw

theorem h9_Ra_turnTo : y_Ra_turnTo.cls ≠ "java/lang/invoke/MethodHandle" ∧ y_Ra_turnTo.cls ≠ "java/lang/invoke/VarHandle" ∧ (parseMethodDescriptor y_Ra_turnTo.desc).map (fun d => d.parameters.length) = some 1 := by decide +kernel
def wp_Ra_turnTo_J61 (v1 : Int32) (f3 : Nat → Int64) (f6 : Nat → Int64) (K2 : Int32 → (Nat → Int64) → (Nat → Int64) → Prop) (v7 : Int64) : Prop :=
  vp_in v1 8 ∧
  ∀ f8 : Nat → Int64, f8 = vp_updL f3 v1.toNatClampNeg v7 →
  ∀ x9 : Int32, x9 = v1 + 1 →
  K2 x9 f6 f8
def wp_Ra_turnTo_J38 (t_belows : Nat → Int64) (v1 : Int32) (f2 : Nat → Int64) (f3 : Nat → Int64) (r4 : Int32) (K2 : Int32 → (Nat → Int64) → (Nat → Int64) → Prop) (v5 : Int64) : Prop :=
  vp_in v1 8 ∧
  ∀ f6 : Nat → Int64, f6 = vp_updL f2 v1.toNatClampNeg v5 →
  ((¬ r4 = (-1)) → vp_in r4 48 ∧
  wp_Ra_turnTo_J61 v1 f3 f6 K2 (t_belows r4.toNatClampNeg)) ∧
  ((r4 = (-1)) → wp_Ra_turnTo_J61 v1 f3 f6 K2 1)
def wp_Ra_turnTo_L2 (day : Int64) (t_days_keys : Nat → Int64) (t_days_sizes : Nat → Int32) (t_aboves : Nat → Int64) (t_belows : Nat → Int64) (Q : (Nat → Int64) → (Nat → Int64) → Prop) : Nat → Int32 → (Nat → Int64) → (Nat → Int64) → Prop
  | 0, _, _, _ => False
  | n2 + 1, v1, f2, f3 =>
  ((8 ≤ v1) → Q f2 f3) ∧
  ((¬ 8 ≤ v1) → wp_Ra_latestSlot v1 day t_days_keys t_days_sizes (fun r4 =>
  ((¬ r4 = (-1)) → vp_in r4 48 ∧
  wp_Ra_turnTo_J38 t_belows v1 f2 f3 r4 (wp_Ra_turnTo_L2 day t_days_keys t_days_sizes t_aboves t_belows Q n2) (t_aboves r4.toNatClampNeg)) ∧
  ((r4 = (-1)) → wp_Ra_turnTo_J38 t_belows v1 f2 f3 r4 (wp_Ra_turnTo_L2 day t_days_keys t_days_sizes t_aboves t_belows Q n2) 1)))
def wp_Ra_turnTo (day : Int64) (t_days_keys : Nat → Int64) (t_days_sizes : Nat → Int32) (t_aboves : Nat → Int64) (t_belows : Nat → Int64) (t_aboveNow : Nat → Int64) (t_belowNow : Nat → Int64) (Q : (Nat → Int64) → (Nat → Int64) → Prop) : Prop :=
  ∃ n2 : Nat, wp_Ra_turnTo_L2 day t_days_keys t_days_sizes t_aboves t_belows Q n2 0 t_aboveNow t_belowNow
set_option maxHeartbeats 4000000 in
set_option maxRecDepth 100000 in
theorem k_Ra_turnTo (g : GX) (hg : g.1.stackTraces = false) (a_t : Nat) (day : Int64) (a_t_days : Nat) (a_t_aboves : Nat) (a_t_belows : Nat) (a_t_aboveNow : Nat) (a_t_belowNow : Nat) (a_t_days_keys : Nat) (a_t_days_sizes : Nat) (t_days_keys : Nat → Int64) (t_days_sizes : Nat → Int32) (t_aboves : Nat → Int64) (t_belows : Nat → Int64) (t_aboveNow : Nat → Int64) (t_belowNow : Nat → Int64) (Q : (Nat → Int64) → (Nat → Int64) → Prop) (hw : wp_Ra_turnTo day t_days_keys t_days_sizes t_aboves t_belows t_aboveNow t_belowNow Q) : CT g y_Ra_turnTo c_Ra_turnTo 5 none ({ frames := 2, cells := 0, slots := 0, locals := 49 } : Room) [.ref a_t, .long day] [(a_t, .inr (2, [.ref a_t_days, .ref a_t_aboves, .ref a_t_belows, .ref a_t_aboveNow, .ref a_t_belowNow])), (a_t_days, .inr (0, [.ref a_t_days_keys, .ref a_t_days_sizes])), aJ g a_t_days_keys 48 t_days_keys, aI g a_t_days_sizes 8 t_days_sizes, aJ g a_t_aboves 48 t_aboves, aJ g a_t_belows 48 t_belows, aJ g a_t_aboveNow 8 t_aboveNow, aJ g a_t_belowNow 8 t_belowNow] (QV g [(a_t, .inr (2, [.ref a_t_days, .ref a_t_aboves, .ref a_t_belows, .ref a_t_aboveNow, .ref a_t_belowNow])), (a_t_days, .inr (0, [.ref a_t_days_keys, .ref a_t_days_sizes])), aJ g a_t_days_keys 48 t_days_keys, aI g a_t_days_sizes 8 t_days_sizes, aJ g a_t_aboves 48 t_aboves, aJ g a_t_belows 48 t_belows, aJ g a_t_aboveNow 8 t_aboveNow, aJ g a_t_belowNow 8 t_belowNow] (fun u : (Nat → Int64) × (Nat → Int64) => [(a_t, .inr (2, [.ref a_t_days, .ref a_t_aboves, .ref a_t_belows, .ref a_t_aboveNow, .ref a_t_belowNow])), (a_t_days, .inr (0, [.ref a_t_days_keys, .ref a_t_days_sizes])), aJ g a_t_days_keys 48 t_days_keys, aI g a_t_days_sizes 8 t_days_sizes, aJ g a_t_aboves 48 t_aboves, aJ g a_t_belows 48 t_belows, aJ g a_t_aboveNow 8 u.1, aJ g a_t_belowNow 8 u.2]) (fun u => Q u.1 u.2)) := by
  refine ct_of hg (by decide) (Nat.le_of_ble_eq_true rfl) (fun sz C X hr => ?_)
  unfold wp_Ra_turnTo at hw
  show ST g C [(a_t, .inr (2, [.ref a_t_days, .ref a_t_aboves, .ref a_t_belows, .ref a_t_aboveNow, .ref a_t_belowNow])), (a_t_days, .inr (0, [.ref a_t_days_keys, .ref a_t_days_sizes])), aJ g a_t_days_keys 48 t_days_keys, aI g a_t_days_sizes 8 t_days_sizes, aJ g a_t_aboves 48 t_aboves, aJ g a_t_belows 48 t_belows, aJ g a_t_aboveNow 8 t_aboveNow, aJ g a_t_belowNow 8 t_belowNow] [(0, .ref a_t), (1, .long day)] [] 0 0 0
  refine st_iconst X (v := 0) d_Ra_turnTo_0 (by decide) ?_
  refine st_istore_n X (lv2 := [(3, .int 0), (0, .ref a_t), (1, .long day)]) d_Ra_turnTo_1 rfl (by decide) rfl ?_
  have L2 : ∀ (n2 : Nat) (v1 : Int32) (f2 : Nat → Int64) (f3 : Nat → Int64), wp_Ra_turnTo_L2 day t_days_keys t_days_sizes t_aboves t_belows Q n2 v1 f2 f3 → ST g C [(a_t, .inr (2, [.ref a_t_days, .ref a_t_aboves, .ref a_t_belows, .ref a_t_aboveNow, .ref a_t_belowNow])), (a_t_days, .inr (0, [.ref a_t_days_keys, .ref a_t_days_sizes])), aJ g a_t_days_keys 48 t_days_keys, aI g a_t_days_sizes 8 t_days_sizes, aJ g a_t_aboves 48 t_aboves, aJ g a_t_belows 48 t_belows, aJ g a_t_aboveNow 8 f2, aJ g a_t_belowNow 8 f3] [(0, .ref a_t), (1, .long day), (3, .int v1)] [] 2 0 0 := by
    intro n2
    induction n2 with
    | zero => intro v1 f2 f3 hw; exact hw.elim
    | succ n2 ih2 =>
      intro v1 f2 f3 hw
      rw [wp_Ra_turnTo_L2] at hw
      refine st_iload_n X 2 d_Ra_turnTo_2 rfl rfl ?_
      refine st_bipush X (v := 8) d_Ra_turnTo_3 (by decide) ?_
      refine st_icmp_ge X 68 d_Ra_turnTo_5 (by decide) (fun hc => ?_) (fun hc => ?_)
      · replace hw := hw.1 hc
        exact st_vret X hr (f2, f3) hw rfl (by decide) (by decide) d_Ra_turnTo_68
      · replace hw := hw.2 hc
        refine st_aload_n X 0 d_Ra_turnTo_8 rfl rfl ?_
        refine st_iload_n X 2 d_Ra_turnTo_9 rfl rfl ?_
        refine st_lload_n X 1 d_Ra_turnTo_10 rfl rfl ?_
        have hR := rn_V (pc := 11) (k := 0) (n := 0) (As := [.int v1, .long day]) (rest := []) X (k_Ra_latestSlot g hg a_t v1 day a_t_days a_t_aboves a_t_belows a_t_aboveNow a_t_belowNow a_t_days_keys a_t_days_sizes t_days_keys t_days_sizes _ hw) (q0 := 0) rfl rfl wm_Ra_41 wi_Ra_latestSlot wl_Ra_latestSlot wz_Ra wc_Ra_latestSlot h9_Ra_latestSlot ⟨by decide, by decide⟩ (Nat.le_of_ble_eq_true rfl) ⟨by decide, by decide⟩ d_Ra_turnTo_11
        refine st_calli X hR [0, 1, 2, 3] [4, 5, 6, 7] (wr := [aJ g a_t_aboves 48 t_aboves, aJ g a_t_belows 48 t_belows, aJ g a_t_aboveNow 8 f2, aJ g a_t_belowNow 8 f3]) rfl rfl (by decide) (by decide) (by decide) (fun r4 u9 hw => ?_)
        try dsimp only at hw
        refine st_widen (k2 := 0) (n2 := 0) (by decide) (by decide) ?_
        refine st_perm (ws2 := [(a_t, .inr (2, [.ref a_t_days, .ref a_t_aboves, .ref a_t_belows, .ref a_t_aboveNow, .ref a_t_belowNow])), (a_t_days, .inr (0, [.ref a_t_days_keys, .ref a_t_days_sizes])), aJ g a_t_days_keys 48 t_days_keys, aI g a_t_days_sizes 8 t_days_sizes, aJ g a_t_aboves 48 t_aboves, aJ g a_t_belows 48 t_belows, aJ g a_t_aboveNow 8 f2, aJ g a_t_belowNow 8 f3]) [4, 5, 6, 7, 0, 1, 2, 3] rfl (by decide) ?_
        show ST g C [(a_t, .inr (2, [.ref a_t_days, .ref a_t_aboves, .ref a_t_belows, .ref a_t_aboveNow, .ref a_t_belowNow])), (a_t_days, .inr (0, [.ref a_t_days_keys, .ref a_t_days_sizes])), aJ g a_t_days_keys 48 t_days_keys, aI g a_t_days_sizes 8 t_days_sizes, aJ g a_t_aboves 48 t_aboves, aJ g a_t_belows 48 t_belows, aJ g a_t_aboveNow 8 f2, aJ g a_t_belowNow 8 f3] [(0, .ref a_t), (1, .long day), (3, .int v1)] [.int r4] 14 0 0
        refine st_istore X (lv2 := [(4, .int r4), (0, .ref a_t), (1, .long day), (3, .int v1)]) d_Ra_turnTo_14 (by decide) rfl ?_
        refine st_aload_n X 1 d_Ra_turnTo_16 rfl rfl ?_
        refine st_get X (ci := 2) in_Ra 0 3 wf_Ra_27 rfl rfl (by decide) rfl d_Ra_turnTo_17 ?_
        refine st_iload_n X 3 d_Ra_turnTo_20 rfl rfl ?_
        refine st_iload X 0 d_Ra_turnTo_21 rfl ?_
        refine st_iconst X (v := (-1)) d_Ra_turnTo_23 (by decide) ?_
        have J38 : ∀ (v5 : Int64), wp_Ra_turnTo_J38 t_belows v1 f2 f3 r4 (fun z0 z1 z2 => wp_Ra_turnTo_L2 day t_days_keys t_days_sizes t_aboves t_belows Q n2 z0 z1 z2) v5 → ST g C [(a_t, .inr (2, [.ref a_t_days, .ref a_t_aboves, .ref a_t_belows, .ref a_t_aboveNow, .ref a_t_belowNow])), (a_t_days, .inr (0, [.ref a_t_days_keys, .ref a_t_days_sizes])), aJ g a_t_days_keys 48 t_days_keys, aI g a_t_days_sizes 8 t_days_sizes, aJ g a_t_aboves 48 t_aboves, aJ g a_t_belows 48 t_belows, aJ g a_t_aboveNow 8 f2, aJ g a_t_belowNow 8 f3] [(0, .ref a_t), (1, .long day), (3, .int v1), (4, .int r4)] [.long v5, .int v1, .ref a_t_aboveNow] 38 0 0 := by
          intro v5 hw
          unfold wp_Ra_turnTo_J38 at hw
          obtain ⟨hb1, hw⟩ := hw
          obtain ⟨f6, hf6⟩ : ∃ z : Nat → Int64, z = vp_updL f2 v1.toNatClampNeg v5 := ⟨_, rfl⟩
          replace hw := hw f6 hf6
          refine st_last X (ws2 := [(a_t, .inr (2, [.ref a_t_days, .ref a_t_aboves, .ref a_t_belows, .ref a_t_aboveNow, .ref a_t_belowNow])), (a_t_days, .inr (0, [.ref a_t_days_keys, .ref a_t_days_sizes])), aJ g a_t_days_keys 48 t_days_keys, aI g a_t_days_sizes 8 t_days_sizes, aJ g a_t_aboves 48 t_aboves, aJ g a_t_belows 48 t_belows, aJ g a_t_aboveNow 8 f6, aJ g a_t_belowNow 8 f3]) 6 rfl hb1 (by rw [hf6]; rfl) d_Ra_turnTo_38 ?_
          refine st_aload_n X 0 d_Ra_turnTo_39 rfl rfl ?_
          refine st_get X (ci := 2) in_Ra 0 4 wf_Ra_30 rfl rfl (by decide) rfl d_Ra_turnTo_40 ?_
          refine st_iload_n X 2 d_Ra_turnTo_43 rfl rfl ?_
          refine st_iload X 3 d_Ra_turnTo_44 rfl ?_
          refine st_iconst X (v := (-1)) d_Ra_turnTo_46 (by decide) ?_
          have J61 : ∀ (v7 : Int64), wp_Ra_turnTo_J61 v1 f3 f6 (fun z0 z1 z2 => wp_Ra_turnTo_L2 day t_days_keys t_days_sizes t_aboves t_belows Q n2 z0 z1 z2) v7 → ST g C [(a_t, .inr (2, [.ref a_t_days, .ref a_t_aboves, .ref a_t_belows, .ref a_t_aboveNow, .ref a_t_belowNow])), (a_t_days, .inr (0, [.ref a_t_days_keys, .ref a_t_days_sizes])), aJ g a_t_days_keys 48 t_days_keys, aI g a_t_days_sizes 8 t_days_sizes, aJ g a_t_aboves 48 t_aboves, aJ g a_t_belows 48 t_belows, aJ g a_t_aboveNow 8 f6, aJ g a_t_belowNow 8 f3] [(0, .ref a_t), (1, .long day), (3, .int v1), (4, .int r4)] [.long v7, .int v1, .ref a_t_belowNow] 61 0 0 := by
            intro v7 hw
            unfold wp_Ra_turnTo_J61 at hw
            obtain ⟨hb2, hw⟩ := hw
            obtain ⟨f8, hf8⟩ : ∃ z : Nat → Int64, z = vp_updL f3 v1.toNatClampNeg v7 := ⟨_, rfl⟩
            replace hw := hw f8 hf8
            refine st_last X (ws2 := [(a_t, .inr (2, [.ref a_t_days, .ref a_t_aboves, .ref a_t_belows, .ref a_t_aboveNow, .ref a_t_belowNow])), (a_t_days, .inr (0, [.ref a_t_days_keys, .ref a_t_days_sizes])), aJ g a_t_days_keys 48 t_days_keys, aI g a_t_days_sizes 8 t_days_sizes, aJ g a_t_aboves 48 t_aboves, aJ g a_t_belows 48 t_belows, aJ g a_t_aboveNow 8 f6, aJ g a_t_belowNow 8 f8]) 7 rfl hb2 (by rw [hf8]; rfl) d_Ra_turnTo_61 ?_
            obtain ⟨x9, hx9⟩ : ∃ z : Int32, z = v1 + 1 := ⟨_, rfl⟩
            replace hw := hw x9 hx9
            refine st_iinc X (v := x9) (lv2 := [(3, .int x9), (0, .ref a_t), (1, .long day), (4, .int r4)]) 2 d_Ra_turnTo_62 rfl (by rw [hx9]; rfl) (by decide) rfl ?_
            refine st_goto X 2 d_Ra_turnTo_65 (by decide) ?_
            refine st_lv [1, 2, 0] rfl ?_
            exact ih2 x9 f6 f8 hw
          refine st_icmp_ne X 54 d_Ra_turnTo_47 (by decide) (fun hc => ?_) (fun hc => ?_)
          · replace hw := hw.1 hc
            refine st_aload_n X 0 d_Ra_turnTo_54 rfl rfl ?_
            refine st_get X (ci := 2) in_Ra 0 2 wf_Ra_24 rfl rfl (by decide) rfl d_Ra_turnTo_55 ?_
            refine st_iload X 3 d_Ra_turnTo_58 rfl ?_
            obtain ⟨hb3, hw⟩ := hw
            refine st_lald X 5 rfl hb3 d_Ra_turnTo_60 ?_
            refine st_lv [0, 1, 2, 3] rfl ?_
            exact J61 (t_belows r4.toNatClampNeg) hw
          · replace hw := hw.2 hc
            refine st_lconst X (v := 1) d_Ra_turnTo_50 (by decide) ?_
            refine st_goto X 61 d_Ra_turnTo_51 (by decide) ?_
            refine st_lv [0, 1, 2, 3] rfl ?_
            exact J61 1 hw
        refine st_icmp_ne X 31 d_Ra_turnTo_24 (by decide) (fun hc => ?_) (fun hc => ?_)
        · replace hw := hw.1 hc
          refine st_aload_n X 1 d_Ra_turnTo_31 rfl rfl ?_
          refine st_get X (ci := 2) in_Ra 0 1 wf_Ra_20 rfl rfl (by decide) rfl d_Ra_turnTo_32 ?_
          refine st_iload X 0 d_Ra_turnTo_35 rfl ?_
          obtain ⟨hb4, hw⟩ := hw
          refine st_lald X 4 rfl hb4 d_Ra_turnTo_37 ?_
          refine st_lv [1, 2, 3, 0] rfl ?_
          exact J38 (t_aboves r4.toNatClampNeg) hw
        · replace hw := hw.2 hc
          refine st_lconst X (v := 1) d_Ra_turnTo_27 (by decide) ?_
          refine st_goto X 38 d_Ra_turnTo_28 (by decide) ?_
          refine st_lv [1, 2, 3, 0] rfl ?_
          exact J38 1 hw
  obtain ⟨n2, hw⟩ := hw
  refine st_lv [1, 2, 0] rfl ?_
  exact L2 n2 0 t_aboveNow t_belowNow hw

theorem h9_Ra_exchange : y_Ra_exchange.cls ≠ "java/lang/invoke/MethodHandle" ∧ y_Ra_exchange.cls ≠ "java/lang/invoke/VarHandle" ∧ (parseMethodDescriptor y_Ra_exchange.desc).map (fun d => d.parameters.length) = some 2 := by decide +kernel
def wp_Ra_exchange (maker : Int32) (amount : Int64) (t_aboveNow : Nat → Int64) (t_belowNow : Nat → Int64) (Q : Int64 → Prop) : Prop :=
  vp_in maker 8 ∧
  vp_in maker 8 ∧
  wp_C_divideUp (amount * (t_aboveNow maker.toNatClampNeg)) (t_belowNow maker.toNatClampNeg) (fun r1 =>
  Q r1)
set_option maxHeartbeats 4000000 in
set_option maxRecDepth 100000 in
theorem k_Ra_exchange (g : GX) (hg : g.1.stackTraces = false) (a_t : Nat) (maker : Int32) (amount : Int64) (a_t_days : Nat) (a_t_aboves : Nat) (a_t_belows : Nat) (a_t_aboveNow : Nat) (a_t_belowNow : Nat) (t_aboveNow : Nat → Int64) (t_belowNow : Nat → Int64) (Q : Int64 → Prop) (hw : wp_Ra_exchange maker amount t_aboveNow t_belowNow Q) : CT g y_Ra_exchange c_Ra_exchange 4 (some .long) ({ frames := 1, cells := 0, slots := 0, locals := 23 } : Room) [.ref a_t, .int maker, .long amount] [(a_t, .inr (2, [.ref a_t_days, .ref a_t_aboves, .ref a_t_belows, .ref a_t_aboveNow, .ref a_t_belowNow])), aJ g a_t_aboveNow 8 t_aboveNow, aJ g a_t_belowNow 8 t_belowNow] (QL g [(a_t, .inr (2, [.ref a_t_days, .ref a_t_aboves, .ref a_t_belows, .ref a_t_aboveNow, .ref a_t_belowNow])), aJ g a_t_aboveNow 8 t_aboveNow, aJ g a_t_belowNow 8 t_belowNow] (fun u : Unit => [(a_t, .inr (2, [.ref a_t_days, .ref a_t_aboves, .ref a_t_belows, .ref a_t_aboveNow, .ref a_t_belowNow])), aJ g a_t_aboveNow 8 t_aboveNow, aJ g a_t_belowNow 8 t_belowNow]) (fun r u => Q r)) := by
  refine ct_of hg (by decide) (Nat.le_of_ble_eq_true rfl) (fun sz C X hr => ?_)
  unfold wp_Ra_exchange at hw
  show ST g C [(a_t, .inr (2, [.ref a_t_days, .ref a_t_aboves, .ref a_t_belows, .ref a_t_aboveNow, .ref a_t_belowNow])), aJ g a_t_aboveNow 8 t_aboveNow, aJ g a_t_belowNow 8 t_belowNow] [(0, .ref a_t), (1, .int maker), (2, .long amount)] [] 0 0 0
  refine st_lload_n X 2 d_Ra_exchange_0 rfl rfl ?_
  refine st_aload_n X 0 d_Ra_exchange_1 rfl rfl ?_
  refine st_get X (ci := 2) in_Ra 0 3 wf_Ra_27 rfl rfl (by decide) rfl d_Ra_exchange_2 ?_
  refine st_iload_n X 1 d_Ra_exchange_5 rfl rfl ?_
  obtain ⟨hb1, hw⟩ := hw
  refine st_lald X 1 rfl hb1 d_Ra_exchange_6 ?_
  refine st_lmul X d_Ra_exchange_7 ?_
  refine st_aload_n X 0 d_Ra_exchange_8 rfl rfl ?_
  refine st_get X (ci := 2) in_Ra 0 4 wf_Ra_30 rfl rfl (by decide) rfl d_Ra_exchange_9 ?_
  refine st_iload_n X 1 d_Ra_exchange_12 rfl rfl ?_
  obtain ⟨hb2, hw⟩ := hw
  refine st_lald X 2 rfl hb2 d_Ra_exchange_13 ?_
  have hR := rn_SN (pc := 14) (k := 0) (n := 0) (As := [.long (amount * (t_aboveNow maker.toNatClampNeg)), .long (t_belowNow maker.toNatClampNeg)]) (rest := []) X (k_C_divideUp g hg (amount * (t_aboveNow maker.toNatClampNeg)) (t_belowNow maker.toNatClampNeg) _ hw) nl_Ra_54 ws_C_divideUp wz_C wc_C_divideUp h9_C_divideUp ⟨by decide, by decide⟩ (Nat.le_of_ble_eq_true rfl) ⟨by decide, by decide⟩ d_Ra_exchange_14
  refine st_calll X hR [] [0, 1, 2] (wr := [(a_t, .inr (2, [.ref a_t_days, .ref a_t_aboves, .ref a_t_belows, .ref a_t_aboveNow, .ref a_t_belowNow])), aJ g a_t_aboveNow 8 t_aboveNow, aJ g a_t_belowNow 8 t_belowNow]) rfl rfl (by decide) (by decide) (by decide) (fun r1 u9 hw => ?_)
  try dsimp only at hw
  refine st_widen (k2 := 0) (n2 := 0) (by decide) (by decide) ?_
  refine st_perm (ws2 := [(a_t, .inr (2, [.ref a_t_days, .ref a_t_aboves, .ref a_t_belows, .ref a_t_aboveNow, .ref a_t_belowNow])), aJ g a_t_aboveNow 8 t_aboveNow, aJ g a_t_belowNow 8 t_belowNow]) [0, 1, 2] rfl (by decide) ?_
  show ST g C [(a_t, .inr (2, [.ref a_t_days, .ref a_t_aboves, .ref a_t_belows, .ref a_t_aboveNow, .ref a_t_belowNow])), aJ g a_t_aboveNow 8 t_aboveNow, aJ g a_t_belowNow 8 t_belowNow] [(0, .ref a_t), (1, .int maker), (2, .long amount)] [.long r1] 17 0 0
  exact st_lret X hr () hw rfl (by decide) (by decide) d_Ra_exchange_17
