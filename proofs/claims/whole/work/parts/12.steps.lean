theorem h9_St_firstSlot : y_St_firstSlot.cls ≠ "java/lang/invoke/MethodHandle" ∧ y_St_firstSlot.cls ≠ "java/lang/invoke/VarHandle" ∧ (parseMethodDescriptor y_St_firstSlot.desc).map (fun d => d.parameters.length) = some 2 := by decide +kernel
def wp_St_firstSlot (thing : Int32) (maker : Int32) (Q : Int32 → Prop) : Prop :=
  wp_K_firstSlot ((thing * 8) + maker) (fun r1 =>
  Q r1)
set_option maxHeartbeats 4000000 in
set_option maxRecDepth 100000 in
theorem k_St_firstSlot (g : GX) (hg : g.1.stackTraces = false) (a_t : Nat) (thing : Int32) (maker : Int32) (a_t_froms : Nat) (a_t_cents : Nat) (a_t_froms_keys : Nat) (a_t_froms_sizes : Nat) (Q : Int32 → Prop) (hw : wp_St_firstSlot thing maker Q) : CT g y_St_firstSlot c_St_firstSlot 3 (some .int) ({ frames := 1, cells := 0, slots := 0, locals := 21 } : Room) [.ref a_t, .int thing, .int maker] [(a_t, .inr (3, [.ref a_t_froms, .ref a_t_cents])), (a_t_froms, .inr (0, [.ref a_t_froms_keys, .ref a_t_froms_sizes]))] (QI g [(a_t, .inr (3, [.ref a_t_froms, .ref a_t_cents])), (a_t_froms, .inr (0, [.ref a_t_froms_keys, .ref a_t_froms_sizes]))] (fun u : Unit => [(a_t, .inr (3, [.ref a_t_froms, .ref a_t_cents])), (a_t_froms, .inr (0, [.ref a_t_froms_keys, .ref a_t_froms_sizes]))]) (fun r u => Q r)) := by
  refine ct_of hg (by decide) (Nat.le_of_ble_eq_true rfl) (fun sz C X hr => ?_)
  unfold wp_St_firstSlot at hw
  show ST g C [(a_t, .inr (3, [.ref a_t_froms, .ref a_t_cents])), (a_t_froms, .inr (0, [.ref a_t_froms_keys, .ref a_t_froms_sizes]))] [(0, .ref a_t), (1, .int thing), (2, .int maker)] [] 0 0 0
  refine st_aload_n X 0 d_St_firstSlot_0 rfl rfl ?_
  refine st_get X (ci := 3) in_St 0 0 wf_St_14 rfl rfl (by decide) rfl d_St_firstSlot_1 ?_
  refine st_iload_n X 1 d_St_firstSlot_4 rfl rfl ?_
  refine st_bipush X (v := 8) d_St_firstSlot_5 (by decide) ?_
  refine st_imul X d_St_firstSlot_7 ?_
  refine st_iload_n X 2 d_St_firstSlot_8 rfl rfl ?_
  refine st_iadd X d_St_firstSlot_9 ?_
  have hR := rn_VN (pc := 10) (k := 0) (n := 0) (As := [.int ((thing * 8) + maker)]) (rest := []) X (k_K_firstSlot g hg a_t_froms ((thing * 8) + maker) a_t_froms_keys a_t_froms_sizes _ hw) (q0 := 0) rfl rfl nl_St_24 wi_K_firstSlot wl_K_firstSlot wz_K wc_K_firstSlot h9_K_firstSlot ⟨by decide, by decide⟩ (Nat.le_of_ble_eq_true rfl) ⟨by decide, by decide⟩ d_St_firstSlot_10
  refine st_calli X hR [1] [0] (wr := [(a_t, .inr (3, [.ref a_t_froms, .ref a_t_cents]))]) rfl rfl (by decide) (by decide) (by decide) (fun r1 u9 hw => ?_)
  try dsimp only at hw
  refine st_widen (k2 := 0) (n2 := 0) (by decide) (by decide) ?_
  refine st_perm (ws2 := [(a_t, .inr (3, [.ref a_t_froms, .ref a_t_cents])), (a_t_froms, .inr (0, [.ref a_t_froms_keys, .ref a_t_froms_sizes]))]) [0, 1] rfl (by decide) ?_
  show ST g C [(a_t, .inr (3, [.ref a_t_froms, .ref a_t_cents])), (a_t_froms, .inr (0, [.ref a_t_froms_keys, .ref a_t_froms_sizes]))] [(0, .ref a_t), (1, .int thing), (2, .int maker)] [.int r1] 13 0 0
  exact st_iret X hr () hw rfl (by decide) (by decide) d_St_firstSlot_13

theorem h9_St_endSlot : y_St_endSlot.cls ≠ "java/lang/invoke/MethodHandle" ∧ y_St_endSlot.cls ≠ "java/lang/invoke/VarHandle" ∧ (parseMethodDescriptor y_St_endSlot.desc).map (fun d => d.parameters.length) = some 2 := by decide +kernel
def wp_St_endSlot (thing : Int32) (maker : Int32) (t_froms_sizes : Nat → Int32) (Q : Int32 → Prop) : Prop :=
  wp_K_endSlot ((thing * 8) + maker) 248 t_froms_sizes (fun r1 =>
  Q r1)
set_option maxHeartbeats 4000000 in
set_option maxRecDepth 100000 in
theorem k_St_endSlot (g : GX) (hg : g.1.stackTraces = false) (a_t : Nat) (thing : Int32) (maker : Int32) (a_t_froms : Nat) (a_t_cents : Nat) (a_t_froms_keys : Nat) (a_t_froms_sizes : Nat) (t_froms_sizes : Nat → Int32) (Q : Int32 → Prop) (hw : wp_St_endSlot thing maker t_froms_sizes Q) : CT g y_St_endSlot c_St_endSlot 3 (some .int) ({ frames := 1, cells := 0, slots := 0, locals := 21 } : Room) [.ref a_t, .int thing, .int maker] [(a_t, .inr (3, [.ref a_t_froms, .ref a_t_cents])), (a_t_froms, .inr (0, [.ref a_t_froms_keys, .ref a_t_froms_sizes])), aI g a_t_froms_sizes 248 t_froms_sizes] (QI g [(a_t, .inr (3, [.ref a_t_froms, .ref a_t_cents])), (a_t_froms, .inr (0, [.ref a_t_froms_keys, .ref a_t_froms_sizes])), aI g a_t_froms_sizes 248 t_froms_sizes] (fun u : Unit => [(a_t, .inr (3, [.ref a_t_froms, .ref a_t_cents])), (a_t_froms, .inr (0, [.ref a_t_froms_keys, .ref a_t_froms_sizes])), aI g a_t_froms_sizes 248 t_froms_sizes]) (fun r u => Q r)) := by
  refine ct_of hg (by decide) (Nat.le_of_ble_eq_true rfl) (fun sz C X hr => ?_)
  unfold wp_St_endSlot at hw
  show ST g C [(a_t, .inr (3, [.ref a_t_froms, .ref a_t_cents])), (a_t_froms, .inr (0, [.ref a_t_froms_keys, .ref a_t_froms_sizes])), aI g a_t_froms_sizes 248 t_froms_sizes] [(0, .ref a_t), (1, .int thing), (2, .int maker)] [] 0 0 0
  refine st_aload_n X 0 d_St_endSlot_0 rfl rfl ?_
  refine st_get X (ci := 3) in_St 0 0 wf_St_14 rfl rfl (by decide) rfl d_St_endSlot_1 ?_
  refine st_iload_n X 1 d_St_endSlot_4 rfl rfl ?_
  refine st_bipush X (v := 8) d_St_endSlot_5 (by decide) ?_
  refine st_imul X d_St_endSlot_7 ?_
  refine st_iload_n X 2 d_St_endSlot_8 rfl rfl ?_
  refine st_iadd X d_St_endSlot_9 ?_
  have hR := rn_VN (pc := 10) (k := 0) (n := 0) (As := [.int ((thing * 8) + maker)]) (rest := []) X (k_K_endSlot g hg a_t_froms ((thing * 8) + maker) a_t_froms_keys a_t_froms_sizes 248 t_froms_sizes _ hw) (q0 := 0) rfl rfl nl_St_28 wi_K_endSlot wl_K_endSlot wz_K wc_K_endSlot h9_K_endSlot ⟨by decide, by decide⟩ (Nat.le_of_ble_eq_true rfl) ⟨by decide, by decide⟩ d_St_endSlot_10
  refine st_calli X hR [1, 2] [0] (wr := [(a_t, .inr (3, [.ref a_t_froms, .ref a_t_cents]))]) rfl rfl (by decide) (by decide) (by decide) (fun r1 u9 hw => ?_)
  try dsimp only at hw
  refine st_widen (k2 := 0) (n2 := 0) (by decide) (by decide) ?_
  refine st_perm (ws2 := [(a_t, .inr (3, [.ref a_t_froms, .ref a_t_cents])), (a_t_froms, .inr (0, [.ref a_t_froms_keys, .ref a_t_froms_sizes])), aI g a_t_froms_sizes 248 t_froms_sizes]) [0, 1, 2] rfl (by decide) ?_
  show ST g C [(a_t, .inr (3, [.ref a_t_froms, .ref a_t_cents])), (a_t_froms, .inr (0, [.ref a_t_froms_keys, .ref a_t_froms_sizes])), aI g a_t_froms_sizes 248 t_froms_sizes] [(0, .ref a_t), (1, .int thing), (2, .int maker)] [.int r1] 13 0 0
  exact st_iret X hr () hw rfl (by decide) (by decide) d_St_endSlot_13

theorem h9_St_fromAt : y_St_fromAt.cls ≠ "java/lang/invoke/MethodHandle" ∧ y_St_fromAt.cls ≠ "java/lang/invoke/VarHandle" ∧ (parseMethodDescriptor y_St_fromAt.desc).map (fun d => d.parameters.length) = some 1 := by decide +kernel
def wp_St_fromAt (slot : Int32) (t_froms_keys : Nat → Int64) (Q : Int64 → Prop) : Prop :=
  vp_in slot 1488 ∧
  Q (t_froms_keys slot.toNatClampNeg)
set_option maxHeartbeats 4000000 in
set_option maxRecDepth 100000 in
theorem k_St_fromAt (g : GX) (hg : g.1.stackTraces = false) (a_t : Nat) (slot : Int32) (a_t_froms : Nat) (a_t_cents : Nat) (a_t_froms_keys : Nat) (a_t_froms_sizes : Nat) (t_froms_keys : Nat → Int64) (Q : Int64 → Prop) (hw : wp_St_fromAt slot t_froms_keys Q) : CT g y_St_fromAt c_St_fromAt 2 (some .long) ({ frames := 0, cells := 0, slots := 0, locals := 0 } : Room) [.ref a_t, .int slot] [(a_t, .inr (3, [.ref a_t_froms, .ref a_t_cents])), (a_t_froms, .inr (0, [.ref a_t_froms_keys, .ref a_t_froms_sizes])), aJ g a_t_froms_keys 1488 t_froms_keys] (QL g [(a_t, .inr (3, [.ref a_t_froms, .ref a_t_cents])), (a_t_froms, .inr (0, [.ref a_t_froms_keys, .ref a_t_froms_sizes])), aJ g a_t_froms_keys 1488 t_froms_keys] (fun u : Unit => [(a_t, .inr (3, [.ref a_t_froms, .ref a_t_cents])), (a_t_froms, .inr (0, [.ref a_t_froms_keys, .ref a_t_froms_sizes])), aJ g a_t_froms_keys 1488 t_froms_keys]) (fun r u => Q r)) := by
  refine ct_of hg (by decide) (Nat.le_of_ble_eq_true rfl) (fun sz C X hr => ?_)
  unfold wp_St_fromAt at hw
  show ST g C [(a_t, .inr (3, [.ref a_t_froms, .ref a_t_cents])), (a_t_froms, .inr (0, [.ref a_t_froms_keys, .ref a_t_froms_sizes])), aJ g a_t_froms_keys 1488 t_froms_keys] [(0, .ref a_t), (1, .int slot)] [] 0 0 0
  refine st_aload_n X 0 d_St_fromAt_0 rfl rfl ?_
  refine st_get X (ci := 3) in_St 0 0 wf_St_14 rfl rfl (by decide) rfl d_St_fromAt_1 ?_
  refine st_getN X (ci := 0) in_K 1 0 nf_St_31 rfl rfl (by decide) rfl d_St_fromAt_4 ?_
  refine st_iload_n X 1 d_St_fromAt_7 rfl rfl ?_
  obtain ⟨hb1, hw⟩ := hw
  refine st_lald X 2 rfl hb1 d_St_fromAt_8 ?_
  exact st_lret X hr () hw rfl (by decide) (by decide) d_St_fromAt_9

theorem h9_St_tell : y_St_tell.cls ≠ "java/lang/invoke/MethodHandle" ∧ y_St_tell.cls ≠ "java/lang/invoke/VarHandle" ∧ (parseMethodDescriptor y_St_tell.desc).map (fun d => d.parameters.length) = some 4 := by decide +kernel
def wp_St_tell_J41 (u1 : Nat → Int64) (u2 : Nat → Int32) (Q : Int32 → (Nat → Int64) → (Nat → Int32) → (Nat → Int64) → Prop) (v4 : Int32) (f5 : Nat → Int64) : Prop :=
  (v4 = 0 ∨ v4 = 1) ∧ Q v4 u1 u2 f5
def wp_St_tell_J40 (u1 : Nat → Int64) (u2 : Nat → Int32) (Q : Int32 → (Nat → Int64) → (Nat → Int32) → (Nat → Int64) → Prop) (f6 : Nat → Int64) : Prop :=
  wp_St_tell_J41 u1 u2 Q 0 f6
def wp_St_tell (thing : Int32) (maker : Int32) (from_ : Int64) (price : Int64) (t_froms_keys : Nat → Int64) (t_froms_sizes : Nat → Int32) (t_cents : Nat → Int64) (Q : Int32 → (Nat → Int64) → (Nat → Int32) → (Nat → Int64) → Prop) : Prop :=
  wp_K_slotFor ((thing * 8) + maker) from_ 1488 t_froms_keys 248 t_froms_sizes (fun r3 u1 u2 =>
  ((r3 = (-1)) → wp_St_tell_J40 u1 u2 Q t_cents) ∧
  ((¬ r3 = (-1)) → wp_C_tellNumber r3 price 1488 t_cents (fun r8 u7 =>
  ((r8 = 0) → wp_St_tell_J40 u1 u2 Q u7) ∧
  ((¬ r8 = 0) → wp_St_tell_J41 u1 u2 Q 1 u7))))
set_option maxHeartbeats 4000000 in
set_option maxRecDepth 100000 in
theorem k_St_tell (g : GX) (hg : g.1.stackTraces = false) (a_t : Nat) (thing : Int32) (maker : Int32) (from_ : Int64) (price : Int64) (a_t_froms : Nat) (a_t_cents : Nat) (a_t_froms_keys : Nat) (a_t_froms_sizes : Nat) (t_froms_keys : Nat → Int64) (t_froms_sizes : Nat → Int32) (t_cents : Nat → Int64) (Q : Int32 → (Nat → Int64) → (Nat → Int32) → (Nat → Int64) → Prop) (hw : wp_St_tell thing maker from_ price t_froms_keys t_froms_sizes t_cents Q) : CT g y_St_tell c_St_tell 8 (some .boolean) ({ frames := 2, cells := 0, slots := 0, locals := 46 } : Room) [.ref a_t, .int thing, .int maker, .long from_, .long price] [(a_t, .inr (3, [.ref a_t_froms, .ref a_t_cents])), (a_t_froms, .inr (0, [.ref a_t_froms_keys, .ref a_t_froms_sizes])), aJ g a_t_froms_keys 1488 t_froms_keys, aI g a_t_froms_sizes 248 t_froms_sizes, aJ g a_t_cents 1488 t_cents] (QI g [(a_t, .inr (3, [.ref a_t_froms, .ref a_t_cents])), (a_t_froms, .inr (0, [.ref a_t_froms_keys, .ref a_t_froms_sizes])), aJ g a_t_froms_keys 1488 t_froms_keys, aI g a_t_froms_sizes 248 t_froms_sizes, aJ g a_t_cents 1488 t_cents] (fun u : (Nat → Int64) × (Nat → Int32) × (Nat → Int64) => [(a_t, .inr (3, [.ref a_t_froms, .ref a_t_cents])), (a_t_froms, .inr (0, [.ref a_t_froms_keys, .ref a_t_froms_sizes])), aJ g a_t_froms_keys 1488 u.1, aI g a_t_froms_sizes 248 u.2.1, aJ g a_t_cents 1488 u.2.2]) (fun r u => Q r u.1 u.2.1 u.2.2)) := by
  refine ct_of hg (by decide) (Nat.le_of_ble_eq_true rfl) (fun sz C X hr => ?_)
  unfold wp_St_tell at hw
  show ST g C [(a_t, .inr (3, [.ref a_t_froms, .ref a_t_cents])), (a_t_froms, .inr (0, [.ref a_t_froms_keys, .ref a_t_froms_sizes])), aJ g a_t_froms_keys 1488 t_froms_keys, aI g a_t_froms_sizes 248 t_froms_sizes, aJ g a_t_cents 1488 t_cents] [(0, .ref a_t), (1, .int thing), (2, .int maker), (3, .long from_), (5, .long price)] [] 0 0 0
  refine st_aload_n X 0 d_St_tell_0 rfl rfl ?_
  refine st_get X (ci := 3) in_St 0 0 wf_St_14 rfl rfl (by decide) rfl d_St_tell_1 ?_
  refine st_iload_n X 1 d_St_tell_4 rfl rfl ?_
  refine st_bipush X (v := 8) d_St_tell_5 (by decide) ?_
  refine st_imul X d_St_tell_7 ?_
  refine st_iload_n X 2 d_St_tell_8 rfl rfl ?_
  refine st_iadd X d_St_tell_9 ?_
  refine st_lload_n X 3 d_St_tell_10 rfl rfl ?_
  have hR := rn_VN (pc := 11) (k := 0) (n := 0) (As := [.int ((thing * 8) + maker), .long from_]) (rest := []) X (k_K_slotFor g hg a_t_froms ((thing * 8) + maker) from_ a_t_froms_keys a_t_froms_sizes 1488 t_froms_keys 248 t_froms_sizes _ hw) (q0 := 0) rfl rfl nl_St_34 wi_K_slotFor wl_K_slotFor wz_K wc_K_slotFor h9_K_slotFor ⟨by decide, by decide⟩ (Nat.le_of_ble_eq_true rfl) ⟨by decide, by decide⟩ d_St_tell_11
  refine st_calli X hR [1, 2, 3] [0, 4] (wr := [(a_t, .inr (3, [.ref a_t_froms, .ref a_t_cents])), aJ g a_t_cents 1488 t_cents]) rfl rfl (by decide) (by decide) (by decide) (fun r3 u9 hw => ?_)
  obtain ⟨u1, u2⟩ := u9
  try dsimp only at hw
  refine st_widen (k2 := 0) (n2 := 0) (by decide) (by decide) ?_
  refine st_perm (ws2 := [(a_t, .inr (3, [.ref a_t_froms, .ref a_t_cents])), (a_t_froms, .inr (0, [.ref a_t_froms_keys, .ref a_t_froms_sizes])), aJ g a_t_froms_keys 1488 u1, aI g a_t_froms_sizes 248 u2, aJ g a_t_cents 1488 t_cents]) [0, 2, 3, 4, 1] rfl (by decide) ?_
  show ST g C [(a_t, .inr (3, [.ref a_t_froms, .ref a_t_cents])), (a_t_froms, .inr (0, [.ref a_t_froms_keys, .ref a_t_froms_sizes])), aJ g a_t_froms_keys 1488 u1, aI g a_t_froms_sizes 248 u2, aJ g a_t_cents 1488 t_cents] [(0, .ref a_t), (1, .int thing), (2, .int maker), (3, .long from_), (5, .long price)] [.int r3] 14 0 0
  refine st_istore X (lv2 := [(7, .int r3), (0, .ref a_t), (1, .int thing), (2, .int maker), (3, .long from_), (5, .long price)]) d_St_tell_14 (by decide) rfl ?_
  refine st_iload X 0 d_St_tell_16 rfl ?_
  refine st_iconst X (v := (-1)) d_St_tell_18 (by decide) ?_
  have J41 : ∀ (v4 : Int32) (f5 : Nat → Int64), wp_St_tell_J41 u1 u2 Q v4 f5 → ST g C [(a_t, .inr (3, [.ref a_t_froms, .ref a_t_cents])), (a_t_froms, .inr (0, [.ref a_t_froms_keys, .ref a_t_froms_sizes])), aJ g a_t_froms_keys 1488 u1, aI g a_t_froms_sizes 248 u2, aJ g a_t_cents 1488 f5] [(0, .ref a_t), (1, .int thing), (2, .int maker), (3, .long from_), (5, .long price), (7, .int r3)] [.int v4] 41 0 0 := by
    intro v4 f5 hw
    unfold wp_St_tell_J41 at hw
    obtain ⟨hz, hw⟩ := hw
    exact st_zret X hr (u1, u2, f5) hw hz rfl (by decide) (by decide) d_St_tell_41
  have J40 : ∀ (f6 : Nat → Int64), wp_St_tell_J40 u1 u2 Q f6 → ST g C [(a_t, .inr (3, [.ref a_t_froms, .ref a_t_cents])), (a_t_froms, .inr (0, [.ref a_t_froms_keys, .ref a_t_froms_sizes])), aJ g a_t_froms_keys 1488 u1, aI g a_t_froms_sizes 248 u2, aJ g a_t_cents 1488 f6] [(0, .ref a_t), (1, .int thing), (2, .int maker), (3, .long from_), (5, .long price), (7, .int r3)] [] 40 0 0 := by
    intro f6 hw
    unfold wp_St_tell_J40 at hw
    refine st_iconst X (v := 0) d_St_tell_40 (by decide) ?_
    refine st_lv [0, 1, 2, 3, 4, 5] rfl ?_
    exact J41 0 f6 hw
  refine st_icmp_eq X 40 d_St_tell_19 (by decide) (fun hc => ?_) (fun hc => ?_)
  · replace hw := hw.1 hc
    refine st_lv [1, 2, 3, 4, 5, 0] rfl ?_
    exact J40 t_cents hw
  · replace hw := hw.2 hc
    refine st_aload_n X 1 d_St_tell_22 rfl rfl ?_
    refine st_get X (ci := 3) in_St 0 1 wf_St_20 rfl rfl (by decide) rfl d_St_tell_23 ?_
    refine st_iload X 0 d_St_tell_26 rfl ?_
    refine st_lload X 5 d_St_tell_28 rfl ?_
    have hR := rn_SN (pc := 30) (k := 0) (n := 0) (As := [.ref a_t_cents, .int r3, .long price]) (rest := []) X (k_C_tellNumber g hg a_t_cents r3 price 1488 t_cents _ hw) nl_St_38 ws_C_tellNumber wz_C wc_C_tellNumber h9_C_tellNumber ⟨by decide, by decide⟩ (Nat.le_of_ble_eq_true rfl) ⟨by decide, by decide⟩ d_St_tell_30
    refine st_calli X hR [4] [0, 1, 2, 3] (wr := [(a_t, .inr (3, [.ref a_t_froms, .ref a_t_cents])), (a_t_froms, .inr (0, [.ref a_t_froms_keys, .ref a_t_froms_sizes])), aJ g a_t_froms_keys 1488 u1, aI g a_t_froms_sizes 248 u2]) rfl rfl (by decide) (by decide) (by decide) (fun r8 u9 hw => ?_)
    obtain ⟨u7, hu9⟩ : ∃ z, z = u9 := ⟨_, rfl⟩
    subst hu9
    try dsimp only at hw
    refine st_widen (k2 := 0) (n2 := 0) (by decide) (by decide) ?_
    refine st_perm (ws2 := [(a_t, .inr (3, [.ref a_t_froms, .ref a_t_cents])), (a_t_froms, .inr (0, [.ref a_t_froms_keys, .ref a_t_froms_sizes])), aJ g a_t_froms_keys 1488 u1, aI g a_t_froms_sizes 248 u2, aJ g a_t_cents 1488 u7]) [0, 1, 2, 3, 4] rfl (by decide) ?_
    show ST g C [(a_t, .inr (3, [.ref a_t_froms, .ref a_t_cents])), (a_t_froms, .inr (0, [.ref a_t_froms_keys, .ref a_t_froms_sizes])), aJ g a_t_froms_keys 1488 u1, aI g a_t_froms_sizes 248 u2, aJ g a_t_cents 1488 u7] [(7, .int r3), (0, .ref a_t), (1, .int thing), (2, .int maker), (3, .long from_), (5, .long price)] [.int r8] 33 0 0
    refine st_if_eq X 40 d_St_tell_33 (by decide) (fun hc => ?_) (fun hc => ?_)
    · replace hw := hw.1 hc
      refine st_lv [1, 2, 3, 4, 5, 0] rfl ?_
      exact J40 u7 hw
    · replace hw := hw.2 hc
      refine st_iconst X (v := 1) d_St_tell_36 (by decide) ?_
      refine st_goto X 41 d_St_tell_37 (by decide) ?_
      refine st_lv [1, 2, 3, 4, 5, 0] rfl ?_
      exact J41 1 u7 hw
