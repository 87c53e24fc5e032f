theorem h9_K_firstSlot : y_K_firstSlot.cls ≠ "java/lang/invoke/MethodHandle" ∧ y_K_firstSlot.cls ≠ "java/lang/invoke/VarHandle" ∧ (parseMethodDescriptor y_K_firstSlot.desc).map (fun d => d.parameters.length) = some 1 := by decide +kernel
def wp_K_firstSlot (list : Int32) (Q : Int32 → Prop) : Prop :=
  Q (list * 6)
set_option maxHeartbeats 4000000 in
set_option maxRecDepth 100000 in
theorem k_K_firstSlot (g : GX) (hg : g.1.stackTraces = false) (a_t : Nat) (list : Int32) (a_t_keys : Nat) (a_t_sizes : Nat) (Q : Int32 → Prop) (hw : wp_K_firstSlot list Q) : CT g y_K_firstSlot c_K_firstSlot 2 (some .int) ({ frames := 0, cells := 0, slots := 0, locals := 0 } : Room) [.ref a_t, .int list] [(a_t, .inr (0, [.ref a_t_keys, .ref a_t_sizes]))] (QI g [(a_t, .inr (0, [.ref a_t_keys, .ref a_t_sizes]))] (fun u : Unit => [(a_t, .inr (0, [.ref a_t_keys, .ref a_t_sizes]))]) (fun r u => Q r)) := by
  refine ct_of hg (by decide) (Nat.le_of_ble_eq_true rfl) (fun sz C X hr => ?_)
  unfold wp_K_firstSlot at hw
  show ST g C [(a_t, .inr (0, [.ref a_t_keys, .ref a_t_sizes]))] [(0, .ref a_t), (1, .int list)] [] 0 0 0
  refine st_iload_n X 1 d_K_firstSlot_0 rfl rfl ?_
  refine st_bipush X (v := 6) d_K_firstSlot_1 (by decide) ?_
  refine st_imul X d_K_firstSlot_3 ?_
  exact st_iret X hr () hw rfl (by decide) (by decide) d_K_firstSlot_4

theorem h9_K_endSlot : y_K_endSlot.cls ≠ "java/lang/invoke/MethodHandle" ∧ y_K_endSlot.cls ≠ "java/lang/invoke/VarHandle" ∧ (parseMethodDescriptor y_K_endSlot.desc).map (fun d => d.parameters.length) = some 1 := by decide +kernel
def wp_K_endSlot (list : Int32) (ns : Nat) (t_sizes : Nat → Int32) (Q : Int32 → Prop) : Prop :=
  vp_in list ns ∧
  Q ((list * 6) + (t_sizes list.toNatClampNeg))
set_option maxHeartbeats 4000000 in
set_option maxRecDepth 100000 in
theorem k_K_endSlot (g : GX) (hg : g.1.stackTraces = false) (a_t : Nat) (list : Int32) (a_t_keys : Nat) (a_t_sizes : Nat) (ns : Nat) (t_sizes : Nat → Int32) (Q : Int32 → Prop) (hw : wp_K_endSlot list ns t_sizes Q) : CT g y_K_endSlot c_K_endSlot 2 (some .int) ({ frames := 0, cells := 0, slots := 0, locals := 0 } : Room) [.ref a_t, .int list] [(a_t, .inr (0, [.ref a_t_keys, .ref a_t_sizes])), aI g a_t_sizes ns t_sizes] (QI g [(a_t, .inr (0, [.ref a_t_keys, .ref a_t_sizes])), aI g a_t_sizes ns t_sizes] (fun u : Unit => [(a_t, .inr (0, [.ref a_t_keys, .ref a_t_sizes])), aI g a_t_sizes ns t_sizes]) (fun r u => Q r)) := by
  refine ct_of hg (by decide) (Nat.le_of_ble_eq_true rfl) (fun sz C X hr => ?_)
  unfold wp_K_endSlot at hw
  show ST g C [(a_t, .inr (0, [.ref a_t_keys, .ref a_t_sizes])), aI g a_t_sizes ns t_sizes] [(0, .ref a_t), (1, .int list)] [] 0 0 0
  refine st_iload_n X 1 d_K_endSlot_0 rfl rfl ?_
  refine st_bipush X (v := 6) d_K_endSlot_1 (by decide) ?_
  refine st_imul X d_K_endSlot_3 ?_
  refine st_aload_n X 0 d_K_endSlot_4 rfl rfl ?_
  refine st_get X (ci := 0) in_K 0 1 wf_K_21 rfl rfl (by decide) rfl d_K_endSlot_5 ?_
  refine st_iload_n X 1 d_K_endSlot_8 rfl rfl ?_
  obtain ⟨hb1, hw⟩ := hw
  refine st_iald X 1 rfl hb1 d_K_endSlot_9 ?_
  refine st_iadd X d_K_endSlot_10 ?_
  exact st_iret X hr () hw rfl (by decide) (by decide) d_K_endSlot_11

theorem h9_K_slotFor : y_K_slotFor.cls ≠ "java/lang/invoke/MethodHandle" ∧ y_K_slotFor.cls ≠ "java/lang/invoke/VarHandle" ∧ (parseMethodDescriptor y_K_slotFor.desc).map (fun d => d.parameters.length) = some 2 := by decide +kernel
def wp_K_slotFor_L14 (list : Int32) (key : Int64) (nk : Nat) (t_keys : Nat → Int64) (ns : Nat) (t_sizes : Nat → Int32) (r1 : Int32) (Q : Int32 → (Nat → Int64) → (Nat → Int32) → Prop) : Nat → Int32 → Prop
  | 0, _ => False
  | n14 + 1, v3 =>
  ((r1 ≤ v3) → vp_in list ns ∧
  (((t_sizes list.toNatClampNeg) < 6) → vp_in r1 nk ∧
  ∀ f4 : Nat → Int64, f4 = vp_updL t_keys r1.toNatClampNeg key →
  vp_in list ns ∧
  ∀ x5 : Int32, x5 = (t_sizes list.toNatClampNeg) + 1 →
  vp_in list ns ∧
  ∀ f6 : Nat → Int32, f6 = upd t_sizes list.toNatClampNeg x5 →
  Q r1 f4 f6) ∧
  ((¬ (t_sizes list.toNatClampNeg) < 6) → Q (-1) t_keys t_sizes)) ∧
  ((¬ r1 ≤ v3) → vp_in v3 nk ∧
  ((¬ (t_keys v3.toNatClampNeg) = key) → ∀ x7 : Int32, x7 = v3 + 1 →
  (wp_K_slotFor_L14 list key nk t_keys ns t_sizes r1 Q n14) x7) ∧
  (((t_keys v3.toNatClampNeg) = key) → Q v3 t_keys t_sizes))
def wp_K_slotFor (list : Int32) (key : Int64) (nk : Nat) (t_keys : Nat → Int64) (ns : Nat) (t_sizes : Nat → Int32) (Q : Int32 → (Nat → Int64) → (Nat → Int32) → Prop) : Prop :=
  wp_K_endSlot list ns t_sizes (fun r1 =>
  wp_K_firstSlot list (fun r2 =>
  ∃ n14 : Nat, wp_K_slotFor_L14 list key nk t_keys ns t_sizes r1 Q n14 r2))
set_option maxHeartbeats 4000000 in
set_option maxRecDepth 100000 in
theorem k_K_slotFor (g : GX) (hg : g.1.stackTraces = false) (a_t : Nat) (list : Int32) (key : Int64) (a_t_keys : Nat) (a_t_sizes : Nat) (nk : Nat) (t_keys : Nat → Int64) (ns : Nat) (t_sizes : Nat → Int32) (Q : Int32 → (Nat → Int64) → (Nat → Int32) → Prop) (hw : wp_K_slotFor list key nk t_keys ns t_sizes Q) : CT g y_K_slotFor c_K_slotFor 6 (some .int) ({ frames := 1, cells := 0, slots := 0, locals := 21 } : Room) [.ref a_t, .int list, .long key] [(a_t, .inr (0, [.ref a_t_keys, .ref a_t_sizes])), aJ g a_t_keys nk t_keys, aI g a_t_sizes ns t_sizes] (QI g [(a_t, .inr (0, [.ref a_t_keys, .ref a_t_sizes])), aJ g a_t_keys nk t_keys, aI g a_t_sizes ns t_sizes] (fun u : (Nat → Int64) × (Nat → Int32) => [(a_t, .inr (0, [.ref a_t_keys, .ref a_t_sizes])), aJ g a_t_keys nk u.1, aI g a_t_sizes ns u.2]) (fun r u => Q r u.1 u.2)) := by
  refine ct_of hg (by decide) (Nat.le_of_ble_eq_true rfl) (fun sz C X hr => ?_)
  unfold wp_K_slotFor at hw
  show ST g C [(a_t, .inr (0, [.ref a_t_keys, .ref a_t_sizes])), aJ g a_t_keys nk t_keys, aI g a_t_sizes ns t_sizes] [(0, .ref a_t), (1, .int list), (2, .long key)] [] 0 0 0
  refine st_aload_n X 0 d_K_slotFor_0 rfl rfl ?_
  refine st_iload_n X 1 d_K_slotFor_1 rfl rfl ?_
  have hR := rn_V (pc := 2) (k := 0) (n := 0) (As := [.int list]) (rest := []) X (k_K_endSlot g hg a_t list a_t_keys a_t_sizes ns t_sizes _ hw) (q0 := 0) rfl rfl wm_K_25 wi_K_endSlot wl_K_endSlot wz_K wc_K_endSlot h9_K_endSlot ⟨by decide, by decide⟩ (Nat.le_of_ble_eq_true rfl) ⟨by decide, by decide⟩ d_K_slotFor_2
  refine st_calli X hR [0, 2] [1] (wr := [aJ g a_t_keys nk t_keys]) rfl rfl (by decide) (by decide) (by decide) (fun r1 u9 hw => ?_)
  try dsimp only at hw
  refine st_widen (k2 := 0) (n2 := 0) (by decide) (by decide) ?_
  refine st_perm (ws2 := [(a_t, .inr (0, [.ref a_t_keys, .ref a_t_sizes])), aJ g a_t_keys nk t_keys, aI g a_t_sizes ns t_sizes]) [1, 0, 2] rfl (by decide) ?_
  show ST g C [(a_t, .inr (0, [.ref a_t_keys, .ref a_t_sizes])), aJ g a_t_keys nk t_keys, aI g a_t_sizes ns t_sizes] [(0, .ref a_t), (1, .int list), (2, .long key)] [.int r1] 5 0 0
  refine st_istore X (lv2 := [(4, .int r1), (0, .ref a_t), (1, .int list), (2, .long key)]) d_K_slotFor_5 (by decide) rfl ?_
  refine st_aload_n X 1 d_K_slotFor_7 rfl rfl ?_
  refine st_iload_n X 2 d_K_slotFor_8 rfl rfl ?_
  have hR := rn_V (pc := 9) (k := 0) (n := 0) (As := [.int list]) (rest := []) X (k_K_firstSlot g hg a_t list a_t_keys a_t_sizes _ hw) (q0 := 0) rfl rfl wm_K_29 wi_K_firstSlot wl_K_firstSlot wz_K wc_K_firstSlot h9_K_firstSlot ⟨by decide, by decide⟩ (Nat.le_of_ble_eq_true rfl) ⟨by decide, by decide⟩ d_K_slotFor_9
  refine st_calli X hR [0] [1, 2] (wr := [aJ g a_t_keys nk t_keys, aI g a_t_sizes ns t_sizes]) rfl rfl (by decide) (by decide) (by decide) (fun r2 u9 hw => ?_)
  try dsimp only at hw
  refine st_widen (k2 := 0) (n2 := 0) (by decide) (by decide) ?_
  refine st_perm (ws2 := [(a_t, .inr (0, [.ref a_t_keys, .ref a_t_sizes])), aJ g a_t_keys nk t_keys, aI g a_t_sizes ns t_sizes]) [2, 0, 1] rfl (by decide) ?_
  show ST g C [(a_t, .inr (0, [.ref a_t_keys, .ref a_t_sizes])), aJ g a_t_keys nk t_keys, aI g a_t_sizes ns t_sizes] [(4, .int r1), (0, .ref a_t), (1, .int list), (2, .long key)] [.int r2] 12 0 0
  refine st_istore X (lv2 := [(5, .int r2), (4, .int r1), (0, .ref a_t), (1, .int list), (2, .long key)]) d_K_slotFor_12 (by decide) rfl ?_
  have L14 : ∀ (n14 : Nat) (v3 : Int32), wp_K_slotFor_L14 list key nk t_keys ns t_sizes r1 Q n14 v3 → ST g C [(a_t, .inr (0, [.ref a_t_keys, .ref a_t_sizes])), aJ g a_t_keys nk t_keys, aI g a_t_sizes ns t_sizes] [(0, .ref a_t), (1, .int list), (2, .long key), (4, .int r1), (5, .int v3)] [] 14 0 0 := by
    intro n14
    induction n14 with
    | zero => intro v3 hw; exact hw.elim
    | succ n14 ih14 =>
      intro v3 hw
      rw [wp_K_slotFor_L14] at hw
      refine st_iload X 4 d_K_slotFor_14 rfl ?_
      refine st_iload X 3 d_K_slotFor_16 rfl ?_
      refine st_icmp_ge X 42 d_K_slotFor_18 (by decide) (fun hc => ?_) (fun hc => ?_)
      · replace hw := hw.1 hc
        refine st_aload_n X 0 d_K_slotFor_42 rfl rfl ?_
        refine st_get X (ci := 0) in_K 0 1 wf_K_21 rfl rfl (by decide) rfl d_K_slotFor_43 ?_
        refine st_iload_n X 1 d_K_slotFor_46 rfl rfl ?_
        obtain ⟨hb1, hw⟩ := hw
        refine st_iald X 2 rfl hb1 d_K_slotFor_47 ?_
        refine st_bipush X (v := 6) d_K_slotFor_48 (by decide) ?_
        refine st_icmp_lt X 55 d_K_slotFor_50 (by decide) (fun hc => ?_) (fun hc => ?_)
        · replace hw := hw.1 hc
          refine st_aload_n X 0 d_K_slotFor_55 rfl rfl ?_
          refine st_get X (ci := 0) in_K 0 0 wf_K_15 rfl rfl (by decide) rfl d_K_slotFor_56 ?_
          refine st_iload X 3 d_K_slotFor_59 rfl ?_
          refine st_lload_n X 2 d_K_slotFor_61 rfl rfl ?_
          obtain ⟨hb2, hw⟩ := hw
          obtain ⟨f4, hf4⟩ : ∃ z : Nat → Int64, z = vp_updL t_keys r1.toNatClampNeg key := ⟨_, rfl⟩
          replace hw := hw f4 hf4
          refine st_last X (ws2 := [(a_t, .inr (0, [.ref a_t_keys, .ref a_t_sizes])), aJ g a_t_keys nk f4, aI g a_t_sizes ns t_sizes]) 1 rfl hb2 (by rw [hf4]; rfl) d_K_slotFor_62 ?_
          refine st_aload_n X 0 d_K_slotFor_63 rfl rfl ?_
          refine st_get X (ci := 0) in_K 0 1 wf_K_21 rfl rfl (by decide) rfl d_K_slotFor_64 ?_
          refine st_iload_n X 1 d_K_slotFor_67 rfl rfl ?_
          refine st_dup2_11 X d_K_slotFor_68 rfl rfl ?_
          obtain ⟨hb3, hw⟩ := hw
          refine st_iald X 2 rfl hb3 d_K_slotFor_69 ?_
          refine st_iconst X (v := 1) d_K_slotFor_70 (by decide) ?_
          refine st_iadd X d_K_slotFor_71 ?_
          refine st_topi (fun x5 hx5 => ?_)
          replace hw := hw x5 hx5
          obtain ⟨hb4, hw⟩ := hw
          obtain ⟨f6, hf6⟩ : ∃ z : Nat → Int32, z = upd t_sizes list.toNatClampNeg x5 := ⟨_, rfl⟩
          replace hw := hw f6 hf6
          refine st_iast X (ws2 := [(a_t, .inr (0, [.ref a_t_keys, .ref a_t_sizes])), aJ g a_t_keys nk f4, aI g a_t_sizes ns f6]) 2 rfl hb4 (by rw [hf6]; rfl) d_K_slotFor_72 ?_
          refine st_iload X 3 d_K_slotFor_73 rfl ?_
          exact st_iret X hr (f4, f6) hw rfl (by decide) (by decide) d_K_slotFor_75
        · replace hw := hw.2 hc
          refine st_iconst X (v := (-1)) d_K_slotFor_53 (by decide) ?_
          exact st_iret X hr (t_keys, t_sizes) hw rfl (by decide) (by decide) d_K_slotFor_54
      · replace hw := hw.2 hc
        refine st_aload_n X 0 d_K_slotFor_21 rfl rfl ?_
        refine st_get X (ci := 0) in_K 0 0 wf_K_15 rfl rfl (by decide) rfl d_K_slotFor_22 ?_
        refine st_iload X 4 d_K_slotFor_25 rfl ?_
        obtain ⟨hb5, hw⟩ := hw
        refine st_lald X 1 rfl hb5 d_K_slotFor_27 ?_
        refine st_lload_n X 2 d_K_slotFor_28 rfl rfl ?_
        refine st_lcmp_ne X 36 d_K_slotFor_29 d_K_slotFor_30 (by decide) (fun hc => ?_) (fun hc => ?_)
        · replace hw := hw.1 hc
          obtain ⟨x7, hx7⟩ : ∃ z : Int32, z = v3 + 1 := ⟨_, rfl⟩
          replace hw := hw x7 hx7
          refine st_iinc X (v := x7) (lv2 := [(5, .int x7), (0, .ref a_t), (1, .int list), (2, .long key), (4, .int r1)]) 4 d_K_slotFor_36 rfl (by rw [hx7]; rfl) (by decide) rfl ?_
          refine st_goto X 14 d_K_slotFor_39 (by decide) ?_
          refine st_lv [1, 2, 3, 4, 0] rfl ?_
          exact ih14 x7 hw
        · replace hw := hw.2 hc
          refine st_iload X 4 d_K_slotFor_33 rfl ?_
          exact st_iret X hr (t_keys, t_sizes) hw rfl (by decide) (by decide) d_K_slotFor_35
  obtain ⟨n14, hw⟩ := hw
  refine st_lv [2, 3, 4, 1, 0] rfl ?_
  exact L14 n14 r2 hw
