theorem h9_Y_add : y_Y_add.cls ≠ "java/lang/invoke/MethodHandle" ∧ y_Y_add.cls ≠ "java/lang/invoke/VarHandle" ∧ (parseMethodDescriptor y_Y_add.desc).map (fun d => d.parameters.length) = some 2 := by decide +kernel
def wp_Y_add (above : Int64) (below : Int64) (t_count : Int32) (t_aboves : Nat → Int64) (t_belows : Nat → Int64) (Q : Int32 → Int32 → (Nat → Int64) → (Nat → Int64) → Prop) : Prop :=
  ((t_count < 8) → vp_in t_count 8 ∧
  ∀ f1 : Nat → Int64, f1 = vp_updL t_aboves t_count.toNatClampNeg above →
  vp_in t_count 8 ∧
  ∀ f2 : Nat → Int64, f2 = vp_updL t_belows t_count.toNatClampNeg below →
  ∀ x3 : Int32, x3 = t_count + 1 →
  ((1 : Int32) = 0 ∨ (1 : Int32) = 1) ∧ Q 1 x3 f1 f2) ∧
  ((¬ t_count < 8) → ((0 : Int32) = 0 ∨ (0 : Int32) = 1) ∧ Q 0 t_count t_aboves t_belows)
set_option maxHeartbeats 4000000 in
set_option maxRecDepth 100000 in
theorem k_Y_add (g : GX) (hg : g.1.stackTraces = false) (a_t : Nat) (above : Int64) (below : Int64) (a_t_aboves : Nat) (a_t_belows : Nat) (t_count : Int32) (t_aboves : Nat → Int64) (t_belows : Nat → Int64) (Q : Int32 → Int32 → (Nat → Int64) → (Nat → Int64) → Prop) (hw : wp_Y_add above below t_count t_aboves t_belows Q) : CT g y_Y_add c_Y_add 5 (some .boolean) ({ frames := 0, cells := 0, slots := 0, locals := 0 } : Room) [.ref a_t, .long above, .long below] [(a_t, .inr (4, [.ref a_t_aboves, .ref a_t_belows, .int t_count])), aJ g a_t_aboves 8 t_aboves, aJ g a_t_belows 8 t_belows] (QI g [(a_t, .inr (4, [.ref a_t_aboves, .ref a_t_belows, .int t_count])), aJ g a_t_aboves 8 t_aboves, aJ g a_t_belows 8 t_belows] (fun u : Int32 × (Nat → Int64) × (Nat → Int64) => [(a_t, .inr (4, [.ref a_t_aboves, .ref a_t_belows, .int u.1])), aJ g a_t_aboves 8 u.2.1, aJ g a_t_belows 8 u.2.2]) (fun r u => Q r u.1 u.2.1 u.2.2)) := by
  refine ct_of hg (by decide) (Nat.le_of_ble_eq_true rfl) (fun sz C X hr => ?_)
  unfold wp_Y_add at hw
  show ST g C [(a_t, .inr (4, [.ref a_t_aboves, .ref a_t_belows, .int t_count])), aJ g a_t_aboves 8 t_aboves, aJ g a_t_belows 8 t_belows] [(0, .ref a_t), (1, .long above), (3, .long below)] [] 0 0 0
  refine st_aload_n X 0 d_Y_add_0 rfl rfl ?_
  refine st_get X (ci := 4) in_Y 0 2 wf_Y_18 rfl rfl (by decide) rfl d_Y_add_1 ?_
  refine st_bipush X (v := 8) d_Y_add_4 (by decide) ?_
  refine st_icmp_lt X 11 d_Y_add_6 (by decide) (fun hc => ?_) (fun hc => ?_)
  · replace hw := hw.1 hc
    refine st_aload_n X 0 d_Y_add_11 rfl rfl ?_
    refine st_get X (ci := 4) in_Y 0 0 wf_Y_9 rfl rfl (by decide) rfl d_Y_add_12 ?_
    refine st_aload_n X 0 d_Y_add_15 rfl rfl ?_
    refine st_get X (ci := 4) in_Y 0 2 wf_Y_18 rfl rfl (by decide) rfl d_Y_add_16 ?_
    refine st_lload_n X 1 d_Y_add_19 rfl rfl ?_
    obtain ⟨hb1, hw⟩ := hw
    obtain ⟨f1, hf1⟩ : ∃ z : Nat → Int64, z = vp_updL t_aboves t_count.toNatClampNeg above := ⟨_, rfl⟩
    replace hw := hw f1 hf1
    refine st_last X (ws2 := [(a_t, .inr (4, [.ref a_t_aboves, .ref a_t_belows, .int t_count])), aJ g a_t_aboves 8 f1, aJ g a_t_belows 8 t_belows]) 1 rfl hb1 (by rw [hf1]; rfl) d_Y_add_20 ?_
    refine st_aload_n X 0 d_Y_add_21 rfl rfl ?_
    refine st_get X (ci := 4) in_Y 0 1 wf_Y_15 rfl rfl (by decide) rfl d_Y_add_22 ?_
    refine st_aload_n X 0 d_Y_add_25 rfl rfl ?_
    refine st_get X (ci := 4) in_Y 0 2 wf_Y_18 rfl rfl (by decide) rfl d_Y_add_26 ?_
    refine st_lload_n X 2 d_Y_add_29 rfl rfl ?_
    obtain ⟨hb2, hw⟩ := hw
    obtain ⟨f2, hf2⟩ : ∃ z : Nat → Int64, z = vp_updL t_belows t_count.toNatClampNeg below := ⟨_, rfl⟩
    replace hw := hw f2 hf2
    refine st_last X (ws2 := [(a_t, .inr (4, [.ref a_t_aboves, .ref a_t_belows, .int t_count])), aJ g a_t_aboves 8 f1, aJ g a_t_belows 8 f2]) 2 rfl hb2 (by rw [hf2]; rfl) d_Y_add_30 ?_
    refine st_aload_n X 0 d_Y_add_31 rfl rfl ?_
    refine st_dup X d_Y_add_32 rfl ?_
    refine st_get X (ci := 4) in_Y 0 2 wf_Y_18 rfl rfl (by decide) rfl d_Y_add_33 ?_
    refine st_iconst X (v := 1) d_Y_add_36 (by decide) ?_
    refine st_iadd X d_Y_add_37 ?_
    refine st_topi (fun x3 hx3 => ?_)
    replace hw := hw x3 hx3
    refine st_put X (ci := 4) (ty := .int) in_Y t_Y to_Y nm_Y 0 2 wf_Y_18 rfl rfl (by decide) rfl (by decide +kernel) rfl rfl (Nat.le_of_ble_eq_true rfl) (ws2 := [(a_t, .inr (4, [.ref a_t_aboves, .ref a_t_belows, .int x3])), aJ g a_t_aboves 8 f1, aJ g a_t_belows 8 f2]) rfl d_Y_add_38 ?_
    refine st_iconst X (v := 1) d_Y_add_41 (by decide) ?_
    obtain ⟨hz, hw⟩ := hw
    exact st_zret X hr (x3, f1, f2) hw hz rfl (by decide) (by decide) d_Y_add_42
  · replace hw := hw.2 hc
    refine st_iconst X (v := 0) d_Y_add_9 (by decide) ?_
    obtain ⟨hz, hw⟩ := hw
    exact st_zret X hr (t_count, t_aboves, t_belows) hw hz rfl (by decide) (by decide) d_Y_add_10

theorem h9_Y_startedFor : y_Y_startedFor.cls ≠ "java/lang/invoke/MethodHandle" ∧ y_Y_startedFor.cls ≠ "java/lang/invoke/VarHandle" ∧ (parseMethodDescriptor y_Y_startedFor.desc).map (fun d => d.parameters.length) = some 1 := by decide +kernel
def wp_Y_startedFor_J49 (v2 : Int64) (Q : Int64 → Prop) : Prop :=
  Q v2
def wp_Y_startedFor_L10 (t_aboves : Nat → Int64) (t_belows : Nat → Int64) (Q : Int64 → Prop) : Nat → Int64 → Int32 → Prop
  | 0, _, _ => False
  | n10 + 1, v2, v3 =>
  ((v3 < 0) → wp_Y_startedFor_J49 v2 Q) ∧
  ((¬ v3 < 0) → ((1000000000 < v2) → wp_Y_startedFor_J49 v2 Q) ∧
  ((¬ 1000000000 < v2) → vp_in v3 8 ∧
  vp_in v3 8 ∧
  wp_C_divideUp (v2 * (t_belows v3.toNatClampNeg)) (t_aboves v3.toNatClampNeg) (fun r4 =>
  ∀ x5 : Int32, x5 = v3 + (-1) →
  (wp_Y_startedFor_L10 t_aboves t_belows Q n10) r4 x5)))
def wp_Y_startedFor (quantity : Int64) (t_count : Int32) (t_aboves : Nat → Int64) (t_belows : Nat → Int64) (Q : Int64 → Prop) : Prop :=
  ∀ x1 : Int32, x1 = t_count - 1 →
  ∃ n10 : Nat, wp_Y_startedFor_L10 t_aboves t_belows Q n10 quantity x1
set_option maxHeartbeats 4000000 in
set_option maxRecDepth 100000 in
theorem k_Y_startedFor (g : GX) (hg : g.1.stackTraces = false) (a_t : Nat) (quantity : Int64) (a_t_aboves : Nat) (a_t_belows : Nat) (t_count : Int32) (t_aboves : Nat → Int64) (t_belows : Nat → Int64) (Q : Int64 → Prop) (hw : wp_Y_startedFor quantity t_count t_aboves t_belows Q) : CT g y_Y_startedFor c_Y_startedFor 6 (some .long) ({ frames := 1, cells := 0, slots := 0, locals := 23 } : Room) [.ref a_t, .long quantity] [(a_t, .inr (4, [.ref a_t_aboves, .ref a_t_belows, .int t_count])), aJ g a_t_aboves 8 t_aboves, aJ g a_t_belows 8 t_belows] (QL g [(a_t, .inr (4, [.ref a_t_aboves, .ref a_t_belows, .int t_count])), aJ g a_t_aboves 8 t_aboves, aJ g a_t_belows 8 t_belows] (fun u : Unit => [(a_t, .inr (4, [.ref a_t_aboves, .ref a_t_belows, .int t_count])), aJ g a_t_aboves 8 t_aboves, aJ g a_t_belows 8 t_belows]) (fun r u => Q r)) := by
  refine ct_of hg (by decide) (Nat.le_of_ble_eq_true rfl) (fun sz C X hr => ?_)
  unfold wp_Y_startedFor at hw
  show ST g C [(a_t, .inr (4, [.ref a_t_aboves, .ref a_t_belows, .int t_count])), aJ g a_t_aboves 8 t_aboves, aJ g a_t_belows 8 t_belows] [(0, .ref a_t), (1, .long quantity)] [] 0 0 0
  refine st_lload_n X 1 d_Y_startedFor_0 rfl rfl ?_
  refine st_lstore_n X (lv2 := [(3, .long quantity), (0, .ref a_t), (1, .long quantity)]) d_Y_startedFor_1 rfl (by decide) rfl ?_
  refine st_aload_n X 1 d_Y_startedFor_2 rfl rfl ?_
  refine st_get X (ci := 4) in_Y 0 2 wf_Y_18 rfl rfl (by decide) rfl d_Y_startedFor_3 ?_
  refine st_iconst X (v := 1) d_Y_startedFor_6 (by decide) ?_
  refine st_isub X d_Y_startedFor_7 ?_
  refine st_topi (fun x1 hx1 => ?_)
  replace hw := hw x1 hx1
  refine st_istore X (lv2 := [(5, .int x1), (3, .long quantity), (0, .ref a_t), (1, .long quantity)]) d_Y_startedFor_8 (by decide) rfl ?_
  have L10 : ∀ (n10 : Nat) (v2 : Int64) (v3 : Int32), wp_Y_startedFor_L10 t_aboves t_belows Q n10 v2 v3 → ST g C [(a_t, .inr (4, [.ref a_t_aboves, .ref a_t_belows, .int t_count])), aJ g a_t_aboves 8 t_aboves, aJ g a_t_belows 8 t_belows] [(0, .ref a_t), (1, .long quantity), (3, .long v2), (5, .int v3)] [] 10 0 0 := by
    intro n10
    induction n10 with
    | zero => intro v2 v3 hw; exact hw.elim
    | succ n10 ih10 =>
      intro v2 v3 hw
      rw [wp_Y_startedFor_L10] at hw
      refine st_iload X 3 d_Y_startedFor_10 rfl ?_
      have J49 : wp_Y_startedFor_J49 v2 Q → ST g C [(a_t, .inr (4, [.ref a_t_aboves, .ref a_t_belows, .int t_count])), aJ g a_t_aboves 8 t_aboves, aJ g a_t_belows 8 t_belows] [(0, .ref a_t), (1, .long quantity), (3, .long v2), (5, .int v3)] [] 49 0 0 := by
        intro hw
        unfold wp_Y_startedFor_J49 at hw
        refine st_lload_n X 2 d_Y_startedFor_49 rfl rfl ?_
        exact st_lret X hr () hw rfl (by decide) (by decide) d_Y_startedFor_50
      refine st_if_lt X 49 d_Y_startedFor_12 (by decide) (fun hc => ?_) (fun hc => ?_)
      · replace hw := hw.1 hc
        refine st_lv [0, 1, 2, 3] rfl ?_
        exact J49 hw
      · replace hw := hw.2 hc
        refine st_lload_n X 2 d_Y_startedFor_15 rfl rfl ?_
        refine st_ldc2 X wv_Y_22 d_Y_startedFor_16 ?_
        refine st_lcmp_gt X 49 d_Y_startedFor_19 d_Y_startedFor_20 (by decide) (fun hc => ?_) (fun hc => ?_)
        · replace hw := hw.1 hc
          refine st_lv [0, 1, 2, 3] rfl ?_
          exact J49 hw
        · replace hw := hw.2 hc
          refine st_lload_n X 2 d_Y_startedFor_23 rfl rfl ?_
          refine st_aload_n X 0 d_Y_startedFor_24 rfl rfl ?_
          refine st_get X (ci := 4) in_Y 0 1 wf_Y_15 rfl rfl (by decide) rfl d_Y_startedFor_25 ?_
          refine st_iload X 3 d_Y_startedFor_28 rfl ?_
          obtain ⟨hb1, hw⟩ := hw
          refine st_lald X 2 rfl hb1 d_Y_startedFor_30 ?_
          refine st_lmul X d_Y_startedFor_31 ?_
          refine st_aload_n X 0 d_Y_startedFor_32 rfl rfl ?_
          refine st_get X (ci := 4) in_Y 0 0 wf_Y_9 rfl rfl (by decide) rfl d_Y_startedFor_33 ?_
          refine st_iload X 3 d_Y_startedFor_36 rfl ?_
          obtain ⟨hb2, hw⟩ := hw
          refine st_lald X 1 rfl hb2 d_Y_startedFor_38 ?_
          have hR := rn_SN (pc := 39) (k := 0) (n := 0) (As := [.long (v2 * (t_belows v3.toNatClampNeg)), .long (t_aboves v3.toNatClampNeg)]) (rest := []) X (k_C_divideUp g hg (v2 * (t_belows v3.toNatClampNeg)) (t_aboves v3.toNatClampNeg) _ hw) nl_Y_24 ws_C_divideUp wz_C wc_C_divideUp h9_C_divideUp ⟨by decide, by decide⟩ (Nat.le_of_ble_eq_true rfl) ⟨by decide, by decide⟩ d_Y_startedFor_39
          refine st_calll X hR [] [0, 1, 2] (wr := [(a_t, .inr (4, [.ref a_t_aboves, .ref a_t_belows, .int t_count])), aJ g a_t_aboves 8 t_aboves, aJ g a_t_belows 8 t_belows]) rfl rfl (by decide) (by decide) (by decide) (fun r4 u9 hw => ?_)
          try dsimp only at hw
          refine st_widen (k2 := 0) (n2 := 0) (by decide) (by decide) ?_
          refine st_perm (ws2 := [(a_t, .inr (4, [.ref a_t_aboves, .ref a_t_belows, .int t_count])), aJ g a_t_aboves 8 t_aboves, aJ g a_t_belows 8 t_belows]) [0, 1, 2] rfl (by decide) ?_
          show ST g C [(a_t, .inr (4, [.ref a_t_aboves, .ref a_t_belows, .int t_count])), aJ g a_t_aboves 8 t_aboves, aJ g a_t_belows 8 t_belows] [(0, .ref a_t), (1, .long quantity), (3, .long v2), (5, .int v3)] [.long r4] 42 0 0
          refine st_lstore_n X (lv2 := [(3, .long r4), (0, .ref a_t), (1, .long quantity), (5, .int v3)]) d_Y_startedFor_42 rfl (by decide) rfl ?_
          obtain ⟨x5, hx5⟩ : ∃ z : Int32, z = v3 + (-1) := ⟨_, rfl⟩
          replace hw := hw x5 hx5
          refine st_iinc X (v := x5) (lv2 := [(5, .int x5), (3, .long r4), (0, .ref a_t), (1, .long quantity)]) 3 d_Y_startedFor_43 rfl (by rw [hx5]; rfl) (by decide) rfl ?_
          refine st_goto X 10 d_Y_startedFor_46 (by decide) ?_
          refine st_lv [2, 3, 1, 0] rfl ?_
          exact ih10 r4 x5 hw
  obtain ⟨n10, hw⟩ := hw
  refine st_lv [2, 3, 1, 0] rfl ?_
  exact L10 n10 quantity x1 hw
