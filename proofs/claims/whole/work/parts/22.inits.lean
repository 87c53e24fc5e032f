theorem h9_K_init : y_K_init.cls ≠ "java/lang/invoke/MethodHandle" ∧ y_K_init.cls ≠ "java/lang/invoke/VarHandle" ∧ (parseMethodDescriptor y_K_init.desc).map (fun d => d.parameters.length) = some 1 := by decide +kernel
def wp_K_init_248 (Q : Nat → Nat → Prop) : Prop :=
  ∀ x1 : Int32, x1 = (if (248 : Int32) < 0 then 0 else 248) →
  (¬ (x1 * 6) < 0 ∧ (x1 * 6).toNatClampNeg = 1488) ∧
  ∀ q2 : Nat,
  (¬ x1 < 0 ∧ x1.toNatClampNeg = 248) ∧
  ∀ q3 : Nat,
  Q q2 q3
set_option maxHeartbeats 4000000 in
set_option maxRecDepth 100000 in
theorem k_K_init_248 (g : GX) (hg : g.1.stackTraces = false) (a_t : Nat) (Q : Nat → Nat → Prop) (hw : wp_K_init_248 Q) : CT g y_K_init c_K_init 3 none ({ frames := 1, cells := 2, slots := 1736, locals := 15 } : Room) [.ref a_t, .int 248] [(a_t, .inr (0, [.null, .null]))] (QV g [(a_t, .inr (0, [.null, .null]))] (fun u : Nat × Nat => [(a_t, .inr (0, [.ref u.1, .ref u.2])), aJ g u.1 1488 (fun _ => 0), aI g u.2 248 (fun _ => 0)]) (fun u => Q u.1 u.2)) := by
  refine cti_of hg (by decide) (Nat.le_of_ble_eq_true rfl) rfl (fun sz C X hr hin => ?_)
  unfold wp_K_init_248 at hw
  show ST g C [(a_t, .inr (0, [.null, .null]))] [(0, .ref a_t), (1, .int 248)] [] 0 0 0
  refine st_aload_n X 0 d_K_init_0 rfl rfl ?_
  refine st_objInit X wm_K_3 (by decide) (Nat.le_of_ble_eq_true rfl) d_K_init_1 ?_
  refine st_iload_n X 1 d_K_init_4 rfl rfl ?_
  refine st_iconst X (v := 0) d_K_init_5 (by decide) ?_
  refine st_maxI X wm_K_9 (by decide) (Nat.le_of_ble_eq_true rfl) (by decide) (by decide) d_K_init_6 ?_
  refine st_topi (fun x1 hx1 => ?_)
  replace hw := hw x1 hx1
  refine st_istore_n X (lv2 := [(2, .int x1), (0, .ref a_t), (1, .int 248)]) d_K_init_9 rfl (by decide) rfl ?_
  refine st_aload_n X 1 d_K_init_10 rfl rfl ?_
  refine st_iload_n X 0 d_K_init_11 rfl rfl ?_
  refine st_bipush X (v := 6) d_K_init_12 (by decide) ?_
  refine st_imul X d_K_init_14 ?_
  obtain ⟨hb1, hw⟩ := hw
  refine st_newaJ X 1488 hb1.1 hb1.2 (by decide) (by decide) (by decide) d_K_init_15 (fun q2 => ?_)
  replace hw := hw q2
  show ST g C [(a_t, .inr (0, [.null, .null])), aJ g q2 1488 (fun _ => 0)] [(2, .int x1), (0, .ref a_t), (1, .int 248)] [.ref q2, .ref a_t] 17 1 1488
  refine st_putF X (ci := 0) (ty := .array .long) in_K t_K to_K nm_K 0 0 wf_K_15 rfl rfl (by decide) rfl hin rfl (by decide +kernel) rfl rfl (Nat.le_of_ble_eq_true rfl) (ws2 := [(a_t, .inr (0, [.ref q2, .null])), aJ g q2 1488 (fun _ => 0)]) rfl d_K_init_17 ?_
  refine st_aload_n X 1 d_K_init_20 rfl rfl ?_
  refine st_iload_n X 0 d_K_init_21 rfl rfl ?_
  obtain ⟨hb2, hw⟩ := hw
  refine st_newaI X 248 hb2.1 hb2.2 (by decide) (by decide) (by decide) d_K_init_22 (fun q3 => ?_)
  replace hw := hw q3
  show ST g C [(a_t, .inr (0, [.ref q2, .null])), aJ g q2 1488 (fun _ => 0), aI g q3 248 (fun _ => 0)] [(2, .int x1), (0, .ref a_t), (1, .int 248)] [.ref q3, .ref a_t] 24 2 1736
  refine st_putF X (ci := 0) (ty := .array .int) in_K t_K to_K nm_K 0 1 wf_K_21 rfl rfl (by decide) rfl hin rfl (by decide +kernel) rfl rfl (Nat.le_of_ble_eq_true rfl) (ws2 := [(a_t, .inr (0, [.ref q2, .ref q3])), aJ g q2 1488 (fun _ => 0), aI g q3 248 (fun _ => 0)]) rfl d_K_init_24 ?_
  exact st_vret X hr (q2, q3) hw rfl (by decide) (by decide) d_K_init_27

def wp_K_init_8 (Q : Nat → Nat → Prop) : Prop :=
  ∀ x1 : Int32, x1 = (if (8 : Int32) < 0 then 0 else 8) →
  (¬ (x1 * 6) < 0 ∧ (x1 * 6).toNatClampNeg = 48) ∧
  ∀ q2 : Nat,
  (¬ x1 < 0 ∧ x1.toNatClampNeg = 8) ∧
  ∀ q3 : Nat,
  Q q2 q3
set_option maxHeartbeats 4000000 in
set_option maxRecDepth 100000 in
theorem k_K_init_8 (g : GX) (hg : g.1.stackTraces = false) (a_t : Nat) (Q : Nat → Nat → Prop) (hw : wp_K_init_8 Q) : CT g y_K_init c_K_init 3 none ({ frames := 1, cells := 2, slots := 56, locals := 15 } : Room) [.ref a_t, .int 8] [(a_t, .inr (0, [.null, .null]))] (QV g [(a_t, .inr (0, [.null, .null]))] (fun u : Nat × Nat => [(a_t, .inr (0, [.ref u.1, .ref u.2])), aJ g u.1 48 (fun _ => 0), aI g u.2 8 (fun _ => 0)]) (fun u => Q u.1 u.2)) := by
  refine cti_of hg (by decide) (Nat.le_of_ble_eq_true rfl) rfl (fun sz C X hr hin => ?_)
  unfold wp_K_init_8 at hw
  show ST g C [(a_t, .inr (0, [.null, .null]))] [(0, .ref a_t), (1, .int 8)] [] 0 0 0
  refine st_aload_n X 0 d_K_init_0 rfl rfl ?_
  refine st_objInit X wm_K_3 (by decide) (Nat.le_of_ble_eq_true rfl) d_K_init_1 ?_
  refine st_iload_n X 1 d_K_init_4 rfl rfl ?_
  refine st_iconst X (v := 0) d_K_init_5 (by decide) ?_
  refine st_maxI X wm_K_9 (by decide) (Nat.le_of_ble_eq_true rfl) (by decide) (by decide) d_K_init_6 ?_
  refine st_topi (fun x1 hx1 => ?_)
  replace hw := hw x1 hx1
  refine st_istore_n X (lv2 := [(2, .int x1), (0, .ref a_t), (1, .int 8)]) d_K_init_9 rfl (by decide) rfl ?_
  refine st_aload_n X 1 d_K_init_10 rfl rfl ?_
  refine st_iload_n X 0 d_K_init_11 rfl rfl ?_
  refine st_bipush X (v := 6) d_K_init_12 (by decide) ?_
  refine st_imul X d_K_init_14 ?_
  obtain ⟨hb1, hw⟩ := hw
  refine st_newaJ X 48 hb1.1 hb1.2 (by decide) (by decide) (by decide) d_K_init_15 (fun q2 => ?_)
  replace hw := hw q2
  show ST g C [(a_t, .inr (0, [.null, .null])), aJ g q2 48 (fun _ => 0)] [(2, .int x1), (0, .ref a_t), (1, .int 8)] [.ref q2, .ref a_t] 17 1 48
  refine st_putF X (ci := 0) (ty := .array .long) in_K t_K to_K nm_K 0 0 wf_K_15 rfl rfl (by decide) rfl hin rfl (by decide +kernel) rfl rfl (Nat.le_of_ble_eq_true rfl) (ws2 := [(a_t, .inr (0, [.ref q2, .null])), aJ g q2 48 (fun _ => 0)]) rfl d_K_init_17 ?_
  refine st_aload_n X 1 d_K_init_20 rfl rfl ?_
  refine st_iload_n X 0 d_K_init_21 rfl rfl ?_
  obtain ⟨hb2, hw⟩ := hw
  refine st_newaI X 8 hb2.1 hb2.2 (by decide) (by decide) (by decide) d_K_init_22 (fun q3 => ?_)
  replace hw := hw q3
  show ST g C [(a_t, .inr (0, [.ref q2, .null])), aJ g q2 48 (fun _ => 0), aI g q3 8 (fun _ => 0)] [(2, .int x1), (0, .ref a_t), (1, .int 8)] [.ref q3, .ref a_t] 24 2 56
  refine st_putF X (ci := 0) (ty := .array .int) in_K t_K to_K nm_K 0 1 wf_K_21 rfl rfl (by decide) rfl hin rfl (by decide +kernel) rfl rfl (Nat.le_of_ble_eq_true rfl) (ws2 := [(a_t, .inr (0, [.ref q2, .ref q3])), aJ g q2 48 (fun _ => 0), aI g q3 8 (fun _ => 0)]) rfl d_K_init_24 ?_
  exact st_vret X hr (q2, q3) hw rfl (by decide) (by decide) d_K_init_27

theorem h9_Q_init : y_Q_init.cls ≠ "java/lang/invoke/MethodHandle" ∧ y_Q_init.cls ≠ "java/lang/invoke/VarHandle" ∧ (parseMethodDescriptor y_Q_init.desc).map (fun d => d.parameters.length) = some 0 := by decide +kernel
def wp_Q_init (Q : Nat → Nat → Nat → Nat → Prop) : Prop :=
  ∀ q1 : Nat,
  ∀ q2 : Nat,
  ∀ q3 : Nat,
  ∀ q4 : Nat,
  Q q1 q2 q3 q4
set_option maxHeartbeats 4000000 in
set_option maxRecDepth 100000 in
theorem k_Q_init (g : GX) (hg : g.1.stackTraces = false) (a_t : Nat) (Q : Nat → Nat → Nat → Nat → Prop) (hw : wp_Q_init Q) : CT g y_Q_init c_Q_init 1 none ({ frames := 1, cells := 4, slots := 132, locals := 12 } : Room) [.ref a_t] [(a_t, .inr (1, [.null, .null, .null, .null, .int 0]))] (QV g [(a_t, .inr (1, [.null, .null, .null, .null, .int 0]))] (fun u : Nat × Nat × Nat × Nat => [(a_t, .inr (1, [.ref u.1, .ref u.2.1, .ref u.2.2.1, .ref u.2.2.2, .int 0])), aJ g u.1 33 (fun _ => 0), aI g u.2.1 33 (fun _ => 0), aI g u.2.2.1 33 (fun _ => 0), aI g u.2.2.2 33 (fun _ => 0)]) (fun u => Q u.1 u.2.1 u.2.2.1 u.2.2.2)) := by
  refine cti_of hg (by decide) (Nat.le_of_ble_eq_true rfl) rfl (fun sz C X hr hin => ?_)
  unfold wp_Q_init at hw
  show ST g C [(a_t, .inr (1, [.null, .null, .null, .null, .int 0]))] [(0, .ref a_t)] [] 0 0 0
  refine st_aload_n X 0 d_Q_init_0 rfl rfl ?_
  refine st_objInit X wm_Q_3 (by decide) (Nat.le_of_ble_eq_true rfl) d_Q_init_1 ?_
  refine st_aload_n X 0 d_Q_init_4 rfl rfl ?_
  refine st_bipush X (v := 33) d_Q_init_5 (by decide) ?_
  refine st_newaJ X 33 (by decide) (by decide) (by decide) (by decide) (by decide) d_Q_init_7 (fun q1 => ?_)
  replace hw := hw q1
  show ST g C [(a_t, .inr (1, [.null, .null, .null, .null, .int 0])), aJ g q1 33 (fun _ => 0)] [(0, .ref a_t)] [.ref q1, .ref a_t] 9 1 33
  refine st_putF X (ci := 1) (ty := .array .long) in_Q t_Q to_Q nm_Q 0 0 wf_Q_9 rfl rfl (by decide) rfl hin rfl (by decide +kernel) rfl rfl (Nat.le_of_ble_eq_true rfl) (ws2 := [(a_t, .inr (1, [.ref q1, .null, .null, .null, .int 0])), aJ g q1 33 (fun _ => 0)]) rfl d_Q_init_9 ?_
  refine st_aload_n X 0 d_Q_init_12 rfl rfl ?_
  refine st_bipush X (v := 33) d_Q_init_13 (by decide) ?_
  refine st_newaI X 33 (by decide) (by decide) (by decide) (by decide) (by decide) d_Q_init_15 (fun q2 => ?_)
  replace hw := hw q2
  show ST g C [(a_t, .inr (1, [.ref q1, .null, .null, .null, .int 0])), aJ g q1 33 (fun _ => 0), aI g q2 33 (fun _ => 0)] [(0, .ref a_t)] [.ref q2, .ref a_t] 17 2 66
  refine st_putF X (ci := 1) (ty := .array .int) in_Q t_Q to_Q nm_Q 0 1 wf_Q_15 rfl rfl (by decide) rfl hin rfl (by decide +kernel) rfl rfl (Nat.le_of_ble_eq_true rfl) (ws2 := [(a_t, .inr (1, [.ref q1, .ref q2, .null, .null, .int 0])), aJ g q1 33 (fun _ => 0), aI g q2 33 (fun _ => 0)]) rfl d_Q_init_17 ?_
  refine st_aload_n X 0 d_Q_init_20 rfl rfl ?_
  refine st_bipush X (v := 33) d_Q_init_21 (by decide) ?_
  refine st_newaI X 33 (by decide) (by decide) (by decide) (by decide) (by decide) d_Q_init_23 (fun q3 => ?_)
  replace hw := hw q3
  show ST g C [(a_t, .inr (1, [.ref q1, .ref q2, .null, .null, .int 0])), aJ g q1 33 (fun _ => 0), aI g q2 33 (fun _ => 0), aI g q3 33 (fun _ => 0)] [(0, .ref a_t)] [.ref q3, .ref a_t] 25 3 99
  refine st_putF X (ci := 1) (ty := .array .int) in_Q t_Q to_Q nm_Q 0 2 wf_Q_19 rfl rfl (by decide) rfl hin rfl (by decide +kernel) rfl rfl (Nat.le_of_ble_eq_true rfl) (ws2 := [(a_t, .inr (1, [.ref q1, .ref q2, .ref q3, .null, .int 0])), aJ g q1 33 (fun _ => 0), aI g q2 33 (fun _ => 0), aI g q3 33 (fun _ => 0)]) rfl d_Q_init_25 ?_
  refine st_aload_n X 0 d_Q_init_28 rfl rfl ?_
  refine st_bipush X (v := 33) d_Q_init_29 (by decide) ?_
  refine st_newaI X 33 (by decide) (by decide) (by decide) (by decide) (by decide) d_Q_init_31 (fun q4 => ?_)
  replace hw := hw q4
  show ST g C [(a_t, .inr (1, [.ref q1, .ref q2, .ref q3, .null, .int 0])), aJ g q1 33 (fun _ => 0), aI g q2 33 (fun _ => 0), aI g q3 33 (fun _ => 0), aI g q4 33 (fun _ => 0)] [(0, .ref a_t)] [.ref q4, .ref a_t] 33 4 132
  refine st_putF X (ci := 1) (ty := .array .int) in_Q t_Q to_Q nm_Q 0 3 wf_Q_22 rfl rfl (by decide) rfl hin rfl (by decide +kernel) rfl rfl (Nat.le_of_ble_eq_true rfl) (ws2 := [(a_t, .inr (1, [.ref q1, .ref q2, .ref q3, .ref q4, .int 0])), aJ g q1 33 (fun _ => 0), aI g q2 33 (fun _ => 0), aI g q3 33 (fun _ => 0), aI g q4 33 (fun _ => 0)]) rfl d_Q_init_33 ?_
  refine st_aload_n X 0 d_Q_init_36 rfl rfl ?_
  refine st_iconst X (v := 0) d_Q_init_37 (by decide) ?_
  refine st_put X (ci := 1) (ty := .int) in_Q t_Q to_Q nm_Q 0 4 wf_Q_25 rfl rfl (by decide) rfl (by decide +kernel) rfl rfl (Nat.le_of_ble_eq_true rfl) (ws2 := [(a_t, .inr (1, [.ref q1, .ref q2, .ref q3, .ref q4, .int 0])), aJ g q1 33 (fun _ => 0), aI g q2 33 (fun _ => 0), aI g q3 33 (fun _ => 0), aI g q4 33 (fun _ => 0)]) rfl d_Q_init_38 ?_
  exact st_vret X hr (q1, q2, q3, q4) hw rfl (by decide) (by decide) d_Q_init_41

theorem h9_St_init : y_St_init.cls ≠ "java/lang/invoke/MethodHandle" ∧ y_St_init.cls ≠ "java/lang/invoke/VarHandle" ∧ (parseMethodDescriptor y_St_init.desc).map (fun d => d.parameters.length) = some 0 := by decide +kernel
def wp_St_init (Q : Nat → Nat → Nat → Nat → Prop) : Prop :=
  ∀ q1 : Nat,
  wp_K_init_248 (fun u2 u3 =>
  ∀ q4 : Nat,
  Q q1 u2 u3 q4)
set_option maxHeartbeats 4000000 in
set_option maxRecDepth 100000 in
theorem k_St_init (g : GX) (hg : g.1.stackTraces = false) (a_t : Nat) (Q : Nat → Nat → Nat → Nat → Prop) (hw : wp_St_init Q) : CT g y_St_init c_St_init 1 none ({ frames := 2, cells := 4, slots := 3226, locals := 37 } : Room) [.ref a_t] [(a_t, .inr (3, [.null, .null]))] (QV g [(a_t, .inr (3, [.null, .null]))] (fun u : Nat × Nat × Nat × Nat => [(a_t, .inr (3, [.ref u.1, .ref u.2.2.2])), (u.1, .inr (0, [.ref u.2.1, .ref u.2.2.1])), aJ g u.2.1 1488 (fun _ => 0), aI g u.2.2.1 248 (fun _ => 0), aJ g u.2.2.2 1488 (fun _ => 0)]) (fun u => Q u.1 u.2.1 u.2.2.1 u.2.2.2)) := by
  refine cti_of hg (by decide) (Nat.le_of_ble_eq_true rfl) rfl (fun sz C X hr hin => ?_)
  unfold wp_St_init at hw
  show ST g C [(a_t, .inr (3, [.null, .null]))] [(0, .ref a_t)] [] 0 0 0
  refine st_aload_n X 0 d_St_init_0 rfl rfl ?_
  refine st_objInit X wm_St_3 (by decide) (Nat.le_of_ble_eq_true rfl) d_St_init_1 ?_
  refine st_aload_n X 0 d_St_init_4 rfl rfl ?_
  refine st_new X (ci := 0) (fs := [.null, .null]) in_K t_K to_K wk_St_9 wt_K wz_K rfl (by decide +kernel) (by decide) (by decide) d_St_init_5 (fun q1 => ?_)
  replace hw := hw q1
  show ST g C [(a_t, .inr (3, [.null, .null])), (q1, .inr (0, [.null, .null]))] [(0, .ref a_t)] [.ref q1, .ref a_t] 8 1 2
  refine st_dup X d_St_init_8 rfl ?_
  refine st_sipush X (v := 248) d_St_init_9 (by decide) ?_
  have hR := rn_IN (ret := none) (pc := 12) (k := 1) (n := 2) (As := [.int 248]) (rest := [.ref q1, .ref a_t]) X (k_K_init_248 g hg q1 _ hw) nl_St_11 rfl wi_K_init wz_K wc_K_init h9_K_init ⟨by decide, by decide⟩ (Nat.le_of_ble_eq_true rfl) ⟨by decide, by decide⟩ d_St_init_12
  refine st_callv X hR [1] [0] (wr := [(a_t, .inr (3, [.null, .null]))]) rfl rfl (by decide) (by decide) (by decide) (fun u9 hw => ?_)
  obtain ⟨u2, u3⟩ := u9
  try dsimp only at hw
  refine st_widen (k2 := 3) (n2 := 1738) (by decide) (by decide) ?_
  refine st_perm (ws2 := [(a_t, .inr (3, [.null, .null])), (q1, .inr (0, [.ref u2, .ref u3])), aJ g u2 1488 (fun _ => 0), aI g u3 248 (fun _ => 0)]) [0, 1, 2, 3] rfl (by decide) ?_
  show ST g C [(a_t, .inr (3, [.null, .null])), (q1, .inr (0, [.ref u2, .ref u3])), aJ g u2 1488 (fun _ => 0), aI g u3 248 (fun _ => 0)] [(0, .ref a_t)] [.ref q1, .ref a_t] 15 3 1738
  refine st_putF X (ci := 3) (ty := .object "CostSteps$KeyLists") in_St t_St to_St nm_St 0 0 wf_St_14 rfl rfl (by decide) rfl hin rfl (by decide +kernel) rfl rfl (Nat.le_of_ble_eq_true rfl) (ws2 := [(a_t, .inr (3, [.ref q1, .null])), (q1, .inr (0, [.ref u2, .ref u3])), aJ g u2 1488 (fun _ => 0), aI g u3 248 (fun _ => 0)]) rfl d_St_init_15 ?_
  refine st_aload_n X 0 d_St_init_18 rfl rfl ?_
  refine st_sipush X (v := 1488) d_St_init_19 (by decide) ?_
  refine st_newaJ X 1488 (by decide) (by decide) (by decide) (by decide) (by decide) d_St_init_22 (fun q4 => ?_)
  replace hw := hw q4
  show ST g C [(a_t, .inr (3, [.ref q1, .null])), (q1, .inr (0, [.ref u2, .ref u3])), aJ g u2 1488 (fun _ => 0), aI g u3 248 (fun _ => 0), aJ g q4 1488 (fun _ => 0)] [(0, .ref a_t)] [.ref q4, .ref a_t] 24 4 3226
  refine st_putF X (ci := 3) (ty := .array .long) in_St t_St to_St nm_St 0 1 wf_St_20 rfl rfl (by decide) rfl hin rfl (by decide +kernel) rfl rfl (Nat.le_of_ble_eq_true rfl) (ws2 := [(a_t, .inr (3, [.ref q1, .ref q4])), (q1, .inr (0, [.ref u2, .ref u3])), aJ g u2 1488 (fun _ => 0), aI g u3 248 (fun _ => 0), aJ g q4 1488 (fun _ => 0)]) rfl d_St_init_24 ?_
  exact st_vret X hr (q1, u2, u3, q4) hw rfl (by decide) (by decide) d_St_init_27

theorem h9_Ra_init : y_Ra_init.cls ≠ "java/lang/invoke/MethodHandle" ∧ y_Ra_init.cls ≠ "java/lang/invoke/VarHandle" ∧ (parseMethodDescriptor y_Ra_init.desc).map (fun d => d.parameters.length) = some 0 := by decide +kernel
def wp_Ra_init (Q : Nat → Nat → Nat → Nat → Nat → Nat → Nat → Prop) : Prop :=
  ∀ q1 : Nat,
  wp_K_init_8 (fun u2 u3 =>
  ∀ q4 : Nat,
  ∀ q5 : Nat,
  ∀ q6 : Nat,
  ∀ q7 : Nat,
  Q q1 u2 u3 q4 q5 q6 q7)
set_option maxHeartbeats 4000000 in
set_option maxRecDepth 100000 in
theorem k_Ra_init (g : GX) (hg : g.1.stackTraces = false) (a_t : Nat) (Q : Nat → Nat → Nat → Nat → Nat → Nat → Nat → Prop) (hw : wp_Ra_init Q) : CT g y_Ra_init c_Ra_init 1 none ({ frames := 2, cells := 7, slots := 170, locals := 37 } : Room) [.ref a_t] [(a_t, .inr (2, [.null, .null, .null, .null, .null]))] (QV g [(a_t, .inr (2, [.null, .null, .null, .null, .null]))] (fun u : Nat × Nat × Nat × Nat × Nat × Nat × Nat => [(a_t, .inr (2, [.ref u.1, .ref u.2.2.2.1, .ref u.2.2.2.2.1, .ref u.2.2.2.2.2.1, .ref u.2.2.2.2.2.2])), (u.1, .inr (0, [.ref u.2.1, .ref u.2.2.1])), aJ g u.2.1 48 (fun _ => 0), aI g u.2.2.1 8 (fun _ => 0), aJ g u.2.2.2.1 48 (fun _ => 0), aJ g u.2.2.2.2.1 48 (fun _ => 0), aJ g u.2.2.2.2.2.1 8 (fun _ => 0), aJ g u.2.2.2.2.2.2 8 (fun _ => 0)]) (fun u => Q u.1 u.2.1 u.2.2.1 u.2.2.2.1 u.2.2.2.2.1 u.2.2.2.2.2.1 u.2.2.2.2.2.2)) := by
  refine cti_of hg (by decide) (Nat.le_of_ble_eq_true rfl) rfl (fun sz C X hr hin => ?_)
  unfold wp_Ra_init at hw
  show ST g C [(a_t, .inr (2, [.null, .null, .null, .null, .null]))] [(0, .ref a_t)] [] 0 0 0
  refine st_aload_n X 0 d_Ra_init_0 rfl rfl ?_
  refine st_objInit X wm_Ra_3 (by decide) (Nat.le_of_ble_eq_true rfl) d_Ra_init_1 ?_
  refine st_aload_n X 0 d_Ra_init_4 rfl rfl ?_
  refine st_new X (ci := 0) (fs := [.null, .null]) in_K t_K to_K wk_Ra_9 wt_K wz_K rfl (by decide +kernel) (by decide) (by decide) d_Ra_init_5 (fun q1 => ?_)
  replace hw := hw q1
  show ST g C [(a_t, .inr (2, [.null, .null, .null, .null, .null])), (q1, .inr (0, [.null, .null]))] [(0, .ref a_t)] [.ref q1, .ref a_t] 8 1 2
  refine st_dup X d_Ra_init_8 rfl ?_
  refine st_bipush X (v := 8) d_Ra_init_9 (by decide) ?_
  have hR := rn_IN (ret := none) (pc := 11) (k := 1) (n := 2) (As := [.int 8]) (rest := [.ref q1, .ref a_t]) X (k_K_init_8 g hg q1 _ hw) nl_Ra_11 rfl wi_K_init wz_K wc_K_init h9_K_init ⟨by decide, by decide⟩ (Nat.le_of_ble_eq_true rfl) ⟨by decide, by decide⟩ d_Ra_init_11
  refine st_callv X hR [1] [0] (wr := [(a_t, .inr (2, [.null, .null, .null, .null, .null]))]) rfl rfl (by decide) (by decide) (by decide) (fun u9 hw => ?_)
  obtain ⟨u2, u3⟩ := u9
  try dsimp only at hw
  refine st_widen (k2 := 3) (n2 := 58) (by decide) (by decide) ?_
  refine st_perm (ws2 := [(a_t, .inr (2, [.null, .null, .null, .null, .null])), (q1, .inr (0, [.ref u2, .ref u3])), aJ g u2 48 (fun _ => 0), aI g u3 8 (fun _ => 0)]) [0, 1, 2, 3] rfl (by decide) ?_
  show ST g C [(a_t, .inr (2, [.null, .null, .null, .null, .null])), (q1, .inr (0, [.ref u2, .ref u3])), aJ g u2 48 (fun _ => 0), aI g u3 8 (fun _ => 0)] [(0, .ref a_t)] [.ref q1, .ref a_t] 14 3 58
  refine st_putF X (ci := 2) (ty := .object "CostSteps$KeyLists") in_Ra t_Ra to_Ra nm_Ra 0 0 wf_Ra_14 rfl rfl (by decide) rfl hin rfl (by decide +kernel) rfl rfl (Nat.le_of_ble_eq_true rfl) (ws2 := [(a_t, .inr (2, [.ref q1, .null, .null, .null, .null])), (q1, .inr (0, [.ref u2, .ref u3])), aJ g u2 48 (fun _ => 0), aI g u3 8 (fun _ => 0)]) rfl d_Ra_init_14 ?_
  refine st_aload_n X 0 d_Ra_init_17 rfl rfl ?_
  refine st_bipush X (v := 48) d_Ra_init_18 (by decide) ?_
  refine st_newaJ X 48 (by decide) (by decide) (by decide) (by decide) (by decide) d_Ra_init_20 (fun q4 => ?_)
  replace hw := hw q4
  show ST g C [(a_t, .inr (2, [.ref q1, .null, .null, .null, .null])), (q1, .inr (0, [.ref u2, .ref u3])), aJ g u2 48 (fun _ => 0), aI g u3 8 (fun _ => 0), aJ g q4 48 (fun _ => 0)] [(0, .ref a_t)] [.ref q4, .ref a_t] 22 4 106
  refine st_putF X (ci := 2) (ty := .array .long) in_Ra t_Ra to_Ra nm_Ra 0 1 wf_Ra_20 rfl rfl (by decide) rfl hin rfl (by decide +kernel) rfl rfl (Nat.le_of_ble_eq_true rfl) (ws2 := [(a_t, .inr (2, [.ref q1, .ref q4, .null, .null, .null])), (q1, .inr (0, [.ref u2, .ref u3])), aJ g u2 48 (fun _ => 0), aI g u3 8 (fun _ => 0), aJ g q4 48 (fun _ => 0)]) rfl d_Ra_init_22 ?_
  refine st_aload_n X 0 d_Ra_init_25 rfl rfl ?_
  refine st_bipush X (v := 48) d_Ra_init_26 (by decide) ?_
  refine st_newaJ X 48 (by decide) (by decide) (by decide) (by decide) (by decide) d_Ra_init_28 (fun q5 => ?_)
  replace hw := hw q5
  show ST g C [(a_t, .inr (2, [.ref q1, .ref q4, .null, .null, .null])), (q1, .inr (0, [.ref u2, .ref u3])), aJ g u2 48 (fun _ => 0), aI g u3 8 (fun _ => 0), aJ g q4 48 (fun _ => 0), aJ g q5 48 (fun _ => 0)] [(0, .ref a_t)] [.ref q5, .ref a_t] 30 5 154
  refine st_putF X (ci := 2) (ty := .array .long) in_Ra t_Ra to_Ra nm_Ra 0 2 wf_Ra_24 rfl rfl (by decide) rfl hin rfl (by decide +kernel) rfl rfl (Nat.le_of_ble_eq_true rfl) (ws2 := [(a_t, .inr (2, [.ref q1, .ref q4, .ref q5, .null, .null])), (q1, .inr (0, [.ref u2, .ref u3])), aJ g u2 48 (fun _ => 0), aI g u3 8 (fun _ => 0), aJ g q4 48 (fun _ => 0), aJ g q5 48 (fun _ => 0)]) rfl d_Ra_init_30 ?_
  refine st_aload_n X 0 d_Ra_init_33 rfl rfl ?_
  refine st_bipush X (v := 8) d_Ra_init_34 (by decide) ?_
  refine st_newaJ X 8 (by decide) (by decide) (by decide) (by decide) (by decide) d_Ra_init_36 (fun q6 => ?_)
  replace hw := hw q6
  show ST g C [(a_t, .inr (2, [.ref q1, .ref q4, .ref q5, .null, .null])), (q1, .inr (0, [.ref u2, .ref u3])), aJ g u2 48 (fun _ => 0), aI g u3 8 (fun _ => 0), aJ g q4 48 (fun _ => 0), aJ g q5 48 (fun _ => 0), aJ g q6 8 (fun _ => 0)] [(0, .ref a_t)] [.ref q6, .ref a_t] 38 6 162
  refine st_putF X (ci := 2) (ty := .array .long) in_Ra t_Ra to_Ra nm_Ra 0 3 wf_Ra_27 rfl rfl (by decide) rfl hin rfl (by decide +kernel) rfl rfl (Nat.le_of_ble_eq_true rfl) (ws2 := [(a_t, .inr (2, [.ref q1, .ref q4, .ref q5, .ref q6, .null])), (q1, .inr (0, [.ref u2, .ref u3])), aJ g u2 48 (fun _ => 0), aI g u3 8 (fun _ => 0), aJ g q4 48 (fun _ => 0), aJ g q5 48 (fun _ => 0), aJ g q6 8 (fun _ => 0)]) rfl d_Ra_init_38 ?_
  refine st_aload_n X 0 d_Ra_init_41 rfl rfl ?_
  refine st_bipush X (v := 8) d_Ra_init_42 (by decide) ?_
  refine st_newaJ X 8 (by decide) (by decide) (by decide) (by decide) (by decide) d_Ra_init_44 (fun q7 => ?_)
  replace hw := hw q7
  show ST g C [(a_t, .inr (2, [.ref q1, .ref q4, .ref q5, .ref q6, .null])), (q1, .inr (0, [.ref u2, .ref u3])), aJ g u2 48 (fun _ => 0), aI g u3 8 (fun _ => 0), aJ g q4 48 (fun _ => 0), aJ g q5 48 (fun _ => 0), aJ g q6 8 (fun _ => 0), aJ g q7 8 (fun _ => 0)] [(0, .ref a_t)] [.ref q7, .ref a_t] 46 7 170
  refine st_putF X (ci := 2) (ty := .array .long) in_Ra t_Ra to_Ra nm_Ra 0 4 wf_Ra_30 rfl rfl (by decide) rfl hin rfl (by decide +kernel) rfl rfl (Nat.le_of_ble_eq_true rfl) (ws2 := [(a_t, .inr (2, [.ref q1, .ref q4, .ref q5, .ref q6, .ref q7])), (q1, .inr (0, [.ref u2, .ref u3])), aJ g u2 48 (fun _ => 0), aI g u3 8 (fun _ => 0), aJ g q4 48 (fun _ => 0), aJ g q5 48 (fun _ => 0), aJ g q6 8 (fun _ => 0), aJ g q7 8 (fun _ => 0)]) rfl d_Ra_init_46 ?_
  exact st_vret X hr (q1, u2, u3, q4, q5, q6, q7) hw rfl (by decide) (by decide) d_Ra_init_49

theorem h9_Y_init : y_Y_init.cls ≠ "java/lang/invoke/MethodHandle" ∧ y_Y_init.cls ≠ "java/lang/invoke/VarHandle" ∧ (parseMethodDescriptor y_Y_init.desc).map (fun d => d.parameters.length) = some 0 := by decide +kernel
def wp_Y_init (Q : Nat → Nat → Prop) : Prop :=
  ∀ q1 : Nat,
  ∀ q2 : Nat,
  Q q1 q2
set_option maxHeartbeats 4000000 in
set_option maxRecDepth 100000 in
theorem k_Y_init (g : GX) (hg : g.1.stackTraces = false) (a_t : Nat) (Q : Nat → Nat → Prop) (hw : wp_Y_init Q) : CT g y_Y_init c_Y_init 1 none ({ frames := 1, cells := 2, slots := 16, locals := 12 } : Room) [.ref a_t] [(a_t, .inr (4, [.null, .null, .int 0]))] (QV g [(a_t, .inr (4, [.null, .null, .int 0]))] (fun u : Nat × Nat => [(a_t, .inr (4, [.ref u.1, .ref u.2, .int 0])), aJ g u.1 8 (fun _ => 0), aJ g u.2 8 (fun _ => 0)]) (fun u => Q u.1 u.2)) := by
  refine cti_of hg (by decide) (Nat.le_of_ble_eq_true rfl) rfl (fun sz C X hr hin => ?_)
  unfold wp_Y_init at hw
  show ST g C [(a_t, .inr (4, [.null, .null, .int 0]))] [(0, .ref a_t)] [] 0 0 0
  refine st_aload_n X 0 d_Y_init_0 rfl rfl ?_
  refine st_objInit X wm_Y_3 (by decide) (Nat.le_of_ble_eq_true rfl) d_Y_init_1 ?_
  refine st_aload_n X 0 d_Y_init_4 rfl rfl ?_
  refine st_bipush X (v := 8) d_Y_init_5 (by decide) ?_
  refine st_newaJ X 8 (by decide) (by decide) (by decide) (by decide) (by decide) d_Y_init_7 (fun q1 => ?_)
  replace hw := hw q1
  show ST g C [(a_t, .inr (4, [.null, .null, .int 0])), aJ g q1 8 (fun _ => 0)] [(0, .ref a_t)] [.ref q1, .ref a_t] 9 1 8
  refine st_putF X (ci := 4) (ty := .array .long) in_Y t_Y to_Y nm_Y 0 0 wf_Y_9 rfl rfl (by decide) rfl hin rfl (by decide +kernel) rfl rfl (Nat.le_of_ble_eq_true rfl) (ws2 := [(a_t, .inr (4, [.ref q1, .null, .int 0])), aJ g q1 8 (fun _ => 0)]) rfl d_Y_init_9 ?_
  refine st_aload_n X 0 d_Y_init_12 rfl rfl ?_
  refine st_bipush X (v := 8) d_Y_init_13 (by decide) ?_
  refine st_newaJ X 8 (by decide) (by decide) (by decide) (by decide) (by decide) d_Y_init_15 (fun q2 => ?_)
  replace hw := hw q2
  show ST g C [(a_t, .inr (4, [.ref q1, .null, .int 0])), aJ g q1 8 (fun _ => 0), aJ g q2 8 (fun _ => 0)] [(0, .ref a_t)] [.ref q2, .ref a_t] 17 2 16
  refine st_putF X (ci := 4) (ty := .array .long) in_Y t_Y to_Y nm_Y 0 1 wf_Y_15 rfl rfl (by decide) rfl hin rfl (by decide +kernel) rfl rfl (Nat.le_of_ble_eq_true rfl) (ws2 := [(a_t, .inr (4, [.ref q1, .ref q2, .int 0])), aJ g q1 8 (fun _ => 0), aJ g q2 8 (fun _ => 0)]) rfl d_Y_init_17 ?_
  refine st_aload_n X 0 d_Y_init_20 rfl rfl ?_
  refine st_iconst X (v := 0) d_Y_init_21 (by decide) ?_
  refine st_put X (ci := 4) (ty := .int) in_Y t_Y to_Y nm_Y 0 2 wf_Y_18 rfl rfl (by decide) rfl (by decide +kernel) rfl rfl (Nat.le_of_ble_eq_true rfl) (ws2 := [(a_t, .inr (4, [.ref q1, .ref q2, .int 0])), aJ g q1 8 (fun _ => 0), aJ g q2 8 (fun _ => 0)]) rfl d_Y_init_22 ?_
  exact st_vret X hr (q1, q2) hw rfl (by decide) (by decide) d_Y_init_25

theorem h9_C_init : y_C_init.cls ≠ "java/lang/invoke/MethodHandle" ∧ y_C_init.cls ≠ "java/lang/invoke/VarHandle" ∧ (parseMethodDescriptor y_C_init.desc).map (fun d => d.parameters.length) = some 0 := by decide +kernel
def wp_C_init (Q : Nat → Nat → Nat → Nat → Nat → Nat → Nat → Nat → Nat → Nat → Nat → Nat → Nat → Nat → Nat → Nat → Nat → Nat → Nat → Nat → Nat → Nat → Nat → Nat → Nat → Nat → Nat → Nat → Nat → Nat → Nat → Nat → Nat → Nat → Nat → Nat → Prop) : Prop :=
  ∀ q1 : Nat,
  ∀ q2 : Nat,
  ∀ q3 : Nat,
  ∀ q4 : Nat,
  ∀ q5 : Nat,
  ∀ q6 : Nat,
  wp_St_init (fun u7 u8 u9 u10 =>
  ∀ q11 : Nat,
  wp_Ra_init (fun u12 u13 u14 u15 u16 u17 u18 =>
  ∀ q19 : Nat,
  wp_Y_init (fun u20 u21 =>
  ∀ q22 : Nat,
  wp_Q_init (fun u23 u24 u25 u26 =>
  ∀ q27 : Nat,
  wp_Q_init (fun u28 u29 u30 u31 =>
  ∀ q32 : Nat,
  wp_Q_init (fun u33 u34 u35 u36 =>
  Q q1 q2 q3 q4 q5 q6 u7 u8 u9 u10 q11 u12 u13 u14 u15 u16 u17 u18 q19 u20 u21 q22 u23 u24 u25 u26 q27 u28 u29 u30 u31 q32 u33 u34 u35 u36))))))
set_option maxHeartbeats 4000000 in
set_option maxRecDepth 100000 in
theorem k_C_init (g : GX) (hg : g.1.stackTraces = false) (a_t : Nat) (Q : Nat → Nat → Nat → Nat → Nat → Nat → Nat → Nat → Nat → Nat → Nat → Nat → Nat → Nat → Nat → Nat → Nat → Nat → Nat → Nat → Nat → Nat → Nat → Nat → Nat → Nat → Nat → Nat → Nat → Nat → Nat → Nat → Nat → Nat → Nat → Nat → Prop) (hw : wp_C_init Q) : CT g y_C_init c_C_init 1 none ({ frames := 3, cells := 36, slots := 3939, locals := 57 } : Room) [.ref a_t] [(a_t, .inr (5, [.null, .null, .null, .null, .null, .null, .null, .null, .int 0, .long 0, .null, .null, .null]))] (QV g [(a_t, .inr (5, [.null, .null, .null, .null, .null, .null, .null, .null, .int 0, .long 0, .null, .null, .null]))] (fun u : Nat × Nat × Nat × Nat × Nat × Nat × Nat × Nat × Nat × Nat × Nat × Nat × Nat × Nat × Nat × Nat × Nat × Nat × Nat × Nat × Nat × Nat × Nat × Nat × Nat × Nat × Nat × Nat × Nat × Nat × Nat × Nat × Nat × Nat × Nat × Nat => [(a_t, .inr (5, [.ref u.1, .ref u.2.1, .ref u.2.2.1, .ref u.2.2.2.1, .ref u.2.2.2.2.1, .ref u.2.2.2.2.2.1, .ref u.2.2.2.2.2.2.2.2.2.2.1, .ref u.2.2.2.2.2.2.2.2.2.2.2.2.2.2.2.2.2.2.1, .int 0, .long 0, .ref u.2.2.2.2.2.2.2.2.2.2.2.2.2.2.2.2.2.2.2.2.2.1, .ref u.2.2.2.2.2.2.2.2.2.2.2.2.2.2.2.2.2.2.2.2.2.2.2.2.2.2.1, .ref u.2.2.2.2.2.2.2.2.2.2.2.2.2.2.2.2.2.2.2.2.2.2.2.2.2.2.2.2.2.2.2.1])), aJ g u.1 30 (fun _ => 0), aJ g u.2.1 30 (fun _ => 0), aI g u.2.2.1 30 (fun _ => 0), aJ g u.2.2.2.1 8 (fun _ => 0), aJ g u.2.2.2.2.1 8 (fun _ => 0), (u.2.2.2.2.2.1, .inr (3, [.ref u.2.2.2.2.2.2.1, .ref u.2.2.2.2.2.2.2.2.2.1])), (u.2.2.2.2.2.2.1, .inr (0, [.ref u.2.2.2.2.2.2.2.1, .ref u.2.2.2.2.2.2.2.2.1])), aJ g u.2.2.2.2.2.2.2.1 1488 (fun _ => 0), aI g u.2.2.2.2.2.2.2.2.1 248 (fun _ => 0), aJ g u.2.2.2.2.2.2.2.2.2.1 1488 (fun _ => 0), (u.2.2.2.2.2.2.2.2.2.2.1, .inr (2, [.ref u.2.2.2.2.2.2.2.2.2.2.2.1, .ref u.2.2.2.2.2.2.2.2.2.2.2.2.2.2.1, .ref u.2.2.2.2.2.2.2.2.2.2.2.2.2.2.2.1, .ref u.2.2.2.2.2.2.2.2.2.2.2.2.2.2.2.2.1, .ref u.2.2.2.2.2.2.2.2.2.2.2.2.2.2.2.2.2.1])), (u.2.2.2.2.2.2.2.2.2.2.2.1, .inr (0, [.ref u.2.2.2.2.2.2.2.2.2.2.2.2.1, .ref u.2.2.2.2.2.2.2.2.2.2.2.2.2.1])), aJ g u.2.2.2.2.2.2.2.2.2.2.2.2.1 48 (fun _ => 0), aI g u.2.2.2.2.2.2.2.2.2.2.2.2.2.1 8 (fun _ => 0), aJ g u.2.2.2.2.2.2.2.2.2.2.2.2.2.2.1 48 (fun _ => 0), aJ g u.2.2.2.2.2.2.2.2.2.2.2.2.2.2.2.1 48 (fun _ => 0), aJ g u.2.2.2.2.2.2.2.2.2.2.2.2.2.2.2.2.1 8 (fun _ => 0), aJ g u.2.2.2.2.2.2.2.2.2.2.2.2.2.2.2.2.2.1 8 (fun _ => 0), (u.2.2.2.2.2.2.2.2.2.2.2.2.2.2.2.2.2.2.1, .inr (4, [.ref u.2.2.2.2.2.2.2.2.2.2.2.2.2.2.2.2.2.2.2.1, .ref u.2.2.2.2.2.2.2.2.2.2.2.2.2.2.2.2.2.2.2.2.1, .int 0])), aJ g u.2.2.2.2.2.2.2.2.2.2.2.2.2.2.2.2.2.2.2.1 8 (fun _ => 0), aJ g u.2.2.2.2.2.2.2.2.2.2.2.2.2.2.2.2.2.2.2.2.1 8 (fun _ => 0), (u.2.2.2.2.2.2.2.2.2.2.2.2.2.2.2.2.2.2.2.2.2.1, .inr (1, [.ref u.2.2.2.2.2.2.2.2.2.2.2.2.2.2.2.2.2.2.2.2.2.2.1, .ref u.2.2.2.2.2.2.2.2.2.2.2.2.2.2.2.2.2.2.2.2.2.2.2.1, .ref u.2.2.2.2.2.2.2.2.2.2.2.2.2.2.2.2.2.2.2.2.2.2.2.2.1, .ref u.2.2.2.2.2.2.2.2.2.2.2.2.2.2.2.2.2.2.2.2.2.2.2.2.2.1, .int 0])), aJ g u.2.2.2.2.2.2.2.2.2.2.2.2.2.2.2.2.2.2.2.2.2.2.1 33 (fun _ => 0), aI g u.2.2.2.2.2.2.2.2.2.2.2.2.2.2.2.2.2.2.2.2.2.2.2.1 33 (fun _ => 0), aI g u.2.2.2.2.2.2.2.2.2.2.2.2.2.2.2.2.2.2.2.2.2.2.2.2.1 33 (fun _ => 0), aI g u.2.2.2.2.2.2.2.2.2.2.2.2.2.2.2.2.2.2.2.2.2.2.2.2.2.1 33 (fun _ => 0), (u.2.2.2.2.2.2.2.2.2.2.2.2.2.2.2.2.2.2.2.2.2.2.2.2.2.2.1, .inr (1, [.ref u.2.2.2.2.2.2.2.2.2.2.2.2.2.2.2.2.2.2.2.2.2.2.2.2.2.2.2.1, .ref u.2.2.2.2.2.2.2.2.2.2.2.2.2.2.2.2.2.2.2.2.2.2.2.2.2.2.2.2.1, .ref u.2.2.2.2.2.2.2.2.2.2.2.2.2.2.2.2.2.2.2.2.2.2.2.2.2.2.2.2.2.1, .ref u.2.2.2.2.2.2.2.2.2.2.2.2.2.2.2.2.2.2.2.2.2.2.2.2.2.2.2.2.2.2.1, .int 0])), aJ g u.2.2.2.2.2.2.2.2.2.2.2.2.2.2.2.2.2.2.2.2.2.2.2.2.2.2.2.1 33 (fun _ => 0), aI g u.2.2.2.2.2.2.2.2.2.2.2.2.2.2.2.2.2.2.2.2.2.2.2.2.2.2.2.2.1 33 (fun _ => 0), aI g u.2.2.2.2.2.2.2.2.2.2.2.2.2.2.2.2.2.2.2.2.2.2.2.2.2.2.2.2.2.1 33 (fun _ => 0), aI g u.2.2.2.2.2.2.2.2.2.2.2.2.2.2.2.2.2.2.2.2.2.2.2.2.2.2.2.2.2.2.1 33 (fun _ => 0), (u.2.2.2.2.2.2.2.2.2.2.2.2.2.2.2.2.2.2.2.2.2.2.2.2.2.2.2.2.2.2.2.1, .inr (1, [.ref u.2.2.2.2.2.2.2.2.2.2.2.2.2.2.2.2.2.2.2.2.2.2.2.2.2.2.2.2.2.2.2.2.1, .ref u.2.2.2.2.2.2.2.2.2.2.2.2.2.2.2.2.2.2.2.2.2.2.2.2.2.2.2.2.2.2.2.2.2.1, .ref u.2.2.2.2.2.2.2.2.2.2.2.2.2.2.2.2.2.2.2.2.2.2.2.2.2.2.2.2.2.2.2.2.2.2.1, .ref u.2.2.2.2.2.2.2.2.2.2.2.2.2.2.2.2.2.2.2.2.2.2.2.2.2.2.2.2.2.2.2.2.2.2.2, .int 0])), aJ g u.2.2.2.2.2.2.2.2.2.2.2.2.2.2.2.2.2.2.2.2.2.2.2.2.2.2.2.2.2.2.2.2.1 33 (fun _ => 0), aI g u.2.2.2.2.2.2.2.2.2.2.2.2.2.2.2.2.2.2.2.2.2.2.2.2.2.2.2.2.2.2.2.2.2.1 33 (fun _ => 0), aI g u.2.2.2.2.2.2.2.2.2.2.2.2.2.2.2.2.2.2.2.2.2.2.2.2.2.2.2.2.2.2.2.2.2.2.1 33 (fun _ => 0), aI g u.2.2.2.2.2.2.2.2.2.2.2.2.2.2.2.2.2.2.2.2.2.2.2.2.2.2.2.2.2.2.2.2.2.2.2 33 (fun _ => 0)]) (fun u => Q u.1 u.2.1 u.2.2.1 u.2.2.2.1 u.2.2.2.2.1 u.2.2.2.2.2.1 u.2.2.2.2.2.2.1 u.2.2.2.2.2.2.2.1 u.2.2.2.2.2.2.2.2.1 u.2.2.2.2.2.2.2.2.2.1 u.2.2.2.2.2.2.2.2.2.2.1 u.2.2.2.2.2.2.2.2.2.2.2.1 u.2.2.2.2.2.2.2.2.2.2.2.2.1 u.2.2.2.2.2.2.2.2.2.2.2.2.2.1 u.2.2.2.2.2.2.2.2.2.2.2.2.2.2.1 u.2.2.2.2.2.2.2.2.2.2.2.2.2.2.2.1 u.2.2.2.2.2.2.2.2.2.2.2.2.2.2.2.2.1 u.2.2.2.2.2.2.2.2.2.2.2.2.2.2.2.2.2.1 u.2.2.2.2.2.2.2.2.2.2.2.2.2.2.2.2.2.2.1 u.2.2.2.2.2.2.2.2.2.2.2.2.2.2.2.2.2.2.2.1 u.2.2.2.2.2.2.2.2.2.2.2.2.2.2.2.2.2.2.2.2.1 u.2.2.2.2.2.2.2.2.2.2.2.2.2.2.2.2.2.2.2.2.2.1 u.2.2.2.2.2.2.2.2.2.2.2.2.2.2.2.2.2.2.2.2.2.2.1 u.2.2.2.2.2.2.2.2.2.2.2.2.2.2.2.2.2.2.2.2.2.2.2.1 u.2.2.2.2.2.2.2.2.2.2.2.2.2.2.2.2.2.2.2.2.2.2.2.2.1 u.2.2.2.2.2.2.2.2.2.2.2.2.2.2.2.2.2.2.2.2.2.2.2.2.2.1 u.2.2.2.2.2.2.2.2.2.2.2.2.2.2.2.2.2.2.2.2.2.2.2.2.2.2.1 u.2.2.2.2.2.2.2.2.2.2.2.2.2.2.2.2.2.2.2.2.2.2.2.2.2.2.2.1 u.2.2.2.2.2.2.2.2.2.2.2.2.2.2.2.2.2.2.2.2.2.2.2.2.2.2.2.2.1 u.2.2.2.2.2.2.2.2.2.2.2.2.2.2.2.2.2.2.2.2.2.2.2.2.2.2.2.2.2.1 u.2.2.2.2.2.2.2.2.2.2.2.2.2.2.2.2.2.2.2.2.2.2.2.2.2.2.2.2.2.2.1 u.2.2.2.2.2.2.2.2.2.2.2.2.2.2.2.2.2.2.2.2.2.2.2.2.2.2.2.2.2.2.2.1 u.2.2.2.2.2.2.2.2.2.2.2.2.2.2.2.2.2.2.2.2.2.2.2.2.2.2.2.2.2.2.2.2.1 u.2.2.2.2.2.2.2.2.2.2.2.2.2.2.2.2.2.2.2.2.2.2.2.2.2.2.2.2.2.2.2.2.2.1 u.2.2.2.2.2.2.2.2.2.2.2.2.2.2.2.2.2.2.2.2.2.2.2.2.2.2.2.2.2.2.2.2.2.2.1 u.2.2.2.2.2.2.2.2.2.2.2.2.2.2.2.2.2.2.2.2.2.2.2.2.2.2.2.2.2.2.2.2.2.2.2)) := by
  refine cti_of hg (by decide) (Nat.le_of_ble_eq_true rfl) rfl (fun sz C X hr hin => ?_)
  unfold wp_C_init at hw
  show ST g C [(a_t, .inr (5, [.null, .null, .null, .null, .null, .null, .null, .null, .int 0, .long 0, .null, .null, .null]))] [(0, .ref a_t)] [] 0 0 0
  refine st_aload_n X 0 d_C_init_0 rfl rfl ?_
  refine st_objInit X wm_C_5 (by decide) (Nat.le_of_ble_eq_true rfl) d_C_init_1 ?_
  refine st_aload_n X 0 d_C_init_4 rfl rfl ?_
  refine st_bipush X (v := 30) d_C_init_5 (by decide) ?_
  refine st_newaJ X 30 (by decide) (by decide) (by decide) (by decide) (by decide) d_C_init_7 (fun q1 => ?_)
  replace hw := hw q1
  show ST g C [(a_t, .inr (5, [.null, .null, .null, .null, .null, .null, .null, .null, .int 0, .long 0, .null, .null, .null])), aJ g q1 30 (fun _ => 0)] [(0, .ref a_t)] [.ref q1, .ref a_t] 9 1 30
  refine st_putF X (ci := 5) (ty := .array .long) in_C t_C to_C nm_C 0 0 wf_C_11 rfl rfl (by decide) rfl hin rfl (by decide +kernel) rfl rfl (Nat.le_of_ble_eq_true rfl) (ws2 := [(a_t, .inr (5, [.ref q1, .null, .null, .null, .null, .null, .null, .null, .int 0, .long 0, .null, .null, .null])), aJ g q1 30 (fun _ => 0)]) rfl d_C_init_9 ?_
  refine st_aload_n X 0 d_C_init_12 rfl rfl ?_
  refine st_bipush X (v := 30) d_C_init_13 (by decide) ?_
  refine st_newaJ X 30 (by decide) (by decide) (by decide) (by decide) (by decide) d_C_init_15 (fun q2 => ?_)
  replace hw := hw q2
  show ST g C [(a_t, .inr (5, [.ref q1, .null, .null, .null, .null, .null, .null, .null, .int 0, .long 0, .null, .null, .null])), aJ g q1 30 (fun _ => 0), aJ g q2 30 (fun _ => 0)] [(0, .ref a_t)] [.ref q2, .ref a_t] 17 2 60
  refine st_putF X (ci := 5) (ty := .array .long) in_C t_C to_C nm_C 0 1 wf_C_15 rfl rfl (by decide) rfl hin rfl (by decide +kernel) rfl rfl (Nat.le_of_ble_eq_true rfl) (ws2 := [(a_t, .inr (5, [.ref q1, .ref q2, .null, .null, .null, .null, .null, .null, .int 0, .long 0, .null, .null, .null])), aJ g q1 30 (fun _ => 0), aJ g q2 30 (fun _ => 0)]) rfl d_C_init_17 ?_
  refine st_aload_n X 0 d_C_init_20 rfl rfl ?_
  refine st_bipush X (v := 30) d_C_init_21 (by decide) ?_
  refine st_newaI X 30 (by decide) (by decide) (by decide) (by decide) (by decide) d_C_init_23 (fun q3 => ?_)
  replace hw := hw q3
  show ST g C [(a_t, .inr (5, [.ref q1, .ref q2, .null, .null, .null, .null, .null, .null, .int 0, .long 0, .null, .null, .null])), aJ g q1 30 (fun _ => 0), aJ g q2 30 (fun _ => 0), aI g q3 30 (fun _ => 0)] [(0, .ref a_t)] [.ref q3, .ref a_t] 25 3 90
  refine st_putF X (ci := 5) (ty := .array .int) in_C t_C to_C nm_C 0 2 wf_C_18 rfl rfl (by decide) rfl hin rfl (by decide +kernel) rfl rfl (Nat.le_of_ble_eq_true rfl) (ws2 := [(a_t, .inr (5, [.ref q1, .ref q2, .ref q3, .null, .null, .null, .null, .null, .int 0, .long 0, .null, .null, .null])), aJ g q1 30 (fun _ => 0), aJ g q2 30 (fun _ => 0), aI g q3 30 (fun _ => 0)]) rfl d_C_init_25 ?_
  refine st_aload_n X 0 d_C_init_28 rfl rfl ?_
  refine st_bipush X (v := 8) d_C_init_29 (by decide) ?_
  refine st_newaJ X 8 (by decide) (by decide) (by decide) (by decide) (by decide) d_C_init_31 (fun q4 => ?_)
  replace hw := hw q4
  show ST g C [(a_t, .inr (5, [.ref q1, .ref q2, .ref q3, .null, .null, .null, .null, .null, .int 0, .long 0, .null, .null, .null])), aJ g q1 30 (fun _ => 0), aJ g q2 30 (fun _ => 0), aI g q3 30 (fun _ => 0), aJ g q4 8 (fun _ => 0)] [(0, .ref a_t)] [.ref q4, .ref a_t] 33 4 98
  refine st_putF X (ci := 5) (ty := .array .long) in_C t_C to_C nm_C 0 3 wf_C_22 rfl rfl (by decide) rfl hin rfl (by decide +kernel) rfl rfl (Nat.le_of_ble_eq_true rfl) (ws2 := [(a_t, .inr (5, [.ref q1, .ref q2, .ref q3, .ref q4, .null, .null, .null, .null, .int 0, .long 0, .null, .null, .null])), aJ g q1 30 (fun _ => 0), aJ g q2 30 (fun _ => 0), aI g q3 30 (fun _ => 0), aJ g q4 8 (fun _ => 0)]) rfl d_C_init_33 ?_
  refine st_aload_n X 0 d_C_init_36 rfl rfl ?_
  refine st_bipush X (v := 8) d_C_init_37 (by decide) ?_
  refine st_newaJ X 8 (by decide) (by decide) (by decide) (by decide) (by decide) d_C_init_39 (fun q5 => ?_)
  replace hw := hw q5
  show ST g C [(a_t, .inr (5, [.ref q1, .ref q2, .ref q3, .ref q4, .null, .null, .null, .null, .int 0, .long 0, .null, .null, .null])), aJ g q1 30 (fun _ => 0), aJ g q2 30 (fun _ => 0), aI g q3 30 (fun _ => 0), aJ g q4 8 (fun _ => 0), aJ g q5 8 (fun _ => 0)] [(0, .ref a_t)] [.ref q5, .ref a_t] 41 5 106
  refine st_putF X (ci := 5) (ty := .array .long) in_C t_C to_C nm_C 0 4 wf_C_25 rfl rfl (by decide) rfl hin rfl (by decide +kernel) rfl rfl (Nat.le_of_ble_eq_true rfl) (ws2 := [(a_t, .inr (5, [.ref q1, .ref q2, .ref q3, .ref q4, .ref q5, .null, .null, .null, .int 0, .long 0, .null, .null, .null])), aJ g q1 30 (fun _ => 0), aJ g q2 30 (fun _ => 0), aI g q3 30 (fun _ => 0), aJ g q4 8 (fun _ => 0), aJ g q5 8 (fun _ => 0)]) rfl d_C_init_41 ?_
  refine st_aload_n X 0 d_C_init_44 rfl rfl ?_
  refine st_new X (ci := 3) (fs := [.null, .null]) in_St t_St to_St wk_C_28 wt_St wz_St rfl (by decide +kernel) (by decide) (by decide) d_C_init_45 (fun q6 => ?_)
  replace hw := hw q6
  show ST g C [(a_t, .inr (5, [.ref q1, .ref q2, .ref q3, .ref q4, .ref q5, .null, .null, .null, .int 0, .long 0, .null, .null, .null])), aJ g q1 30 (fun _ => 0), aJ g q2 30 (fun _ => 0), aI g q3 30 (fun _ => 0), aJ g q4 8 (fun _ => 0), aJ g q5 8 (fun _ => 0), (q6, .inr (3, [.null, .null]))] [(0, .ref a_t)] [.ref q6, .ref a_t] 48 6 108
  refine st_dup X d_C_init_48 rfl ?_
  have hR := rn_IN (ret := none) (pc := 49) (k := 6) (n := 108) (As := []) (rest := [.ref q6, .ref a_t]) X (k_St_init g hg q6 _ hw) nl_C_30 rfl wi_St_init wz_St wc_St_init h9_St_init ⟨by decide, by decide⟩ (Nat.le_of_ble_eq_true rfl) ⟨by decide, by decide⟩ d_C_init_49
  refine st_callv X hR [6] [0, 1, 2, 3, 4, 5] (wr := [(a_t, .inr (5, [.ref q1, .ref q2, .ref q3, .ref q4, .ref q5, .null, .null, .null, .int 0, .long 0, .null, .null, .null])), aJ g q1 30 (fun _ => 0), aJ g q2 30 (fun _ => 0), aI g q3 30 (fun _ => 0), aJ g q4 8 (fun _ => 0), aJ g q5 8 (fun _ => 0)]) rfl rfl (by decide) (by decide) (by decide) (fun u9 hw => ?_)
  obtain ⟨u7, u8, u9, u10⟩ := u9
  try dsimp only at hw
  refine st_widen (k2 := 10) (n2 := 3334) (by decide) (by decide) ?_
  refine st_perm (ws2 := [(a_t, .inr (5, [.ref q1, .ref q2, .ref q3, .ref q4, .ref q5, .null, .null, .null, .int 0, .long 0, .null, .null, .null])), aJ g q1 30 (fun _ => 0), aJ g q2 30 (fun _ => 0), aI g q3 30 (fun _ => 0), aJ g q4 8 (fun _ => 0), aJ g q5 8 (fun _ => 0), (q6, .inr (3, [.ref u7, .ref u10])), (u7, .inr (0, [.ref u8, .ref u9])), aJ g u8 1488 (fun _ => 0), aI g u9 248 (fun _ => 0), aJ g u10 1488 (fun _ => 0)]) [0, 1, 2, 3, 4, 5, 6, 7, 8, 9, 10] rfl (by decide) ?_
  show ST g C [(a_t, .inr (5, [.ref q1, .ref q2, .ref q3, .ref q4, .ref q5, .null, .null, .null, .int 0, .long 0, .null, .null, .null])), aJ g q1 30 (fun _ => 0), aJ g q2 30 (fun _ => 0), aI g q3 30 (fun _ => 0), aJ g q4 8 (fun _ => 0), aJ g q5 8 (fun _ => 0), (q6, .inr (3, [.ref u7, .ref u10])), (u7, .inr (0, [.ref u8, .ref u9])), aJ g u8 1488 (fun _ => 0), aI g u9 248 (fun _ => 0), aJ g u10 1488 (fun _ => 0)] [(0, .ref a_t)] [.ref q6, .ref a_t] 52 10 3334
  refine st_putF X (ci := 5) (ty := .object "CostSteps$Steps") in_C t_C to_C nm_C 0 5 wf_C_31 rfl rfl (by decide) rfl hin rfl (by decide +kernel) rfl rfl (Nat.le_of_ble_eq_true rfl) (ws2 := [(a_t, .inr (5, [.ref q1, .ref q2, .ref q3, .ref q4, .ref q5, .ref q6, .null, .null, .int 0, .long 0, .null, .null, .null])), aJ g q1 30 (fun _ => 0), aJ g q2 30 (fun _ => 0), aI g q3 30 (fun _ => 0), aJ g q4 8 (fun _ => 0), aJ g q5 8 (fun _ => 0), (q6, .inr (3, [.ref u7, .ref u10])), (u7, .inr (0, [.ref u8, .ref u9])), aJ g u8 1488 (fun _ => 0), aI g u9 248 (fun _ => 0), aJ g u10 1488 (fun _ => 0)]) rfl d_C_init_52 ?_
  refine st_aload_n X 0 d_C_init_55 rfl rfl ?_
  refine st_new X (ci := 2) (fs := [.null, .null, .null, .null, .null]) in_Ra t_Ra to_Ra wk_C_35 wt_Ra wz_Ra rfl (by decide +kernel) (by decide) (by decide) d_C_init_56 (fun q11 => ?_)
  replace hw := hw q11
  show ST g C [(a_t, .inr (5, [.ref q1, .ref q2, .ref q3, .ref q4, .ref q5, .ref q6, .null, .null, .int 0, .long 0, .null, .null, .null])), aJ g q1 30 (fun _ => 0), aJ g q2 30 (fun _ => 0), aI g q3 30 (fun _ => 0), aJ g q4 8 (fun _ => 0), aJ g q5 8 (fun _ => 0), (q6, .inr (3, [.ref u7, .ref u10])), (u7, .inr (0, [.ref u8, .ref u9])), aJ g u8 1488 (fun _ => 0), aI g u9 248 (fun _ => 0), aJ g u10 1488 (fun _ => 0), (q11, .inr (2, [.null, .null, .null, .null, .null]))] [(0, .ref a_t)] [.ref q11, .ref a_t] 59 11 3339
  refine st_dup X d_C_init_59 rfl ?_
  have hR := rn_IN (ret := none) (pc := 60) (k := 11) (n := 3339) (As := []) (rest := [.ref q11, .ref a_t]) X (k_Ra_init g hg q11 _ hw) nl_C_37 rfl wi_Ra_init wz_Ra wc_Ra_init h9_Ra_init ⟨by decide, by decide⟩ (Nat.le_of_ble_eq_true rfl) ⟨by decide, by decide⟩ d_C_init_60
  refine st_callv X hR [11] [0, 1, 2, 3, 4, 5, 6, 7, 8, 9, 10] (wr := [(a_t, .inr (5, [.ref q1, .ref q2, .ref q3, .ref q4, .ref q5, .ref q6, .null, .null, .int 0, .long 0, .null, .null, .null])), aJ g q1 30 (fun _ => 0), aJ g q2 30 (fun _ => 0), aI g q3 30 (fun _ => 0), aJ g q4 8 (fun _ => 0), aJ g q5 8 (fun _ => 0), (q6, .inr (3, [.ref u7, .ref u10])), (u7, .inr (0, [.ref u8, .ref u9])), aJ g u8 1488 (fun _ => 0), aI g u9 248 (fun _ => 0), aJ g u10 1488 (fun _ => 0)]) rfl rfl (by decide) (by decide) (by decide) (fun u9 hw => ?_)
  obtain ⟨u12, u13, u14, u15, u16, u17, u18⟩ := u9
  try dsimp only at hw
  refine st_widen (k2 := 18) (n2 := 3509) (by decide) (by decide) ?_
  refine st_perm (ws2 := [(a_t, .inr (5, [.ref q1, .ref q2, .ref q3, .ref q4, .ref q5, .ref q6, .null, .null, .int 0, .long 0, .null, .null, .null])), aJ g q1 30 (fun _ => 0), aJ g q2 30 (fun _ => 0), aI g q3 30 (fun _ => 0), aJ g q4 8 (fun _ => 0), aJ g q5 8 (fun _ => 0), (q6, .inr (3, [.ref u7, .ref u10])), (u7, .inr (0, [.ref u8, .ref u9])), aJ g u8 1488 (fun _ => 0), aI g u9 248 (fun _ => 0), aJ g u10 1488 (fun _ => 0), (q11, .inr (2, [.ref u12, .ref u15, .ref u16, .ref u17, .ref u18])), (u12, .inr (0, [.ref u13, .ref u14])), aJ g u13 48 (fun _ => 0), aI g u14 8 (fun _ => 0), aJ g u15 48 (fun _ => 0), aJ g u16 48 (fun _ => 0), aJ g u17 8 (fun _ => 0), aJ g u18 8 (fun _ => 0)]) [0, 1, 2, 3, 4, 5, 6, 7, 8, 9, 10, 11, 12, 13, 14, 15, 16, 17, 18] rfl (by decide) ?_
  show ST g C [(a_t, .inr (5, [.ref q1, .ref q2, .ref q3, .ref q4, .ref q5, .ref q6, .null, .null, .int 0, .long 0, .null, .null, .null])), aJ g q1 30 (fun _ => 0), aJ g q2 30 (fun _ => 0), aI g q3 30 (fun _ => 0), aJ g q4 8 (fun _ => 0), aJ g q5 8 (fun _ => 0), (q6, .inr (3, [.ref u7, .ref u10])), (u7, .inr (0, [.ref u8, .ref u9])), aJ g u8 1488 (fun _ => 0), aI g u9 248 (fun _ => 0), aJ g u10 1488 (fun _ => 0), (q11, .inr (2, [.ref u12, .ref u15, .ref u16, .ref u17, .ref u18])), (u12, .inr (0, [.ref u13, .ref u14])), aJ g u13 48 (fun _ => 0), aI g u14 8 (fun _ => 0), aJ g u15 48 (fun _ => 0), aJ g u16 48 (fun _ => 0), aJ g u17 8 (fun _ => 0), aJ g u18 8 (fun _ => 0)] [(0, .ref a_t)] [.ref q11, .ref a_t] 63 18 3509
  refine st_putF X (ci := 5) (ty := .object "CostSteps$Rates") in_C t_C to_C nm_C 0 6 wf_C_38 rfl rfl (by decide) rfl hin rfl (by decide +kernel) rfl rfl (Nat.le_of_ble_eq_true rfl) (ws2 := [(a_t, .inr (5, [.ref q1, .ref q2, .ref q3, .ref q4, .ref q5, .ref q6, .ref q11, .null, .int 0, .long 0, .null, .null, .null])), aJ g q1 30 (fun _ => 0), aJ g q2 30 (fun _ => 0), aI g q3 30 (fun _ => 0), aJ g q4 8 (fun _ => 0), aJ g q5 8 (fun _ => 0), (q6, .inr (3, [.ref u7, .ref u10])), (u7, .inr (0, [.ref u8, .ref u9])), aJ g u8 1488 (fun _ => 0), aI g u9 248 (fun _ => 0), aJ g u10 1488 (fun _ => 0), (q11, .inr (2, [.ref u12, .ref u15, .ref u16, .ref u17, .ref u18])), (u12, .inr (0, [.ref u13, .ref u14])), aJ g u13 48 (fun _ => 0), aI g u14 8 (fun _ => 0), aJ g u15 48 (fun _ => 0), aJ g u16 48 (fun _ => 0), aJ g u17 8 (fun _ => 0), aJ g u18 8 (fun _ => 0)]) rfl d_C_init_63 ?_
  refine st_aload_n X 0 d_C_init_66 rfl rfl ?_
  refine st_new X (ci := 4) (fs := [.null, .null, .int 0]) in_Y t_Y to_Y wk_C_42 wt_Y wz_Y rfl (by decide +kernel) (by decide) (by decide) d_C_init_67 (fun q19 => ?_)
  replace hw := hw q19
  show ST g C [(a_t, .inr (5, [.ref q1, .ref q2, .ref q3, .ref q4, .ref q5, .ref q6, .ref q11, .null, .int 0, .long 0, .null, .null, .null])), aJ g q1 30 (fun _ => 0), aJ g q2 30 (fun _ => 0), aI g q3 30 (fun _ => 0), aJ g q4 8 (fun _ => 0), aJ g q5 8 (fun _ => 0), (q6, .inr (3, [.ref u7, .ref u10])), (u7, .inr (0, [.ref u8, .ref u9])), aJ g u8 1488 (fun _ => 0), aI g u9 248 (fun _ => 0), aJ g u10 1488 (fun _ => 0), (q11, .inr (2, [.ref u12, .ref u15, .ref u16, .ref u17, .ref u18])), (u12, .inr (0, [.ref u13, .ref u14])), aJ g u13 48 (fun _ => 0), aI g u14 8 (fun _ => 0), aJ g u15 48 (fun _ => 0), aJ g u16 48 (fun _ => 0), aJ g u17 8 (fun _ => 0), aJ g u18 8 (fun _ => 0), (q19, .inr (4, [.null, .null, .int 0]))] [(0, .ref a_t)] [.ref q19, .ref a_t] 70 19 3512
  refine st_dup X d_C_init_70 rfl ?_
  have hR := rn_IN (ret := none) (pc := 71) (k := 19) (n := 3512) (As := []) (rest := [.ref q19, .ref a_t]) X (k_Y_init g hg q19 _ hw) nl_C_44 rfl wi_Y_init wz_Y wc_Y_init h9_Y_init ⟨by decide, by decide⟩ (Nat.le_of_ble_eq_true rfl) ⟨by decide, by decide⟩ d_C_init_71
  refine st_callv X hR [19] [0, 1, 2, 3, 4, 5, 6, 7, 8, 9, 10, 11, 12, 13, 14, 15, 16, 17, 18] (wr := [(a_t, .inr (5, [.ref q1, .ref q2, .ref q3, .ref q4, .ref q5, .ref q6, .ref q11, .null, .int 0, .long 0, .null, .null, .null])), aJ g q1 30 (fun _ => 0), aJ g q2 30 (fun _ => 0), aI g q3 30 (fun _ => 0), aJ g q4 8 (fun _ => 0), aJ g q5 8 (fun _ => 0), (q6, .inr (3, [.ref u7, .ref u10])), (u7, .inr (0, [.ref u8, .ref u9])), aJ g u8 1488 (fun _ => 0), aI g u9 248 (fun _ => 0), aJ g u10 1488 (fun _ => 0), (q11, .inr (2, [.ref u12, .ref u15, .ref u16, .ref u17, .ref u18])), (u12, .inr (0, [.ref u13, .ref u14])), aJ g u13 48 (fun _ => 0), aI g u14 8 (fun _ => 0), aJ g u15 48 (fun _ => 0), aJ g u16 48 (fun _ => 0), aJ g u17 8 (fun _ => 0), aJ g u18 8 (fun _ => 0)]) rfl rfl (by decide) (by decide) (by decide) (fun u9 hw => ?_)
  obtain ⟨u20, u21⟩ := u9
  try dsimp only at hw
  refine st_widen (k2 := 21) (n2 := 3528) (by decide) (by decide) ?_
  refine st_perm (ws2 := [(a_t, .inr (5, [.ref q1, .ref q2, .ref q3, .ref q4, .ref q5, .ref q6, .ref q11, .null, .int 0, .long 0, .null, .null, .null])), aJ g q1 30 (fun _ => 0), aJ g q2 30 (fun _ => 0), aI g q3 30 (fun _ => 0), aJ g q4 8 (fun _ => 0), aJ g q5 8 (fun _ => 0), (q6, .inr (3, [.ref u7, .ref u10])), (u7, .inr (0, [.ref u8, .ref u9])), aJ g u8 1488 (fun _ => 0), aI g u9 248 (fun _ => 0), aJ g u10 1488 (fun _ => 0), (q11, .inr (2, [.ref u12, .ref u15, .ref u16, .ref u17, .ref u18])), (u12, .inr (0, [.ref u13, .ref u14])), aJ g u13 48 (fun _ => 0), aI g u14 8 (fun _ => 0), aJ g u15 48 (fun _ => 0), aJ g u16 48 (fun _ => 0), aJ g u17 8 (fun _ => 0), aJ g u18 8 (fun _ => 0), (q19, .inr (4, [.ref u20, .ref u21, .int 0])), aJ g u20 8 (fun _ => 0), aJ g u21 8 (fun _ => 0)]) [0, 1, 2, 3, 4, 5, 6, 7, 8, 9, 10, 11, 12, 13, 14, 15, 16, 17, 18, 19, 20, 21] rfl (by decide) ?_
  show ST g C [(a_t, .inr (5, [.ref q1, .ref q2, .ref q3, .ref q4, .ref q5, .ref q6, .ref q11, .null, .int 0, .long 0, .null, .null, .null])), aJ g q1 30 (fun _ => 0), aJ g q2 30 (fun _ => 0), aI g q3 30 (fun _ => 0), aJ g q4 8 (fun _ => 0), aJ g q5 8 (fun _ => 0), (q6, .inr (3, [.ref u7, .ref u10])), (u7, .inr (0, [.ref u8, .ref u9])), aJ g u8 1488 (fun _ => 0), aI g u9 248 (fun _ => 0), aJ g u10 1488 (fun _ => 0), (q11, .inr (2, [.ref u12, .ref u15, .ref u16, .ref u17, .ref u18])), (u12, .inr (0, [.ref u13, .ref u14])), aJ g u13 48 (fun _ => 0), aI g u14 8 (fun _ => 0), aJ g u15 48 (fun _ => 0), aJ g u16 48 (fun _ => 0), aJ g u17 8 (fun _ => 0), aJ g u18 8 (fun _ => 0), (q19, .inr (4, [.ref u20, .ref u21, .int 0])), aJ g u20 8 (fun _ => 0), aJ g u21 8 (fun _ => 0)] [(0, .ref a_t)] [.ref q19, .ref a_t] 74 21 3528
  refine st_putF X (ci := 5) (ty := .object "CostSteps$Yields") in_C t_C to_C nm_C 0 7 wf_C_45 rfl rfl (by decide) rfl hin rfl (by decide +kernel) rfl rfl (Nat.le_of_ble_eq_true rfl) (ws2 := [(a_t, .inr (5, [.ref q1, .ref q2, .ref q3, .ref q4, .ref q5, .ref q6, .ref q11, .ref q19, .int 0, .long 0, .null, .null, .null])), aJ g q1 30 (fun _ => 0), aJ g q2 30 (fun _ => 0), aI g q3 30 (fun _ => 0), aJ g q4 8 (fun _ => 0), aJ g q5 8 (fun _ => 0), (q6, .inr (3, [.ref u7, .ref u10])), (u7, .inr (0, [.ref u8, .ref u9])), aJ g u8 1488 (fun _ => 0), aI g u9 248 (fun _ => 0), aJ g u10 1488 (fun _ => 0), (q11, .inr (2, [.ref u12, .ref u15, .ref u16, .ref u17, .ref u18])), (u12, .inr (0, [.ref u13, .ref u14])), aJ g u13 48 (fun _ => 0), aI g u14 8 (fun _ => 0), aJ g u15 48 (fun _ => 0), aJ g u16 48 (fun _ => 0), aJ g u17 8 (fun _ => 0), aJ g u18 8 (fun _ => 0), (q19, .inr (4, [.ref u20, .ref u21, .int 0])), aJ g u20 8 (fun _ => 0), aJ g u21 8 (fun _ => 0)]) rfl d_C_init_74 ?_
  refine st_aload_n X 0 d_C_init_77 rfl rfl ?_
  refine st_iconst X (v := 0) d_C_init_78 (by decide) ?_
  refine st_put X (ci := 5) (ty := .int) in_C t_C to_C nm_C 0 8 wf_C_49 rfl rfl (by decide) rfl (by decide +kernel) rfl rfl (Nat.le_of_ble_eq_true rfl) (ws2 := [(a_t, .inr (5, [.ref q1, .ref q2, .ref q3, .ref q4, .ref q5, .ref q6, .ref q11, .ref q19, .int 0, .long 0, .null, .null, .null])), aJ g q1 30 (fun _ => 0), aJ g q2 30 (fun _ => 0), aI g q3 30 (fun _ => 0), aJ g q4 8 (fun _ => 0), aJ g q5 8 (fun _ => 0), (q6, .inr (3, [.ref u7, .ref u10])), (u7, .inr (0, [.ref u8, .ref u9])), aJ g u8 1488 (fun _ => 0), aI g u9 248 (fun _ => 0), aJ g u10 1488 (fun _ => 0), (q11, .inr (2, [.ref u12, .ref u15, .ref u16, .ref u17, .ref u18])), (u12, .inr (0, [.ref u13, .ref u14])), aJ g u13 48 (fun _ => 0), aI g u14 8 (fun _ => 0), aJ g u15 48 (fun _ => 0), aJ g u16 48 (fun _ => 0), aJ g u17 8 (fun _ => 0), aJ g u18 8 (fun _ => 0), (q19, .inr (4, [.ref u20, .ref u21, .int 0])), aJ g u20 8 (fun _ => 0), aJ g u21 8 (fun _ => 0)]) rfl d_C_init_79 ?_
  refine st_aload_n X 0 d_C_init_82 rfl rfl ?_
  refine st_lconst X (v := 0) d_C_init_83 (by decide) ?_
  refine st_put X (ci := 5) (ty := .long) in_C t_C to_C nm_C 0 9 wf_C_53 rfl rfl (by decide) rfl (by decide +kernel) rfl rfl (Nat.le_of_ble_eq_true rfl) (ws2 := [(a_t, .inr (5, [.ref q1, .ref q2, .ref q3, .ref q4, .ref q5, .ref q6, .ref q11, .ref q19, .int 0, .long 0, .null, .null, .null])), aJ g q1 30 (fun _ => 0), aJ g q2 30 (fun _ => 0), aI g q3 30 (fun _ => 0), aJ g q4 8 (fun _ => 0), aJ g q5 8 (fun _ => 0), (q6, .inr (3, [.ref u7, .ref u10])), (u7, .inr (0, [.ref u8, .ref u9])), aJ g u8 1488 (fun _ => 0), aI g u9 248 (fun _ => 0), aJ g u10 1488 (fun _ => 0), (q11, .inr (2, [.ref u12, .ref u15, .ref u16, .ref u17, .ref u18])), (u12, .inr (0, [.ref u13, .ref u14])), aJ g u13 48 (fun _ => 0), aI g u14 8 (fun _ => 0), aJ g u15 48 (fun _ => 0), aJ g u16 48 (fun _ => 0), aJ g u17 8 (fun _ => 0), aJ g u18 8 (fun _ => 0), (q19, .inr (4, [.ref u20, .ref u21, .int 0])), aJ g u20 8 (fun _ => 0), aJ g u21 8 (fun _ => 0)]) rfl d_C_init_84 ?_
  refine st_aload_n X 0 d_C_init_87 rfl rfl ?_
  refine st_new X (ci := 1) (fs := [.null, .null, .null, .null, .int 0]) in_Q t_Q to_Q wk_C_57 wt_Q wz_Q rfl (by decide +kernel) (by decide) (by decide) d_C_init_88 (fun q22 => ?_)
  replace hw := hw q22
  show ST g C [(a_t, .inr (5, [.ref q1, .ref q2, .ref q3, .ref q4, .ref q5, .ref q6, .ref q11, .ref q19, .int 0, .long 0, .null, .null, .null])), aJ g q1 30 (fun _ => 0), aJ g q2 30 (fun _ => 0), aI g q3 30 (fun _ => 0), aJ g q4 8 (fun _ => 0), aJ g q5 8 (fun _ => 0), (q6, .inr (3, [.ref u7, .ref u10])), (u7, .inr (0, [.ref u8, .ref u9])), aJ g u8 1488 (fun _ => 0), aI g u9 248 (fun _ => 0), aJ g u10 1488 (fun _ => 0), (q11, .inr (2, [.ref u12, .ref u15, .ref u16, .ref u17, .ref u18])), (u12, .inr (0, [.ref u13, .ref u14])), aJ g u13 48 (fun _ => 0), aI g u14 8 (fun _ => 0), aJ g u15 48 (fun _ => 0), aJ g u16 48 (fun _ => 0), aJ g u17 8 (fun _ => 0), aJ g u18 8 (fun _ => 0), (q19, .inr (4, [.ref u20, .ref u21, .int 0])), aJ g u20 8 (fun _ => 0), aJ g u21 8 (fun _ => 0), (q22, .inr (1, [.null, .null, .null, .null, .int 0]))] [(0, .ref a_t)] [.ref q22, .ref a_t] 91 22 3533
  refine st_dup X d_C_init_91 rfl ?_
  have hR := rn_IN (ret := none) (pc := 92) (k := 22) (n := 3533) (As := []) (rest := [.ref q22, .ref a_t]) X (k_Q_init g hg q22 _ hw) nl_C_59 rfl wi_Q_init wz_Q wc_Q_init h9_Q_init ⟨by decide, by decide⟩ (Nat.le_of_ble_eq_true rfl) ⟨by decide, by decide⟩ d_C_init_92
  refine st_callv X hR [22] [0, 1, 2, 3, 4, 5, 6, 7, 8, 9, 10, 11, 12, 13, 14, 15, 16, 17, 18, 19, 20, 21] (wr := [(a_t, .inr (5, [.ref q1, .ref q2, .ref q3, .ref q4, .ref q5, .ref q6, .ref q11, .ref q19, .int 0, .long 0, .null, .null, .null])), aJ g q1 30 (fun _ => 0), aJ g q2 30 (fun _ => 0), aI g q3 30 (fun _ => 0), aJ g q4 8 (fun _ => 0), aJ g q5 8 (fun _ => 0), (q6, .inr (3, [.ref u7, .ref u10])), (u7, .inr (0, [.ref u8, .ref u9])), aJ g u8 1488 (fun _ => 0), aI g u9 248 (fun _ => 0), aJ g u10 1488 (fun _ => 0), (q11, .inr (2, [.ref u12, .ref u15, .ref u16, .ref u17, .ref u18])), (u12, .inr (0, [.ref u13, .ref u14])), aJ g u13 48 (fun _ => 0), aI g u14 8 (fun _ => 0), aJ g u15 48 (fun _ => 0), aJ g u16 48 (fun _ => 0), aJ g u17 8 (fun _ => 0), aJ g u18 8 (fun _ => 0), (q19, .inr (4, [.ref u20, .ref u21, .int 0])), aJ g u20 8 (fun _ => 0), aJ g u21 8 (fun _ => 0)]) rfl rfl (by decide) (by decide) (by decide) (fun u9 hw => ?_)
  obtain ⟨u23, u24, u25, u26⟩ := u9
  try dsimp only at hw
  refine st_widen (k2 := 26) (n2 := 3665) (by decide) (by decide) ?_
  refine st_perm (ws2 := [(a_t, .inr (5, [.ref q1, .ref q2, .ref q3, .ref q4, .ref q5, .ref q6, .ref q11, .ref q19, .int 0, .long 0, .null, .null, .null])), aJ g q1 30 (fun _ => 0), aJ g q2 30 (fun _ => 0), aI g q3 30 (fun _ => 0), aJ g q4 8 (fun _ => 0), aJ g q5 8 (fun _ => 0), (q6, .inr (3, [.ref u7, .ref u10])), (u7, .inr (0, [.ref u8, .ref u9])), aJ g u8 1488 (fun _ => 0), aI g u9 248 (fun _ => 0), aJ g u10 1488 (fun _ => 0), (q11, .inr (2, [.ref u12, .ref u15, .ref u16, .ref u17, .ref u18])), (u12, .inr (0, [.ref u13, .ref u14])), aJ g u13 48 (fun _ => 0), aI g u14 8 (fun _ => 0), aJ g u15 48 (fun _ => 0), aJ g u16 48 (fun _ => 0), aJ g u17 8 (fun _ => 0), aJ g u18 8 (fun _ => 0), (q19, .inr (4, [.ref u20, .ref u21, .int 0])), aJ g u20 8 (fun _ => 0), aJ g u21 8 (fun _ => 0), (q22, .inr (1, [.ref u23, .ref u24, .ref u25, .ref u26, .int 0])), aJ g u23 33 (fun _ => 0), aI g u24 33 (fun _ => 0), aI g u25 33 (fun _ => 0), aI g u26 33 (fun _ => 0)]) [0, 1, 2, 3, 4, 5, 6, 7, 8, 9, 10, 11, 12, 13, 14, 15, 16, 17, 18, 19, 20, 21, 22, 23, 24, 25, 26] rfl (by decide) ?_
  show ST g C [(a_t, .inr (5, [.ref q1, .ref q2, .ref q3, .ref q4, .ref q5, .ref q6, .ref q11, .ref q19, .int 0, .long 0, .null, .null, .null])), aJ g q1 30 (fun _ => 0), aJ g q2 30 (fun _ => 0), aI g q3 30 (fun _ => 0), aJ g q4 8 (fun _ => 0), aJ g q5 8 (fun _ => 0), (q6, .inr (3, [.ref u7, .ref u10])), (u7, .inr (0, [.ref u8, .ref u9])), aJ g u8 1488 (fun _ => 0), aI g u9 248 (fun _ => 0), aJ g u10 1488 (fun _ => 0), (q11, .inr (2, [.ref u12, .ref u15, .ref u16, .ref u17, .ref u18])), (u12, .inr (0, [.ref u13, .ref u14])), aJ g u13 48 (fun _ => 0), aI g u14 8 (fun _ => 0), aJ g u15 48 (fun _ => 0), aJ g u16 48 (fun _ => 0), aJ g u17 8 (fun _ => 0), aJ g u18 8 (fun _ => 0), (q19, .inr (4, [.ref u20, .ref u21, .int 0])), aJ g u20 8 (fun _ => 0), aJ g u21 8 (fun _ => 0), (q22, .inr (1, [.ref u23, .ref u24, .ref u25, .ref u26, .int 0])), aJ g u23 33 (fun _ => 0), aI g u24 33 (fun _ => 0), aI g u25 33 (fun _ => 0), aI g u26 33 (fun _ => 0)] [(0, .ref a_t)] [.ref q22, .ref a_t] 95 26 3665
  refine st_put X (ci := 5) (ty := .object "CostSteps$Quote") in_C t_C to_C nm_C 0 10 wf_C_60 rfl rfl (by decide) rfl (by decide +kernel) rfl rfl (Nat.le_of_ble_eq_true rfl) (ws2 := [(a_t, .inr (5, [.ref q1, .ref q2, .ref q3, .ref q4, .ref q5, .ref q6, .ref q11, .ref q19, .int 0, .long 0, .ref q22, .null, .null])), aJ g q1 30 (fun _ => 0), aJ g q2 30 (fun _ => 0), aI g q3 30 (fun _ => 0), aJ g q4 8 (fun _ => 0), aJ g q5 8 (fun _ => 0), (q6, .inr (3, [.ref u7, .ref u10])), (u7, .inr (0, [.ref u8, .ref u9])), aJ g u8 1488 (fun _ => 0), aI g u9 248 (fun _ => 0), aJ g u10 1488 (fun _ => 0), (q11, .inr (2, [.ref u12, .ref u15, .ref u16, .ref u17, .ref u18])), (u12, .inr (0, [.ref u13, .ref u14])), aJ g u13 48 (fun _ => 0), aI g u14 8 (fun _ => 0), aJ g u15 48 (fun _ => 0), aJ g u16 48 (fun _ => 0), aJ g u17 8 (fun _ => 0), aJ g u18 8 (fun _ => 0), (q19, .inr (4, [.ref u20, .ref u21, .int 0])), aJ g u20 8 (fun _ => 0), aJ g u21 8 (fun _ => 0), (q22, .inr (1, [.ref u23, .ref u24, .ref u25, .ref u26, .int 0])), aJ g u23 33 (fun _ => 0), aI g u24 33 (fun _ => 0), aI g u25 33 (fun _ => 0), aI g u26 33 (fun _ => 0)]) rfl d_C_init_95 ?_
  refine st_aload_n X 0 d_C_init_98 rfl rfl ?_
  refine st_new X (ci := 1) (fs := [.null, .null, .null, .null, .int 0]) in_Q t_Q to_Q wk_C_57 wt_Q wz_Q rfl (by decide +kernel) (by decide) (by decide) d_C_init_99 (fun q27 => ?_)
  replace hw := hw q27
  show ST g C [(a_t, .inr (5, [.ref q1, .ref q2, .ref q3, .ref q4, .ref q5, .ref q6, .ref q11, .ref q19, .int 0, .long 0, .ref q22, .null, .null])), aJ g q1 30 (fun _ => 0), aJ g q2 30 (fun _ => 0), aI g q3 30 (fun _ => 0), aJ g q4 8 (fun _ => 0), aJ g q5 8 (fun _ => 0), (q6, .inr (3, [.ref u7, .ref u10])), (u7, .inr (0, [.ref u8, .ref u9])), aJ g u8 1488 (fun _ => 0), aI g u9 248 (fun _ => 0), aJ g u10 1488 (fun _ => 0), (q11, .inr (2, [.ref u12, .ref u15, .ref u16, .ref u17, .ref u18])), (u12, .inr (0, [.ref u13, .ref u14])), aJ g u13 48 (fun _ => 0), aI g u14 8 (fun _ => 0), aJ g u15 48 (fun _ => 0), aJ g u16 48 (fun _ => 0), aJ g u17 8 (fun _ => 0), aJ g u18 8 (fun _ => 0), (q19, .inr (4, [.ref u20, .ref u21, .int 0])), aJ g u20 8 (fun _ => 0), aJ g u21 8 (fun _ => 0), (q22, .inr (1, [.ref u23, .ref u24, .ref u25, .ref u26, .int 0])), aJ g u23 33 (fun _ => 0), aI g u24 33 (fun _ => 0), aI g u25 33 (fun _ => 0), aI g u26 33 (fun _ => 0), (q27, .inr (1, [.null, .null, .null, .null, .int 0]))] [(0, .ref a_t)] [.ref q27, .ref a_t] 102 27 3670
  refine st_dup X d_C_init_102 rfl ?_
  have hR := rn_IN (ret := none) (pc := 103) (k := 27) (n := 3670) (As := []) (rest := [.ref q27, .ref a_t]) X (k_Q_init g hg q27 _ hw) nl_C_59 rfl wi_Q_init wz_Q wc_Q_init h9_Q_init ⟨by decide, by decide⟩ (Nat.le_of_ble_eq_true rfl) ⟨by decide, by decide⟩ d_C_init_103
  refine st_callv X hR [27] [0, 1, 2, 3, 4, 5, 6, 7, 8, 9, 10, 11, 12, 13, 14, 15, 16, 17, 18, 19, 20, 21, 22, 23, 24, 25, 26] (wr := [(a_t, .inr (5, [.ref q1, .ref q2, .ref q3, .ref q4, .ref q5, .ref q6, .ref q11, .ref q19, .int 0, .long 0, .ref q22, .null, .null])), aJ g q1 30 (fun _ => 0), aJ g q2 30 (fun _ => 0), aI g q3 30 (fun _ => 0), aJ g q4 8 (fun _ => 0), aJ g q5 8 (fun _ => 0), (q6, .inr (3, [.ref u7, .ref u10])), (u7, .inr (0, [.ref u8, .ref u9])), aJ g u8 1488 (fun _ => 0), aI g u9 248 (fun _ => 0), aJ g u10 1488 (fun _ => 0), (q11, .inr (2, [.ref u12, .ref u15, .ref u16, .ref u17, .ref u18])), (u12, .inr (0, [.ref u13, .ref u14])), aJ g u13 48 (fun _ => 0), aI g u14 8 (fun _ => 0), aJ g u15 48 (fun _ => 0), aJ g u16 48 (fun _ => 0), aJ g u17 8 (fun _ => 0), aJ g u18 8 (fun _ => 0), (q19, .inr (4, [.ref u20, .ref u21, .int 0])), aJ g u20 8 (fun _ => 0), aJ g u21 8 (fun _ => 0), (q22, .inr (1, [.ref u23, .ref u24, .ref u25, .ref u26, .int 0])), aJ g u23 33 (fun _ => 0), aI g u24 33 (fun _ => 0), aI g u25 33 (fun _ => 0), aI g u26 33 (fun _ => 0)]) rfl rfl (by decide) (by decide) (by decide) (fun u9 hw => ?_)
  obtain ⟨u28, u29, u30, u31⟩ := u9
  try dsimp only at hw
  refine st_widen (k2 := 31) (n2 := 3802) (by decide) (by decide) ?_
  refine st_perm (ws2 := [(a_t, .inr (5, [.ref q1, .ref q2, .ref q3, .ref q4, .ref q5, .ref q6, .ref q11, .ref q19, .int 0, .long 0, .ref q22, .null, .null])), aJ g q1 30 (fun _ => 0), aJ g q2 30 (fun _ => 0), aI g q3 30 (fun _ => 0), aJ g q4 8 (fun _ => 0), aJ g q5 8 (fun _ => 0), (q6, .inr (3, [.ref u7, .ref u10])), (u7, .inr (0, [.ref u8, .ref u9])), aJ g u8 1488 (fun _ => 0), aI g u9 248 (fun _ => 0), aJ g u10 1488 (fun _ => 0), (q11, .inr (2, [.ref u12, .ref u15, .ref u16, .ref u17, .ref u18])), (u12, .inr (0, [.ref u13, .ref u14])), aJ g u13 48 (fun _ => 0), aI g u14 8 (fun _ => 0), aJ g u15 48 (fun _ => 0), aJ g u16 48 (fun _ => 0), aJ g u17 8 (fun _ => 0), aJ g u18 8 (fun _ => 0), (q19, .inr (4, [.ref u20, .ref u21, .int 0])), aJ g u20 8 (fun _ => 0), aJ g u21 8 (fun _ => 0), (q22, .inr (1, [.ref u23, .ref u24, .ref u25, .ref u26, .int 0])), aJ g u23 33 (fun _ => 0), aI g u24 33 (fun _ => 0), aI g u25 33 (fun _ => 0), aI g u26 33 (fun _ => 0), (q27, .inr (1, [.ref u28, .ref u29, .ref u30, .ref u31, .int 0])), aJ g u28 33 (fun _ => 0), aI g u29 33 (fun _ => 0), aI g u30 33 (fun _ => 0), aI g u31 33 (fun _ => 0)]) [0, 1, 2, 3, 4, 5, 6, 7, 8, 9, 10, 11, 12, 13, 14, 15, 16, 17, 18, 19, 20, 21, 22, 23, 24, 25, 26, 27, 28, 29, 30, 31] rfl (by decide) ?_
  show ST g C [(a_t, .inr (5, [.ref q1, .ref q2, .ref q3, .ref q4, .ref q5, .ref q6, .ref q11, .ref q19, .int 0, .long 0, .ref q22, .null, .null])), aJ g q1 30 (fun _ => 0), aJ g q2 30 (fun _ => 0), aI g q3 30 (fun _ => 0), aJ g q4 8 (fun _ => 0), aJ g q5 8 (fun _ => 0), (q6, .inr (3, [.ref u7, .ref u10])), (u7, .inr (0, [.ref u8, .ref u9])), aJ g u8 1488 (fun _ => 0), aI g u9 248 (fun _ => 0), aJ g u10 1488 (fun _ => 0), (q11, .inr (2, [.ref u12, .ref u15, .ref u16, .ref u17, .ref u18])), (u12, .inr (0, [.ref u13, .ref u14])), aJ g u13 48 (fun _ => 0), aI g u14 8 (fun _ => 0), aJ g u15 48 (fun _ => 0), aJ g u16 48 (fun _ => 0), aJ g u17 8 (fun _ => 0), aJ g u18 8 (fun _ => 0), (q19, .inr (4, [.ref u20, .ref u21, .int 0])), aJ g u20 8 (fun _ => 0), aJ g u21 8 (fun _ => 0), (q22, .inr (1, [.ref u23, .ref u24, .ref u25, .ref u26, .int 0])), aJ g u23 33 (fun _ => 0), aI g u24 33 (fun _ => 0), aI g u25 33 (fun _ => 0), aI g u26 33 (fun _ => 0), (q27, .inr (1, [.ref u28, .ref u29, .ref u30, .ref u31, .int 0])), aJ g u28 33 (fun _ => 0), aI g u29 33 (fun _ => 0), aI g u30 33 (fun _ => 0), aI g u31 33 (fun _ => 0)] [(0, .ref a_t)] [.ref q27, .ref a_t] 106 31 3802
  refine st_put X (ci := 5) (ty := .object "CostSteps$Quote") in_C t_C to_C nm_C 0 11 wf_C_64 rfl rfl (by decide) rfl (by decide +kernel) rfl rfl (Nat.le_of_ble_eq_true rfl) (ws2 := [(a_t, .inr (5, [.ref q1, .ref q2, .ref q3, .ref q4, .ref q5, .ref q6, .ref q11, .ref q19, .int 0, .long 0, .ref q22, .ref q27, .null])), aJ g q1 30 (fun _ => 0), aJ g q2 30 (fun _ => 0), aI g q3 30 (fun _ => 0), aJ g q4 8 (fun _ => 0), aJ g q5 8 (fun _ => 0), (q6, .inr (3, [.ref u7, .ref u10])), (u7, .inr (0, [.ref u8, .ref u9])), aJ g u8 1488 (fun _ => 0), aI g u9 248 (fun _ => 0), aJ g u10 1488 (fun _ => 0), (q11, .inr (2, [.ref u12, .ref u15, .ref u16, .ref u17, .ref u18])), (u12, .inr (0, [.ref u13, .ref u14])), aJ g u13 48 (fun _ => 0), aI g u14 8 (fun _ => 0), aJ g u15 48 (fun _ => 0), aJ g u16 48 (fun _ => 0), aJ g u17 8 (fun _ => 0), aJ g u18 8 (fun _ => 0), (q19, .inr (4, [.ref u20, .ref u21, .int 0])), aJ g u20 8 (fun _ => 0), aJ g u21 8 (fun _ => 0), (q22, .inr (1, [.ref u23, .ref u24, .ref u25, .ref u26, .int 0])), aJ g u23 33 (fun _ => 0), aI g u24 33 (fun _ => 0), aI g u25 33 (fun _ => 0), aI g u26 33 (fun _ => 0), (q27, .inr (1, [.ref u28, .ref u29, .ref u30, .ref u31, .int 0])), aJ g u28 33 (fun _ => 0), aI g u29 33 (fun _ => 0), aI g u30 33 (fun _ => 0), aI g u31 33 (fun _ => 0)]) rfl d_C_init_106 ?_
  refine st_aload_n X 0 d_C_init_109 rfl rfl ?_
  refine st_new X (ci := 1) (fs := [.null, .null, .null, .null, .int 0]) in_Q t_Q to_Q wk_C_57 wt_Q wz_Q rfl (by decide +kernel) (by decide) (by decide) d_C_init_110 (fun q32 => ?_)
  replace hw := hw q32
  show ST g C [(a_t, .inr (5, [.ref q1, .ref q2, .ref q3, .ref q4, .ref q5, .ref q6, .ref q11, .ref q19, .int 0, .long 0, .ref q22, .ref q27, .null])), aJ g q1 30 (fun _ => 0), aJ g q2 30 (fun _ => 0), aI g q3 30 (fun _ => 0), aJ g q4 8 (fun _ => 0), aJ g q5 8 (fun _ => 0), (q6, .inr (3, [.ref u7, .ref u10])), (u7, .inr (0, [.ref u8, .ref u9])), aJ g u8 1488 (fun _ => 0), aI g u9 248 (fun _ => 0), aJ g u10 1488 (fun _ => 0), (q11, .inr (2, [.ref u12, .ref u15, .ref u16, .ref u17, .ref u18])), (u12, .inr (0, [.ref u13, .ref u14])), aJ g u13 48 (fun _ => 0), aI g u14 8 (fun _ => 0), aJ g u15 48 (fun _ => 0), aJ g u16 48 (fun _ => 0), aJ g u17 8 (fun _ => 0), aJ g u18 8 (fun _ => 0), (q19, .inr (4, [.ref u20, .ref u21, .int 0])), aJ g u20 8 (fun _ => 0), aJ g u21 8 (fun _ => 0), (q22, .inr (1, [.ref u23, .ref u24, .ref u25, .ref u26, .int 0])), aJ g u23 33 (fun _ => 0), aI g u24 33 (fun _ => 0), aI g u25 33 (fun _ => 0), aI g u26 33 (fun _ => 0), (q27, .inr (1, [.ref u28, .ref u29, .ref u30, .ref u31, .int 0])), aJ g u28 33 (fun _ => 0), aI g u29 33 (fun _ => 0), aI g u30 33 (fun _ => 0), aI g u31 33 (fun _ => 0), (q32, .inr (1, [.null, .null, .null, .null, .int 0]))] [(0, .ref a_t)] [.ref q32, .ref a_t] 113 32 3807
  refine st_dup X d_C_init_113 rfl ?_
  have hR := rn_IN (ret := none) (pc := 114) (k := 32) (n := 3807) (As := []) (rest := [.ref q32, .ref a_t]) X (k_Q_init g hg q32 _ hw) nl_C_59 rfl wi_Q_init wz_Q wc_Q_init h9_Q_init ⟨by decide, by decide⟩ (Nat.le_of_ble_eq_true rfl) ⟨by decide, by decide⟩ d_C_init_114
  refine st_callv X hR [32] [0, 1, 2, 3, 4, 5, 6, 7, 8, 9, 10, 11, 12, 13, 14, 15, 16, 17, 18, 19, 20, 21, 22, 23, 24, 25, 26, 27, 28, 29, 30, 31] (wr := [(a_t, .inr (5, [.ref q1, .ref q2, .ref q3, .ref q4, .ref q5, .ref q6, .ref q11, .ref q19, .int 0, .long 0, .ref q22, .ref q27, .null])), aJ g q1 30 (fun _ => 0), aJ g q2 30 (fun _ => 0), aI g q3 30 (fun _ => 0), aJ g q4 8 (fun _ => 0), aJ g q5 8 (fun _ => 0), (q6, .inr (3, [.ref u7, .ref u10])), (u7, .inr (0, [.ref u8, .ref u9])), aJ g u8 1488 (fun _ => 0), aI g u9 248 (fun _ => 0), aJ g u10 1488 (fun _ => 0), (q11, .inr (2, [.ref u12, .ref u15, .ref u16, .ref u17, .ref u18])), (u12, .inr (0, [.ref u13, .ref u14])), aJ g u13 48 (fun _ => 0), aI g u14 8 (fun _ => 0), aJ g u15 48 (fun _ => 0), aJ g u16 48 (fun _ => 0), aJ g u17 8 (fun _ => 0), aJ g u18 8 (fun _ => 0), (q19, .inr (4, [.ref u20, .ref u21, .int 0])), aJ g u20 8 (fun _ => 0), aJ g u21 8 (fun _ => 0), (q22, .inr (1, [.ref u23, .ref u24, .ref u25, .ref u26, .int 0])), aJ g u23 33 (fun _ => 0), aI g u24 33 (fun _ => 0), aI g u25 33 (fun _ => 0), aI g u26 33 (fun _ => 0), (q27, .inr (1, [.ref u28, .ref u29, .ref u30, .ref u31, .int 0])), aJ g u28 33 (fun _ => 0), aI g u29 33 (fun _ => 0), aI g u30 33 (fun _ => 0), aI g u31 33 (fun _ => 0)]) rfl rfl (by decide) (by decide) (by decide) (fun u9 hw => ?_)
  obtain ⟨u33, u34, u35, u36⟩ := u9
  try dsimp only at hw
  refine st_widen (k2 := 36) (n2 := 3939) (by decide) (by decide) ?_
  refine st_perm (ws2 := [(a_t, .inr (5, [.ref q1, .ref q2, .ref q3, .ref q4, .ref q5, .ref q6, .ref q11, .ref q19, .int 0, .long 0, .ref q22, .ref q27, .null])), aJ g q1 30 (fun _ => 0), aJ g q2 30 (fun _ => 0), aI g q3 30 (fun _ => 0), aJ g q4 8 (fun _ => 0), aJ g q5 8 (fun _ => 0), (q6, .inr (3, [.ref u7, .ref u10])), (u7, .inr (0, [.ref u8, .ref u9])), aJ g u8 1488 (fun _ => 0), aI g u9 248 (fun _ => 0), aJ g u10 1488 (fun _ => 0), (q11, .inr (2, [.ref u12, .ref u15, .ref u16, .ref u17, .ref u18])), (u12, .inr (0, [.ref u13, .ref u14])), aJ g u13 48 (fun _ => 0), aI g u14 8 (fun _ => 0), aJ g u15 48 (fun _ => 0), aJ g u16 48 (fun _ => 0), aJ g u17 8 (fun _ => 0), aJ g u18 8 (fun _ => 0), (q19, .inr (4, [.ref u20, .ref u21, .int 0])), aJ g u20 8 (fun _ => 0), aJ g u21 8 (fun _ => 0), (q22, .inr (1, [.ref u23, .ref u24, .ref u25, .ref u26, .int 0])), aJ g u23 33 (fun _ => 0), aI g u24 33 (fun _ => 0), aI g u25 33 (fun _ => 0), aI g u26 33 (fun _ => 0), (q27, .inr (1, [.ref u28, .ref u29, .ref u30, .ref u31, .int 0])), aJ g u28 33 (fun _ => 0), aI g u29 33 (fun _ => 0), aI g u30 33 (fun _ => 0), aI g u31 33 (fun _ => 0), (q32, .inr (1, [.ref u33, .ref u34, .ref u35, .ref u36, .int 0])), aJ g u33 33 (fun _ => 0), aI g u34 33 (fun _ => 0), aI g u35 33 (fun _ => 0), aI g u36 33 (fun _ => 0)]) [0, 1, 2, 3, 4, 5, 6, 7, 8, 9, 10, 11, 12, 13, 14, 15, 16, 17, 18, 19, 20, 21, 22, 23, 24, 25, 26, 27, 28, 29, 30, 31, 32, 33, 34, 35, 36] rfl (by decide) ?_
  show ST g C [(a_t, .inr (5, [.ref q1, .ref q2, .ref q3, .ref q4, .ref q5, .ref q6, .ref q11, .ref q19, .int 0, .long 0, .ref q22, .ref q27, .null])), aJ g q1 30 (fun _ => 0), aJ g q2 30 (fun _ => 0), aI g q3 30 (fun _ => 0), aJ g q4 8 (fun _ => 0), aJ g q5 8 (fun _ => 0), (q6, .inr (3, [.ref u7, .ref u10])), (u7, .inr (0, [.ref u8, .ref u9])), aJ g u8 1488 (fun _ => 0), aI g u9 248 (fun _ => 0), aJ g u10 1488 (fun _ => 0), (q11, .inr (2, [.ref u12, .ref u15, .ref u16, .ref u17, .ref u18])), (u12, .inr (0, [.ref u13, .ref u14])), aJ g u13 48 (fun _ => 0), aI g u14 8 (fun _ => 0), aJ g u15 48 (fun _ => 0), aJ g u16 48 (fun _ => 0), aJ g u17 8 (fun _ => 0), aJ g u18 8 (fun _ => 0), (q19, .inr (4, [.ref u20, .ref u21, .int 0])), aJ g u20 8 (fun _ => 0), aJ g u21 8 (fun _ => 0), (q22, .inr (1, [.ref u23, .ref u24, .ref u25, .ref u26, .int 0])), aJ g u23 33 (fun _ => 0), aI g u24 33 (fun _ => 0), aI g u25 33 (fun _ => 0), aI g u26 33 (fun _ => 0), (q27, .inr (1, [.ref u28, .ref u29, .ref u30, .ref u31, .int 0])), aJ g u28 33 (fun _ => 0), aI g u29 33 (fun _ => 0), aI g u30 33 (fun _ => 0), aI g u31 33 (fun _ => 0), (q32, .inr (1, [.ref u33, .ref u34, .ref u35, .ref u36, .int 0])), aJ g u33 33 (fun _ => 0), aI g u34 33 (fun _ => 0), aI g u35 33 (fun _ => 0), aI g u36 33 (fun _ => 0)] [(0, .ref a_t)] [.ref q32, .ref a_t] 117 36 3939
  refine st_put X (ci := 5) (ty := .object "CostSteps$Quote") in_C t_C to_C nm_C 0 12 wf_C_67 rfl rfl (by decide) rfl (by decide +kernel) rfl rfl (Nat.le_of_ble_eq_true rfl) (ws2 := [(a_t, .inr (5, [.ref q1, .ref q2, .ref q3, .ref q4, .ref q5, .ref q6, .ref q11, .ref q19, .int 0, .long 0, .ref q22, .ref q27, .ref q32])), aJ g q1 30 (fun _ => 0), aJ g q2 30 (fun _ => 0), aI g q3 30 (fun _ => 0), aJ g q4 8 (fun _ => 0), aJ g q5 8 (fun _ => 0), (q6, .inr (3, [.ref u7, .ref u10])), (u7, .inr (0, [.ref u8, .ref u9])), aJ g u8 1488 (fun _ => 0), aI g u9 248 (fun _ => 0), aJ g u10 1488 (fun _ => 0), (q11, .inr (2, [.ref u12, .ref u15, .ref u16, .ref u17, .ref u18])), (u12, .inr (0, [.ref u13, .ref u14])), aJ g u13 48 (fun _ => 0), aI g u14 8 (fun _ => 0), aJ g u15 48 (fun _ => 0), aJ g u16 48 (fun _ => 0), aJ g u17 8 (fun _ => 0), aJ g u18 8 (fun _ => 0), (q19, .inr (4, [.ref u20, .ref u21, .int 0])), aJ g u20 8 (fun _ => 0), aJ g u21 8 (fun _ => 0), (q22, .inr (1, [.ref u23, .ref u24, .ref u25, .ref u26, .int 0])), aJ g u23 33 (fun _ => 0), aI g u24 33 (fun _ => 0), aI g u25 33 (fun _ => 0), aI g u26 33 (fun _ => 0), (q27, .inr (1, [.ref u28, .ref u29, .ref u30, .ref u31, .int 0])), aJ g u28 33 (fun _ => 0), aI g u29 33 (fun _ => 0), aI g u30 33 (fun _ => 0), aI g u31 33 (fun _ => 0), (q32, .inr (1, [.ref u33, .ref u34, .ref u35, .ref u36, .int 0])), aJ g u33 33 (fun _ => 0), aI g u34 33 (fun _ => 0), aI g u35 33 (fun _ => 0), aI g u36 33 (fun _ => 0)]) rfl d_C_init_117 ?_
  exact st_vret X hr (q1, q2, q3, q4, q5, q6, u7, u8, u9, u10, q11, u12, u13, u14, u15, u16, u17, u18, q19, u20, u21, q22, u23, u24, u25, u26, q27, u28, u29, u30, u31, q32, u33, u34, u35, u36) hw rfl (by decide) (by decide) d_C_init_120
