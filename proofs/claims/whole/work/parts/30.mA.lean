theorem h9_M_thrown : y_M_thrown.cls ≠ "java/lang/invoke/MethodHandle" ∧ y_M_thrown.cls ≠ "java/lang/invoke/VarHandle" ∧ (parseMethodDescriptor y_M_thrown.desc).map (fun d => d.parameters.length) = some 0 := by decide +kernel
def wp_M_thrown (m_thrown : Int32) (Q : Int32 → Prop) : Prop :=
  Q m_thrown
set_option maxHeartbeats 4000000 in
set_option maxRecDepth 100000 in
theorem k_M_thrown (g : GX) (hg : g.1.stackTraces = false) (a_t : Nat) (m_thrown : Int32) (m_parts : Int32) (a_m_stepCount : Nat) (a_m_froms : Nat) (a_m_cents : Nat) (a_m_uses : Nat) (a_m_stocks : Nat) (a_m_alternates : Nat) (a_m_assemblies : Nat) (a_m_placings : Nat) (m_yields : Int32) (a_m_yieldAbove : Nat) (a_m_yieldBelow : Nat) (a_m_dayCount : Nat) (a_m_days : Nat) (a_m_rateAbove : Nat) (a_m_rateBelow : Nat) (m_tools : Int64) (m_can : Int32) (m_sum : Int64) (a_m_costs : Nat) (a_m_pieces : Nat) (a_m_maker : Nat) (a_m_partOf : Nat) (m_ran : Int32) (m_keptRows : Int32) (a_m_keptCosts : Nat) (a_m_keptPieces : Nat) (a_m_keptMaker : Nat) (a_m_keptPart : Nat) (a_m_oldCosts : Nat) (Q : Int32 → Prop) (hw : wp_M_thrown m_thrown Q) : CT g y_M_thrown c_M_thrown 1 (some .int) ({ frames := 0, cells := 0, slots := 0, locals := 0 } : Room) [.ref a_t] [(a_t, .inr (6, [.int m_thrown, .int m_parts, .ref a_m_stepCount, .ref a_m_froms, .ref a_m_cents, .ref a_m_uses, .ref a_m_stocks, .ref a_m_alternates, .ref a_m_assemblies, .ref a_m_placings, .int m_yields, .ref a_m_yieldAbove, .ref a_m_yieldBelow, .ref a_m_dayCount, .ref a_m_days, .ref a_m_rateAbove, .ref a_m_rateBelow, .long m_tools, .int m_can, .long m_sum, .ref a_m_costs, .ref a_m_pieces, .ref a_m_maker, .ref a_m_partOf, .int m_ran, .int m_keptRows, .ref a_m_keptCosts, .ref a_m_keptPieces, .ref a_m_keptMaker, .ref a_m_keptPart, .ref a_m_oldCosts]))] (QI g [(a_t, .inr (6, [.int m_thrown, .int m_parts, .ref a_m_stepCount, .ref a_m_froms, .ref a_m_cents, .ref a_m_uses, .ref a_m_stocks, .ref a_m_alternates, .ref a_m_assemblies, .ref a_m_placings, .int m_yields, .ref a_m_yieldAbove, .ref a_m_yieldBelow, .ref a_m_dayCount, .ref a_m_days, .ref a_m_rateAbove, .ref a_m_rateBelow, .long m_tools, .int m_can, .long m_sum, .ref a_m_costs, .ref a_m_pieces, .ref a_m_maker, .ref a_m_partOf, .int m_ran, .int m_keptRows, .ref a_m_keptCosts, .ref a_m_keptPieces, .ref a_m_keptMaker, .ref a_m_keptPart, .ref a_m_oldCosts]))] (fun u : Unit => [(a_t, .inr (6, [.int m_thrown, .int m_parts, .ref a_m_stepCount, .ref a_m_froms, .ref a_m_cents, .ref a_m_uses, .ref a_m_stocks, .ref a_m_alternates, .ref a_m_assemblies, .ref a_m_placings, .int m_yields, .ref a_m_yieldAbove, .ref a_m_yieldBelow, .ref a_m_dayCount, .ref a_m_days, .ref a_m_rateAbove, .ref a_m_rateBelow, .long m_tools, .int m_can, .long m_sum, .ref a_m_costs, .ref a_m_pieces, .ref a_m_maker, .ref a_m_partOf, .int m_ran, .int m_keptRows, .ref a_m_keptCosts, .ref a_m_keptPieces, .ref a_m_keptMaker, .ref a_m_keptPart, .ref a_m_oldCosts]))]) (fun r u => Q r)) := by
  refine ct_of hg (by decide) (Nat.le_of_ble_eq_true rfl) (fun sz C X hr => ?_)
  unfold wp_M_thrown at hw
  show ST g C [(a_t, .inr (6, [.int m_thrown, .int m_parts, .ref a_m_stepCount, .ref a_m_froms, .ref a_m_cents, .ref a_m_uses, .ref a_m_stocks, .ref a_m_alternates, .ref a_m_assemblies, .ref a_m_placings, .int m_yields, .ref a_m_yieldAbove, .ref a_m_yieldBelow, .ref a_m_dayCount, .ref a_m_days, .ref a_m_rateAbove, .ref a_m_rateBelow, .long m_tools, .int m_can, .long m_sum, .ref a_m_costs, .ref a_m_pieces, .ref a_m_maker, .ref a_m_partOf, .int m_ran, .int m_keptRows, .ref a_m_keptCosts, .ref a_m_keptPieces, .ref a_m_keptMaker, .ref a_m_keptPart, .ref a_m_oldCosts]))] [(0, .ref a_t)] [] 0 0 0
  refine st_aload_n X 0 d_M_thrown_0 rfl rfl ?_
  refine st_get X (ci := 6) in_M 0 0 wf_M_80 rfl rfl (by decide) rfl d_M_thrown_1 ?_
  exact st_iret X hr () hw rfl (by decide) (by decide) d_M_thrown_4

theorem h9_M_isPart : y_M_isPart.cls ≠ "java/lang/invoke/MethodHandle" ∧ y_M_isPart.cls ≠ "java/lang/invoke/VarHandle" ∧ (parseMethodDescriptor y_M_isPart.desc).map (fun d => d.parameters.length) = some 1 := by decide +kernel
def wp_M_isPart_J17 (Q : Int32 → Prop) (v1 : Int32) : Prop :=
  (v1 = 0 ∨ v1 = 1) ∧ Q v1
def wp_M_isPart_J16 (Q : Int32 → Prop) : Prop :=
  wp_M_isPart_J17 Q 0
def wp_M_isPart (p0 : Int32) (m_parts : Int32) (Q : Int32 → Prop) : Prop :=
  ((p0 < 0) → wp_M_isPart_J16 Q) ∧
  ((¬ p0 < 0) → ((m_parts ≤ p0) → wp_M_isPart_J16 Q) ∧
  ((¬ m_parts ≤ p0) → wp_M_isPart_J17 Q 1))
set_option maxHeartbeats 4000000 in
set_option maxRecDepth 100000 in
theorem k_M_isPart (g : GX) (hg : g.1.stackTraces = false) (a_t : Nat) (p0 : Int32) (m_thrown : Int32) (m_parts : Int32) (a_m_stepCount : Nat) (a_m_froms : Nat) (a_m_cents : Nat) (a_m_uses : Nat) (a_m_stocks : Nat) (a_m_alternates : Nat) (a_m_assemblies : Nat) (a_m_placings : Nat) (m_yields : Int32) (a_m_yieldAbove : Nat) (a_m_yieldBelow : Nat) (a_m_dayCount : Nat) (a_m_days : Nat) (a_m_rateAbove : Nat) (a_m_rateBelow : Nat) (m_tools : Int64) (m_can : Int32) (m_sum : Int64) (a_m_costs : Nat) (a_m_pieces : Nat) (a_m_maker : Nat) (a_m_partOf : Nat) (m_ran : Int32) (m_keptRows : Int32) (a_m_keptCosts : Nat) (a_m_keptPieces : Nat) (a_m_keptMaker : Nat) (a_m_keptPart : Nat) (a_m_oldCosts : Nat) (Q : Int32 → Prop) (hw : wp_M_isPart p0 m_parts Q) : CT g y_M_isPart c_M_isPart 2 (some .boolean) ({ frames := 0, cells := 0, slots := 0, locals := 0 } : Room) [.ref a_t, .int p0] [(a_t, .inr (6, [.int m_thrown, .int m_parts, .ref a_m_stepCount, .ref a_m_froms, .ref a_m_cents, .ref a_m_uses, .ref a_m_stocks, .ref a_m_alternates, .ref a_m_assemblies, .ref a_m_placings, .int m_yields, .ref a_m_yieldAbove, .ref a_m_yieldBelow, .ref a_m_dayCount, .ref a_m_days, .ref a_m_rateAbove, .ref a_m_rateBelow, .long m_tools, .int m_can, .long m_sum, .ref a_m_costs, .ref a_m_pieces, .ref a_m_maker, .ref a_m_partOf, .int m_ran, .int m_keptRows, .ref a_m_keptCosts, .ref a_m_keptPieces, .ref a_m_keptMaker, .ref a_m_keptPart, .ref a_m_oldCosts]))] (QI g [(a_t, .inr (6, [.int m_thrown, .int m_parts, .ref a_m_stepCount, .ref a_m_froms, .ref a_m_cents, .ref a_m_uses, .ref a_m_stocks, .ref a_m_alternates, .ref a_m_assemblies, .ref a_m_placings, .int m_yields, .ref a_m_yieldAbove, .ref a_m_yieldBelow, .ref a_m_dayCount, .ref a_m_days, .ref a_m_rateAbove, .ref a_m_rateBelow, .long m_tools, .int m_can, .long m_sum, .ref a_m_costs, .ref a_m_pieces, .ref a_m_maker, .ref a_m_partOf, .int m_ran, .int m_keptRows, .ref a_m_keptCosts, .ref a_m_keptPieces, .ref a_m_keptMaker, .ref a_m_keptPart, .ref a_m_oldCosts]))] (fun u : Unit => [(a_t, .inr (6, [.int m_thrown, .int m_parts, .ref a_m_stepCount, .ref a_m_froms, .ref a_m_cents, .ref a_m_uses, .ref a_m_stocks, .ref a_m_alternates, .ref a_m_assemblies, .ref a_m_placings, .int m_yields, .ref a_m_yieldAbove, .ref a_m_yieldBelow, .ref a_m_dayCount, .ref a_m_days, .ref a_m_rateAbove, .ref a_m_rateBelow, .long m_tools, .int m_can, .long m_sum, .ref a_m_costs, .ref a_m_pieces, .ref a_m_maker, .ref a_m_partOf, .int m_ran, .int m_keptRows, .ref a_m_keptCosts, .ref a_m_keptPieces, .ref a_m_keptMaker, .ref a_m_keptPart, .ref a_m_oldCosts]))]) (fun r u => Q r)) := by
  refine ct_of hg (by decide) (Nat.le_of_ble_eq_true rfl) (fun sz C X hr => ?_)
  unfold wp_M_isPart at hw
  show ST g C [(a_t, .inr (6, [.int m_thrown, .int m_parts, .ref a_m_stepCount, .ref a_m_froms, .ref a_m_cents, .ref a_m_uses, .ref a_m_stocks, .ref a_m_alternates, .ref a_m_assemblies, .ref a_m_placings, .int m_yields, .ref a_m_yieldAbove, .ref a_m_yieldBelow, .ref a_m_dayCount, .ref a_m_days, .ref a_m_rateAbove, .ref a_m_rateBelow, .long m_tools, .int m_can, .long m_sum, .ref a_m_costs, .ref a_m_pieces, .ref a_m_maker, .ref a_m_partOf, .int m_ran, .int m_keptRows, .ref a_m_keptCosts, .ref a_m_keptPieces, .ref a_m_keptMaker, .ref a_m_keptPart, .ref a_m_oldCosts]))] [(0, .ref a_t), (1, .int p0)] [] 0 0 0
  refine st_iload_n X 1 d_M_isPart_0 rfl rfl ?_
  have J17 : ∀ (v1 : Int32), wp_M_isPart_J17 Q v1 → ST g C [(a_t, .inr (6, [.int m_thrown, .int m_parts, .ref a_m_stepCount, .ref a_m_froms, .ref a_m_cents, .ref a_m_uses, .ref a_m_stocks, .ref a_m_alternates, .ref a_m_assemblies, .ref a_m_placings, .int m_yields, .ref a_m_yieldAbove, .ref a_m_yieldBelow, .ref a_m_dayCount, .ref a_m_days, .ref a_m_rateAbove, .ref a_m_rateBelow, .long m_tools, .int m_can, .long m_sum, .ref a_m_costs, .ref a_m_pieces, .ref a_m_maker, .ref a_m_partOf, .int m_ran, .int m_keptRows, .ref a_m_keptCosts, .ref a_m_keptPieces, .ref a_m_keptMaker, .ref a_m_keptPart, .ref a_m_oldCosts]))] [(0, .ref a_t), (1, .int p0)] [.int v1] 17 0 0 := by
    intro v1 hw
    unfold wp_M_isPart_J17 at hw
    obtain ⟨hz, hw⟩ := hw
    exact st_zret X hr () hw hz rfl (by decide) (by decide) d_M_isPart_17
  have J16 : wp_M_isPart_J16 Q → ST g C [(a_t, .inr (6, [.int m_thrown, .int m_parts, .ref a_m_stepCount, .ref a_m_froms, .ref a_m_cents, .ref a_m_uses, .ref a_m_stocks, .ref a_m_alternates, .ref a_m_assemblies, .ref a_m_placings, .int m_yields, .ref a_m_yieldAbove, .ref a_m_yieldBelow, .ref a_m_dayCount, .ref a_m_days, .ref a_m_rateAbove, .ref a_m_rateBelow, .long m_tools, .int m_can, .long m_sum, .ref a_m_costs, .ref a_m_pieces, .ref a_m_maker, .ref a_m_partOf, .int m_ran, .int m_keptRows, .ref a_m_keptCosts, .ref a_m_keptPieces, .ref a_m_keptMaker, .ref a_m_keptPart, .ref a_m_oldCosts]))] [(0, .ref a_t), (1, .int p0)] [] 16 0 0 := by
    intro hw
    unfold wp_M_isPart_J16 at hw
    refine st_iconst X (v := 0) d_M_isPart_16 (by decide) ?_
    refine st_lv [0, 1] rfl ?_
    exact J17 0 hw
  refine st_if_lt X 16 d_M_isPart_1 (by decide) (fun hc => ?_) (fun hc => ?_)
  · replace hw := hw.1 hc
    refine st_lv [0, 1] rfl ?_
    exact J16 hw
  · replace hw := hw.2 hc
    refine st_iload_n X 1 d_M_isPart_4 rfl rfl ?_
    refine st_aload_n X 0 d_M_isPart_5 rfl rfl ?_
    refine st_get X (ci := 6) in_M 0 1 wf_M_84 rfl rfl (by decide) rfl d_M_isPart_6 ?_
    refine st_icmp_ge X 16 d_M_isPart_9 (by decide) (fun hc => ?_) (fun hc => ?_)
    · replace hw := hw.1 hc
      refine st_lv [0, 1] rfl ?_
      exact J16 hw
    · replace hw := hw.2 hc
      refine st_iconst X (v := 1) d_M_isPart_12 (by decide) ?_
      refine st_goto X 17 d_M_isPart_13 (by decide) ?_
      refine st_lv [0, 1] rfl ?_
      exact J17 1 hw

theorem h9_M_isMaker : y_M_isMaker.cls ≠ "java/lang/invoke/MethodHandle" ∧ y_M_isMaker.cls ≠ "java/lang/invoke/VarHandle" ∧ (parseMethodDescriptor y_M_isMaker.desc).map (fun d => d.parameters.length) = some 1 := by decide +kernel
def wp_M_isMaker_J15 (Q : Int32 → Prop) (v1 : Int32) : Prop :=
  (v1 = 0 ∨ v1 = 1) ∧ Q v1
def wp_M_isMaker_J14 (Q : Int32 → Prop) : Prop :=
  wp_M_isMaker_J15 Q 0
def wp_M_isMaker (p0 : Int32) (Q : Int32 → Prop) : Prop :=
  ((p0 < 0) → wp_M_isMaker_J14 Q) ∧
  ((¬ p0 < 0) → ((8 ≤ p0) → wp_M_isMaker_J14 Q) ∧
  ((¬ 8 ≤ p0) → wp_M_isMaker_J15 Q 1))
set_option maxHeartbeats 4000000 in
set_option maxRecDepth 100000 in
theorem k_M_isMaker (g : GX) (hg : g.1.stackTraces = false) (p0 : Int32) (Q : Int32 → Prop) (hw : wp_M_isMaker p0 Q) : CT g y_M_isMaker c_M_isMaker 1 (some .boolean) ({ frames := 0, cells := 0, slots := 0, locals := 0 } : Room) [.int p0] [] (QI g [] (fun u : Unit => []) (fun r u => Q r)) := by
  refine ct_of hg (by decide) (Nat.le_of_ble_eq_true rfl) (fun sz C X hr => ?_)
  unfold wp_M_isMaker at hw
  show ST g C [] [(0, .int p0)] [] 0 0 0
  refine st_iload_n X 0 d_M_isMaker_0 rfl rfl ?_
  have J15 : ∀ (v1 : Int32), wp_M_isMaker_J15 Q v1 → ST g C [] [(0, .int p0)] [.int v1] 15 0 0 := by
    intro v1 hw
    unfold wp_M_isMaker_J15 at hw
    obtain ⟨hz, hw⟩ := hw
    exact st_zret X hr () hw hz rfl (by decide) (by decide) d_M_isMaker_15
  have J14 : wp_M_isMaker_J14 Q → ST g C [] [(0, .int p0)] [] 14 0 0 := by
    intro hw
    unfold wp_M_isMaker_J14 at hw
    refine st_iconst X (v := 0) d_M_isMaker_14 (by decide) ?_
    refine st_lv [0] rfl ?_
    exact J15 0 hw
  refine st_if_lt X 14 d_M_isMaker_1 (by decide) (fun hc => ?_) (fun hc => ?_)
  · replace hw := hw.1 hc
    refine st_lv [0] rfl ?_
    exact J14 hw
  · replace hw := hw.2 hc
    refine st_iload_n X 0 d_M_isMaker_4 rfl rfl ?_
    refine st_bipush X (v := 8) d_M_isMaker_5 (by decide) ?_
    refine st_icmp_ge X 14 d_M_isMaker_7 (by decide) (fun hc => ?_) (fun hc => ?_)
    · replace hw := hw.1 hc
      refine st_lv [0] rfl ?_
      exact J14 hw
    · replace hw := hw.2 hc
      refine st_iconst X (v := 1) d_M_isMaker_10 (by decide) ?_
      refine st_goto X 15 d_M_isMaker_11 (by decide) ?_
      refine st_lv [0] rfl ?_
      exact J15 1 hw

theorem h9_M_within : y_M_within.cls ≠ "java/lang/invoke/MethodHandle" ∧ y_M_within.cls ≠ "java/lang/invoke/VarHandle" ∧ (parseMethodDescriptor y_M_within.desc).map (fun d => d.parameters.length) = some 3 := by decide +kernel
def wp_M_within_J18 (Q : Int32 → Prop) (v1 : Int32) : Prop :=
  (v1 = 0 ∨ v1 = 1) ∧ Q v1
def wp_M_within_J17 (Q : Int32 → Prop) : Prop :=
  wp_M_within_J18 Q 0
def wp_M_within (p0 : Int64) (p1 : Int64) (p2 : Int64) (Q : Int32 → Prop) : Prop :=
  ((p0 < p1) → wp_M_within_J17 Q) ∧
  ((¬ p0 < p1) → ((p2 < p0) → wp_M_within_J17 Q) ∧
  ((¬ p2 < p0) → wp_M_within_J18 Q 1))
set_option maxHeartbeats 4000000 in
set_option maxRecDepth 100000 in
theorem k_M_within (g : GX) (hg : g.1.stackTraces = false) (p0 : Int64) (p1 : Int64) (p2 : Int64) (Q : Int32 → Prop) (hw : wp_M_within p0 p1 p2 Q) : CT g y_M_within c_M_within 6 (some .boolean) ({ frames := 0, cells := 0, slots := 0, locals := 0 } : Room) [.long p0, .long p1, .long p2] [] (QI g [] (fun u : Unit => []) (fun r u => Q r)) := by
  refine ct_of hg (by decide) (Nat.le_of_ble_eq_true rfl) (fun sz C X hr => ?_)
  unfold wp_M_within at hw
  show ST g C [] [(0, .long p0), (2, .long p1), (4, .long p2)] [] 0 0 0
  refine st_lload_n X 0 d_M_within_0 rfl rfl ?_
  refine st_lload_n X 1 d_M_within_1 rfl rfl ?_
  have J18 : ∀ (v1 : Int32), wp_M_within_J18 Q v1 → ST g C [] [(0, .long p0), (2, .long p1), (4, .long p2)] [.int v1] 18 0 0 := by
    intro v1 hw
    unfold wp_M_within_J18 at hw
    obtain ⟨hz, hw⟩ := hw
    exact st_zret X hr () hw hz rfl (by decide) (by decide) d_M_within_18
  have J17 : wp_M_within_J17 Q → ST g C [] [(0, .long p0), (2, .long p1), (4, .long p2)] [] 17 0 0 := by
    intro hw
    unfold wp_M_within_J17 at hw
    refine st_iconst X (v := 0) d_M_within_17 (by decide) ?_
    refine st_lv [0, 1, 2] rfl ?_
    exact J18 0 hw
  refine st_lcmp_lt X 17 d_M_within_2 d_M_within_3 (by decide) (fun hc => ?_) (fun hc => ?_)
  · replace hw := hw.1 hc
    refine st_lv [0, 1, 2] rfl ?_
    exact J17 hw
  · replace hw := hw.2 hc
    refine st_lload_n X 0 d_M_within_6 rfl rfl ?_
    refine st_lload X 2 d_M_within_7 rfl ?_
    refine st_lcmp_gt X 17 d_M_within_9 d_M_within_10 (by decide) (fun hc => ?_) (fun hc => ?_)
    · replace hw := hw.1 hc
      refine st_lv [0, 1, 2] rfl ?_
      exact J17 hw
    · replace hw := hw.2 hc
      refine st_iconst X (v := 1) d_M_within_13 (by decide) ?_
      refine st_goto X 18 d_M_within_14 (by decide) ?_
      refine st_lv [0, 1, 2] rfl ?_
      exact J18 1 hw

theorem h9_M_isSort : y_M_isSort.cls ≠ "java/lang/invoke/MethodHandle" ∧ y_M_isSort.cls ≠ "java/lang/invoke/VarHandle" ∧ (parseMethodDescriptor y_M_isSort.desc).map (fun d => d.parameters.length) = some 1 := by decide +kernel
def wp_M_isSort_J15 (Q : Int32 → Prop) (v1 : Int32) : Prop :=
  (v1 = 0 ∨ v1 = 1) ∧ Q v1
def wp_M_isSort_J14 (Q : Int32 → Prop) : Prop :=
  wp_M_isSort_J15 Q 0
def wp_M_isSort (p0 : Int32) (Q : Int32 → Prop) : Prop :=
  ((p0 < 0) → wp_M_isSort_J14 Q) ∧
  ((¬ p0 < 0) → ((8 ≤ p0) → wp_M_isSort_J14 Q) ∧
  ((¬ 8 ≤ p0) → wp_M_isSort_J15 Q 1))
set_option maxHeartbeats 4000000 in
set_option maxRecDepth 100000 in
theorem k_M_isSort (g : GX) (hg : g.1.stackTraces = false) (p0 : Int32) (Q : Int32 → Prop) (hw : wp_M_isSort p0 Q) : CT g y_M_isSort c_M_isSort 1 (some .boolean) ({ frames := 0, cells := 0, slots := 0, locals := 0 } : Room) [.int p0] [] (QI g [] (fun u : Unit => []) (fun r u => Q r)) := by
  refine ct_of hg (by decide) (Nat.le_of_ble_eq_true rfl) (fun sz C X hr => ?_)
  unfold wp_M_isSort at hw
  show ST g C [] [(0, .int p0)] [] 0 0 0
  refine st_iload_n X 0 d_M_isSort_0 rfl rfl ?_
  have J15 : ∀ (v1 : Int32), wp_M_isSort_J15 Q v1 → ST g C [] [(0, .int p0)] [.int v1] 15 0 0 := by
    intro v1 hw
    unfold wp_M_isSort_J15 at hw
    obtain ⟨hz, hw⟩ := hw
    exact st_zret X hr () hw hz rfl (by decide) (by decide) d_M_isSort_15
  have J14 : wp_M_isSort_J14 Q → ST g C [] [(0, .int p0)] [] 14 0 0 := by
    intro hw
    unfold wp_M_isSort_J14 at hw
    refine st_iconst X (v := 0) d_M_isSort_14 (by decide) ?_
    refine st_lv [0] rfl ?_
    exact J15 0 hw
  refine st_if_lt X 14 d_M_isSort_1 (by decide) (fun hc => ?_) (fun hc => ?_)
  · replace hw := hw.1 hc
    refine st_lv [0] rfl ?_
    exact J14 hw
  · replace hw := hw.2 hc
    refine st_iload_n X 0 d_M_isSort_4 rfl rfl ?_
    refine st_bipush X (v := 8) d_M_isSort_5 (by decide) ?_
    refine st_icmp_ge X 14 d_M_isSort_7 (by decide) (fun hc => ?_) (fun hc => ?_)
    · replace hw := hw.1 hc
      refine st_lv [0] rfl ?_
      exact J14 hw
    · replace hw := hw.2 hc
      refine st_iconst X (v := 1) d_M_isSort_10 (by decide) ?_
      refine st_goto X 15 d_M_isSort_11 (by decide) ?_
      refine st_lv [0] rfl ?_
      exact J15 1 hw

theorem h9_M_isQuantity : y_M_isQuantity.cls ≠ "java/lang/invoke/MethodHandle" ∧ y_M_isQuantity.cls ≠ "java/lang/invoke/VarHandle" ∧ (parseMethodDescriptor y_M_isQuantity.desc).map (fun d => d.parameters.length) = some 1 := by decide +kernel
def wp_M_isQuantity (p0 : Int64) (Q : Int32 → Prop) : Prop :=
  wp_M_within p0 (0 : Int64) (1000000 : Int64) (fun r1 =>
  (r1 = 0 ∨ r1 = 1) ∧ Q r1)
set_option maxHeartbeats 4000000 in
set_option maxRecDepth 100000 in
theorem k_M_isQuantity (g : GX) (hg : g.1.stackTraces = false) (p0 : Int64) (Q : Int32 → Prop) (hw : wp_M_isQuantity p0 Q) : CT g y_M_isQuantity c_M_isQuantity 2 (some .boolean) ({ frames := 1, cells := 0, slots := 0, locals := 25 } : Room) [.long p0] [] (QI g [] (fun u : Unit => []) (fun r u => Q r)) := by
  refine ct_of hg (by decide) (Nat.le_of_ble_eq_true rfl) (fun sz C X hr => ?_)
  unfold wp_M_isQuantity at hw
  show ST g C [] [(0, .long p0)] [] 0 0 0
  refine st_lload_n X 0 d_M_isQuantity_0 rfl rfl ?_
  refine st_lconst X (v := 0) d_M_isQuantity_1 (by decide) ?_
  refine st_ldc2 X wv_M_111 d_M_isQuantity_2 ?_
  have hR := rn_S (pc := 5) (k := 0) (n := 0) (As := [.long p0, .long 0, .long 1000000]) (rest := []) X (k_M_within g hg p0 (0 : Int64) (1000000 : Int64) _ hw) wm_M_89 ws_M_within wz_M wc_M_within h9_M_within ⟨by decide, by decide⟩ (Nat.le_of_ble_eq_true rfl) ⟨by decide, by decide⟩ d_M_isQuantity_5
  refine st_calli X hR [] [] (wr := []) rfl rfl (by decide) (by decide) (by decide) (fun r1 u9 hw => ?_)
  try dsimp only at hw
  refine st_widen (k2 := 0) (n2 := 0) (by decide) (by decide) ?_
  refine st_perm (ws2 := []) [] rfl (by decide) ?_
  show ST g C [] [(0, .long p0)] [.int r1] 8 0 0
  obtain ⟨hz, hw⟩ := hw
  exact st_zret X hr () hw hz rfl (by decide) (by decide) d_M_isQuantity_8

theorem h9_M_up : y_M_up.cls ≠ "java/lang/invoke/MethodHandle" ∧ y_M_up.cls ≠ "java/lang/invoke/VarHandle" ∧ (parseMethodDescriptor y_M_up.desc).map (fun d => d.parameters.length) = some 2 := by decide +kernel
def wp_M_up (p0 : Int64) (p1 : Int64) (Q : Int64 → Prop) : Prop :=
  ¬ p1 = 0 ∧
  Q (((p0 + p1) - 1) / p1)
set_option maxHeartbeats 4000000 in
set_option maxRecDepth 100000 in
theorem k_M_up (g : GX) (hg : g.1.stackTraces = false) (p0 : Int64) (p1 : Int64) (Q : Int64 → Prop) (hw : wp_M_up p0 p1 Q) : CT g y_M_up c_M_up 4 (some .long) ({ frames := 0, cells := 0, slots := 0, locals := 0 } : Room) [.long p0, .long p1] [] (QL g [] (fun u : Unit => []) (fun r u => Q r)) := by
  refine ct_of hg (by decide) (Nat.le_of_ble_eq_true rfl) (fun sz C X hr => ?_)
  unfold wp_M_up at hw
  show ST g C [] [(0, .long p0), (2, .long p1)] [] 0 0 0
  refine st_lload_n X 0 d_M_up_0 rfl rfl ?_
  refine st_lload_n X 1 d_M_up_1 rfl rfl ?_
  refine st_ladd X d_M_up_2 ?_
  refine st_lconst X (v := 1) d_M_up_3 (by decide) ?_
  refine st_lsub X d_M_up_4 ?_
  refine st_lload_n X 1 d_M_up_5 rfl rfl ?_
  obtain ⟨hb1, hw⟩ := hw
  refine st_ldiv X d_M_up_6 hb1 ?_
  exact st_lret X hr () hw rfl (by decide) (by decide) d_M_up_7

theorem h9_M_refusal : y_M_refusal.cls ≠ "java/lang/invoke/MethodHandle" ∧ y_M_refusal.cls ≠ "java/lang/invoke/VarHandle" ∧ (parseMethodDescriptor y_M_refusal.desc).map (fun d => d.parameters.length) = some 2 := by decide +kernel
def wp_M_refusal_J23 (Q : Int32 → Prop) (v2 : Int32) : Prop :=
  Q v2
def wp_M_refusal (p0 : Int64) (p1 : Int32) (Q : Int32 → Prop) : Prop :=
  wp_M_isMaker p1 (fun r1 =>
  ((¬ r1 = 0) → wp_M_isQuantity p0 (fun r3 =>
  ((r3 = 0) → wp_M_refusal_J23 Q 2) ∧
  ((¬ r3 = 0) → wp_M_refusal_J23 Q 0))) ∧
  ((r1 = 0) → wp_M_refusal_J23 Q 1))
set_option maxHeartbeats 4000000 in
set_option maxRecDepth 100000 in
theorem k_M_refusal (g : GX) (hg : g.1.stackTraces = false) (a_t : Nat) (p0 : Int64) (p1 : Int32) (m_thrown : Int32) (m_parts : Int32) (a_m_stepCount : Nat) (a_m_froms : Nat) (a_m_cents : Nat) (a_m_uses : Nat) (a_m_stocks : Nat) (a_m_alternates : Nat) (a_m_assemblies : Nat) (a_m_placings : Nat) (m_yields : Int32) (a_m_yieldAbove : Nat) (a_m_yieldBelow : Nat) (a_m_dayCount : Nat) (a_m_days : Nat) (a_m_rateAbove : Nat) (a_m_rateBelow : Nat) (m_tools : Int64) (m_can : Int32) (m_sum : Int64) (a_m_costs : Nat) (a_m_pieces : Nat) (a_m_maker : Nat) (a_m_partOf : Nat) (m_ran : Int32) (m_keptRows : Int32) (a_m_keptCosts : Nat) (a_m_keptPieces : Nat) (a_m_keptMaker : Nat) (a_m_keptPart : Nat) (a_m_oldCosts : Nat) (Q : Int32 → Prop) (hw : wp_M_refusal p0 p1 Q) : CT g y_M_refusal c_M_refusal 4 (some .int) ({ frames := 2, cells := 0, slots := 0, locals := 46 } : Room) [.ref a_t, .long p0, .int p1] [(a_t, .inr (6, [.int m_thrown, .int m_parts, .ref a_m_stepCount, .ref a_m_froms, .ref a_m_cents, .ref a_m_uses, .ref a_m_stocks, .ref a_m_alternates, .ref a_m_assemblies, .ref a_m_placings, .int m_yields, .ref a_m_yieldAbove, .ref a_m_yieldBelow, .ref a_m_dayCount, .ref a_m_days, .ref a_m_rateAbove, .ref a_m_rateBelow, .long m_tools, .int m_can, .long m_sum, .ref a_m_costs, .ref a_m_pieces, .ref a_m_maker, .ref a_m_partOf, .int m_ran, .int m_keptRows, .ref a_m_keptCosts, .ref a_m_keptPieces, .ref a_m_keptMaker, .ref a_m_keptPart, .ref a_m_oldCosts]))] (QI g [(a_t, .inr (6, [.int m_thrown, .int m_parts, .ref a_m_stepCount, .ref a_m_froms, .ref a_m_cents, .ref a_m_uses, .ref a_m_stocks, .ref a_m_alternates, .ref a_m_assemblies, .ref a_m_placings, .int m_yields, .ref a_m_yieldAbove, .ref a_m_yieldBelow, .ref a_m_dayCount, .ref a_m_days, .ref a_m_rateAbove, .ref a_m_rateBelow, .long m_tools, .int m_can, .long m_sum, .ref a_m_costs, .ref a_m_pieces, .ref a_m_maker, .ref a_m_partOf, .int m_ran, .int m_keptRows, .ref a_m_keptCosts, .ref a_m_keptPieces, .ref a_m_keptMaker, .ref a_m_keptPart, .ref a_m_oldCosts]))] (fun u : Unit => [(a_t, .inr (6, [.int m_thrown, .int m_parts, .ref a_m_stepCount, .ref a_m_froms, .ref a_m_cents, .ref a_m_uses, .ref a_m_stocks, .ref a_m_alternates, .ref a_m_assemblies, .ref a_m_placings, .int m_yields, .ref a_m_yieldAbove, .ref a_m_yieldBelow, .ref a_m_dayCount, .ref a_m_days, .ref a_m_rateAbove, .ref a_m_rateBelow, .long m_tools, .int m_can, .long m_sum, .ref a_m_costs, .ref a_m_pieces, .ref a_m_maker, .ref a_m_partOf, .int m_ran, .int m_keptRows, .ref a_m_keptCosts, .ref a_m_keptPieces, .ref a_m_keptMaker, .ref a_m_keptPart, .ref a_m_oldCosts]))]) (fun r u => Q r)) := by
  refine ct_of hg (by decide) (Nat.le_of_ble_eq_true rfl) (fun sz C X hr => ?_)
  unfold wp_M_refusal at hw
  show ST g C [(a_t, .inr (6, [.int m_thrown, .int m_parts, .ref a_m_stepCount, .ref a_m_froms, .ref a_m_cents, .ref a_m_uses, .ref a_m_stocks, .ref a_m_alternates, .ref a_m_assemblies, .ref a_m_placings, .int m_yields, .ref a_m_yieldAbove, .ref a_m_yieldBelow, .ref a_m_dayCount, .ref a_m_days, .ref a_m_rateAbove, .ref a_m_rateBelow, .long m_tools, .int m_can, .long m_sum, .ref a_m_costs, .ref a_m_pieces, .ref a_m_maker, .ref a_m_partOf, .int m_ran, .int m_keptRows, .ref a_m_keptCosts, .ref a_m_keptPieces, .ref a_m_keptMaker, .ref a_m_keptPart, .ref a_m_oldCosts]))] [(0, .ref a_t), (1, .long p0), (3, .int p1)] [] 0 0 0
  refine st_iload_n X 2 d_M_refusal_0 rfl rfl ?_
  have hR := rn_S (pc := 1) (k := 0) (n := 0) (As := [.int p1]) (rest := []) X (k_M_isMaker g hg p1 _ hw) wm_M_99 ws_M_isMaker wz_M wc_M_isMaker h9_M_isMaker ⟨by decide, by decide⟩ (Nat.le_of_ble_eq_true rfl) ⟨by decide, by decide⟩ d_M_refusal_1
  refine st_calli X hR [] [0] (wr := [(a_t, .inr (6, [.int m_thrown, .int m_parts, .ref a_m_stepCount, .ref a_m_froms, .ref a_m_cents, .ref a_m_uses, .ref a_m_stocks, .ref a_m_alternates, .ref a_m_assemblies, .ref a_m_placings, .int m_yields, .ref a_m_yieldAbove, .ref a_m_yieldBelow, .ref a_m_dayCount, .ref a_m_days, .ref a_m_rateAbove, .ref a_m_rateBelow, .long m_tools, .int m_can, .long m_sum, .ref a_m_costs, .ref a_m_pieces, .ref a_m_maker, .ref a_m_partOf, .int m_ran, .int m_keptRows, .ref a_m_keptCosts, .ref a_m_keptPieces, .ref a_m_keptMaker, .ref a_m_keptPart, .ref a_m_oldCosts]))]) rfl rfl (by decide) (by decide) (by decide) (fun r1 u9 hw => ?_)
  try dsimp only at hw
  refine st_widen (k2 := 0) (n2 := 0) (by decide) (by decide) ?_
  refine st_perm (ws2 := [(a_t, .inr (6, [.int m_thrown, .int m_parts, .ref a_m_stepCount, .ref a_m_froms, .ref a_m_cents, .ref a_m_uses, .ref a_m_stocks, .ref a_m_alternates, .ref a_m_assemblies, .ref a_m_placings, .int m_yields, .ref a_m_yieldAbove, .ref a_m_yieldBelow, .ref a_m_dayCount, .ref a_m_days, .ref a_m_rateAbove, .ref a_m_rateBelow, .long m_tools, .int m_can, .long m_sum, .ref a_m_costs, .ref a_m_pieces, .ref a_m_maker, .ref a_m_partOf, .int m_ran, .int m_keptRows, .ref a_m_keptCosts, .ref a_m_keptPieces, .ref a_m_keptMaker, .ref a_m_keptPart, .ref a_m_oldCosts]))]) [0] rfl (by decide) ?_
  show ST g C [(a_t, .inr (6, [.int m_thrown, .int m_parts, .ref a_m_stepCount, .ref a_m_froms, .ref a_m_cents, .ref a_m_uses, .ref a_m_stocks, .ref a_m_alternates, .ref a_m_assemblies, .ref a_m_placings, .int m_yields, .ref a_m_yieldAbove, .ref a_m_yieldBelow, .ref a_m_dayCount, .ref a_m_days, .ref a_m_rateAbove, .ref a_m_rateBelow, .long m_tools, .int m_can, .long m_sum, .ref a_m_costs, .ref a_m_pieces, .ref a_m_maker, .ref a_m_partOf, .int m_ran, .int m_keptRows, .ref a_m_keptCosts, .ref a_m_keptPieces, .ref a_m_keptMaker, .ref a_m_keptPart, .ref a_m_oldCosts]))] [(0, .ref a_t), (1, .long p0), (3, .int p1)] [.int r1] 4 0 0
  have J23 : ∀ (v2 : Int32), wp_M_refusal_J23 Q v2 → ST g C [(a_t, .inr (6, [.int m_thrown, .int m_parts, .ref a_m_stepCount, .ref a_m_froms, .ref a_m_cents, .ref a_m_uses, .ref a_m_stocks, .ref a_m_alternates, .ref a_m_assemblies, .ref a_m_placings, .int m_yields, .ref a_m_yieldAbove, .ref a_m_yieldBelow, .ref a_m_dayCount, .ref a_m_days, .ref a_m_rateAbove, .ref a_m_rateBelow, .long m_tools, .int m_can, .long m_sum, .ref a_m_costs, .ref a_m_pieces, .ref a_m_maker, .ref a_m_partOf, .int m_ran, .int m_keptRows, .ref a_m_keptCosts, .ref a_m_keptPieces, .ref a_m_keptMaker, .ref a_m_keptPart, .ref a_m_oldCosts]))] [(0, .ref a_t), (1, .long p0), (3, .int p1)] [.int v2] 23 0 0 := by
    intro v2 hw
    unfold wp_M_refusal_J23 at hw
    exact st_iret X hr () hw rfl (by decide) (by decide) d_M_refusal_23
  refine st_if_ne X 11 d_M_refusal_4 (by decide) (fun hc => ?_) (fun hc => ?_)
  · replace hw := hw.1 hc
    refine st_lload_n X 1 d_M_refusal_11 rfl rfl ?_
    have hR := rn_S (pc := 12) (k := 0) (n := 0) (As := [.long p0]) (rest := []) X (k_M_isQuantity g hg p0 _ hw) wm_M_147 ws_M_isQuantity wz_M wc_M_isQuantity h9_M_isQuantity ⟨by decide, by decide⟩ (Nat.le_of_ble_eq_true rfl) ⟨by decide, by decide⟩ d_M_refusal_12
    refine st_calli X hR [] [0] (wr := [(a_t, .inr (6, [.int m_thrown, .int m_parts, .ref a_m_stepCount, .ref a_m_froms, .ref a_m_cents, .ref a_m_uses, .ref a_m_stocks, .ref a_m_alternates, .ref a_m_assemblies, .ref a_m_placings, .int m_yields, .ref a_m_yieldAbove, .ref a_m_yieldBelow, .ref a_m_dayCount, .ref a_m_days, .ref a_m_rateAbove, .ref a_m_rateBelow, .long m_tools, .int m_can, .long m_sum, .ref a_m_costs, .ref a_m_pieces, .ref a_m_maker, .ref a_m_partOf, .int m_ran, .int m_keptRows, .ref a_m_keptCosts, .ref a_m_keptPieces, .ref a_m_keptMaker, .ref a_m_keptPart, .ref a_m_oldCosts]))]) rfl rfl (by decide) (by decide) (by decide) (fun r3 u9 hw => ?_)
    try dsimp only at hw
    refine st_widen (k2 := 0) (n2 := 0) (by decide) (by decide) ?_
    refine st_perm (ws2 := [(a_t, .inr (6, [.int m_thrown, .int m_parts, .ref a_m_stepCount, .ref a_m_froms, .ref a_m_cents, .ref a_m_uses, .ref a_m_stocks, .ref a_m_alternates, .ref a_m_assemblies, .ref a_m_placings, .int m_yields, .ref a_m_yieldAbove, .ref a_m_yieldBelow, .ref a_m_dayCount, .ref a_m_days, .ref a_m_rateAbove, .ref a_m_rateBelow, .long m_tools, .int m_can, .long m_sum, .ref a_m_costs, .ref a_m_pieces, .ref a_m_maker, .ref a_m_partOf, .int m_ran, .int m_keptRows, .ref a_m_keptCosts, .ref a_m_keptPieces, .ref a_m_keptMaker, .ref a_m_keptPart, .ref a_m_oldCosts]))]) [0] rfl (by decide) ?_
    show ST g C [(a_t, .inr (6, [.int m_thrown, .int m_parts, .ref a_m_stepCount, .ref a_m_froms, .ref a_m_cents, .ref a_m_uses, .ref a_m_stocks, .ref a_m_alternates, .ref a_m_assemblies, .ref a_m_placings, .int m_yields, .ref a_m_yieldAbove, .ref a_m_yieldBelow, .ref a_m_dayCount, .ref a_m_days, .ref a_m_rateAbove, .ref a_m_rateBelow, .long m_tools, .int m_can, .long m_sum, .ref a_m_costs, .ref a_m_pieces, .ref a_m_maker, .ref a_m_partOf, .int m_ran, .int m_keptRows, .ref a_m_keptCosts, .ref a_m_keptPieces, .ref a_m_keptMaker, .ref a_m_keptPart, .ref a_m_oldCosts]))] [(0, .ref a_t), (1, .long p0), (3, .int p1)] [.int r3] 15 0 0
    refine st_if_eq X 22 d_M_refusal_15 (by decide) (fun hc => ?_) (fun hc => ?_)
    · replace hw := hw.1 hc
      refine st_iconst X (v := 2) d_M_refusal_22 (by decide) ?_
      refine st_lv [0, 1, 2] rfl ?_
      exact J23 2 hw
    · replace hw := hw.2 hc
      refine st_iconst X (v := 0) d_M_refusal_18 (by decide) ?_
      refine st_goto X 23 d_M_refusal_19 (by decide) ?_
      refine st_lv [0, 1, 2] rfl ?_
      exact J23 0 hw
  · replace hw := hw.2 hc
    refine st_iconst X (v := 1) d_M_refusal_7 (by decide) ?_
    refine st_goto X 23 d_M_refusal_8 (by decide) ?_
    refine st_lv [0, 1, 2] rfl ?_
    exact J23 1 hw

theorem h9_M_part : y_M_part.cls ≠ "java/lang/invoke/MethodHandle" ∧ y_M_part.cls ≠ "java/lang/invoke/VarHandle" ∧ (parseMethodDescriptor y_M_part.desc).map (fun d => d.parameters.length) = some 0 := by decide +kernel
def wp_M_part (m_parts : Int32) (Q : Int32 → Int32 → Int32 → Prop) : Prop :=
  ((¬ m_parts = 30) → ∀ x1 : Int32, x1 = m_parts + 1 →
  Q (x1 - 1) 0 x1) ∧
  ((m_parts = 30) → Q (-1) 0 m_parts)
set_option maxHeartbeats 4000000 in
set_option maxRecDepth 100000 in
theorem k_M_part (g : GX) (hg : g.1.stackTraces = false) (a_t : Nat) (m_thrown : Int32) (m_parts : Int32) (a_m_stepCount : Nat) (a_m_froms : Nat) (a_m_cents : Nat) (a_m_uses : Nat) (a_m_stocks : Nat) (a_m_alternates : Nat) (a_m_assemblies : Nat) (a_m_placings : Nat) (m_yields : Int32) (a_m_yieldAbove : Nat) (a_m_yieldBelow : Nat) (a_m_dayCount : Nat) (a_m_days : Nat) (a_m_rateAbove : Nat) (a_m_rateBelow : Nat) (m_tools : Int64) (m_can : Int32) (m_sum : Int64) (a_m_costs : Nat) (a_m_pieces : Nat) (a_m_maker : Nat) (a_m_partOf : Nat) (m_ran : Int32) (m_keptRows : Int32) (a_m_keptCosts : Nat) (a_m_keptPieces : Nat) (a_m_keptMaker : Nat) (a_m_keptPart : Nat) (a_m_oldCosts : Nat) (Q : Int32 → Int32 → Int32 → Prop) (hw : wp_M_part m_parts Q) : CT g y_M_part c_M_part 1 (some .int) ({ frames := 0, cells := 0, slots := 0, locals := 0 } : Room) [.ref a_t] [(a_t, .inr (6, [.int m_thrown, .int m_parts, .ref a_m_stepCount, .ref a_m_froms, .ref a_m_cents, .ref a_m_uses, .ref a_m_stocks, .ref a_m_alternates, .ref a_m_assemblies, .ref a_m_placings, .int m_yields, .ref a_m_yieldAbove, .ref a_m_yieldBelow, .ref a_m_dayCount, .ref a_m_days, .ref a_m_rateAbove, .ref a_m_rateBelow, .long m_tools, .int m_can, .long m_sum, .ref a_m_costs, .ref a_m_pieces, .ref a_m_maker, .ref a_m_partOf, .int m_ran, .int m_keptRows, .ref a_m_keptCosts, .ref a_m_keptPieces, .ref a_m_keptMaker, .ref a_m_keptPart, .ref a_m_oldCosts]))] (QI g [(a_t, .inr (6, [.int m_thrown, .int m_parts, .ref a_m_stepCount, .ref a_m_froms, .ref a_m_cents, .ref a_m_uses, .ref a_m_stocks, .ref a_m_alternates, .ref a_m_assemblies, .ref a_m_placings, .int m_yields, .ref a_m_yieldAbove, .ref a_m_yieldBelow, .ref a_m_dayCount, .ref a_m_days, .ref a_m_rateAbove, .ref a_m_rateBelow, .long m_tools, .int m_can, .long m_sum, .ref a_m_costs, .ref a_m_pieces, .ref a_m_maker, .ref a_m_partOf, .int m_ran, .int m_keptRows, .ref a_m_keptCosts, .ref a_m_keptPieces, .ref a_m_keptMaker, .ref a_m_keptPart, .ref a_m_oldCosts]))] (fun u : Int32 × Int32 => [(a_t, .inr (6, [.int u.1, .int u.2, .ref a_m_stepCount, .ref a_m_froms, .ref a_m_cents, .ref a_m_uses, .ref a_m_stocks, .ref a_m_alternates, .ref a_m_assemblies, .ref a_m_placings, .int m_yields, .ref a_m_yieldAbove, .ref a_m_yieldBelow, .ref a_m_dayCount, .ref a_m_days, .ref a_m_rateAbove, .ref a_m_rateBelow, .long m_tools, .int m_can, .long m_sum, .ref a_m_costs, .ref a_m_pieces, .ref a_m_maker, .ref a_m_partOf, .int m_ran, .int m_keptRows, .ref a_m_keptCosts, .ref a_m_keptPieces, .ref a_m_keptMaker, .ref a_m_keptPart, .ref a_m_oldCosts]))]) (fun r u => Q r u.1 u.2)) := by
  refine ct_of hg (by decide) (Nat.le_of_ble_eq_true rfl) (fun sz C X hr => ?_)
  unfold wp_M_part at hw
  show ST g C [(a_t, .inr (6, [.int m_thrown, .int m_parts, .ref a_m_stepCount, .ref a_m_froms, .ref a_m_cents, .ref a_m_uses, .ref a_m_stocks, .ref a_m_alternates, .ref a_m_assemblies, .ref a_m_placings, .int m_yields, .ref a_m_yieldAbove, .ref a_m_yieldBelow, .ref a_m_dayCount, .ref a_m_days, .ref a_m_rateAbove, .ref a_m_rateBelow, .long m_tools, .int m_can, .long m_sum, .ref a_m_costs, .ref a_m_pieces, .ref a_m_maker, .ref a_m_partOf, .int m_ran, .int m_keptRows, .ref a_m_keptCosts, .ref a_m_keptPieces, .ref a_m_keptMaker, .ref a_m_keptPart, .ref a_m_oldCosts]))] [(0, .ref a_t)] [] 0 0 0
  refine st_aload_n X 0 d_M_part_0 rfl rfl ?_
  refine st_iconst X (v := 0) d_M_part_1 (by decide) ?_
  refine st_put X (ci := 6) (ty := .int) in_M t_M to_M nm_M 0 0 wf_M_80 rfl rfl (by decide) rfl (by decide +kernel) rfl rfl (Nat.le_of_ble_eq_true rfl) (ws2 := [(a_t, .inr (6, [.int 0, .int m_parts, .ref a_m_stepCount, .ref a_m_froms, .ref a_m_cents, .ref a_m_uses, .ref a_m_stocks, .ref a_m_alternates, .ref a_m_assemblies, .ref a_m_placings, .int m_yields, .ref a_m_yieldAbove, .ref a_m_yieldBelow, .ref a_m_dayCount, .ref a_m_days, .ref a_m_rateAbove, .ref a_m_rateBelow, .long m_tools, .int m_can, .long m_sum, .ref a_m_costs, .ref a_m_pieces, .ref a_m_maker, .ref a_m_partOf, .int m_ran, .int m_keptRows, .ref a_m_keptCosts, .ref a_m_keptPieces, .ref a_m_keptMaker, .ref a_m_keptPart, .ref a_m_oldCosts]))]) rfl d_M_part_2 ?_
  refine st_aload_n X 0 d_M_part_5 rfl rfl ?_
  refine st_get X (ci := 6) in_M 0 1 wf_M_84 rfl rfl (by decide) rfl d_M_part_6 ?_
  refine st_bipush X (v := 30) d_M_part_9 (by decide) ?_
  refine st_icmp_ne X 16 d_M_part_11 (by decide) (fun hc => ?_) (fun hc => ?_)
  · replace hw := hw.1 hc
    refine st_aload_n X 0 d_M_part_16 rfl rfl ?_
    refine st_dup X d_M_part_17 rfl ?_
    refine st_get X (ci := 6) in_M 0 1 wf_M_84 rfl rfl (by decide) rfl d_M_part_18 ?_
    refine st_iconst X (v := 1) d_M_part_21 (by decide) ?_
    refine st_iadd X d_M_part_22 ?_
    refine st_topi (fun x1 hx1 => ?_)
    replace hw := hw x1 hx1
    refine st_put X (ci := 6) (ty := .int) in_M t_M to_M nm_M 0 1 wf_M_84 rfl rfl (by decide) rfl (by decide +kernel) rfl rfl (Nat.le_of_ble_eq_true rfl) (ws2 := [(a_t, .inr (6, [.int 0, .int x1, .ref a_m_stepCount, .ref a_m_froms, .ref a_m_cents, .ref a_m_uses, .ref a_m_stocks, .ref a_m_alternates, .ref a_m_assemblies, .ref a_m_placings, .int m_yields, .ref a_m_yieldAbove, .ref a_m_yieldBelow, .ref a_m_dayCount, .ref a_m_days, .ref a_m_rateAbove, .ref a_m_rateBelow, .long m_tools, .int m_can, .long m_sum, .ref a_m_costs, .ref a_m_pieces, .ref a_m_maker, .ref a_m_partOf, .int m_ran, .int m_keptRows, .ref a_m_keptCosts, .ref a_m_keptPieces, .ref a_m_keptMaker, .ref a_m_keptPart, .ref a_m_oldCosts]))]) rfl d_M_part_23 ?_
    refine st_aload_n X 0 d_M_part_26 rfl rfl ?_
    refine st_get X (ci := 6) in_M 0 1 wf_M_84 rfl rfl (by decide) rfl d_M_part_27 ?_
    refine st_iconst X (v := 1) d_M_part_30 (by decide) ?_
    refine st_isub X d_M_part_31 ?_
    exact st_iret X hr (0, x1) hw rfl (by decide) (by decide) d_M_part_32
  · replace hw := hw.2 hc
    refine st_iconst X (v := (-1)) d_M_part_14 (by decide) ?_
    exact st_iret X hr (0, m_parts) hw rfl (by decide) (by decide) d_M_part_15

theorem h9_M_tellStep : y_M_tellStep.cls ≠ "java/lang/invoke/MethodHandle" ∧ y_M_tellStep.cls ≠ "java/lang/invoke/VarHandle" ∧ (parseMethodDescriptor y_M_tellStep.desc).map (fun d => d.parameters.length) = some 3 := by decide +kernel
def wp_M_tellStep_J112 (p1 : Int64) (p2 : Int64) (m_froms : Nat → Int64) (m_cents : Nat → Int64) (v2 : Int32) (Q : Int32 → (Nat → Int32) → (Nat → Int64) → (Nat → Int64) → Prop) (f4 : Nat → Int32) : Prop :=
  vp_in v2 1488 ∧
  ∀ f5 : Nat → Int64, f5 = vp_updL m_froms v2.toNatClampNeg p1 →
  vp_in v2 1488 ∧
  ∀ f6 : Nat → Int64, f6 = vp_updL m_cents v2.toNatClampNeg p2 →
  ((1 : Int32) = 0 ∨ (1 : Int32) = 1) ∧ Q 1 f4 f5 f6
def wp_M_tellStep_J97 (p0 : Int32) (p1 : Int64) (p2 : Int64) (m_stepCount : Nat → Int32) (m_froms : Nat → Int64) (m_cents : Nat → Int64) (v2 : Int32) (v3 : Int32) (Q : Int32 → (Nat → Int32) → (Nat → Int64) → (Nat → Int64) → Prop) : Prop :=
  ((¬ v3 = 0) → wp_M_tellStep_J112 p1 p2 m_froms m_cents v2 Q m_stepCount) ∧
  ((v3 = 0) → vp_in p0 248 ∧
  ∀ x7 : Int32, x7 = (m_stepCount p0.toNatClampNeg) + 1 →
  vp_in p0 248 ∧
  ∀ f8 : Nat → Int32, f8 = upd m_stepCount p0.toNatClampNeg x7 →
  wp_M_tellStep_J112 p1 p2 m_froms m_cents v2 Q f8)
def wp_M_tellStep_J95 (m_stepCount : Nat → Int32) (m_froms : Nat → Int64) (m_cents : Nat → Int64) (Q : Int32 → (Nat → Int32) → (Nat → Int64) → (Nat → Int64) → Prop) : Prop :=
  ((0 : Int32) = 0 ∨ (0 : Int32) = 1) ∧ Q 0 m_stepCount m_froms m_cents
def wp_M_tellStep_J61 (p0 : Int32) (p1 : Int64) (p2 : Int64) (m_stepCount : Nat → Int32) (m_froms : Nat → Int64) (m_cents : Nat → Int64) (v2 : Int32) (Q : Int32 → (Nat → Int32) → (Nat → Int64) → (Nat → Int64) → Prop) (v3 : Int32) : Prop :=
  ((v3 = 0) → vp_in p0 248 ∧
  ((¬ (m_stepCount p0.toNatClampNeg) = 6) → wp_M_tellStep_J97 p0 p1 p2 m_stepCount m_froms m_cents v2 v3 Q) ∧
  (((m_stepCount p0.toNatClampNeg) = 6) → wp_M_tellStep_J95 m_stepCount m_froms m_cents Q)) ∧
  ((¬ v3 = 0) → vp_in v2 1488 ∧
  ((¬ (m_cents v2.toNatClampNeg) = p2) → wp_M_tellStep_J97 p0 p1 p2 m_stepCount m_froms m_cents v2 v3 Q) ∧
  (((m_cents v2.toNatClampNeg) = p2) → wp_M_tellStep_J95 m_stepCount m_froms m_cents Q))
def wp_M_tellStep_J40 (p0 : Int32) (p1 : Int64) (p2 : Int64) (m_stepCount : Nat → Int32) (m_froms : Nat → Int64) (m_cents : Nat → Int64) (v2 : Int32) (Q : Int32 → (Nat → Int32) → (Nat → Int64) → (Nat → Int64) → Prop) : Prop :=
  vp_in p0 248 ∧
  ((((6 * p0) + (m_stepCount p0.toNatClampNeg)) ≤ v2) → wp_M_tellStep_J61 p0 p1 p2 m_stepCount m_froms m_cents v2 Q 0) ∧
  ((¬ ((6 * p0) + (m_stepCount p0.toNatClampNeg)) ≤ v2) → wp_M_tellStep_J61 p0 p1 p2 m_stepCount m_froms m_cents v2 Q 1)
def wp_M_tellStep_L6 (p0 : Int32) (p1 : Int64) (p2 : Int64) (m_stepCount : Nat → Int32) (m_froms : Nat → Int64) (m_cents : Nat → Int64) (Q : Int32 → (Nat → Int32) → (Nat → Int64) → (Nat → Int64) → Prop) : Nat → Int32 → Prop
  | 0, _ => False
  | n6 + 1, v2 =>
  vp_in p0 248 ∧
  ((((6 * p0) + (m_stepCount p0.toNatClampNeg)) ≤ v2) → wp_M_tellStep_J40 p0 p1 p2 m_stepCount m_froms m_cents v2 Q) ∧
  ((¬ ((6 * p0) + (m_stepCount p0.toNatClampNeg)) ≤ v2) → vp_in v2 1488 ∧
  (((m_froms v2.toNatClampNeg) = p1) → wp_M_tellStep_J40 p0 p1 p2 m_stepCount m_froms m_cents v2 Q) ∧
  ((¬ (m_froms v2.toNatClampNeg) = p1) → ∀ x9 : Int32, x9 = v2 + 1 →
  (wp_M_tellStep_L6 p0 p1 p2 m_stepCount m_froms m_cents Q n6) x9))
def wp_M_tellStep (p0 : Int32) (p1 : Int64) (p2 : Int64) (m_stepCount : Nat → Int32) (m_froms : Nat → Int64) (m_cents : Nat → Int64) (Q : Int32 → (Nat → Int32) → (Nat → Int64) → (Nat → Int64) → Prop) : Prop :=
  ∀ x1 : Int32, x1 = 6 * p0 →
  ∃ n6 : Nat, wp_M_tellStep_L6 p0 p1 p2 m_stepCount m_froms m_cents Q n6 x1
set_option maxHeartbeats 4000000 in
set_option maxRecDepth 100000 in
theorem k_M_tellStep (g : GX) (hg : g.1.stackTraces = false) (a_t : Nat) (p0 : Int32) (p1 : Int64) (p2 : Int64) (m_thrown : Int32) (m_parts : Int32) (a_m_stepCount : Nat) (a_m_froms : Nat) (a_m_cents : Nat) (a_m_uses : Nat) (a_m_stocks : Nat) (a_m_alternates : Nat) (a_m_assemblies : Nat) (a_m_placings : Nat) (m_yields : Int32) (a_m_yieldAbove : Nat) (a_m_yieldBelow : Nat) (a_m_dayCount : Nat) (a_m_days : Nat) (a_m_rateAbove : Nat) (a_m_rateBelow : Nat) (m_tools : Int64) (m_can : Int32) (m_sum : Int64) (a_m_costs : Nat) (a_m_pieces : Nat) (a_m_maker : Nat) (a_m_partOf : Nat) (m_ran : Int32) (m_keptRows : Int32) (a_m_keptCosts : Nat) (a_m_keptPieces : Nat) (a_m_keptMaker : Nat) (a_m_keptPart : Nat) (a_m_oldCosts : Nat) (m_stepCount : Nat → Int32) (m_froms : Nat → Int64) (m_cents : Nat → Int64) (Q : Int32 → (Nat → Int32) → (Nat → Int64) → (Nat → Int64) → Prop) (hw : wp_M_tellStep p0 p1 p2 m_stepCount m_froms m_cents Q) : CT g y_M_tellStep c_M_tellStep 8 (some .boolean) ({ frames := 0, cells := 0, slots := 0, locals := 0 } : Room) [.ref a_t, .int p0, .long p1, .long p2] [(a_t, .inr (6, [.int m_thrown, .int m_parts, .ref a_m_stepCount, .ref a_m_froms, .ref a_m_cents, .ref a_m_uses, .ref a_m_stocks, .ref a_m_alternates, .ref a_m_assemblies, .ref a_m_placings, .int m_yields, .ref a_m_yieldAbove, .ref a_m_yieldBelow, .ref a_m_dayCount, .ref a_m_days, .ref a_m_rateAbove, .ref a_m_rateBelow, .long m_tools, .int m_can, .long m_sum, .ref a_m_costs, .ref a_m_pieces, .ref a_m_maker, .ref a_m_partOf, .int m_ran, .int m_keptRows, .ref a_m_keptCosts, .ref a_m_keptPieces, .ref a_m_keptMaker, .ref a_m_keptPart, .ref a_m_oldCosts])), aI g a_m_stepCount 248 m_stepCount, aJ g a_m_froms 1488 m_froms, aJ g a_m_cents 1488 m_cents] (QI g [(a_t, .inr (6, [.int m_thrown, .int m_parts, .ref a_m_stepCount, .ref a_m_froms, .ref a_m_cents, .ref a_m_uses, .ref a_m_stocks, .ref a_m_alternates, .ref a_m_assemblies, .ref a_m_placings, .int m_yields, .ref a_m_yieldAbove, .ref a_m_yieldBelow, .ref a_m_dayCount, .ref a_m_days, .ref a_m_rateAbove, .ref a_m_rateBelow, .long m_tools, .int m_can, .long m_sum, .ref a_m_costs, .ref a_m_pieces, .ref a_m_maker, .ref a_m_partOf, .int m_ran, .int m_keptRows, .ref a_m_keptCosts, .ref a_m_keptPieces, .ref a_m_keptMaker, .ref a_m_keptPart, .ref a_m_oldCosts])), aI g a_m_stepCount 248 m_stepCount, aJ g a_m_froms 1488 m_froms, aJ g a_m_cents 1488 m_cents] (fun u : (Nat → Int32) × (Nat → Int64) × (Nat → Int64) => [(a_t, .inr (6, [.int m_thrown, .int m_parts, .ref a_m_stepCount, .ref a_m_froms, .ref a_m_cents, .ref a_m_uses, .ref a_m_stocks, .ref a_m_alternates, .ref a_m_assemblies, .ref a_m_placings, .int m_yields, .ref a_m_yieldAbove, .ref a_m_yieldBelow, .ref a_m_dayCount, .ref a_m_days, .ref a_m_rateAbove, .ref a_m_rateBelow, .long m_tools, .int m_can, .long m_sum, .ref a_m_costs, .ref a_m_pieces, .ref a_m_maker, .ref a_m_partOf, .int m_ran, .int m_keptRows, .ref a_m_keptCosts, .ref a_m_keptPieces, .ref a_m_keptMaker, .ref a_m_keptPart, .ref a_m_oldCosts])), aI g a_m_stepCount 248 u.1, aJ g a_m_froms 1488 u.2.1, aJ g a_m_cents 1488 u.2.2]) (fun r u => Q r u.1 u.2.1 u.2.2)) := by
  refine ct_of hg (by decide) (Nat.le_of_ble_eq_true rfl) (fun sz C X hr => ?_)
  unfold wp_M_tellStep at hw
  show ST g C [(a_t, .inr (6, [.int m_thrown, .int m_parts, .ref a_m_stepCount, .ref a_m_froms, .ref a_m_cents, .ref a_m_uses, .ref a_m_stocks, .ref a_m_alternates, .ref a_m_assemblies, .ref a_m_placings, .int m_yields, .ref a_m_yieldAbove, .ref a_m_yieldBelow, .ref a_m_dayCount, .ref a_m_days, .ref a_m_rateAbove, .ref a_m_rateBelow, .long m_tools, .int m_can, .long m_sum, .ref a_m_costs, .ref a_m_pieces, .ref a_m_maker, .ref a_m_partOf, .int m_ran, .int m_keptRows, .ref a_m_keptCosts, .ref a_m_keptPieces, .ref a_m_keptMaker, .ref a_m_keptPart, .ref a_m_oldCosts])), aI g a_m_stepCount 248 m_stepCount, aJ g a_m_froms 1488 m_froms, aJ g a_m_cents 1488 m_cents] [(0, .ref a_t), (1, .int p0), (2, .long p1), (4, .long p2)] [] 0 0 0
  refine st_bipush X (v := 6) d_M_tellStep_0 (by decide) ?_
  refine st_iload_n X 1 d_M_tellStep_2 rfl rfl ?_
  refine st_imul X d_M_tellStep_3 ?_
  refine st_topi (fun x1 hx1 => ?_)
  replace hw := hw x1 hx1
  refine st_istore X (lv2 := [(6, .int x1), (0, .ref a_t), (1, .int p0), (2, .long p1), (4, .long p2)]) d_M_tellStep_4 (by decide) rfl ?_
  have L6 : ∀ (n6 : Nat) (v2 : Int32), wp_M_tellStep_L6 p0 p1 p2 m_stepCount m_froms m_cents Q n6 v2 → ST g C [(a_t, .inr (6, [.int m_thrown, .int m_parts, .ref a_m_stepCount, .ref a_m_froms, .ref a_m_cents, .ref a_m_uses, .ref a_m_stocks, .ref a_m_alternates, .ref a_m_assemblies, .ref a_m_placings, .int m_yields, .ref a_m_yieldAbove, .ref a_m_yieldBelow, .ref a_m_dayCount, .ref a_m_days, .ref a_m_rateAbove, .ref a_m_rateBelow, .long m_tools, .int m_can, .long m_sum, .ref a_m_costs, .ref a_m_pieces, .ref a_m_maker, .ref a_m_partOf, .int m_ran, .int m_keptRows, .ref a_m_keptCosts, .ref a_m_keptPieces, .ref a_m_keptMaker, .ref a_m_keptPart, .ref a_m_oldCosts])), aI g a_m_stepCount 248 m_stepCount, aJ g a_m_froms 1488 m_froms, aJ g a_m_cents 1488 m_cents] [(0, .ref a_t), (1, .int p0), (2, .long p1), (4, .long p2), (6, .int v2)] [] 6 0 0 := by
    intro n6
    induction n6 with
    | zero => intro v2 hw; exact hw.elim
    | succ n6 ih6 =>
      intro v2 hw
      rw [wp_M_tellStep_L6] at hw
      refine st_iload X 4 d_M_tellStep_6 rfl ?_
      refine st_bipush X (v := 6) d_M_tellStep_8 (by decide) ?_
      refine st_iload_n X 1 d_M_tellStep_10 rfl rfl ?_
      refine st_imul X d_M_tellStep_11 ?_
      refine st_aload_n X 0 d_M_tellStep_12 rfl rfl ?_
      refine st_get X (ci := 6) in_M 0 2 wf_M_7 rfl rfl (by decide) rfl d_M_tellStep_13 ?_
      refine st_iload_n X 1 d_M_tellStep_16 rfl rfl ?_
      obtain ⟨hb1, hw⟩ := hw
      refine st_iald X 1 rfl hb1 d_M_tellStep_17 ?_
      refine st_iadd X d_M_tellStep_18 ?_
      have J40 : wp_M_tellStep_J40 p0 p1 p2 m_stepCount m_froms m_cents v2 Q → ST g C [(a_t, .inr (6, [.int m_thrown, .int m_parts, .ref a_m_stepCount, .ref a_m_froms, .ref a_m_cents, .ref a_m_uses, .ref a_m_stocks, .ref a_m_alternates, .ref a_m_assemblies, .ref a_m_placings, .int m_yields, .ref a_m_yieldAbove, .ref a_m_yieldBelow, .ref a_m_dayCount, .ref a_m_days, .ref a_m_rateAbove, .ref a_m_rateBelow, .long m_tools, .int m_can, .long m_sum, .ref a_m_costs, .ref a_m_pieces, .ref a_m_maker, .ref a_m_partOf, .int m_ran, .int m_keptRows, .ref a_m_keptCosts, .ref a_m_keptPieces, .ref a_m_keptMaker, .ref a_m_keptPart, .ref a_m_oldCosts])), aI g a_m_stepCount 248 m_stepCount, aJ g a_m_froms 1488 m_froms, aJ g a_m_cents 1488 m_cents] [(0, .ref a_t), (1, .int p0), (2, .long p1), (4, .long p2), (6, .int v2)] [] 40 0 0 := by
        intro hw
        unfold wp_M_tellStep_J40 at hw
        refine st_iload X 4 d_M_tellStep_40 rfl ?_
        refine st_bipush X (v := 6) d_M_tellStep_42 (by decide) ?_
        refine st_iload_n X 1 d_M_tellStep_44 rfl rfl ?_
        refine st_imul X d_M_tellStep_45 ?_
        refine st_aload_n X 0 d_M_tellStep_46 rfl rfl ?_
        refine st_get X (ci := 6) in_M 0 2 wf_M_7 rfl rfl (by decide) rfl d_M_tellStep_47 ?_
        refine st_iload_n X 1 d_M_tellStep_50 rfl rfl ?_
        obtain ⟨hb2, hw⟩ := hw
        refine st_iald X 1 rfl hb2 d_M_tellStep_51 ?_
        refine st_iadd X d_M_tellStep_52 ?_
        have J61 : ∀ (v3 : Int32), wp_M_tellStep_J61 p0 p1 p2 m_stepCount m_froms m_cents v2 Q v3 → ST g C [(a_t, .inr (6, [.int m_thrown, .int m_parts, .ref a_m_stepCount, .ref a_m_froms, .ref a_m_cents, .ref a_m_uses, .ref a_m_stocks, .ref a_m_alternates, .ref a_m_assemblies, .ref a_m_placings, .int m_yields, .ref a_m_yieldAbove, .ref a_m_yieldBelow, .ref a_m_dayCount, .ref a_m_days, .ref a_m_rateAbove, .ref a_m_rateBelow, .long m_tools, .int m_can, .long m_sum, .ref a_m_costs, .ref a_m_pieces, .ref a_m_maker, .ref a_m_partOf, .int m_ran, .int m_keptRows, .ref a_m_keptCosts, .ref a_m_keptPieces, .ref a_m_keptMaker, .ref a_m_keptPart, .ref a_m_oldCosts])), aI g a_m_stepCount 248 m_stepCount, aJ g a_m_froms 1488 m_froms, aJ g a_m_cents 1488 m_cents] [(0, .ref a_t), (1, .int p0), (2, .long p1), (4, .long p2), (6, .int v2)] [.int v3] 61 0 0 := by
          intro v3 hw
          unfold wp_M_tellStep_J61 at hw
          refine st_istore X (lv2 := [(7, .int v3), (0, .ref a_t), (1, .int p0), (2, .long p1), (4, .long p2), (6, .int v2)]) d_M_tellStep_61 (by decide) rfl ?_
          refine st_iload X 0 d_M_tellStep_63 rfl ?_
          have J97 : wp_M_tellStep_J97 p0 p1 p2 m_stepCount m_froms m_cents v2 v3 Q → ST g C [(a_t, .inr (6, [.int m_thrown, .int m_parts, .ref a_m_stepCount, .ref a_m_froms, .ref a_m_cents, .ref a_m_uses, .ref a_m_stocks, .ref a_m_alternates, .ref a_m_assemblies, .ref a_m_placings, .int m_yields, .ref a_m_yieldAbove, .ref a_m_yieldBelow, .ref a_m_dayCount, .ref a_m_days, .ref a_m_rateAbove, .ref a_m_rateBelow, .long m_tools, .int m_can, .long m_sum, .ref a_m_costs, .ref a_m_pieces, .ref a_m_maker, .ref a_m_partOf, .int m_ran, .int m_keptRows, .ref a_m_keptCosts, .ref a_m_keptPieces, .ref a_m_keptMaker, .ref a_m_keptPart, .ref a_m_oldCosts])), aI g a_m_stepCount 248 m_stepCount, aJ g a_m_froms 1488 m_froms, aJ g a_m_cents 1488 m_cents] [(0, .ref a_t), (1, .int p0), (2, .long p1), (4, .long p2), (6, .int v2), (7, .int v3)] [] 97 0 0 := by
            intro hw
            unfold wp_M_tellStep_J97 at hw
            refine st_iload X 5 d_M_tellStep_97 rfl ?_
            have J112 : ∀ (f4 : Nat → Int32), wp_M_tellStep_J112 p1 p2 m_froms m_cents v2 Q f4 → ST g C [(a_t, .inr (6, [.int m_thrown, .int m_parts, .ref a_m_stepCount, .ref a_m_froms, .ref a_m_cents, .ref a_m_uses, .ref a_m_stocks, .ref a_m_alternates, .ref a_m_assemblies, .ref a_m_placings, .int m_yields, .ref a_m_yieldAbove, .ref a_m_yieldBelow, .ref a_m_dayCount, .ref a_m_days, .ref a_m_rateAbove, .ref a_m_rateBelow, .long m_tools, .int m_can, .long m_sum, .ref a_m_costs, .ref a_m_pieces, .ref a_m_maker, .ref a_m_partOf, .int m_ran, .int m_keptRows, .ref a_m_keptCosts, .ref a_m_keptPieces, .ref a_m_keptMaker, .ref a_m_keptPart, .ref a_m_oldCosts])), aI g a_m_stepCount 248 f4, aJ g a_m_froms 1488 m_froms, aJ g a_m_cents 1488 m_cents] [(0, .ref a_t), (1, .int p0), (2, .long p1), (4, .long p2), (6, .int v2), (7, .int v3)] [] 112 0 0 := by
              intro f4 hw
              unfold wp_M_tellStep_J112 at hw
              refine st_aload_n X 0 d_M_tellStep_112 rfl rfl ?_
              refine st_get X (ci := 6) in_M 0 3 wf_M_13 rfl rfl (by decide) rfl d_M_tellStep_113 ?_
              refine st_iload X 4 d_M_tellStep_116 rfl ?_
              refine st_lload_n X 2 d_M_tellStep_118 rfl rfl ?_
              obtain ⟨hb3, hw⟩ := hw
              obtain ⟨f5, hf5⟩ : ∃ z : Nat → Int64, z = vp_updL m_froms v2.toNatClampNeg p1 := ⟨_, rfl⟩
              replace hw := hw f5 hf5
              refine st_last X (ws2 := [(a_t, .inr (6, [.int m_thrown, .int m_parts, .ref a_m_stepCount, .ref a_m_froms, .ref a_m_cents, .ref a_m_uses, .ref a_m_stocks, .ref a_m_alternates, .ref a_m_assemblies, .ref a_m_placings, .int m_yields, .ref a_m_yieldAbove, .ref a_m_yieldBelow, .ref a_m_dayCount, .ref a_m_days, .ref a_m_rateAbove, .ref a_m_rateBelow, .long m_tools, .int m_can, .long m_sum, .ref a_m_costs, .ref a_m_pieces, .ref a_m_maker, .ref a_m_partOf, .int m_ran, .int m_keptRows, .ref a_m_keptCosts, .ref a_m_keptPieces, .ref a_m_keptMaker, .ref a_m_keptPart, .ref a_m_oldCosts])), aI g a_m_stepCount 248 f4, aJ g a_m_froms 1488 f5, aJ g a_m_cents 1488 m_cents]) 2 rfl hb3 (by rw [hf5]; rfl) d_M_tellStep_119 ?_
              refine st_aload_n X 0 d_M_tellStep_120 rfl rfl ?_
              refine st_get X (ci := 6) in_M 0 4 wf_M_17 rfl rfl (by decide) rfl d_M_tellStep_121 ?_
              refine st_iload X 4 d_M_tellStep_124 rfl ?_
              refine st_lload X 3 d_M_tellStep_126 rfl ?_
              obtain ⟨hb4, hw⟩ := hw
              obtain ⟨f6, hf6⟩ : ∃ z : Nat → Int64, z = vp_updL m_cents v2.toNatClampNeg p2 := ⟨_, rfl⟩
              replace hw := hw f6 hf6
              refine st_last X (ws2 := [(a_t, .inr (6, [.int m_thrown, .int m_parts, .ref a_m_stepCount, .ref a_m_froms, .ref a_m_cents, .ref a_m_uses, .ref a_m_stocks, .ref a_m_alternates, .ref a_m_assemblies, .ref a_m_placings, .int m_yields, .ref a_m_yieldAbove, .ref a_m_yieldBelow, .ref a_m_dayCount, .ref a_m_days, .ref a_m_rateAbove, .ref a_m_rateBelow, .long m_tools, .int m_can, .long m_sum, .ref a_m_costs, .ref a_m_pieces, .ref a_m_maker, .ref a_m_partOf, .int m_ran, .int m_keptRows, .ref a_m_keptCosts, .ref a_m_keptPieces, .ref a_m_keptMaker, .ref a_m_keptPart, .ref a_m_oldCosts])), aI g a_m_stepCount 248 f4, aJ g a_m_froms 1488 f5, aJ g a_m_cents 1488 f6]) 3 rfl hb4 (by rw [hf6]; rfl) d_M_tellStep_128 ?_
              refine st_iconst X (v := 1) d_M_tellStep_129 (by decide) ?_
              obtain ⟨hz, hw⟩ := hw
              exact st_zret X hr (f4, f5, f6) hw hz rfl (by decide) (by decide) d_M_tellStep_130
            refine st_if_ne X 112 d_M_tellStep_99 (by decide) (fun hc => ?_) (fun hc => ?_)
            · replace hw := hw.1 hc
              refine st_lv [0, 1, 2, 3, 4, 5] rfl ?_
              exact J112 m_stepCount hw
            · replace hw := hw.2 hc
              refine st_aload_n X 0 d_M_tellStep_102 rfl rfl ?_
              refine st_get X (ci := 6) in_M 0 2 wf_M_7 rfl rfl (by decide) rfl d_M_tellStep_103 ?_
              refine st_iload_n X 1 d_M_tellStep_106 rfl rfl ?_
              refine st_dup2_11 X d_M_tellStep_107 rfl rfl ?_
              obtain ⟨hb5, hw⟩ := hw
              refine st_iald X 1 rfl hb5 d_M_tellStep_108 ?_
              refine st_iconst X (v := 1) d_M_tellStep_109 (by decide) ?_
              refine st_iadd X d_M_tellStep_110 ?_
              refine st_topi (fun x7 hx7 => ?_)
              replace hw := hw x7 hx7
              obtain ⟨hb6, hw⟩ := hw
              obtain ⟨f8, hf8⟩ : ∃ z : Nat → Int32, z = upd m_stepCount p0.toNatClampNeg x7 := ⟨_, rfl⟩
              replace hw := hw f8 hf8
              refine st_iast X (ws2 := [(a_t, .inr (6, [.int m_thrown, .int m_parts, .ref a_m_stepCount, .ref a_m_froms, .ref a_m_cents, .ref a_m_uses, .ref a_m_stocks, .ref a_m_alternates, .ref a_m_assemblies, .ref a_m_placings, .int m_yields, .ref a_m_yieldAbove, .ref a_m_yieldBelow, .ref a_m_dayCount, .ref a_m_days, .ref a_m_rateAbove, .ref a_m_rateBelow, .long m_tools, .int m_can, .long m_sum, .ref a_m_costs, .ref a_m_pieces, .ref a_m_maker, .ref a_m_partOf, .int m_ran, .int m_keptRows, .ref a_m_keptCosts, .ref a_m_keptPieces, .ref a_m_keptMaker, .ref a_m_keptPart, .ref a_m_oldCosts])), aI g a_m_stepCount 248 f8, aJ g a_m_froms 1488 m_froms, aJ g a_m_cents 1488 m_cents]) 1 rfl hb6 (by rw [hf8]; rfl) d_M_tellStep_111 ?_
              refine st_lv [0, 1, 2, 3, 4, 5] rfl ?_
              exact J112 f8 hw
          have J95 : wp_M_tellStep_J95 m_stepCount m_froms m_cents Q → ST g C [(a_t, .inr (6, [.int m_thrown, .int m_parts, .ref a_m_stepCount, .ref a_m_froms, .ref a_m_cents, .ref a_m_uses, .ref a_m_stocks, .ref a_m_alternates, .ref a_m_assemblies, .ref a_m_placings, .int m_yields, .ref a_m_yieldAbove, .ref a_m_yieldBelow, .ref a_m_dayCount, .ref a_m_days, .ref a_m_rateAbove, .ref a_m_rateBelow, .long m_tools, .int m_can, .long m_sum, .ref a_m_costs, .ref a_m_pieces, .ref a_m_maker, .ref a_m_partOf, .int m_ran, .int m_keptRows, .ref a_m_keptCosts, .ref a_m_keptPieces, .ref a_m_keptMaker, .ref a_m_keptPart, .ref a_m_oldCosts])), aI g a_m_stepCount 248 m_stepCount, aJ g a_m_froms 1488 m_froms, aJ g a_m_cents 1488 m_cents] [(0, .ref a_t), (1, .int p0), (2, .long p1), (4, .long p2), (6, .int v2), (7, .int v3)] [] 95 0 0 := by
            intro hw
            unfold wp_M_tellStep_J95 at hw
            refine st_iconst X (v := 0) d_M_tellStep_95 (by decide) ?_
            obtain ⟨hz, hw⟩ := hw
            exact st_zret X hr (m_stepCount, m_froms, m_cents) hw hz rfl (by decide) (by decide) d_M_tellStep_96
          refine st_if_eq X 84 d_M_tellStep_65 (by decide) (fun hc => ?_) (fun hc => ?_)
          · replace hw := hw.1 hc
            refine st_aload_n X 1 d_M_tellStep_84 rfl rfl ?_
            refine st_get X (ci := 6) in_M 0 2 wf_M_7 rfl rfl (by decide) rfl d_M_tellStep_85 ?_
            refine st_iload_n X 2 d_M_tellStep_88 rfl rfl ?_
            obtain ⟨hb7, hw⟩ := hw
            refine st_iald X 1 rfl hb7 d_M_tellStep_89 ?_
            refine st_bipush X (v := 6) d_M_tellStep_90 (by decide) ?_
            refine st_icmp_ne X 97 d_M_tellStep_92 (by decide) (fun hc => ?_) (fun hc => ?_)
            · replace hw := hw.1 hc
              refine st_lv [1, 2, 3, 4, 5, 0] rfl ?_
              exact J97 hw
            · replace hw := hw.2 hc
              refine st_lv [1, 2, 3, 4, 5, 0] rfl ?_
              exact J95 hw
          · replace hw := hw.2 hc
            refine st_aload_n X 1 d_M_tellStep_68 rfl rfl ?_
            refine st_get X (ci := 6) in_M 0 4 wf_M_17 rfl rfl (by decide) rfl d_M_tellStep_69 ?_
            refine st_iload X 5 d_M_tellStep_72 rfl ?_
            obtain ⟨hb8, hw⟩ := hw
            refine st_lald X 3 rfl hb8 d_M_tellStep_74 ?_
            refine st_lload X 4 d_M_tellStep_75 rfl ?_
            refine st_lcmp_ne X 97 d_M_tellStep_77 d_M_tellStep_78 (by decide) (fun hc => ?_) (fun hc => ?_)
            · replace hw := hw.1 hc
              refine st_lv [1, 2, 3, 4, 5, 0] rfl ?_
              exact J97 hw
            · replace hw := hw.2 hc
              refine st_goto X 95 d_M_tellStep_81 (by decide) ?_
              refine st_lv [1, 2, 3, 4, 5, 0] rfl ?_
              exact J95 hw
        refine st_icmp_ge X 60 d_M_tellStep_53 (by decide) (fun hc => ?_) (fun hc => ?_)
        · replace hw := hw.1 hc
          refine st_iconst X (v := 0) d_M_tellStep_60 (by decide) ?_
          refine st_lv [0, 1, 2, 3, 4] rfl ?_
          exact J61 0 hw
        · replace hw := hw.2 hc
          refine st_iconst X (v := 1) d_M_tellStep_56 (by decide) ?_
          refine st_goto X 61 d_M_tellStep_57 (by decide) ?_
          refine st_lv [0, 1, 2, 3, 4] rfl ?_
          exact J61 1 hw
      refine st_icmp_ge X 40 d_M_tellStep_19 (by decide) (fun hc => ?_) (fun hc => ?_)
      · replace hw := hw.1 hc
        refine st_lv [0, 1, 2, 3, 4] rfl ?_
        exact J40 hw
      · replace hw := hw.2 hc
        refine st_aload_n X 0 d_M_tellStep_22 rfl rfl ?_
        refine st_get X (ci := 6) in_M 0 3 wf_M_13 rfl rfl (by decide) rfl d_M_tellStep_23 ?_
        refine st_iload X 4 d_M_tellStep_26 rfl ?_
        obtain ⟨hb9, hw⟩ := hw
        refine st_lald X 2 rfl hb9 d_M_tellStep_28 ?_
        refine st_lload_n X 2 d_M_tellStep_29 rfl rfl ?_
        refine st_lcmp_eq X 40 d_M_tellStep_30 d_M_tellStep_31 (by decide) (fun hc => ?_) (fun hc => ?_)
        · replace hw := hw.1 hc
          refine st_lv [0, 1, 2, 3, 4] rfl ?_
          exact J40 hw
        · replace hw := hw.2 hc
          obtain ⟨x9, hx9⟩ : ∃ z : Int32, z = v2 + 1 := ⟨_, rfl⟩
          replace hw := hw x9 hx9
          refine st_iinc X (v := x9) (lv2 := [(6, .int x9), (0, .ref a_t), (1, .int p0), (2, .long p1), (4, .long p2)]) 4 d_M_tellStep_34 rfl (by rw [hx9]; rfl) (by decide) rfl ?_
          refine st_goto X 6 d_M_tellStep_37 (by decide) ?_
          refine st_lv [1, 2, 3, 4, 0] rfl ?_
          exact ih6 x9 hw
  obtain ⟨n6, hw⟩ := hw
  refine st_lv [1, 2, 3, 4, 0] rfl ?_
  exact L6 n6 x1 hw

theorem h9_M_price : y_M_price.cls ≠ "java/lang/invoke/MethodHandle" ∧ y_M_price.cls ≠ "java/lang/invoke/VarHandle" ∧ (parseMethodDescriptor y_M_price.desc).map (fun d => d.parameters.length) = some 4 := by decide +kernel
def wp_M_price_J91 (v4 : Int32) (Q : Int32 → Int32 → (Nat → Int32) → (Nat → Int64) → (Nat → Int64) → Prop) (v5 : Int32) (f6 : Nat → Int32) (f7 : Nat → Int64) (f8 : Nat → Int64) : Prop :=
  (v5 = 0 ∨ v5 = 1) ∧ Q v5 v4 f6 f7 f8
def wp_M_price_J90 (v4 : Int32) (Q : Int32 → Int32 → (Nat → Int32) → (Nat → Int64) → (Nat → Int64) → Prop) (f9 : Nat → Int32) (f10 : Nat → Int64) (f11 : Nat → Int64) : Prop :=
  wp_M_price_J91 v4 Q 0 f9 f10 f11
def wp_M_price_J60 (p0 : Int32) (p1 : Int32) (p2 : Int64) (p3 : Int64) (m_stepCount : Nat → Int32) (m_froms : Nat → Int64) (m_cents : Nat → Int64) (Q : Int32 → Int32 → (Nat → Int32) → (Nat → Int64) → (Nat → Int64) → Prop) (v4 : Int32) : Prop :=
  ((¬ v4 = 0) → wp_M_price_J90 v4 Q m_stepCount m_froms m_cents) ∧
  ((v4 = 0) → wp_M_tellStep ((8 * p0) + p1) p2 p3 m_stepCount m_froms m_cents (fun r15 u12 u13 u14 =>
  ((r15 = 0) → wp_M_price_J90 v4 Q u12 u13 u14) ∧
  ((¬ r15 = 0) → wp_M_price_J91 v4 Q 1 u12 u13 u14)))
def wp_M_price_J46 (p0 : Int32) (p1 : Int32) (p2 : Int64) (p3 : Int64) (m_stepCount : Nat → Int32) (m_froms : Nat → Int64) (m_cents : Nat → Int64) (Q : Int32 → Int32 → (Nat → Int32) → (Nat → Int64) → (Nat → Int64) → Prop) : Prop :=
  wp_M_price_J60 p0 p1 p2 p3 m_stepCount m_froms m_cents Q 1
def wp_M_price_J28 (p0 : Int32) (p1 : Int32) (p2 : Int64) (p3 : Int64) (m_parts : Int32) (m_stepCount : Nat → Int32) (m_froms : Nat → Int64) (m_cents : Nat → Int64) (Q : Int32 → Int32 → (Nat → Int32) → (Nat → Int64) → (Nat → Int64) → Prop) (v2 : Int32) : Prop :=
  wp_M_isPart p0 m_parts (fun r3 =>
  ((r3 = 0) → wp_M_price_J46 p0 p1 p2 p3 m_stepCount m_froms m_cents Q) ∧
  ((¬ r3 = 0) → wp_M_isMaker p1 (fun r16 =>
  ((¬ r16 = 0) → ((v2 = 0) → wp_M_price_J60 p0 p1 p2 p3 m_stepCount m_froms m_cents Q 2) ∧
  ((¬ v2 = 0) → wp_M_price_J60 p0 p1 p2 p3 m_stepCount m_froms m_cents Q 0)) ∧
  ((r16 = 0) → wp_M_price_J46 p0 p1 p2 p3 m_stepCount m_froms m_cents Q))))
def wp_M_price_J27 (p0 : Int32) (p1 : Int32) (p2 : Int64) (p3 : Int64) (m_parts : Int32) (m_stepCount : Nat → Int32) (m_froms : Nat → Int64) (m_cents : Nat → Int64) (Q : Int32 → Int32 → (Nat → Int32) → (Nat → Int64) → (Nat → Int64) → Prop) : Prop :=
  wp_M_price_J28 p0 p1 p2 p3 m_parts m_stepCount m_froms m_cents Q 0
def wp_M_price (p0 : Int32) (p1 : Int32) (p2 : Int64) (p3 : Int64) (m_parts : Int32) (m_stepCount : Nat → Int32) (m_froms : Nat → Int64) (m_cents : Nat → Int64) (Q : Int32 → Int32 → (Nat → Int32) → (Nat → Int64) → (Nat → Int64) → Prop) : Prop :=
  wp_M_within p2 (1 : Int64) (1000000000 : Int64) (fun r1 =>
  ((r1 = 0) → wp_M_price_J27 p0 p1 p2 p3 m_parts m_stepCount m_froms m_cents Q) ∧
  ((¬ r1 = 0) → wp_M_within p3 (1 : Int64) (100000 : Int64) (fun r17 =>
  ((r17 = 0) → wp_M_price_J27 p0 p1 p2 p3 m_parts m_stepCount m_froms m_cents Q) ∧
  ((¬ r17 = 0) → wp_M_price_J28 p0 p1 p2 p3 m_parts m_stepCount m_froms m_cents Q 1))))
set_option maxHeartbeats 4000000 in
set_option maxRecDepth 100000 in
theorem k_M_price (g : GX) (hg : g.1.stackTraces = false) (a_t : Nat) (p0 : Int32) (p1 : Int32) (p2 : Int64) (p3 : Int64) (m_thrown : Int32) (m_parts : Int32) (a_m_stepCount : Nat) (a_m_froms : Nat) (a_m_cents : Nat) (a_m_uses : Nat) (a_m_stocks : Nat) (a_m_alternates : Nat) (a_m_assemblies : Nat) (a_m_placings : Nat) (m_yields : Int32) (a_m_yieldAbove : Nat) (a_m_yieldBelow : Nat) (a_m_dayCount : Nat) (a_m_days : Nat) (a_m_rateAbove : Nat) (a_m_rateBelow : Nat) (m_tools : Int64) (m_can : Int32) (m_sum : Int64) (a_m_costs : Nat) (a_m_pieces : Nat) (a_m_maker : Nat) (a_m_partOf : Nat) (m_ran : Int32) (m_keptRows : Int32) (a_m_keptCosts : Nat) (a_m_keptPieces : Nat) (a_m_keptMaker : Nat) (a_m_keptPart : Nat) (a_m_oldCosts : Nat) (m_stepCount : Nat → Int32) (m_froms : Nat → Int64) (m_cents : Nat → Int64) (Q : Int32 → Int32 → (Nat → Int32) → (Nat → Int64) → (Nat → Int64) → Prop) (hw : wp_M_price p0 p1 p2 p3 m_parts m_stepCount m_froms m_cents Q) : CT g y_M_price c_M_price 8 (some .boolean) ({ frames := 1, cells := 0, slots := 0, locals := 27 } : Room) [.ref a_t, .int p0, .int p1, .long p2, .long p3] [(a_t, .inr (6, [.int m_thrown, .int m_parts, .ref a_m_stepCount, .ref a_m_froms, .ref a_m_cents, .ref a_m_uses, .ref a_m_stocks, .ref a_m_alternates, .ref a_m_assemblies, .ref a_m_placings, .int m_yields, .ref a_m_yieldAbove, .ref a_m_yieldBelow, .ref a_m_dayCount, .ref a_m_days, .ref a_m_rateAbove, .ref a_m_rateBelow, .long m_tools, .int m_can, .long m_sum, .ref a_m_costs, .ref a_m_pieces, .ref a_m_maker, .ref a_m_partOf, .int m_ran, .int m_keptRows, .ref a_m_keptCosts, .ref a_m_keptPieces, .ref a_m_keptMaker, .ref a_m_keptPart, .ref a_m_oldCosts])), aI g a_m_stepCount 248 m_stepCount, aJ g a_m_froms 1488 m_froms, aJ g a_m_cents 1488 m_cents] (QI g [(a_t, .inr (6, [.int m_thrown, .int m_parts, .ref a_m_stepCount, .ref a_m_froms, .ref a_m_cents, .ref a_m_uses, .ref a_m_stocks, .ref a_m_alternates, .ref a_m_assemblies, .ref a_m_placings, .int m_yields, .ref a_m_yieldAbove, .ref a_m_yieldBelow, .ref a_m_dayCount, .ref a_m_days, .ref a_m_rateAbove, .ref a_m_rateBelow, .long m_tools, .int m_can, .long m_sum, .ref a_m_costs, .ref a_m_pieces, .ref a_m_maker, .ref a_m_partOf, .int m_ran, .int m_keptRows, .ref a_m_keptCosts, .ref a_m_keptPieces, .ref a_m_keptMaker, .ref a_m_keptPart, .ref a_m_oldCosts])), aI g a_m_stepCount 248 m_stepCount, aJ g a_m_froms 1488 m_froms, aJ g a_m_cents 1488 m_cents] (fun u : Int32 × (Nat → Int32) × (Nat → Int64) × (Nat → Int64) => [(a_t, .inr (6, [.int u.1, .int m_parts, .ref a_m_stepCount, .ref a_m_froms, .ref a_m_cents, .ref a_m_uses, .ref a_m_stocks, .ref a_m_alternates, .ref a_m_assemblies, .ref a_m_placings, .int m_yields, .ref a_m_yieldAbove, .ref a_m_yieldBelow, .ref a_m_dayCount, .ref a_m_days, .ref a_m_rateAbove, .ref a_m_rateBelow, .long m_tools, .int m_can, .long m_sum, .ref a_m_costs, .ref a_m_pieces, .ref a_m_maker, .ref a_m_partOf, .int m_ran, .int m_keptRows, .ref a_m_keptCosts, .ref a_m_keptPieces, .ref a_m_keptMaker, .ref a_m_keptPart, .ref a_m_oldCosts])), aI g a_m_stepCount 248 u.2.1, aJ g a_m_froms 1488 u.2.2.1, aJ g a_m_cents 1488 u.2.2.2]) (fun r u => Q r u.1 u.2.1 u.2.2.1 u.2.2.2)) := by
  refine ct_of hg (by decide) (Nat.le_of_ble_eq_true rfl) (fun sz C X hr => ?_)
  unfold wp_M_price at hw
  show ST g C [(a_t, .inr (6, [.int m_thrown, .int m_parts, .ref a_m_stepCount, .ref a_m_froms, .ref a_m_cents, .ref a_m_uses, .ref a_m_stocks, .ref a_m_alternates, .ref a_m_assemblies, .ref a_m_placings, .int m_yields, .ref a_m_yieldAbove, .ref a_m_yieldBelow, .ref a_m_dayCount, .ref a_m_days, .ref a_m_rateAbove, .ref a_m_rateBelow, .long m_tools, .int m_can, .long m_sum, .ref a_m_costs, .ref a_m_pieces, .ref a_m_maker, .ref a_m_partOf, .int m_ran, .int m_keptRows, .ref a_m_keptCosts, .ref a_m_keptPieces, .ref a_m_keptMaker, .ref a_m_keptPart, .ref a_m_oldCosts])), aI g a_m_stepCount 248 m_stepCount, aJ g a_m_froms 1488 m_froms, aJ g a_m_cents 1488 m_cents] [(0, .ref a_t), (1, .int p0), (2, .int p1), (3, .long p2), (5, .long p3)] [] 0 0 0
  refine st_lload_n X 3 d_M_price_0 rfl rfl ?_
  refine st_lconst X (v := 1) d_M_price_1 (by decide) ?_
  refine st_ldc2 X wv_M_87 d_M_price_2 ?_
  have hR := rn_S (pc := 5) (k := 0) (n := 0) (As := [.long p2, .long 1, .long 1000000000]) (rest := []) X (k_M_within g hg p2 (1 : Int64) (1000000000 : Int64) _ hw) wm_M_89 ws_M_within wz_M wc_M_within h9_M_within ⟨by decide, by decide⟩ (Nat.le_of_ble_eq_true rfl) ⟨by decide, by decide⟩ d_M_price_5
  refine st_calli X hR [] [0, 1, 2, 3] (wr := [(a_t, .inr (6, [.int m_thrown, .int m_parts, .ref a_m_stepCount, .ref a_m_froms, .ref a_m_cents, .ref a_m_uses, .ref a_m_stocks, .ref a_m_alternates, .ref a_m_assemblies, .ref a_m_placings, .int m_yields, .ref a_m_yieldAbove, .ref a_m_yieldBelow, .ref a_m_dayCount, .ref a_m_days, .ref a_m_rateAbove, .ref a_m_rateBelow, .long m_tools, .int m_can, .long m_sum, .ref a_m_costs, .ref a_m_pieces, .ref a_m_maker, .ref a_m_partOf, .int m_ran, .int m_keptRows, .ref a_m_keptCosts, .ref a_m_keptPieces, .ref a_m_keptMaker, .ref a_m_keptPart, .ref a_m_oldCosts])), aI g a_m_stepCount 248 m_stepCount, aJ g a_m_froms 1488 m_froms, aJ g a_m_cents 1488 m_cents]) rfl rfl (by decide) (by decide) (by decide) (fun r1 u9 hw => ?_)
  try dsimp only at hw
  refine st_widen (k2 := 0) (n2 := 0) (by decide) (by decide) ?_
  refine st_perm (ws2 := [(a_t, .inr (6, [.int m_thrown, .int m_parts, .ref a_m_stepCount, .ref a_m_froms, .ref a_m_cents, .ref a_m_uses, .ref a_m_stocks, .ref a_m_alternates, .ref a_m_assemblies, .ref a_m_placings, .int m_yields, .ref a_m_yieldAbove, .ref a_m_yieldBelow, .ref a_m_dayCount, .ref a_m_days, .ref a_m_rateAbove, .ref a_m_rateBelow, .long m_tools, .int m_can, .long m_sum, .ref a_m_costs, .ref a_m_pieces, .ref a_m_maker, .ref a_m_partOf, .int m_ran, .int m_keptRows, .ref a_m_keptCosts, .ref a_m_keptPieces, .ref a_m_keptMaker, .ref a_m_keptPart, .ref a_m_oldCosts])), aI g a_m_stepCount 248 m_stepCount, aJ g a_m_froms 1488 m_froms, aJ g a_m_cents 1488 m_cents]) [0, 1, 2, 3] rfl (by decide) ?_
  show ST g C [(a_t, .inr (6, [.int m_thrown, .int m_parts, .ref a_m_stepCount, .ref a_m_froms, .ref a_m_cents, .ref a_m_uses, .ref a_m_stocks, .ref a_m_alternates, .ref a_m_assemblies, .ref a_m_placings, .int m_yields, .ref a_m_yieldAbove, .ref a_m_yieldBelow, .ref a_m_dayCount, .ref a_m_days, .ref a_m_rateAbove, .ref a_m_rateBelow, .long m_tools, .int m_can, .long m_sum, .ref a_m_costs, .ref a_m_pieces, .ref a_m_maker, .ref a_m_partOf, .int m_ran, .int m_keptRows, .ref a_m_keptCosts, .ref a_m_keptPieces, .ref a_m_keptMaker, .ref a_m_keptPart, .ref a_m_oldCosts])), aI g a_m_stepCount 248 m_stepCount, aJ g a_m_froms 1488 m_froms, aJ g a_m_cents 1488 m_cents] [(0, .ref a_t), (1, .int p0), (2, .int p1), (3, .long p2), (5, .long p3)] [.int r1] 8 0 0
  have J28 : ∀ (v2 : Int32), wp_M_price_J28 p0 p1 p2 p3 m_parts m_stepCount m_froms m_cents Q v2 → ST g C [(a_t, .inr (6, [.int m_thrown, .int m_parts, .ref a_m_stepCount, .ref a_m_froms, .ref a_m_cents, .ref a_m_uses, .ref a_m_stocks, .ref a_m_alternates, .ref a_m_assemblies, .ref a_m_placings, .int m_yields, .ref a_m_yieldAbove, .ref a_m_yieldBelow, .ref a_m_dayCount, .ref a_m_days, .ref a_m_rateAbove, .ref a_m_rateBelow, .long m_tools, .int m_can, .long m_sum, .ref a_m_costs, .ref a_m_pieces, .ref a_m_maker, .ref a_m_partOf, .int m_ran, .int m_keptRows, .ref a_m_keptCosts, .ref a_m_keptPieces, .ref a_m_keptMaker, .ref a_m_keptPart, .ref a_m_oldCosts])), aI g a_m_stepCount 248 m_stepCount, aJ g a_m_froms 1488 m_froms, aJ g a_m_cents 1488 m_cents] [(0, .ref a_t), (1, .int p0), (2, .int p1), (3, .long p2), (5, .long p3)] [.int v2] 28 0 0 := by
    intro v2 hw
    unfold wp_M_price_J28 at hw
    refine st_istore X (lv2 := [(7, .int v2), (0, .ref a_t), (1, .int p0), (2, .int p1), (3, .long p2), (5, .long p3)]) d_M_price_28 (by decide) rfl ?_
    refine st_aload_n X 1 d_M_price_30 rfl rfl ?_
    refine st_aload_n X 1 d_M_price_31 rfl rfl ?_
    refine st_iload_n X 2 d_M_price_32 rfl rfl ?_
    have hR := rn_V (pc := 33) (k := 0) (n := 0) (As := [.int p0]) (rest := [.ref a_t]) X (k_M_isPart g hg a_t p0 m_thrown m_parts a_m_stepCount a_m_froms a_m_cents a_m_uses a_m_stocks a_m_alternates a_m_assemblies a_m_placings m_yields a_m_yieldAbove a_m_yieldBelow a_m_dayCount a_m_days a_m_rateAbove a_m_rateBelow m_tools m_can m_sum a_m_costs a_m_pieces a_m_maker a_m_partOf m_ran m_keptRows a_m_keptCosts a_m_keptPieces a_m_keptMaker a_m_keptPart a_m_oldCosts _ hw) (q0 := 0) rfl rfl wm_M_95 wi_M_isPart wl_M_isPart wz_M wc_M_isPart h9_M_isPart ⟨by decide, by decide⟩ (Nat.le_of_ble_eq_true rfl) ⟨by decide, by decide⟩ d_M_price_33
    refine st_calli X hR [0] [1, 2, 3] (wr := [aI g a_m_stepCount 248 m_stepCount, aJ g a_m_froms 1488 m_froms, aJ g a_m_cents 1488 m_cents]) rfl rfl (by decide) (by decide) (by decide) (fun r3 u9 hw => ?_)
    try dsimp only at hw
    refine st_widen (k2 := 0) (n2 := 0) (by decide) (by decide) ?_
    refine st_perm (ws2 := [(a_t, .inr (6, [.int m_thrown, .int m_parts, .ref a_m_stepCount, .ref a_m_froms, .ref a_m_cents, .ref a_m_uses, .ref a_m_stocks, .ref a_m_alternates, .ref a_m_assemblies, .ref a_m_placings, .int m_yields, .ref a_m_yieldAbove, .ref a_m_yieldBelow, .ref a_m_dayCount, .ref a_m_days, .ref a_m_rateAbove, .ref a_m_rateBelow, .long m_tools, .int m_can, .long m_sum, .ref a_m_costs, .ref a_m_pieces, .ref a_m_maker, .ref a_m_partOf, .int m_ran, .int m_keptRows, .ref a_m_keptCosts, .ref a_m_keptPieces, .ref a_m_keptMaker, .ref a_m_keptPart, .ref a_m_oldCosts])), aI g a_m_stepCount 248 m_stepCount, aJ g a_m_froms 1488 m_froms, aJ g a_m_cents 1488 m_cents]) [3, 0, 1, 2] rfl (by decide) ?_
    show ST g C [(a_t, .inr (6, [.int m_thrown, .int m_parts, .ref a_m_stepCount, .ref a_m_froms, .ref a_m_cents, .ref a_m_uses, .ref a_m_stocks, .ref a_m_alternates, .ref a_m_assemblies, .ref a_m_placings, .int m_yields, .ref a_m_yieldAbove, .ref a_m_yieldBelow, .ref a_m_dayCount, .ref a_m_days, .ref a_m_rateAbove, .ref a_m_rateBelow, .long m_tools, .int m_can, .long m_sum, .ref a_m_costs, .ref a_m_pieces, .ref a_m_maker, .ref a_m_partOf, .int m_ran, .int m_keptRows, .ref a_m_keptCosts, .ref a_m_keptPieces, .ref a_m_keptMaker, .ref a_m_keptPart, .ref a_m_oldCosts])), aI g a_m_stepCount 248 m_stepCount, aJ g a_m_froms 1488 m_froms, aJ g a_m_cents 1488 m_cents] [(7, .int v2), (0, .ref a_t), (1, .int p0), (2, .int p1), (3, .long p2), (5, .long p3)] [.int r3, .ref a_t] 36 0 0
    have J60 : ∀ (v4 : Int32), wp_M_price_J60 p0 p1 p2 p3 m_stepCount m_froms m_cents Q v4 → ST g C [(a_t, .inr (6, [.int m_thrown, .int m_parts, .ref a_m_stepCount, .ref a_m_froms, .ref a_m_cents, .ref a_m_uses, .ref a_m_stocks, .ref a_m_alternates, .ref a_m_assemblies, .ref a_m_placings, .int m_yields, .ref a_m_yieldAbove, .ref a_m_yieldBelow, .ref a_m_dayCount, .ref a_m_days, .ref a_m_rateAbove, .ref a_m_rateBelow, .long m_tools, .int m_can, .long m_sum, .ref a_m_costs, .ref a_m_pieces, .ref a_m_maker, .ref a_m_partOf, .int m_ran, .int m_keptRows, .ref a_m_keptCosts, .ref a_m_keptPieces, .ref a_m_keptMaker, .ref a_m_keptPart, .ref a_m_oldCosts])), aI g a_m_stepCount 248 m_stepCount, aJ g a_m_froms 1488 m_froms, aJ g a_m_cents 1488 m_cents] [(0, .ref a_t), (1, .int p0), (2, .int p1), (3, .long p2), (5, .long p3), (7, .int v2)] [.int v4, .ref a_t] 60 0 0 := by
      intro v4 hw
      unfold wp_M_price_J60 at hw
      refine st_put X (ci := 6) (ty := .int) in_M t_M to_M nm_M 0 0 wf_M_80 rfl rfl (by decide) rfl (by decide +kernel) rfl rfl (Nat.le_of_ble_eq_true rfl) (ws2 := [(a_t, .inr (6, [.int v4, .int m_parts, .ref a_m_stepCount, .ref a_m_froms, .ref a_m_cents, .ref a_m_uses, .ref a_m_stocks, .ref a_m_alternates, .ref a_m_assemblies, .ref a_m_placings, .int m_yields, .ref a_m_yieldAbove, .ref a_m_yieldBelow, .ref a_m_dayCount, .ref a_m_days, .ref a_m_rateAbove, .ref a_m_rateBelow, .long m_tools, .int m_can, .long m_sum, .ref a_m_costs, .ref a_m_pieces, .ref a_m_maker, .ref a_m_partOf, .int m_ran, .int m_keptRows, .ref a_m_keptCosts, .ref a_m_keptPieces, .ref a_m_keptMaker, .ref a_m_keptPart, .ref a_m_oldCosts])), aI g a_m_stepCount 248 m_stepCount, aJ g a_m_froms 1488 m_froms, aJ g a_m_cents 1488 m_cents]) rfl d_M_price_60 ?_
      refine st_aload_n X 0 d_M_price_63 rfl rfl ?_
      refine st_get X (ci := 6) in_M 0 0 wf_M_80 rfl rfl (by decide) rfl d_M_price_64 ?_
      have J91 : ∀ (v5 : Int32) (f6 : Nat → Int32) (f7 : Nat → Int64) (f8 : Nat → Int64), wp_M_price_J91 v4 Q v5 f6 f7 f8 → ST g C [(a_t, .inr (6, [.int v4, .int m_parts, .ref a_m_stepCount, .ref a_m_froms, .ref a_m_cents, .ref a_m_uses, .ref a_m_stocks, .ref a_m_alternates, .ref a_m_assemblies, .ref a_m_placings, .int m_yields, .ref a_m_yieldAbove, .ref a_m_yieldBelow, .ref a_m_dayCount, .ref a_m_days, .ref a_m_rateAbove, .ref a_m_rateBelow, .long m_tools, .int m_can, .long m_sum, .ref a_m_costs, .ref a_m_pieces, .ref a_m_maker, .ref a_m_partOf, .int m_ran, .int m_keptRows, .ref a_m_keptCosts, .ref a_m_keptPieces, .ref a_m_keptMaker, .ref a_m_keptPart, .ref a_m_oldCosts])), aI g a_m_stepCount 248 f6, aJ g a_m_froms 1488 f7, aJ g a_m_cents 1488 f8] [(0, .ref a_t), (1, .int p0), (2, .int p1), (3, .long p2), (5, .long p3), (7, .int v2)] [.int v5] 91 0 0 := by
        intro v5 f6 f7 f8 hw
        unfold wp_M_price_J91 at hw
        obtain ⟨hz, hw⟩ := hw
        exact st_zret X hr (v4, f6, f7, f8) hw hz rfl (by decide) (by decide) d_M_price_91
      have J90 : ∀ (f9 : Nat → Int32) (f10 : Nat → Int64) (f11 : Nat → Int64), wp_M_price_J90 v4 Q f9 f10 f11 → ST g C [(a_t, .inr (6, [.int v4, .int m_parts, .ref a_m_stepCount, .ref a_m_froms, .ref a_m_cents, .ref a_m_uses, .ref a_m_stocks, .ref a_m_alternates, .ref a_m_assemblies, .ref a_m_placings, .int m_yields, .ref a_m_yieldAbove, .ref a_m_yieldBelow, .ref a_m_dayCount, .ref a_m_days, .ref a_m_rateAbove, .ref a_m_rateBelow, .long m_tools, .int m_can, .long m_sum, .ref a_m_costs, .ref a_m_pieces, .ref a_m_maker, .ref a_m_partOf, .int m_ran, .int m_keptRows, .ref a_m_keptCosts, .ref a_m_keptPieces, .ref a_m_keptMaker, .ref a_m_keptPart, .ref a_m_oldCosts])), aI g a_m_stepCount 248 f9, aJ g a_m_froms 1488 f10, aJ g a_m_cents 1488 f11] [(0, .ref a_t), (1, .int p0), (2, .int p1), (3, .long p2), (5, .long p3), (7, .int v2)] [] 90 0 0 := by
        intro f9 f10 f11 hw
        unfold wp_M_price_J90 at hw
        refine st_iconst X (v := 0) d_M_price_90 (by decide) ?_
        refine st_lv [0, 1, 2, 3, 4, 5] rfl ?_
        exact J91 0 f9 f10 f11 hw
      refine st_if_ne X 90 d_M_price_67 (by decide) (fun hc => ?_) (fun hc => ?_)
      · replace hw := hw.1 hc
        refine st_lv [0, 1, 2, 3, 4, 5] rfl ?_
        exact J90 m_stepCount m_froms m_cents hw
      · replace hw := hw.2 hc
        refine st_aload_n X 0 d_M_price_70 rfl rfl ?_
        refine st_bipush X (v := 8) d_M_price_71 (by decide) ?_
        refine st_iload_n X 1 d_M_price_73 rfl rfl ?_
        refine st_imul X d_M_price_74 ?_
        refine st_iload_n X 2 d_M_price_75 rfl rfl ?_
        refine st_iadd X d_M_price_76 ?_
        refine st_lload_n X 3 d_M_price_77 rfl rfl ?_
        refine st_lload X 4 d_M_price_78 rfl ?_
        have hR := rn_V (pc := 80) (k := 0) (n := 0) (As := [.int ((8 * p0) + p1), .long p2, .long p3]) (rest := []) X (k_M_tellStep g hg a_t ((8 * p0) + p1) p2 p3 v4 m_parts a_m_stepCount a_m_froms a_m_cents a_m_uses a_m_stocks a_m_alternates a_m_assemblies a_m_placings m_yields a_m_yieldAbove a_m_yieldBelow a_m_dayCount a_m_days a_m_rateAbove a_m_rateBelow m_tools m_can m_sum a_m_costs a_m_pieces a_m_maker a_m_partOf m_ran m_keptRows a_m_keptCosts a_m_keptPieces a_m_keptMaker a_m_keptPart a_m_oldCosts m_stepCount m_froms m_cents _ hw) (q0 := 0) rfl rfl wm_M_102 wi_M_tellStep wl_M_tellStep wz_M wc_M_tellStep h9_M_tellStep ⟨by decide, by decide⟩ (Nat.le_of_ble_eq_true rfl) ⟨by decide, by decide⟩ d_M_price_80
        refine st_calli X hR [0, 1, 2, 3] [] (wr := []) rfl rfl (by decide) (by decide) (by decide) (fun r15 u9 hw => ?_)
        obtain ⟨u12, u13, u14⟩ := u9
        try dsimp only at hw
        refine st_widen (k2 := 0) (n2 := 0) (by decide) (by decide) ?_
        refine st_perm (ws2 := [(a_t, .inr (6, [.int v4, .int m_parts, .ref a_m_stepCount, .ref a_m_froms, .ref a_m_cents, .ref a_m_uses, .ref a_m_stocks, .ref a_m_alternates, .ref a_m_assemblies, .ref a_m_placings, .int m_yields, .ref a_m_yieldAbove, .ref a_m_yieldBelow, .ref a_m_dayCount, .ref a_m_days, .ref a_m_rateAbove, .ref a_m_rateBelow, .long m_tools, .int m_can, .long m_sum, .ref a_m_costs, .ref a_m_pieces, .ref a_m_maker, .ref a_m_partOf, .int m_ran, .int m_keptRows, .ref a_m_keptCosts, .ref a_m_keptPieces, .ref a_m_keptMaker, .ref a_m_keptPart, .ref a_m_oldCosts])), aI g a_m_stepCount 248 u12, aJ g a_m_froms 1488 u13, aJ g a_m_cents 1488 u14]) [0, 1, 2, 3] rfl (by decide) ?_
        show ST g C [(a_t, .inr (6, [.int v4, .int m_parts, .ref a_m_stepCount, .ref a_m_froms, .ref a_m_cents, .ref a_m_uses, .ref a_m_stocks, .ref a_m_alternates, .ref a_m_assemblies, .ref a_m_placings, .int m_yields, .ref a_m_yieldAbove, .ref a_m_yieldBelow, .ref a_m_dayCount, .ref a_m_days, .ref a_m_rateAbove, .ref a_m_rateBelow, .long m_tools, .int m_can, .long m_sum, .ref a_m_costs, .ref a_m_pieces, .ref a_m_maker, .ref a_m_partOf, .int m_ran, .int m_keptRows, .ref a_m_keptCosts, .ref a_m_keptPieces, .ref a_m_keptMaker, .ref a_m_keptPart, .ref a_m_oldCosts])), aI g a_m_stepCount 248 u12, aJ g a_m_froms 1488 u13, aJ g a_m_cents 1488 u14] [(0, .ref a_t), (1, .int p0), (2, .int p1), (3, .long p2), (5, .long p3), (7, .int v2)] [.int r15] 83 0 0
        refine st_if_eq X 90 d_M_price_83 (by decide) (fun hc => ?_) (fun hc => ?_)
        · replace hw := hw.1 hc
          refine st_lv [0, 1, 2, 3, 4, 5] rfl ?_
          exact J90 u12 u13 u14 hw
        · replace hw := hw.2 hc
          refine st_iconst X (v := 1) d_M_price_86 (by decide) ?_
          refine st_goto X 91 d_M_price_87 (by decide) ?_
          refine st_lv [0, 1, 2, 3, 4, 5] rfl ?_
          exact J91 1 u12 u13 u14 hw
    have J46 : wp_M_price_J46 p0 p1 p2 p3 m_stepCount m_froms m_cents Q → ST g C [(a_t, .inr (6, [.int m_thrown, .int m_parts, .ref a_m_stepCount, .ref a_m_froms, .ref a_m_cents, .ref a_m_uses, .ref a_m_stocks, .ref a_m_alternates, .ref a_m_assemblies, .ref a_m_placings, .int m_yields, .ref a_m_yieldAbove, .ref a_m_yieldBelow, .ref a_m_dayCount, .ref a_m_days, .ref a_m_rateAbove, .ref a_m_rateBelow, .long m_tools, .int m_can, .long m_sum, .ref a_m_costs, .ref a_m_pieces, .ref a_m_maker, .ref a_m_partOf, .int m_ran, .int m_keptRows, .ref a_m_keptCosts, .ref a_m_keptPieces, .ref a_m_keptMaker, .ref a_m_keptPart, .ref a_m_oldCosts])), aI g a_m_stepCount 248 m_stepCount, aJ g a_m_froms 1488 m_froms, aJ g a_m_cents 1488 m_cents] [(0, .ref a_t), (1, .int p0), (2, .int p1), (3, .long p2), (5, .long p3), (7, .int v2)] [.ref a_t] 46 0 0 := by
      intro hw
      unfold wp_M_price_J46 at hw
      refine st_iconst X (v := 1) d_M_price_46 (by decide) ?_
      refine st_goto X 60 d_M_price_47 (by decide) ?_
      refine st_lv [0, 1, 2, 3, 4, 5] rfl ?_
      exact J60 1 hw
    refine st_if_eq X 46 d_M_price_36 (by decide) (fun hc => ?_) (fun hc => ?_)
    · replace hw := hw.1 hc
      refine st_lv [1, 2, 3, 4, 5, 0] rfl ?_
      exact J46 hw
    · replace hw := hw.2 hc
      refine st_iload_n X 3 d_M_price_39 rfl rfl ?_
      have hR := rn_S (pc := 40) (k := 0) (n := 0) (As := [.int p1]) (rest := [.ref a_t]) X (k_M_isMaker g hg p1 _ hw) wm_M_99 ws_M_isMaker wz_M wc_M_isMaker h9_M_isMaker ⟨by decide, by decide⟩ (Nat.le_of_ble_eq_true rfl) ⟨by decide, by decide⟩ d_M_price_40
      refine st_calli X hR [] [0, 1, 2, 3] (wr := [(a_t, .inr (6, [.int m_thrown, .int m_parts, .ref a_m_stepCount, .ref a_m_froms, .ref a_m_cents, .ref a_m_uses, .ref a_m_stocks, .ref a_m_alternates, .ref a_m_assemblies, .ref a_m_placings, .int m_yields, .ref a_m_yieldAbove, .ref a_m_yieldBelow, .ref a_m_dayCount, .ref a_m_days, .ref a_m_rateAbove, .ref a_m_rateBelow, .long m_tools, .int m_can, .long m_sum, .ref a_m_costs, .ref a_m_pieces, .ref a_m_maker, .ref a_m_partOf, .int m_ran, .int m_keptRows, .ref a_m_keptCosts, .ref a_m_keptPieces, .ref a_m_keptMaker, .ref a_m_keptPart, .ref a_m_oldCosts])), aI g a_m_stepCount 248 m_stepCount, aJ g a_m_froms 1488 m_froms, aJ g a_m_cents 1488 m_cents]) rfl rfl (by decide) (by decide) (by decide) (fun r16 u9 hw => ?_)
      try dsimp only at hw
      refine st_widen (k2 := 0) (n2 := 0) (by decide) (by decide) ?_
      refine st_perm (ws2 := [(a_t, .inr (6, [.int m_thrown, .int m_parts, .ref a_m_stepCount, .ref a_m_froms, .ref a_m_cents, .ref a_m_uses, .ref a_m_stocks, .ref a_m_alternates, .ref a_m_assemblies, .ref a_m_placings, .int m_yields, .ref a_m_yieldAbove, .ref a_m_yieldBelow, .ref a_m_dayCount, .ref a_m_days, .ref a_m_rateAbove, .ref a_m_rateBelow, .long m_tools, .int m_can, .long m_sum, .ref a_m_costs, .ref a_m_pieces, .ref a_m_maker, .ref a_m_partOf, .int m_ran, .int m_keptRows, .ref a_m_keptCosts, .ref a_m_keptPieces, .ref a_m_keptMaker, .ref a_m_keptPart, .ref a_m_oldCosts])), aI g a_m_stepCount 248 m_stepCount, aJ g a_m_froms 1488 m_froms, aJ g a_m_cents 1488 m_cents]) [0, 1, 2, 3] rfl (by decide) ?_
      show ST g C [(a_t, .inr (6, [.int m_thrown, .int m_parts, .ref a_m_stepCount, .ref a_m_froms, .ref a_m_cents, .ref a_m_uses, .ref a_m_stocks, .ref a_m_alternates, .ref a_m_assemblies, .ref a_m_placings, .int m_yields, .ref a_m_yieldAbove, .ref a_m_yieldBelow, .ref a_m_dayCount, .ref a_m_days, .ref a_m_rateAbove, .ref a_m_rateBelow, .long m_tools, .int m_can, .long m_sum, .ref a_m_costs, .ref a_m_pieces, .ref a_m_maker, .ref a_m_partOf, .int m_ran, .int m_keptRows, .ref a_m_keptCosts, .ref a_m_keptPieces, .ref a_m_keptMaker, .ref a_m_keptPart, .ref a_m_oldCosts])), aI g a_m_stepCount 248 m_stepCount, aJ g a_m_froms 1488 m_froms, aJ g a_m_cents 1488 m_cents] [(7, .int v2), (0, .ref a_t), (1, .int p0), (2, .int p1), (3, .long p2), (5, .long p3)] [.int r16, .ref a_t] 43 0 0
      refine st_if_ne X 50 d_M_price_43 (by decide) (fun hc => ?_) (fun hc => ?_)
      · replace hw := hw.1 hc
        refine st_iload X 0 d_M_price_50 rfl ?_
        refine st_if_eq X 59 d_M_price_52 (by decide) (fun hc => ?_) (fun hc => ?_)
        · replace hw := hw.1 hc
          refine st_iconst X (v := 2) d_M_price_59 (by decide) ?_
          refine st_lv [1, 2, 3, 4, 5, 0] rfl ?_
          exact J60 2 hw
        · replace hw := hw.2 hc
          refine st_iconst X (v := 0) d_M_price_55 (by decide) ?_
          refine st_goto X 60 d_M_price_56 (by decide) ?_
          refine st_lv [1, 2, 3, 4, 5, 0] rfl ?_
          exact J60 0 hw
      · replace hw := hw.2 hc
        refine st_lv [1, 2, 3, 4, 5, 0] rfl ?_
        exact J46 hw
  have J27 : wp_M_price_J27 p0 p1 p2 p3 m_parts m_stepCount m_froms m_cents Q → ST g C [(a_t, .inr (6, [.int m_thrown, .int m_parts, .ref a_m_stepCount, .ref a_m_froms, .ref a_m_cents, .ref a_m_uses, .ref a_m_stocks, .ref a_m_alternates, .ref a_m_assemblies, .ref a_m_placings, .int m_yields, .ref a_m_yieldAbove, .ref a_m_yieldBelow, .ref a_m_dayCount, .ref a_m_days, .ref a_m_rateAbove, .ref a_m_rateBelow, .long m_tools, .int m_can, .long m_sum, .ref a_m_costs, .ref a_m_pieces, .ref a_m_maker, .ref a_m_partOf, .int m_ran, .int m_keptRows, .ref a_m_keptCosts, .ref a_m_keptPieces, .ref a_m_keptMaker, .ref a_m_keptPart, .ref a_m_oldCosts])), aI g a_m_stepCount 248 m_stepCount, aJ g a_m_froms 1488 m_froms, aJ g a_m_cents 1488 m_cents] [(0, .ref a_t), (1, .int p0), (2, .int p1), (3, .long p2), (5, .long p3)] [] 27 0 0 := by
    intro hw
    unfold wp_M_price_J27 at hw
    refine st_iconst X (v := 0) d_M_price_27 (by decide) ?_
    refine st_lv [0, 1, 2, 3, 4] rfl ?_
    exact J28 0 hw
  refine st_if_eq X 27 d_M_price_8 (by decide) (fun hc => ?_) (fun hc => ?_)
  · replace hw := hw.1 hc
    refine st_lv [0, 1, 2, 3, 4] rfl ?_
    exact J27 hw
  · replace hw := hw.2 hc
    refine st_lload X 4 d_M_price_11 rfl ?_
    refine st_lconst X (v := 1) d_M_price_13 (by decide) ?_
    refine st_ldc2 X wv_M_93 d_M_price_14 ?_
    have hR := rn_S (pc := 17) (k := 0) (n := 0) (As := [.long p3, .long 1, .long 100000]) (rest := []) X (k_M_within g hg p3 (1 : Int64) (100000 : Int64) _ hw) wm_M_89 ws_M_within wz_M wc_M_within h9_M_within ⟨by decide, by decide⟩ (Nat.le_of_ble_eq_true rfl) ⟨by decide, by decide⟩ d_M_price_17
    refine st_calli X hR [] [0, 1, 2, 3] (wr := [(a_t, .inr (6, [.int m_thrown, .int m_parts, .ref a_m_stepCount, .ref a_m_froms, .ref a_m_cents, .ref a_m_uses, .ref a_m_stocks, .ref a_m_alternates, .ref a_m_assemblies, .ref a_m_placings, .int m_yields, .ref a_m_yieldAbove, .ref a_m_yieldBelow, .ref a_m_dayCount, .ref a_m_days, .ref a_m_rateAbove, .ref a_m_rateBelow, .long m_tools, .int m_can, .long m_sum, .ref a_m_costs, .ref a_m_pieces, .ref a_m_maker, .ref a_m_partOf, .int m_ran, .int m_keptRows, .ref a_m_keptCosts, .ref a_m_keptPieces, .ref a_m_keptMaker, .ref a_m_keptPart, .ref a_m_oldCosts])), aI g a_m_stepCount 248 m_stepCount, aJ g a_m_froms 1488 m_froms, aJ g a_m_cents 1488 m_cents]) rfl rfl (by decide) (by decide) (by decide) (fun r17 u9 hw => ?_)
    try dsimp only at hw
    refine st_widen (k2 := 0) (n2 := 0) (by decide) (by decide) ?_
    refine st_perm (ws2 := [(a_t, .inr (6, [.int m_thrown, .int m_parts, .ref a_m_stepCount, .ref a_m_froms, .ref a_m_cents, .ref a_m_uses, .ref a_m_stocks, .ref a_m_alternates, .ref a_m_assemblies, .ref a_m_placings, .int m_yields, .ref a_m_yieldAbove, .ref a_m_yieldBelow, .ref a_m_dayCount, .ref a_m_days, .ref a_m_rateAbove, .ref a_m_rateBelow, .long m_tools, .int m_can, .long m_sum, .ref a_m_costs, .ref a_m_pieces, .ref a_m_maker, .ref a_m_partOf, .int m_ran, .int m_keptRows, .ref a_m_keptCosts, .ref a_m_keptPieces, .ref a_m_keptMaker, .ref a_m_keptPart, .ref a_m_oldCosts])), aI g a_m_stepCount 248 m_stepCount, aJ g a_m_froms 1488 m_froms, aJ g a_m_cents 1488 m_cents]) [0, 1, 2, 3] rfl (by decide) ?_
    show ST g C [(a_t, .inr (6, [.int m_thrown, .int m_parts, .ref a_m_stepCount, .ref a_m_froms, .ref a_m_cents, .ref a_m_uses, .ref a_m_stocks, .ref a_m_alternates, .ref a_m_assemblies, .ref a_m_placings, .int m_yields, .ref a_m_yieldAbove, .ref a_m_yieldBelow, .ref a_m_dayCount, .ref a_m_days, .ref a_m_rateAbove, .ref a_m_rateBelow, .long m_tools, .int m_can, .long m_sum, .ref a_m_costs, .ref a_m_pieces, .ref a_m_maker, .ref a_m_partOf, .int m_ran, .int m_keptRows, .ref a_m_keptCosts, .ref a_m_keptPieces, .ref a_m_keptMaker, .ref a_m_keptPart, .ref a_m_oldCosts])), aI g a_m_stepCount 248 m_stepCount, aJ g a_m_froms 1488 m_froms, aJ g a_m_cents 1488 m_cents] [(0, .ref a_t), (1, .int p0), (2, .int p1), (3, .long p2), (5, .long p3)] [.int r17] 20 0 0
    refine st_if_eq X 27 d_M_price_20 (by decide) (fun hc => ?_) (fun hc => ?_)
    · replace hw := hw.1 hc
      refine st_lv [0, 1, 2, 3, 4] rfl ?_
      exact J27 hw
    · replace hw := hw.2 hc
      refine st_iconst X (v := 1) d_M_price_23 (by decide) ?_
      refine st_goto X 28 d_M_price_24 (by decide) ?_
      refine st_lv [0, 1, 2, 3, 4] rfl ?_
      exact J28 1 hw

theorem h9_M_board : y_M_board.cls ≠ "java/lang/invoke/MethodHandle" ∧ y_M_board.cls ≠ "java/lang/invoke/VarHandle" ∧ (parseMethodDescriptor y_M_board.desc).map (fun d => d.parameters.length) = some 3 := by decide +kernel
def wp_M_board_J82 (v4 : Int32) (Q : Int32 → Int32 → (Nat → Int32) → (Nat → Int64) → (Nat → Int64) → Prop) (v5 : Int32) (f6 : Nat → Int32) (f7 : Nat → Int64) (f8 : Nat → Int64) : Prop :=
  (v5 = 0 ∨ v5 = 1) ∧ Q v5 v4 f6 f7 f8
def wp_M_board_J81 (v4 : Int32) (Q : Int32 → Int32 → (Nat → Int32) → (Nat → Int64) → (Nat → Int64) → Prop) (f9 : Nat → Int32) (f10 : Nat → Int64) (f11 : Nat → Int64) : Prop :=
  wp_M_board_J82 v4 Q 0 f9 f10 f11
def wp_M_board_J52 (p0 : Int32) (p1 : Int64) (p2 : Int64) (m_stepCount : Nat → Int32) (m_froms : Nat → Int64) (m_cents : Nat → Int64) (Q : Int32 → Int32 → (Nat → Int32) → (Nat → Int64) → (Nat → Int64) → Prop) (v4 : Int32) : Prop :=
  ((¬ v4 = 0) → wp_M_board_J81 v4 Q m_stepCount m_froms m_cents) ∧
  ((v4 = 0) → wp_M_tellStep (240 + p0) p1 p2 m_stepCount m_froms m_cents (fun r15 u12 u13 u14 =>
  ((r15 = 0) → wp_M_board_J81 v4 Q u12 u13 u14) ∧
  ((¬ r15 = 0) → wp_M_board_J82 v4 Q 1 u12 u13 u14)))
def wp_M_board_J28 (p0 : Int32) (p1 : Int64) (p2 : Int64) (m_stepCount : Nat → Int32) (m_froms : Nat → Int64) (m_cents : Nat → Int64) (Q : Int32 → Int32 → (Nat → Int32) → (Nat → Int64) → (Nat → Int64) → Prop) (v2 : Int32) : Prop :=
  wp_M_isMaker p0 (fun r3 =>
  ((¬ r3 = 0) → ((v2 = 0) → wp_M_board_J52 p0 p1 p2 m_stepCount m_froms m_cents Q 2) ∧
  ((¬ v2 = 0) → wp_M_board_J52 p0 p1 p2 m_stepCount m_froms m_cents Q 0)) ∧
  ((r3 = 0) → wp_M_board_J52 p0 p1 p2 m_stepCount m_froms m_cents Q 1))
def wp_M_board_J27 (p0 : Int32) (p1 : Int64) (p2 : Int64) (m_stepCount : Nat → Int32) (m_froms : Nat → Int64) (m_cents : Nat → Int64) (Q : Int32 → Int32 → (Nat → Int32) → (Nat → Int64) → (Nat → Int64) → Prop) : Prop :=
  wp_M_board_J28 p0 p1 p2 m_stepCount m_froms m_cents Q 0
def wp_M_board (p0 : Int32) (p1 : Int64) (p2 : Int64) (m_stepCount : Nat → Int32) (m_froms : Nat → Int64) (m_cents : Nat → Int64) (Q : Int32 → Int32 → (Nat → Int32) → (Nat → Int64) → (Nat → Int64) → Prop) : Prop :=
  wp_M_within p1 (1 : Int64) (1000000000 : Int64) (fun r1 =>
  ((r1 = 0) → wp_M_board_J27 p0 p1 p2 m_stepCount m_froms m_cents Q) ∧
  ((¬ r1 = 0) → wp_M_within p2 (1 : Int64) (100000 : Int64) (fun r16 =>
  ((r16 = 0) → wp_M_board_J27 p0 p1 p2 m_stepCount m_froms m_cents Q) ∧
  ((¬ r16 = 0) → wp_M_board_J28 p0 p1 p2 m_stepCount m_froms m_cents Q 1))))
set_option maxHeartbeats 4000000 in
set_option maxRecDepth 100000 in
theorem k_M_board (g : GX) (hg : g.1.stackTraces = false) (a_t : Nat) (p0 : Int32) (p1 : Int64) (p2 : Int64) (m_thrown : Int32) (m_parts : Int32) (a_m_stepCount : Nat) (a_m_froms : Nat) (a_m_cents : Nat) (a_m_uses : Nat) (a_m_stocks : Nat) (a_m_alternates : Nat) (a_m_assemblies : Nat) (a_m_placings : Nat) (m_yields : Int32) (a_m_yieldAbove : Nat) (a_m_yieldBelow : Nat) (a_m_dayCount : Nat) (a_m_days : Nat) (a_m_rateAbove : Nat) (a_m_rateBelow : Nat) (m_tools : Int64) (m_can : Int32) (m_sum : Int64) (a_m_costs : Nat) (a_m_pieces : Nat) (a_m_maker : Nat) (a_m_partOf : Nat) (m_ran : Int32) (m_keptRows : Int32) (a_m_keptCosts : Nat) (a_m_keptPieces : Nat) (a_m_keptMaker : Nat) (a_m_keptPart : Nat) (a_m_oldCosts : Nat) (m_stepCount : Nat → Int32) (m_froms : Nat → Int64) (m_cents : Nat → Int64) (Q : Int32 → Int32 → (Nat → Int32) → (Nat → Int64) → (Nat → Int64) → Prop) (hw : wp_M_board p0 p1 p2 m_stepCount m_froms m_cents Q) : CT g y_M_board c_M_board 7 (some .boolean) ({ frames := 1, cells := 0, slots := 0, locals := 27 } : Room) [.ref a_t, .int p0, .long p1, .long p2] [(a_t, .inr (6, [.int m_thrown, .int m_parts, .ref a_m_stepCount, .ref a_m_froms, .ref a_m_cents, .ref a_m_uses, .ref a_m_stocks, .ref a_m_alternates, .ref a_m_assemblies, .ref a_m_placings, .int m_yields, .ref a_m_yieldAbove, .ref a_m_yieldBelow, .ref a_m_dayCount, .ref a_m_days, .ref a_m_rateAbove, .ref a_m_rateBelow, .long m_tools, .int m_can, .long m_sum, .ref a_m_costs, .ref a_m_pieces, .ref a_m_maker, .ref a_m_partOf, .int m_ran, .int m_keptRows, .ref a_m_keptCosts, .ref a_m_keptPieces, .ref a_m_keptMaker, .ref a_m_keptPart, .ref a_m_oldCosts])), aI g a_m_stepCount 248 m_stepCount, aJ g a_m_froms 1488 m_froms, aJ g a_m_cents 1488 m_cents] (QI g [(a_t, .inr (6, [.int m_thrown, .int m_parts, .ref a_m_stepCount, .ref a_m_froms, .ref a_m_cents, .ref a_m_uses, .ref a_m_stocks, .ref a_m_alternates, .ref a_m_assemblies, .ref a_m_placings, .int m_yields, .ref a_m_yieldAbove, .ref a_m_yieldBelow, .ref a_m_dayCount, .ref a_m_days, .ref a_m_rateAbove, .ref a_m_rateBelow, .long m_tools, .int m_can, .long m_sum, .ref a_m_costs, .ref a_m_pieces, .ref a_m_maker, .ref a_m_partOf, .int m_ran, .int m_keptRows, .ref a_m_keptCosts, .ref a_m_keptPieces, .ref a_m_keptMaker, .ref a_m_keptPart, .ref a_m_oldCosts])), aI g a_m_stepCount 248 m_stepCount, aJ g a_m_froms 1488 m_froms, aJ g a_m_cents 1488 m_cents] (fun u : Int32 × (Nat → Int32) × (Nat → Int64) × (Nat → Int64) => [(a_t, .inr (6, [.int u.1, .int m_parts, .ref a_m_stepCount, .ref a_m_froms, .ref a_m_cents, .ref a_m_uses, .ref a_m_stocks, .ref a_m_alternates, .ref a_m_assemblies, .ref a_m_placings, .int m_yields, .ref a_m_yieldAbove, .ref a_m_yieldBelow, .ref a_m_dayCount, .ref a_m_days, .ref a_m_rateAbove, .ref a_m_rateBelow, .long m_tools, .int m_can, .long m_sum, .ref a_m_costs, .ref a_m_pieces, .ref a_m_maker, .ref a_m_partOf, .int m_ran, .int m_keptRows, .ref a_m_keptCosts, .ref a_m_keptPieces, .ref a_m_keptMaker, .ref a_m_keptPart, .ref a_m_oldCosts])), aI g a_m_stepCount 248 u.2.1, aJ g a_m_froms 1488 u.2.2.1, aJ g a_m_cents 1488 u.2.2.2]) (fun r u => Q r u.1 u.2.1 u.2.2.1 u.2.2.2)) := by
  refine ct_of hg (by decide) (Nat.le_of_ble_eq_true rfl) (fun sz C X hr => ?_)
  unfold wp_M_board at hw
  show ST g C [(a_t, .inr (6, [.int m_thrown, .int m_parts, .ref a_m_stepCount, .ref a_m_froms, .ref a_m_cents, .ref a_m_uses, .ref a_m_stocks, .ref a_m_alternates, .ref a_m_assemblies, .ref a_m_placings, .int m_yields, .ref a_m_yieldAbove, .ref a_m_yieldBelow, .ref a_m_dayCount, .ref a_m_days, .ref a_m_rateAbove, .ref a_m_rateBelow, .long m_tools, .int m_can, .long m_sum, .ref a_m_costs, .ref a_m_pieces, .ref a_m_maker, .ref a_m_partOf, .int m_ran, .int m_keptRows, .ref a_m_keptCosts, .ref a_m_keptPieces, .ref a_m_keptMaker, .ref a_m_keptPart, .ref a_m_oldCosts])), aI g a_m_stepCount 248 m_stepCount, aJ g a_m_froms 1488 m_froms, aJ g a_m_cents 1488 m_cents] [(0, .ref a_t), (1, .int p0), (2, .long p1), (4, .long p2)] [] 0 0 0
  refine st_lload_n X 2 d_M_board_0 rfl rfl ?_
  refine st_lconst X (v := 1) d_M_board_1 (by decide) ?_
  refine st_ldc2 X wv_M_87 d_M_board_2 ?_
  have hR := rn_S (pc := 5) (k := 0) (n := 0) (As := [.long p1, .long 1, .long 1000000000]) (rest := []) X (k_M_within g hg p1 (1 : Int64) (1000000000 : Int64) _ hw) wm_M_89 ws_M_within wz_M wc_M_within h9_M_within ⟨by decide, by decide⟩ (Nat.le_of_ble_eq_true rfl) ⟨by decide, by decide⟩ d_M_board_5
  refine st_calli X hR [] [0, 1, 2, 3] (wr := [(a_t, .inr (6, [.int m_thrown, .int m_parts, .ref a_m_stepCount, .ref a_m_froms, .ref a_m_cents, .ref a_m_uses, .ref a_m_stocks, .ref a_m_alternates, .ref a_m_assemblies, .ref a_m_placings, .int m_yields, .ref a_m_yieldAbove, .ref a_m_yieldBelow, .ref a_m_dayCount, .ref a_m_days, .ref a_m_rateAbove, .ref a_m_rateBelow, .long m_tools, .int m_can, .long m_sum, .ref a_m_costs, .ref a_m_pieces, .ref a_m_maker, .ref a_m_partOf, .int m_ran, .int m_keptRows, .ref a_m_keptCosts, .ref a_m_keptPieces, .ref a_m_keptMaker, .ref a_m_keptPart, .ref a_m_oldCosts])), aI g a_m_stepCount 248 m_stepCount, aJ g a_m_froms 1488 m_froms, aJ g a_m_cents 1488 m_cents]) rfl rfl (by decide) (by decide) (by decide) (fun r1 u9 hw => ?_)
  try dsimp only at hw
  refine st_widen (k2 := 0) (n2 := 0) (by decide) (by decide) ?_
  refine st_perm (ws2 := [(a_t, .inr (6, [.int m_thrown, .int m_parts, .ref a_m_stepCount, .ref a_m_froms, .ref a_m_cents, .ref a_m_uses, .ref a_m_stocks, .ref a_m_alternates, .ref a_m_assemblies, .ref a_m_placings, .int m_yields, .ref a_m_yieldAbove, .ref a_m_yieldBelow, .ref a_m_dayCount, .ref a_m_days, .ref a_m_rateAbove, .ref a_m_rateBelow, .long m_tools, .int m_can, .long m_sum, .ref a_m_costs, .ref a_m_pieces, .ref a_m_maker, .ref a_m_partOf, .int m_ran, .int m_keptRows, .ref a_m_keptCosts, .ref a_m_keptPieces, .ref a_m_keptMaker, .ref a_m_keptPart, .ref a_m_oldCosts])), aI g a_m_stepCount 248 m_stepCount, aJ g a_m_froms 1488 m_froms, aJ g a_m_cents 1488 m_cents]) [0, 1, 2, 3] rfl (by decide) ?_
  show ST g C [(a_t, .inr (6, [.int m_thrown, .int m_parts, .ref a_m_stepCount, .ref a_m_froms, .ref a_m_cents, .ref a_m_uses, .ref a_m_stocks, .ref a_m_alternates, .ref a_m_assemblies, .ref a_m_placings, .int m_yields, .ref a_m_yieldAbove, .ref a_m_yieldBelow, .ref a_m_dayCount, .ref a_m_days, .ref a_m_rateAbove, .ref a_m_rateBelow, .long m_tools, .int m_can, .long m_sum, .ref a_m_costs, .ref a_m_pieces, .ref a_m_maker, .ref a_m_partOf, .int m_ran, .int m_keptRows, .ref a_m_keptCosts, .ref a_m_keptPieces, .ref a_m_keptMaker, .ref a_m_keptPart, .ref a_m_oldCosts])), aI g a_m_stepCount 248 m_stepCount, aJ g a_m_froms 1488 m_froms, aJ g a_m_cents 1488 m_cents] [(0, .ref a_t), (1, .int p0), (2, .long p1), (4, .long p2)] [.int r1] 8 0 0
  have J28 : ∀ (v2 : Int32), wp_M_board_J28 p0 p1 p2 m_stepCount m_froms m_cents Q v2 → ST g C [(a_t, .inr (6, [.int m_thrown, .int m_parts, .ref a_m_stepCount, .ref a_m_froms, .ref a_m_cents, .ref a_m_uses, .ref a_m_stocks, .ref a_m_alternates, .ref a_m_assemblies, .ref a_m_placings, .int m_yields, .ref a_m_yieldAbove, .ref a_m_yieldBelow, .ref a_m_dayCount, .ref a_m_days, .ref a_m_rateAbove, .ref a_m_rateBelow, .long m_tools, .int m_can, .long m_sum, .ref a_m_costs, .ref a_m_pieces, .ref a_m_maker, .ref a_m_partOf, .int m_ran, .int m_keptRows, .ref a_m_keptCosts, .ref a_m_keptPieces, .ref a_m_keptMaker, .ref a_m_keptPart, .ref a_m_oldCosts])), aI g a_m_stepCount 248 m_stepCount, aJ g a_m_froms 1488 m_froms, aJ g a_m_cents 1488 m_cents] [(0, .ref a_t), (1, .int p0), (2, .long p1), (4, .long p2)] [.int v2] 28 0 0 := by
    intro v2 hw
    unfold wp_M_board_J28 at hw
    refine st_istore X (lv2 := [(6, .int v2), (0, .ref a_t), (1, .int p0), (2, .long p1), (4, .long p2)]) d_M_board_28 (by decide) rfl ?_
    refine st_aload_n X 1 d_M_board_30 rfl rfl ?_
    refine st_iload_n X 2 d_M_board_31 rfl rfl ?_
    have hR := rn_S (pc := 32) (k := 0) (n := 0) (As := [.int p0]) (rest := [.ref a_t]) X (k_M_isMaker g hg p0 _ hw) wm_M_99 ws_M_isMaker wz_M wc_M_isMaker h9_M_isMaker ⟨by decide, by decide⟩ (Nat.le_of_ble_eq_true rfl) ⟨by decide, by decide⟩ d_M_board_32
    refine st_calli X hR [] [0, 1, 2, 3] (wr := [(a_t, .inr (6, [.int m_thrown, .int m_parts, .ref a_m_stepCount, .ref a_m_froms, .ref a_m_cents, .ref a_m_uses, .ref a_m_stocks, .ref a_m_alternates, .ref a_m_assemblies, .ref a_m_placings, .int m_yields, .ref a_m_yieldAbove, .ref a_m_yieldBelow, .ref a_m_dayCount, .ref a_m_days, .ref a_m_rateAbove, .ref a_m_rateBelow, .long m_tools, .int m_can, .long m_sum, .ref a_m_costs, .ref a_m_pieces, .ref a_m_maker, .ref a_m_partOf, .int m_ran, .int m_keptRows, .ref a_m_keptCosts, .ref a_m_keptPieces, .ref a_m_keptMaker, .ref a_m_keptPart, .ref a_m_oldCosts])), aI g a_m_stepCount 248 m_stepCount, aJ g a_m_froms 1488 m_froms, aJ g a_m_cents 1488 m_cents]) rfl rfl (by decide) (by decide) (by decide) (fun r3 u9 hw => ?_)
    try dsimp only at hw
    refine st_widen (k2 := 0) (n2 := 0) (by decide) (by decide) ?_
    refine st_perm (ws2 := [(a_t, .inr (6, [.int m_thrown, .int m_parts, .ref a_m_stepCount, .ref a_m_froms, .ref a_m_cents, .ref a_m_uses, .ref a_m_stocks, .ref a_m_alternates, .ref a_m_assemblies, .ref a_m_placings, .int m_yields, .ref a_m_yieldAbove, .ref a_m_yieldBelow, .ref a_m_dayCount, .ref a_m_days, .ref a_m_rateAbove, .ref a_m_rateBelow, .long m_tools, .int m_can, .long m_sum, .ref a_m_costs, .ref a_m_pieces, .ref a_m_maker, .ref a_m_partOf, .int m_ran, .int m_keptRows, .ref a_m_keptCosts, .ref a_m_keptPieces, .ref a_m_keptMaker, .ref a_m_keptPart, .ref a_m_oldCosts])), aI g a_m_stepCount 248 m_stepCount, aJ g a_m_froms 1488 m_froms, aJ g a_m_cents 1488 m_cents]) [0, 1, 2, 3] rfl (by decide) ?_
    show ST g C [(a_t, .inr (6, [.int m_thrown, .int m_parts, .ref a_m_stepCount, .ref a_m_froms, .ref a_m_cents, .ref a_m_uses, .ref a_m_stocks, .ref a_m_alternates, .ref a_m_assemblies, .ref a_m_placings, .int m_yields, .ref a_m_yieldAbove, .ref a_m_yieldBelow, .ref a_m_dayCount, .ref a_m_days, .ref a_m_rateAbove, .ref a_m_rateBelow, .long m_tools, .int m_can, .long m_sum, .ref a_m_costs, .ref a_m_pieces, .ref a_m_maker, .ref a_m_partOf, .int m_ran, .int m_keptRows, .ref a_m_keptCosts, .ref a_m_keptPieces, .ref a_m_keptMaker, .ref a_m_keptPart, .ref a_m_oldCosts])), aI g a_m_stepCount 248 m_stepCount, aJ g a_m_froms 1488 m_froms, aJ g a_m_cents 1488 m_cents] [(6, .int v2), (0, .ref a_t), (1, .int p0), (2, .long p1), (4, .long p2)] [.int r3, .ref a_t] 35 0 0
    have J52 : ∀ (v4 : Int32), wp_M_board_J52 p0 p1 p2 m_stepCount m_froms m_cents Q v4 → ST g C [(a_t, .inr (6, [.int m_thrown, .int m_parts, .ref a_m_stepCount, .ref a_m_froms, .ref a_m_cents, .ref a_m_uses, .ref a_m_stocks, .ref a_m_alternates, .ref a_m_assemblies, .ref a_m_placings, .int m_yields, .ref a_m_yieldAbove, .ref a_m_yieldBelow, .ref a_m_dayCount, .ref a_m_days, .ref a_m_rateAbove, .ref a_m_rateBelow, .long m_tools, .int m_can, .long m_sum, .ref a_m_costs, .ref a_m_pieces, .ref a_m_maker, .ref a_m_partOf, .int m_ran, .int m_keptRows, .ref a_m_keptCosts, .ref a_m_keptPieces, .ref a_m_keptMaker, .ref a_m_keptPart, .ref a_m_oldCosts])), aI g a_m_stepCount 248 m_stepCount, aJ g a_m_froms 1488 m_froms, aJ g a_m_cents 1488 m_cents] [(0, .ref a_t), (1, .int p0), (2, .long p1), (4, .long p2), (6, .int v2)] [.int v4, .ref a_t] 52 0 0 := by
      intro v4 hw
      unfold wp_M_board_J52 at hw
      refine st_put X (ci := 6) (ty := .int) in_M t_M to_M nm_M 0 0 wf_M_80 rfl rfl (by decide) rfl (by decide +kernel) rfl rfl (Nat.le_of_ble_eq_true rfl) (ws2 := [(a_t, .inr (6, [.int v4, .int m_parts, .ref a_m_stepCount, .ref a_m_froms, .ref a_m_cents, .ref a_m_uses, .ref a_m_stocks, .ref a_m_alternates, .ref a_m_assemblies, .ref a_m_placings, .int m_yields, .ref a_m_yieldAbove, .ref a_m_yieldBelow, .ref a_m_dayCount, .ref a_m_days, .ref a_m_rateAbove, .ref a_m_rateBelow, .long m_tools, .int m_can, .long m_sum, .ref a_m_costs, .ref a_m_pieces, .ref a_m_maker, .ref a_m_partOf, .int m_ran, .int m_keptRows, .ref a_m_keptCosts, .ref a_m_keptPieces, .ref a_m_keptMaker, .ref a_m_keptPart, .ref a_m_oldCosts])), aI g a_m_stepCount 248 m_stepCount, aJ g a_m_froms 1488 m_froms, aJ g a_m_cents 1488 m_cents]) rfl d_M_board_52 ?_
      refine st_aload_n X 0 d_M_board_55 rfl rfl ?_
      refine st_get X (ci := 6) in_M 0 0 wf_M_80 rfl rfl (by decide) rfl d_M_board_56 ?_
      have J82 : ∀ (v5 : Int32) (f6 : Nat → Int32) (f7 : Nat → Int64) (f8 : Nat → Int64), wp_M_board_J82 v4 Q v5 f6 f7 f8 → ST g C [(a_t, .inr (6, [.int v4, .int m_parts, .ref a_m_stepCount, .ref a_m_froms, .ref a_m_cents, .ref a_m_uses, .ref a_m_stocks, .ref a_m_alternates, .ref a_m_assemblies, .ref a_m_placings, .int m_yields, .ref a_m_yieldAbove, .ref a_m_yieldBelow, .ref a_m_dayCount, .ref a_m_days, .ref a_m_rateAbove, .ref a_m_rateBelow, .long m_tools, .int m_can, .long m_sum, .ref a_m_costs, .ref a_m_pieces, .ref a_m_maker, .ref a_m_partOf, .int m_ran, .int m_keptRows, .ref a_m_keptCosts, .ref a_m_keptPieces, .ref a_m_keptMaker, .ref a_m_keptPart, .ref a_m_oldCosts])), aI g a_m_stepCount 248 f6, aJ g a_m_froms 1488 f7, aJ g a_m_cents 1488 f8] [(0, .ref a_t), (1, .int p0), (2, .long p1), (4, .long p2), (6, .int v2)] [.int v5] 82 0 0 := by
        intro v5 f6 f7 f8 hw
        unfold wp_M_board_J82 at hw
        obtain ⟨hz, hw⟩ := hw
        exact st_zret X hr (v4, f6, f7, f8) hw hz rfl (by decide) (by decide) d_M_board_82
      have J81 : ∀ (f9 : Nat → Int32) (f10 : Nat → Int64) (f11 : Nat → Int64), wp_M_board_J81 v4 Q f9 f10 f11 → ST g C [(a_t, .inr (6, [.int v4, .int m_parts, .ref a_m_stepCount, .ref a_m_froms, .ref a_m_cents, .ref a_m_uses, .ref a_m_stocks, .ref a_m_alternates, .ref a_m_assemblies, .ref a_m_placings, .int m_yields, .ref a_m_yieldAbove, .ref a_m_yieldBelow, .ref a_m_dayCount, .ref a_m_days, .ref a_m_rateAbove, .ref a_m_rateBelow, .long m_tools, .int m_can, .long m_sum, .ref a_m_costs, .ref a_m_pieces, .ref a_m_maker, .ref a_m_partOf, .int m_ran, .int m_keptRows, .ref a_m_keptCosts, .ref a_m_keptPieces, .ref a_m_keptMaker, .ref a_m_keptPart, .ref a_m_oldCosts])), aI g a_m_stepCount 248 f9, aJ g a_m_froms 1488 f10, aJ g a_m_cents 1488 f11] [(0, .ref a_t), (1, .int p0), (2, .long p1), (4, .long p2), (6, .int v2)] [] 81 0 0 := by
        intro f9 f10 f11 hw
        unfold wp_M_board_J81 at hw
        refine st_iconst X (v := 0) d_M_board_81 (by decide) ?_
        refine st_lv [0, 1, 2, 3, 4] rfl ?_
        exact J82 0 f9 f10 f11 hw
      refine st_if_ne X 81 d_M_board_59 (by decide) (fun hc => ?_) (fun hc => ?_)
      · replace hw := hw.1 hc
        refine st_lv [0, 1, 2, 3, 4] rfl ?_
        exact J81 m_stepCount m_froms m_cents hw
      · replace hw := hw.2 hc
        refine st_aload_n X 0 d_M_board_62 rfl rfl ?_
        refine st_sipush X (v := 240) d_M_board_63 (by decide) ?_
        refine st_iload_n X 1 d_M_board_66 rfl rfl ?_
        refine st_iadd X d_M_board_67 ?_
        refine st_lload_n X 2 d_M_board_68 rfl rfl ?_
        refine st_lload X 3 d_M_board_69 rfl ?_
        have hR := rn_V (pc := 71) (k := 0) (n := 0) (As := [.int (240 + p0), .long p1, .long p2]) (rest := []) X (k_M_tellStep g hg a_t (240 + p0) p1 p2 v4 m_parts a_m_stepCount a_m_froms a_m_cents a_m_uses a_m_stocks a_m_alternates a_m_assemblies a_m_placings m_yields a_m_yieldAbove a_m_yieldBelow a_m_dayCount a_m_days a_m_rateAbove a_m_rateBelow m_tools m_can m_sum a_m_costs a_m_pieces a_m_maker a_m_partOf m_ran m_keptRows a_m_keptCosts a_m_keptPieces a_m_keptMaker a_m_keptPart a_m_oldCosts m_stepCount m_froms m_cents _ hw) (q0 := 0) rfl rfl wm_M_102 wi_M_tellStep wl_M_tellStep wz_M wc_M_tellStep h9_M_tellStep ⟨by decide, by decide⟩ (Nat.le_of_ble_eq_true rfl) ⟨by decide, by decide⟩ d_M_board_71
        refine st_calli X hR [0, 1, 2, 3] [] (wr := []) rfl rfl (by decide) (by decide) (by decide) (fun r15 u9 hw => ?_)
        obtain ⟨u12, u13, u14⟩ := u9
        try dsimp only at hw
        refine st_widen (k2 := 0) (n2 := 0) (by decide) (by decide) ?_
        refine st_perm (ws2 := [(a_t, .inr (6, [.int v4, .int m_parts, .ref a_m_stepCount, .ref a_m_froms, .ref a_m_cents, .ref a_m_uses, .ref a_m_stocks, .ref a_m_alternates, .ref a_m_assemblies, .ref a_m_placings, .int m_yields, .ref a_m_yieldAbove, .ref a_m_yieldBelow, .ref a_m_dayCount, .ref a_m_days, .ref a_m_rateAbove, .ref a_m_rateBelow, .long m_tools, .int m_can, .long m_sum, .ref a_m_costs, .ref a_m_pieces, .ref a_m_maker, .ref a_m_partOf, .int m_ran, .int m_keptRows, .ref a_m_keptCosts, .ref a_m_keptPieces, .ref a_m_keptMaker, .ref a_m_keptPart, .ref a_m_oldCosts])), aI g a_m_stepCount 248 u12, aJ g a_m_froms 1488 u13, aJ g a_m_cents 1488 u14]) [0, 1, 2, 3] rfl (by decide) ?_
        show ST g C [(a_t, .inr (6, [.int v4, .int m_parts, .ref a_m_stepCount, .ref a_m_froms, .ref a_m_cents, .ref a_m_uses, .ref a_m_stocks, .ref a_m_alternates, .ref a_m_assemblies, .ref a_m_placings, .int m_yields, .ref a_m_yieldAbove, .ref a_m_yieldBelow, .ref a_m_dayCount, .ref a_m_days, .ref a_m_rateAbove, .ref a_m_rateBelow, .long m_tools, .int m_can, .long m_sum, .ref a_m_costs, .ref a_m_pieces, .ref a_m_maker, .ref a_m_partOf, .int m_ran, .int m_keptRows, .ref a_m_keptCosts, .ref a_m_keptPieces, .ref a_m_keptMaker, .ref a_m_keptPart, .ref a_m_oldCosts])), aI g a_m_stepCount 248 u12, aJ g a_m_froms 1488 u13, aJ g a_m_cents 1488 u14] [(0, .ref a_t), (1, .int p0), (2, .long p1), (4, .long p2), (6, .int v2)] [.int r15] 74 0 0
        refine st_if_eq X 81 d_M_board_74 (by decide) (fun hc => ?_) (fun hc => ?_)
        · replace hw := hw.1 hc
          refine st_lv [0, 1, 2, 3, 4] rfl ?_
          exact J81 u12 u13 u14 hw
        · replace hw := hw.2 hc
          refine st_iconst X (v := 1) d_M_board_77 (by decide) ?_
          refine st_goto X 82 d_M_board_78 (by decide) ?_
          refine st_lv [0, 1, 2, 3, 4] rfl ?_
          exact J82 1 u12 u13 u14 hw
    refine st_if_ne X 42 d_M_board_35 (by decide) (fun hc => ?_) (fun hc => ?_)
    · replace hw := hw.1 hc
      refine st_iload X 0 d_M_board_42 rfl ?_
      refine st_if_eq X 51 d_M_board_44 (by decide) (fun hc => ?_) (fun hc => ?_)
      · replace hw := hw.1 hc
        refine st_iconst X (v := 2) d_M_board_51 (by decide) ?_
        refine st_lv [1, 2, 3, 4, 0] rfl ?_
        exact J52 2 hw
      · replace hw := hw.2 hc
        refine st_iconst X (v := 0) d_M_board_47 (by decide) ?_
        refine st_goto X 52 d_M_board_48 (by decide) ?_
        refine st_lv [1, 2, 3, 4, 0] rfl ?_
        exact J52 0 hw
    · replace hw := hw.2 hc
      refine st_iconst X (v := 1) d_M_board_38 (by decide) ?_
      refine st_goto X 52 d_M_board_39 (by decide) ?_
      refine st_lv [1, 2, 3, 4, 0] rfl ?_
      exact J52 1 hw
  have J27 : wp_M_board_J27 p0 p1 p2 m_stepCount m_froms m_cents Q → ST g C [(a_t, .inr (6, [.int m_thrown, .int m_parts, .ref a_m_stepCount, .ref a_m_froms, .ref a_m_cents, .ref a_m_uses, .ref a_m_stocks, .ref a_m_alternates, .ref a_m_assemblies, .ref a_m_placings, .int m_yields, .ref a_m_yieldAbove, .ref a_m_yieldBelow, .ref a_m_dayCount, .ref a_m_days, .ref a_m_rateAbove, .ref a_m_rateBelow, .long m_tools, .int m_can, .long m_sum, .ref a_m_costs, .ref a_m_pieces, .ref a_m_maker, .ref a_m_partOf, .int m_ran, .int m_keptRows, .ref a_m_keptCosts, .ref a_m_keptPieces, .ref a_m_keptMaker, .ref a_m_keptPart, .ref a_m_oldCosts])), aI g a_m_stepCount 248 m_stepCount, aJ g a_m_froms 1488 m_froms, aJ g a_m_cents 1488 m_cents] [(0, .ref a_t), (1, .int p0), (2, .long p1), (4, .long p2)] [] 27 0 0 := by
    intro hw
    unfold wp_M_board_J27 at hw
    refine st_iconst X (v := 0) d_M_board_27 (by decide) ?_
    refine st_lv [0, 1, 2, 3] rfl ?_
    exact J28 0 hw
  refine st_if_eq X 27 d_M_board_8 (by decide) (fun hc => ?_) (fun hc => ?_)
  · replace hw := hw.1 hc
    refine st_lv [0, 1, 2, 3] rfl ?_
    exact J27 hw
  · replace hw := hw.2 hc
    refine st_lload X 3 d_M_board_11 rfl ?_
    refine st_lconst X (v := 1) d_M_board_13 (by decide) ?_
    refine st_ldc2 X wv_M_93 d_M_board_14 ?_
    have hR := rn_S (pc := 17) (k := 0) (n := 0) (As := [.long p2, .long 1, .long 100000]) (rest := []) X (k_M_within g hg p2 (1 : Int64) (100000 : Int64) _ hw) wm_M_89 ws_M_within wz_M wc_M_within h9_M_within ⟨by decide, by decide⟩ (Nat.le_of_ble_eq_true rfl) ⟨by decide, by decide⟩ d_M_board_17
    refine st_calli X hR [] [0, 1, 2, 3] (wr := [(a_t, .inr (6, [.int m_thrown, .int m_parts, .ref a_m_stepCount, .ref a_m_froms, .ref a_m_cents, .ref a_m_uses, .ref a_m_stocks, .ref a_m_alternates, .ref a_m_assemblies, .ref a_m_placings, .int m_yields, .ref a_m_yieldAbove, .ref a_m_yieldBelow, .ref a_m_dayCount, .ref a_m_days, .ref a_m_rateAbove, .ref a_m_rateBelow, .long m_tools, .int m_can, .long m_sum, .ref a_m_costs, .ref a_m_pieces, .ref a_m_maker, .ref a_m_partOf, .int m_ran, .int m_keptRows, .ref a_m_keptCosts, .ref a_m_keptPieces, .ref a_m_keptMaker, .ref a_m_keptPart, .ref a_m_oldCosts])), aI g a_m_stepCount 248 m_stepCount, aJ g a_m_froms 1488 m_froms, aJ g a_m_cents 1488 m_cents]) rfl rfl (by decide) (by decide) (by decide) (fun r16 u9 hw => ?_)
    try dsimp only at hw
    refine st_widen (k2 := 0) (n2 := 0) (by decide) (by decide) ?_
    refine st_perm (ws2 := [(a_t, .inr (6, [.int m_thrown, .int m_parts, .ref a_m_stepCount, .ref a_m_froms, .ref a_m_cents, .ref a_m_uses, .ref a_m_stocks, .ref a_m_alternates, .ref a_m_assemblies, .ref a_m_placings, .int m_yields, .ref a_m_yieldAbove, .ref a_m_yieldBelow, .ref a_m_dayCount, .ref a_m_days, .ref a_m_rateAbove, .ref a_m_rateBelow, .long m_tools, .int m_can, .long m_sum, .ref a_m_costs, .ref a_m_pieces, .ref a_m_maker, .ref a_m_partOf, .int m_ran, .int m_keptRows, .ref a_m_keptCosts, .ref a_m_keptPieces, .ref a_m_keptMaker, .ref a_m_keptPart, .ref a_m_oldCosts])), aI g a_m_stepCount 248 m_stepCount, aJ g a_m_froms 1488 m_froms, aJ g a_m_cents 1488 m_cents]) [0, 1, 2, 3] rfl (by decide) ?_
    show ST g C [(a_t, .inr (6, [.int m_thrown, .int m_parts, .ref a_m_stepCount, .ref a_m_froms, .ref a_m_cents, .ref a_m_uses, .ref a_m_stocks, .ref a_m_alternates, .ref a_m_assemblies, .ref a_m_placings, .int m_yields, .ref a_m_yieldAbove, .ref a_m_yieldBelow, .ref a_m_dayCount, .ref a_m_days, .ref a_m_rateAbove, .ref a_m_rateBelow, .long m_tools, .int m_can, .long m_sum, .ref a_m_costs, .ref a_m_pieces, .ref a_m_maker, .ref a_m_partOf, .int m_ran, .int m_keptRows, .ref a_m_keptCosts, .ref a_m_keptPieces, .ref a_m_keptMaker, .ref a_m_keptPart, .ref a_m_oldCosts])), aI g a_m_stepCount 248 m_stepCount, aJ g a_m_froms 1488 m_froms, aJ g a_m_cents 1488 m_cents] [(0, .ref a_t), (1, .int p0), (2, .long p1), (4, .long p2)] [.int r16] 20 0 0
    refine st_if_eq X 27 d_M_board_20 (by decide) (fun hc => ?_) (fun hc => ?_)
    · replace hw := hw.1 hc
      refine st_lv [0, 1, 2, 3] rfl ?_
      exact J27 hw
    · replace hw := hw.2 hc
      refine st_iconst X (v := 1) d_M_board_23 (by decide) ?_
      refine st_goto X 28 d_M_board_24 (by decide) ?_
      refine st_lv [0, 1, 2, 3] rfl ?_
      exact J28 1 hw

theorem h9_M_uses : y_M_uses.cls ≠ "java/lang/invoke/MethodHandle" ∧ y_M_uses.cls ≠ "java/lang/invoke/VarHandle" ∧ (parseMethodDescriptor y_M_uses.desc).map (fun d => d.parameters.length) = some 2 := by decide +kernel
def wp_M_uses_J50 (m_uses : Nat → Int64) (v2 : Int32) (Q : Int32 → Int32 → (Nat → Int64) → Prop) : Prop :=
  ((0 : Int32) = 0 ∨ (0 : Int32) = 1) ∧ Q 0 v2 m_uses
def wp_M_uses_J29 (p0 : Int32) (p1 : Int64) (m_uses : Nat → Int64) (Q : Int32 → Int32 → (Nat → Int64) → Prop) (v2 : Int32) : Prop :=
  ((¬ v2 = 0) → wp_M_uses_J50 m_uses v2 Q) ∧
  ((v2 = 0) → vp_in p0 30 ∧
  ((¬ (m_uses p0.toNatClampNeg) = p1) → vp_in p0 30 ∧
  ∀ f3 : Nat → Int64, f3 = vp_updL m_uses p0.toNatClampNeg p1 →
  ((1 : Int32) = 0 ∨ (1 : Int32) = 1) ∧ Q 1 v2 f3) ∧
  (((m_uses p0.toNatClampNeg) = p1) → wp_M_uses_J50 m_uses v2 Q))
def wp_M_uses (p0 : Int32) (p1 : Int64) (m_parts : Int32) (m_uses : Nat → Int64) (Q : Int32 → Int32 → (Nat → Int64) → Prop) : Prop :=
  wp_M_isPart p0 m_parts (fun r1 =>
  ((¬ r1 = 0) → wp_M_within p1 (0 : Int64) (1000 : Int64) (fun r4 =>
  ((r4 = 0) → wp_M_uses_J29 p0 p1 m_uses Q 2) ∧
  ((¬ r4 = 0) → wp_M_uses_J29 p0 p1 m_uses Q 0))) ∧
  ((r1 = 0) → wp_M_uses_J29 p0 p1 m_uses Q 1))
set_option maxHeartbeats 4000000 in
set_option maxRecDepth 100000 in
theorem k_M_uses (g : GX) (hg : g.1.stackTraces = false) (a_t : Nat) (p0 : Int32) (p1 : Int64) (m_thrown : Int32) (m_parts : Int32) (a_m_stepCount : Nat) (a_m_froms : Nat) (a_m_cents : Nat) (a_m_uses : Nat) (a_m_stocks : Nat) (a_m_alternates : Nat) (a_m_assemblies : Nat) (a_m_placings : Nat) (m_yields : Int32) (a_m_yieldAbove : Nat) (a_m_yieldBelow : Nat) (a_m_dayCount : Nat) (a_m_days : Nat) (a_m_rateAbove : Nat) (a_m_rateBelow : Nat) (m_tools : Int64) (m_can : Int32) (m_sum : Int64) (a_m_costs : Nat) (a_m_pieces : Nat) (a_m_maker : Nat) (a_m_partOf : Nat) (m_ran : Int32) (m_keptRows : Int32) (a_m_keptCosts : Nat) (a_m_keptPieces : Nat) (a_m_keptMaker : Nat) (a_m_keptPart : Nat) (a_m_oldCosts : Nat) (m_uses : Nat → Int64) (Q : Int32 → Int32 → (Nat → Int64) → Prop) (hw : wp_M_uses p0 p1 m_parts m_uses Q) : CT g y_M_uses c_M_uses 4 (some .boolean) ({ frames := 1, cells := 0, slots := 0, locals := 25 } : Room) [.ref a_t, .int p0, .long p1] [(a_t, .inr (6, [.int m_thrown, .int m_parts, .ref a_m_stepCount, .ref a_m_froms, .ref a_m_cents, .ref a_m_uses, .ref a_m_stocks, .ref a_m_alternates, .ref a_m_assemblies, .ref a_m_placings, .int m_yields, .ref a_m_yieldAbove, .ref a_m_yieldBelow, .ref a_m_dayCount, .ref a_m_days, .ref a_m_rateAbove, .ref a_m_rateBelow, .long m_tools, .int m_can, .long m_sum, .ref a_m_costs, .ref a_m_pieces, .ref a_m_maker, .ref a_m_partOf, .int m_ran, .int m_keptRows, .ref a_m_keptCosts, .ref a_m_keptPieces, .ref a_m_keptMaker, .ref a_m_keptPart, .ref a_m_oldCosts])), aJ g a_m_uses 30 m_uses] (QI g [(a_t, .inr (6, [.int m_thrown, .int m_parts, .ref a_m_stepCount, .ref a_m_froms, .ref a_m_cents, .ref a_m_uses, .ref a_m_stocks, .ref a_m_alternates, .ref a_m_assemblies, .ref a_m_placings, .int m_yields, .ref a_m_yieldAbove, .ref a_m_yieldBelow, .ref a_m_dayCount, .ref a_m_days, .ref a_m_rateAbove, .ref a_m_rateBelow, .long m_tools, .int m_can, .long m_sum, .ref a_m_costs, .ref a_m_pieces, .ref a_m_maker, .ref a_m_partOf, .int m_ran, .int m_keptRows, .ref a_m_keptCosts, .ref a_m_keptPieces, .ref a_m_keptMaker, .ref a_m_keptPart, .ref a_m_oldCosts])), aJ g a_m_uses 30 m_uses] (fun u : Int32 × (Nat → Int64) => [(a_t, .inr (6, [.int u.1, .int m_parts, .ref a_m_stepCount, .ref a_m_froms, .ref a_m_cents, .ref a_m_uses, .ref a_m_stocks, .ref a_m_alternates, .ref a_m_assemblies, .ref a_m_placings, .int m_yields, .ref a_m_yieldAbove, .ref a_m_yieldBelow, .ref a_m_dayCount, .ref a_m_days, .ref a_m_rateAbove, .ref a_m_rateBelow, .long m_tools, .int m_can, .long m_sum, .ref a_m_costs, .ref a_m_pieces, .ref a_m_maker, .ref a_m_partOf, .int m_ran, .int m_keptRows, .ref a_m_keptCosts, .ref a_m_keptPieces, .ref a_m_keptMaker, .ref a_m_keptPart, .ref a_m_oldCosts])), aJ g a_m_uses 30 u.2]) (fun r u => Q r u.1 u.2)) := by
  refine ct_of hg (by decide) (Nat.le_of_ble_eq_true rfl) (fun sz C X hr => ?_)
  unfold wp_M_uses at hw
  show ST g C [(a_t, .inr (6, [.int m_thrown, .int m_parts, .ref a_m_stepCount, .ref a_m_froms, .ref a_m_cents, .ref a_m_uses, .ref a_m_stocks, .ref a_m_alternates, .ref a_m_assemblies, .ref a_m_placings, .int m_yields, .ref a_m_yieldAbove, .ref a_m_yieldBelow, .ref a_m_dayCount, .ref a_m_days, .ref a_m_rateAbove, .ref a_m_rateBelow, .long m_tools, .int m_can, .long m_sum, .ref a_m_costs, .ref a_m_pieces, .ref a_m_maker, .ref a_m_partOf, .int m_ran, .int m_keptRows, .ref a_m_keptCosts, .ref a_m_keptPieces, .ref a_m_keptMaker, .ref a_m_keptPart, .ref a_m_oldCosts])), aJ g a_m_uses 30 m_uses] [(0, .ref a_t), (1, .int p0), (2, .long p1)] [] 0 0 0
  refine st_aload_n X 0 d_M_uses_0 rfl rfl ?_
  refine st_aload_n X 0 d_M_uses_1 rfl rfl ?_
  refine st_iload_n X 1 d_M_uses_2 rfl rfl ?_
  have hR := rn_V (pc := 3) (k := 0) (n := 0) (As := [.int p0]) (rest := [.ref a_t]) X (k_M_isPart g hg a_t p0 m_thrown m_parts a_m_stepCount a_m_froms a_m_cents a_m_uses a_m_stocks a_m_alternates a_m_assemblies a_m_placings m_yields a_m_yieldAbove a_m_yieldBelow a_m_dayCount a_m_days a_m_rateAbove a_m_rateBelow m_tools m_can m_sum a_m_costs a_m_pieces a_m_maker a_m_partOf m_ran m_keptRows a_m_keptCosts a_m_keptPieces a_m_keptMaker a_m_keptPart a_m_oldCosts _ hw) (q0 := 0) rfl rfl wm_M_95 wi_M_isPart wl_M_isPart wz_M wc_M_isPart h9_M_isPart ⟨by decide, by decide⟩ (Nat.le_of_ble_eq_true rfl) ⟨by decide, by decide⟩ d_M_uses_3
  refine st_calli X hR [0] [1] (wr := [aJ g a_m_uses 30 m_uses]) rfl rfl (by decide) (by decide) (by decide) (fun r1 u9 hw => ?_)
  try dsimp only at hw
  refine st_widen (k2 := 0) (n2 := 0) (by decide) (by decide) ?_
  refine st_perm (ws2 := [(a_t, .inr (6, [.int m_thrown, .int m_parts, .ref a_m_stepCount, .ref a_m_froms, .ref a_m_cents, .ref a_m_uses, .ref a_m_stocks, .ref a_m_alternates, .ref a_m_assemblies, .ref a_m_placings, .int m_yields, .ref a_m_yieldAbove, .ref a_m_yieldBelow, .ref a_m_dayCount, .ref a_m_days, .ref a_m_rateAbove, .ref a_m_rateBelow, .long m_tools, .int m_can, .long m_sum, .ref a_m_costs, .ref a_m_pieces, .ref a_m_maker, .ref a_m_partOf, .int m_ran, .int m_keptRows, .ref a_m_keptCosts, .ref a_m_keptPieces, .ref a_m_keptMaker, .ref a_m_keptPart, .ref a_m_oldCosts])), aJ g a_m_uses 30 m_uses]) [1, 0] rfl (by decide) ?_
  show ST g C [(a_t, .inr (6, [.int m_thrown, .int m_parts, .ref a_m_stepCount, .ref a_m_froms, .ref a_m_cents, .ref a_m_uses, .ref a_m_stocks, .ref a_m_alternates, .ref a_m_assemblies, .ref a_m_placings, .int m_yields, .ref a_m_yieldAbove, .ref a_m_yieldBelow, .ref a_m_dayCount, .ref a_m_days, .ref a_m_rateAbove, .ref a_m_rateBelow, .long m_tools, .int m_can, .long m_sum, .ref a_m_costs, .ref a_m_pieces, .ref a_m_maker, .ref a_m_partOf, .int m_ran, .int m_keptRows, .ref a_m_keptCosts, .ref a_m_keptPieces, .ref a_m_keptMaker, .ref a_m_keptPart, .ref a_m_oldCosts])), aJ g a_m_uses 30 m_uses] [(0, .ref a_t), (1, .int p0), (2, .long p1)] [.int r1, .ref a_t] 6 0 0
  have J29 : ∀ (v2 : Int32), wp_M_uses_J29 p0 p1 m_uses Q v2 → ST g C [(a_t, .inr (6, [.int m_thrown, .int m_parts, .ref a_m_stepCount, .ref a_m_froms, .ref a_m_cents, .ref a_m_uses, .ref a_m_stocks, .ref a_m_alternates, .ref a_m_assemblies, .ref a_m_placings, .int m_yields, .ref a_m_yieldAbove, .ref a_m_yieldBelow, .ref a_m_dayCount, .ref a_m_days, .ref a_m_rateAbove, .ref a_m_rateBelow, .long m_tools, .int m_can, .long m_sum, .ref a_m_costs, .ref a_m_pieces, .ref a_m_maker, .ref a_m_partOf, .int m_ran, .int m_keptRows, .ref a_m_keptCosts, .ref a_m_keptPieces, .ref a_m_keptMaker, .ref a_m_keptPart, .ref a_m_oldCosts])), aJ g a_m_uses 30 m_uses] [(0, .ref a_t), (1, .int p0), (2, .long p1)] [.int v2, .ref a_t] 29 0 0 := by
    intro v2 hw
    unfold wp_M_uses_J29 at hw
    refine st_put X (ci := 6) (ty := .int) in_M t_M to_M nm_M 0 0 wf_M_80 rfl rfl (by decide) rfl (by decide +kernel) rfl rfl (Nat.le_of_ble_eq_true rfl) (ws2 := [(a_t, .inr (6, [.int v2, .int m_parts, .ref a_m_stepCount, .ref a_m_froms, .ref a_m_cents, .ref a_m_uses, .ref a_m_stocks, .ref a_m_alternates, .ref a_m_assemblies, .ref a_m_placings, .int m_yields, .ref a_m_yieldAbove, .ref a_m_yieldBelow, .ref a_m_dayCount, .ref a_m_days, .ref a_m_rateAbove, .ref a_m_rateBelow, .long m_tools, .int m_can, .long m_sum, .ref a_m_costs, .ref a_m_pieces, .ref a_m_maker, .ref a_m_partOf, .int m_ran, .int m_keptRows, .ref a_m_keptCosts, .ref a_m_keptPieces, .ref a_m_keptMaker, .ref a_m_keptPart, .ref a_m_oldCosts])), aJ g a_m_uses 30 m_uses]) rfl d_M_uses_29 ?_
    refine st_aload_n X 0 d_M_uses_32 rfl rfl ?_
    refine st_get X (ci := 6) in_M 0 0 wf_M_80 rfl rfl (by decide) rfl d_M_uses_33 ?_
    have J50 : wp_M_uses_J50 m_uses v2 Q → ST g C [(a_t, .inr (6, [.int v2, .int m_parts, .ref a_m_stepCount, .ref a_m_froms, .ref a_m_cents, .ref a_m_uses, .ref a_m_stocks, .ref a_m_alternates, .ref a_m_assemblies, .ref a_m_placings, .int m_yields, .ref a_m_yieldAbove, .ref a_m_yieldBelow, .ref a_m_dayCount, .ref a_m_days, .ref a_m_rateAbove, .ref a_m_rateBelow, .long m_tools, .int m_can, .long m_sum, .ref a_m_costs, .ref a_m_pieces, .ref a_m_maker, .ref a_m_partOf, .int m_ran, .int m_keptRows, .ref a_m_keptCosts, .ref a_m_keptPieces, .ref a_m_keptMaker, .ref a_m_keptPart, .ref a_m_oldCosts])), aJ g a_m_uses 30 m_uses] [(0, .ref a_t), (1, .int p0), (2, .long p1)] [] 50 0 0 := by
      intro hw
      unfold wp_M_uses_J50 at hw
      refine st_iconst X (v := 0) d_M_uses_50 (by decide) ?_
      obtain ⟨hz, hw⟩ := hw
      exact st_zret X hr (v2, m_uses) hw hz rfl (by decide) (by decide) d_M_uses_51
    refine st_if_ne X 50 d_M_uses_36 (by decide) (fun hc => ?_) (fun hc => ?_)
    · replace hw := hw.1 hc
      refine st_lv [0, 1, 2] rfl ?_
      exact J50 hw
    · replace hw := hw.2 hc
      refine st_aload_n X 0 d_M_uses_39 rfl rfl ?_
      refine st_get X (ci := 6) in_M 0 5 wf_M_20 rfl rfl (by decide) rfl d_M_uses_40 ?_
      refine st_iload_n X 1 d_M_uses_43 rfl rfl ?_
      obtain ⟨hb1, hw⟩ := hw
      refine st_lald X 1 rfl hb1 d_M_uses_44 ?_
      refine st_lload_n X 2 d_M_uses_45 rfl rfl ?_
      refine st_lcmp_ne X 52 d_M_uses_46 d_M_uses_47 (by decide) (fun hc => ?_) (fun hc => ?_)
      · replace hw := hw.1 hc
        refine st_aload_n X 0 d_M_uses_52 rfl rfl ?_
        refine st_get X (ci := 6) in_M 0 5 wf_M_20 rfl rfl (by decide) rfl d_M_uses_53 ?_
        refine st_iload_n X 1 d_M_uses_56 rfl rfl ?_
        refine st_lload_n X 2 d_M_uses_57 rfl rfl ?_
        obtain ⟨hb2, hw⟩ := hw
        obtain ⟨f3, hf3⟩ : ∃ z : Nat → Int64, z = vp_updL m_uses p0.toNatClampNeg p1 := ⟨_, rfl⟩
        replace hw := hw f3 hf3
        refine st_last X (ws2 := [(a_t, .inr (6, [.int v2, .int m_parts, .ref a_m_stepCount, .ref a_m_froms, .ref a_m_cents, .ref a_m_uses, .ref a_m_stocks, .ref a_m_alternates, .ref a_m_assemblies, .ref a_m_placings, .int m_yields, .ref a_m_yieldAbove, .ref a_m_yieldBelow, .ref a_m_dayCount, .ref a_m_days, .ref a_m_rateAbove, .ref a_m_rateBelow, .long m_tools, .int m_can, .long m_sum, .ref a_m_costs, .ref a_m_pieces, .ref a_m_maker, .ref a_m_partOf, .int m_ran, .int m_keptRows, .ref a_m_keptCosts, .ref a_m_keptPieces, .ref a_m_keptMaker, .ref a_m_keptPart, .ref a_m_oldCosts])), aJ g a_m_uses 30 f3]) 1 rfl hb2 (by rw [hf3]; rfl) d_M_uses_58 ?_
        refine st_iconst X (v := 1) d_M_uses_59 (by decide) ?_
        obtain ⟨hz, hw⟩ := hw
        exact st_zret X hr (v2, f3) hw hz rfl (by decide) (by decide) d_M_uses_60
      · replace hw := hw.2 hc
        refine st_lv [0, 1, 2] rfl ?_
        exact J50 hw
  refine st_if_ne X 13 d_M_uses_6 (by decide) (fun hc => ?_) (fun hc => ?_)
  · replace hw := hw.1 hc
    refine st_lload_n X 2 d_M_uses_13 rfl rfl ?_
    refine st_lconst X (v := 0) d_M_uses_14 (by decide) ?_
    refine st_ldc2 X wv_M_106 d_M_uses_15 ?_
    have hR := rn_S (pc := 18) (k := 0) (n := 0) (As := [.long p1, .long 0, .long 1000]) (rest := [.ref a_t]) X (k_M_within g hg p1 (0 : Int64) (1000 : Int64) _ hw) wm_M_89 ws_M_within wz_M wc_M_within h9_M_within ⟨by decide, by decide⟩ (Nat.le_of_ble_eq_true rfl) ⟨by decide, by decide⟩ d_M_uses_18
    refine st_calli X hR [] [0, 1] (wr := [(a_t, .inr (6, [.int m_thrown, .int m_parts, .ref a_m_stepCount, .ref a_m_froms, .ref a_m_cents, .ref a_m_uses, .ref a_m_stocks, .ref a_m_alternates, .ref a_m_assemblies, .ref a_m_placings, .int m_yields, .ref a_m_yieldAbove, .ref a_m_yieldBelow, .ref a_m_dayCount, .ref a_m_days, .ref a_m_rateAbove, .ref a_m_rateBelow, .long m_tools, .int m_can, .long m_sum, .ref a_m_costs, .ref a_m_pieces, .ref a_m_maker, .ref a_m_partOf, .int m_ran, .int m_keptRows, .ref a_m_keptCosts, .ref a_m_keptPieces, .ref a_m_keptMaker, .ref a_m_keptPart, .ref a_m_oldCosts])), aJ g a_m_uses 30 m_uses]) rfl rfl (by decide) (by decide) (by decide) (fun r4 u9 hw => ?_)
    try dsimp only at hw
    refine st_widen (k2 := 0) (n2 := 0) (by decide) (by decide) ?_
    refine st_perm (ws2 := [(a_t, .inr (6, [.int m_thrown, .int m_parts, .ref a_m_stepCount, .ref a_m_froms, .ref a_m_cents, .ref a_m_uses, .ref a_m_stocks, .ref a_m_alternates, .ref a_m_assemblies, .ref a_m_placings, .int m_yields, .ref a_m_yieldAbove, .ref a_m_yieldBelow, .ref a_m_dayCount, .ref a_m_days, .ref a_m_rateAbove, .ref a_m_rateBelow, .long m_tools, .int m_can, .long m_sum, .ref a_m_costs, .ref a_m_pieces, .ref a_m_maker, .ref a_m_partOf, .int m_ran, .int m_keptRows, .ref a_m_keptCosts, .ref a_m_keptPieces, .ref a_m_keptMaker, .ref a_m_keptPart, .ref a_m_oldCosts])), aJ g a_m_uses 30 m_uses]) [0, 1] rfl (by decide) ?_
    show ST g C [(a_t, .inr (6, [.int m_thrown, .int m_parts, .ref a_m_stepCount, .ref a_m_froms, .ref a_m_cents, .ref a_m_uses, .ref a_m_stocks, .ref a_m_alternates, .ref a_m_assemblies, .ref a_m_placings, .int m_yields, .ref a_m_yieldAbove, .ref a_m_yieldBelow, .ref a_m_dayCount, .ref a_m_days, .ref a_m_rateAbove, .ref a_m_rateBelow, .long m_tools, .int m_can, .long m_sum, .ref a_m_costs, .ref a_m_pieces, .ref a_m_maker, .ref a_m_partOf, .int m_ran, .int m_keptRows, .ref a_m_keptCosts, .ref a_m_keptPieces, .ref a_m_keptMaker, .ref a_m_keptPart, .ref a_m_oldCosts])), aJ g a_m_uses 30 m_uses] [(0, .ref a_t), (1, .int p0), (2, .long p1)] [.int r4, .ref a_t] 21 0 0
    refine st_if_eq X 28 d_M_uses_21 (by decide) (fun hc => ?_) (fun hc => ?_)
    · replace hw := hw.1 hc
      refine st_iconst X (v := 2) d_M_uses_28 (by decide) ?_
      refine st_lv [0, 1, 2] rfl ?_
      exact J29 2 hw
    · replace hw := hw.2 hc
      refine st_iconst X (v := 0) d_M_uses_24 (by decide) ?_
      refine st_goto X 29 d_M_uses_25 (by decide) ?_
      refine st_lv [0, 1, 2] rfl ?_
      exact J29 0 hw
  · replace hw := hw.2 hc
    refine st_iconst X (v := 1) d_M_uses_9 (by decide) ?_
    refine st_goto X 29 d_M_uses_10 (by decide) ?_
    refine st_lv [0, 1, 2] rfl ?_
    exact J29 1 hw

theorem h9_M_stock : y_M_stock.cls ≠ "java/lang/invoke/MethodHandle" ∧ y_M_stock.cls ≠ "java/lang/invoke/VarHandle" ∧ (parseMethodDescriptor y_M_stock.desc).map (fun d => d.parameters.length) = some 2 := by decide +kernel
def wp_M_stock_J50 (m_stocks : Nat → Int64) (v2 : Int32) (Q : Int32 → Int32 → (Nat → Int64) → Prop) : Prop :=
  ((0 : Int32) = 0 ∨ (0 : Int32) = 1) ∧ Q 0 v2 m_stocks
def wp_M_stock_J29 (p0 : Int32) (p1 : Int64) (m_stocks : Nat → Int64) (Q : Int32 → Int32 → (Nat → Int64) → Prop) (v2 : Int32) : Prop :=
  ((¬ v2 = 0) → wp_M_stock_J50 m_stocks v2 Q) ∧
  ((v2 = 0) → vp_in p0 30 ∧
  ((¬ (m_stocks p0.toNatClampNeg) = p1) → vp_in p0 30 ∧
  ∀ f3 : Nat → Int64, f3 = vp_updL m_stocks p0.toNatClampNeg p1 →
  ((1 : Int32) = 0 ∨ (1 : Int32) = 1) ∧ Q 1 v2 f3) ∧
  (((m_stocks p0.toNatClampNeg) = p1) → wp_M_stock_J50 m_stocks v2 Q))
def wp_M_stock (p0 : Int32) (p1 : Int64) (m_parts : Int32) (m_stocks : Nat → Int64) (Q : Int32 → Int32 → (Nat → Int64) → Prop) : Prop :=
  wp_M_isPart p0 m_parts (fun r1 =>
  ((¬ r1 = 0) → wp_M_within p1 (0 : Int64) (1000000000 : Int64) (fun r4 =>
  ((r4 = 0) → wp_M_stock_J29 p0 p1 m_stocks Q 2) ∧
  ((¬ r4 = 0) → wp_M_stock_J29 p0 p1 m_stocks Q 0))) ∧
  ((r1 = 0) → wp_M_stock_J29 p0 p1 m_stocks Q 1))
set_option maxHeartbeats 4000000 in
set_option maxRecDepth 100000 in
theorem k_M_stock (g : GX) (hg : g.1.stackTraces = false) (a_t : Nat) (p0 : Int32) (p1 : Int64) (m_thrown : Int32) (m_parts : Int32) (a_m_stepCount : Nat) (a_m_froms : Nat) (a_m_cents : Nat) (a_m_uses : Nat) (a_m_stocks : Nat) (a_m_alternates : Nat) (a_m_assemblies : Nat) (a_m_placings : Nat) (m_yields : Int32) (a_m_yieldAbove : Nat) (a_m_yieldBelow : Nat) (a_m_dayCount : Nat) (a_m_days : Nat) (a_m_rateAbove : Nat) (a_m_rateBelow : Nat) (m_tools : Int64) (m_can : Int32) (m_sum : Int64) (a_m_costs : Nat) (a_m_pieces : Nat) (a_m_maker : Nat) (a_m_partOf : Nat) (m_ran : Int32) (m_keptRows : Int32) (a_m_keptCosts : Nat) (a_m_keptPieces : Nat) (a_m_keptMaker : Nat) (a_m_keptPart : Nat) (a_m_oldCosts : Nat) (m_stocks : Nat → Int64) (Q : Int32 → Int32 → (Nat → Int64) → Prop) (hw : wp_M_stock p0 p1 m_parts m_stocks Q) : CT g y_M_stock c_M_stock 4 (some .boolean) ({ frames := 1, cells := 0, slots := 0, locals := 25 } : Room) [.ref a_t, .int p0, .long p1] [(a_t, .inr (6, [.int m_thrown, .int m_parts, .ref a_m_stepCount, .ref a_m_froms, .ref a_m_cents, .ref a_m_uses, .ref a_m_stocks, .ref a_m_alternates, .ref a_m_assemblies, .ref a_m_placings, .int m_yields, .ref a_m_yieldAbove, .ref a_m_yieldBelow, .ref a_m_dayCount, .ref a_m_days, .ref a_m_rateAbove, .ref a_m_rateBelow, .long m_tools, .int m_can, .long m_sum, .ref a_m_costs, .ref a_m_pieces, .ref a_m_maker, .ref a_m_partOf, .int m_ran, .int m_keptRows, .ref a_m_keptCosts, .ref a_m_keptPieces, .ref a_m_keptMaker, .ref a_m_keptPart, .ref a_m_oldCosts])), aJ g a_m_stocks 30 m_stocks] (QI g [(a_t, .inr (6, [.int m_thrown, .int m_parts, .ref a_m_stepCount, .ref a_m_froms, .ref a_m_cents, .ref a_m_uses, .ref a_m_stocks, .ref a_m_alternates, .ref a_m_assemblies, .ref a_m_placings, .int m_yields, .ref a_m_yieldAbove, .ref a_m_yieldBelow, .ref a_m_dayCount, .ref a_m_days, .ref a_m_rateAbove, .ref a_m_rateBelow, .long m_tools, .int m_can, .long m_sum, .ref a_m_costs, .ref a_m_pieces, .ref a_m_maker, .ref a_m_partOf, .int m_ran, .int m_keptRows, .ref a_m_keptCosts, .ref a_m_keptPieces, .ref a_m_keptMaker, .ref a_m_keptPart, .ref a_m_oldCosts])), aJ g a_m_stocks 30 m_stocks] (fun u : Int32 × (Nat → Int64) => [(a_t, .inr (6, [.int u.1, .int m_parts, .ref a_m_stepCount, .ref a_m_froms, .ref a_m_cents, .ref a_m_uses, .ref a_m_stocks, .ref a_m_alternates, .ref a_m_assemblies, .ref a_m_placings, .int m_yields, .ref a_m_yieldAbove, .ref a_m_yieldBelow, .ref a_m_dayCount, .ref a_m_days, .ref a_m_rateAbove, .ref a_m_rateBelow, .long m_tools, .int m_can, .long m_sum, .ref a_m_costs, .ref a_m_pieces, .ref a_m_maker, .ref a_m_partOf, .int m_ran, .int m_keptRows, .ref a_m_keptCosts, .ref a_m_keptPieces, .ref a_m_keptMaker, .ref a_m_keptPart, .ref a_m_oldCosts])), aJ g a_m_stocks 30 u.2]) (fun r u => Q r u.1 u.2)) := by
  refine ct_of hg (by decide) (Nat.le_of_ble_eq_true rfl) (fun sz C X hr => ?_)
  unfold wp_M_stock at hw
  show ST g C [(a_t, .inr (6, [.int m_thrown, .int m_parts, .ref a_m_stepCount, .ref a_m_froms, .ref a_m_cents, .ref a_m_uses, .ref a_m_stocks, .ref a_m_alternates, .ref a_m_assemblies, .ref a_m_placings, .int m_yields, .ref a_m_yieldAbove, .ref a_m_yieldBelow, .ref a_m_dayCount, .ref a_m_days, .ref a_m_rateAbove, .ref a_m_rateBelow, .long m_tools, .int m_can, .long m_sum, .ref a_m_costs, .ref a_m_pieces, .ref a_m_maker, .ref a_m_partOf, .int m_ran, .int m_keptRows, .ref a_m_keptCosts, .ref a_m_keptPieces, .ref a_m_keptMaker, .ref a_m_keptPart, .ref a_m_oldCosts])), aJ g a_m_stocks 30 m_stocks] [(0, .ref a_t), (1, .int p0), (2, .long p1)] [] 0 0 0
  refine st_aload_n X 0 d_M_stock_0 rfl rfl ?_
  refine st_aload_n X 0 d_M_stock_1 rfl rfl ?_
  refine st_iload_n X 1 d_M_stock_2 rfl rfl ?_
  have hR := rn_V (pc := 3) (k := 0) (n := 0) (As := [.int p0]) (rest := [.ref a_t]) X (k_M_isPart g hg a_t p0 m_thrown m_parts a_m_stepCount a_m_froms a_m_cents a_m_uses a_m_stocks a_m_alternates a_m_assemblies a_m_placings m_yields a_m_yieldAbove a_m_yieldBelow a_m_dayCount a_m_days a_m_rateAbove a_m_rateBelow m_tools m_can m_sum a_m_costs a_m_pieces a_m_maker a_m_partOf m_ran m_keptRows a_m_keptCosts a_m_keptPieces a_m_keptMaker a_m_keptPart a_m_oldCosts _ hw) (q0 := 0) rfl rfl wm_M_95 wi_M_isPart wl_M_isPart wz_M wc_M_isPart h9_M_isPart ⟨by decide, by decide⟩ (Nat.le_of_ble_eq_true rfl) ⟨by decide, by decide⟩ d_M_stock_3
  refine st_calli X hR [0] [1] (wr := [aJ g a_m_stocks 30 m_stocks]) rfl rfl (by decide) (by decide) (by decide) (fun r1 u9 hw => ?_)
  try dsimp only at hw
  refine st_widen (k2 := 0) (n2 := 0) (by decide) (by decide) ?_
  refine st_perm (ws2 := [(a_t, .inr (6, [.int m_thrown, .int m_parts, .ref a_m_stepCount, .ref a_m_froms, .ref a_m_cents, .ref a_m_uses, .ref a_m_stocks, .ref a_m_alternates, .ref a_m_assemblies, .ref a_m_placings, .int m_yields, .ref a_m_yieldAbove, .ref a_m_yieldBelow, .ref a_m_dayCount, .ref a_m_days, .ref a_m_rateAbove, .ref a_m_rateBelow, .long m_tools, .int m_can, .long m_sum, .ref a_m_costs, .ref a_m_pieces, .ref a_m_maker, .ref a_m_partOf, .int m_ran, .int m_keptRows, .ref a_m_keptCosts, .ref a_m_keptPieces, .ref a_m_keptMaker, .ref a_m_keptPart, .ref a_m_oldCosts])), aJ g a_m_stocks 30 m_stocks]) [1, 0] rfl (by decide) ?_
  show ST g C [(a_t, .inr (6, [.int m_thrown, .int m_parts, .ref a_m_stepCount, .ref a_m_froms, .ref a_m_cents, .ref a_m_uses, .ref a_m_stocks, .ref a_m_alternates, .ref a_m_assemblies, .ref a_m_placings, .int m_yields, .ref a_m_yieldAbove, .ref a_m_yieldBelow, .ref a_m_dayCount, .ref a_m_days, .ref a_m_rateAbove, .ref a_m_rateBelow, .long m_tools, .int m_can, .long m_sum, .ref a_m_costs, .ref a_m_pieces, .ref a_m_maker, .ref a_m_partOf, .int m_ran, .int m_keptRows, .ref a_m_keptCosts, .ref a_m_keptPieces, .ref a_m_keptMaker, .ref a_m_keptPart, .ref a_m_oldCosts])), aJ g a_m_stocks 30 m_stocks] [(0, .ref a_t), (1, .int p0), (2, .long p1)] [.int r1, .ref a_t] 6 0 0
  have J29 : ∀ (v2 : Int32), wp_M_stock_J29 p0 p1 m_stocks Q v2 → ST g C [(a_t, .inr (6, [.int m_thrown, .int m_parts, .ref a_m_stepCount, .ref a_m_froms, .ref a_m_cents, .ref a_m_uses, .ref a_m_stocks, .ref a_m_alternates, .ref a_m_assemblies, .ref a_m_placings, .int m_yields, .ref a_m_yieldAbove, .ref a_m_yieldBelow, .ref a_m_dayCount, .ref a_m_days, .ref a_m_rateAbove, .ref a_m_rateBelow, .long m_tools, .int m_can, .long m_sum, .ref a_m_costs, .ref a_m_pieces, .ref a_m_maker, .ref a_m_partOf, .int m_ran, .int m_keptRows, .ref a_m_keptCosts, .ref a_m_keptPieces, .ref a_m_keptMaker, .ref a_m_keptPart, .ref a_m_oldCosts])), aJ g a_m_stocks 30 m_stocks] [(0, .ref a_t), (1, .int p0), (2, .long p1)] [.int v2, .ref a_t] 29 0 0 := by
    intro v2 hw
    unfold wp_M_stock_J29 at hw
    refine st_put X (ci := 6) (ty := .int) in_M t_M to_M nm_M 0 0 wf_M_80 rfl rfl (by decide) rfl (by decide +kernel) rfl rfl (Nat.le_of_ble_eq_true rfl) (ws2 := [(a_t, .inr (6, [.int v2, .int m_parts, .ref a_m_stepCount, .ref a_m_froms, .ref a_m_cents, .ref a_m_uses, .ref a_m_stocks, .ref a_m_alternates, .ref a_m_assemblies, .ref a_m_placings, .int m_yields, .ref a_m_yieldAbove, .ref a_m_yieldBelow, .ref a_m_dayCount, .ref a_m_days, .ref a_m_rateAbove, .ref a_m_rateBelow, .long m_tools, .int m_can, .long m_sum, .ref a_m_costs, .ref a_m_pieces, .ref a_m_maker, .ref a_m_partOf, .int m_ran, .int m_keptRows, .ref a_m_keptCosts, .ref a_m_keptPieces, .ref a_m_keptMaker, .ref a_m_keptPart, .ref a_m_oldCosts])), aJ g a_m_stocks 30 m_stocks]) rfl d_M_stock_29 ?_
    refine st_aload_n X 0 d_M_stock_32 rfl rfl ?_
    refine st_get X (ci := 6) in_M 0 0 wf_M_80 rfl rfl (by decide) rfl d_M_stock_33 ?_
    have J50 : wp_M_stock_J50 m_stocks v2 Q → ST g C [(a_t, .inr (6, [.int v2, .int m_parts, .ref a_m_stepCount, .ref a_m_froms, .ref a_m_cents, .ref a_m_uses, .ref a_m_stocks, .ref a_m_alternates, .ref a_m_assemblies, .ref a_m_placings, .int m_yields, .ref a_m_yieldAbove, .ref a_m_yieldBelow, .ref a_m_dayCount, .ref a_m_days, .ref a_m_rateAbove, .ref a_m_rateBelow, .long m_tools, .int m_can, .long m_sum, .ref a_m_costs, .ref a_m_pieces, .ref a_m_maker, .ref a_m_partOf, .int m_ran, .int m_keptRows, .ref a_m_keptCosts, .ref a_m_keptPieces, .ref a_m_keptMaker, .ref a_m_keptPart, .ref a_m_oldCosts])), aJ g a_m_stocks 30 m_stocks] [(0, .ref a_t), (1, .int p0), (2, .long p1)] [] 50 0 0 := by
      intro hw
      unfold wp_M_stock_J50 at hw
      refine st_iconst X (v := 0) d_M_stock_50 (by decide) ?_
      obtain ⟨hz, hw⟩ := hw
      exact st_zret X hr (v2, m_stocks) hw hz rfl (by decide) (by decide) d_M_stock_51
    refine st_if_ne X 50 d_M_stock_36 (by decide) (fun hc => ?_) (fun hc => ?_)
    · replace hw := hw.1 hc
      refine st_lv [0, 1, 2] rfl ?_
      exact J50 hw
    · replace hw := hw.2 hc
      refine st_aload_n X 0 d_M_stock_39 rfl rfl ?_
      refine st_get X (ci := 6) in_M 0 6 wf_M_23 rfl rfl (by decide) rfl d_M_stock_40 ?_
      refine st_iload_n X 1 d_M_stock_43 rfl rfl ?_
      obtain ⟨hb1, hw⟩ := hw
      refine st_lald X 1 rfl hb1 d_M_stock_44 ?_
      refine st_lload_n X 2 d_M_stock_45 rfl rfl ?_
      refine st_lcmp_ne X 52 d_M_stock_46 d_M_stock_47 (by decide) (fun hc => ?_) (fun hc => ?_)
      · replace hw := hw.1 hc
        refine st_aload_n X 0 d_M_stock_52 rfl rfl ?_
        refine st_get X (ci := 6) in_M 0 6 wf_M_23 rfl rfl (by decide) rfl d_M_stock_53 ?_
        refine st_iload_n X 1 d_M_stock_56 rfl rfl ?_
        refine st_lload_n X 2 d_M_stock_57 rfl rfl ?_
        obtain ⟨hb2, hw⟩ := hw
        obtain ⟨f3, hf3⟩ : ∃ z : Nat → Int64, z = vp_updL m_stocks p0.toNatClampNeg p1 := ⟨_, rfl⟩
        replace hw := hw f3 hf3
        refine st_last X (ws2 := [(a_t, .inr (6, [.int v2, .int m_parts, .ref a_m_stepCount, .ref a_m_froms, .ref a_m_cents, .ref a_m_uses, .ref a_m_stocks, .ref a_m_alternates, .ref a_m_assemblies, .ref a_m_placings, .int m_yields, .ref a_m_yieldAbove, .ref a_m_yieldBelow, .ref a_m_dayCount, .ref a_m_days, .ref a_m_rateAbove, .ref a_m_rateBelow, .long m_tools, .int m_can, .long m_sum, .ref a_m_costs, .ref a_m_pieces, .ref a_m_maker, .ref a_m_partOf, .int m_ran, .int m_keptRows, .ref a_m_keptCosts, .ref a_m_keptPieces, .ref a_m_keptMaker, .ref a_m_keptPart, .ref a_m_oldCosts])), aJ g a_m_stocks 30 f3]) 1 rfl hb2 (by rw [hf3]; rfl) d_M_stock_58 ?_
        refine st_iconst X (v := 1) d_M_stock_59 (by decide) ?_
        obtain ⟨hz, hw⟩ := hw
        exact st_zret X hr (v2, f3) hw hz rfl (by decide) (by decide) d_M_stock_60
      · replace hw := hw.2 hc
        refine st_lv [0, 1, 2] rfl ?_
        exact J50 hw
  refine st_if_ne X 13 d_M_stock_6 (by decide) (fun hc => ?_) (fun hc => ?_)
  · replace hw := hw.1 hc
    refine st_lload_n X 2 d_M_stock_13 rfl rfl ?_
    refine st_lconst X (v := 0) d_M_stock_14 (by decide) ?_
    refine st_ldc2 X wv_M_87 d_M_stock_15 ?_
    have hR := rn_S (pc := 18) (k := 0) (n := 0) (As := [.long p1, .long 0, .long 1000000000]) (rest := [.ref a_t]) X (k_M_within g hg p1 (0 : Int64) (1000000000 : Int64) _ hw) wm_M_89 ws_M_within wz_M wc_M_within h9_M_within ⟨by decide, by decide⟩ (Nat.le_of_ble_eq_true rfl) ⟨by decide, by decide⟩ d_M_stock_18
    refine st_calli X hR [] [0, 1] (wr := [(a_t, .inr (6, [.int m_thrown, .int m_parts, .ref a_m_stepCount, .ref a_m_froms, .ref a_m_cents, .ref a_m_uses, .ref a_m_stocks, .ref a_m_alternates, .ref a_m_assemblies, .ref a_m_placings, .int m_yields, .ref a_m_yieldAbove, .ref a_m_yieldBelow, .ref a_m_dayCount, .ref a_m_days, .ref a_m_rateAbove, .ref a_m_rateBelow, .long m_tools, .int m_can, .long m_sum, .ref a_m_costs, .ref a_m_pieces, .ref a_m_maker, .ref a_m_partOf, .int m_ran, .int m_keptRows, .ref a_m_keptCosts, .ref a_m_keptPieces, .ref a_m_keptMaker, .ref a_m_keptPart, .ref a_m_oldCosts])), aJ g a_m_stocks 30 m_stocks]) rfl rfl (by decide) (by decide) (by decide) (fun r4 u9 hw => ?_)
    try dsimp only at hw
    refine st_widen (k2 := 0) (n2 := 0) (by decide) (by decide) ?_
    refine st_perm (ws2 := [(a_t, .inr (6, [.int m_thrown, .int m_parts, .ref a_m_stepCount, .ref a_m_froms, .ref a_m_cents, .ref a_m_uses, .ref a_m_stocks, .ref a_m_alternates, .ref a_m_assemblies, .ref a_m_placings, .int m_yields, .ref a_m_yieldAbove, .ref a_m_yieldBelow, .ref a_m_dayCount, .ref a_m_days, .ref a_m_rateAbove, .ref a_m_rateBelow, .long m_tools, .int m_can, .long m_sum, .ref a_m_costs, .ref a_m_pieces, .ref a_m_maker, .ref a_m_partOf, .int m_ran, .int m_keptRows, .ref a_m_keptCosts, .ref a_m_keptPieces, .ref a_m_keptMaker, .ref a_m_keptPart, .ref a_m_oldCosts])), aJ g a_m_stocks 30 m_stocks]) [0, 1] rfl (by decide) ?_
    show ST g C [(a_t, .inr (6, [.int m_thrown, .int m_parts, .ref a_m_stepCount, .ref a_m_froms, .ref a_m_cents, .ref a_m_uses, .ref a_m_stocks, .ref a_m_alternates, .ref a_m_assemblies, .ref a_m_placings, .int m_yields, .ref a_m_yieldAbove, .ref a_m_yieldBelow, .ref a_m_dayCount, .ref a_m_days, .ref a_m_rateAbove, .ref a_m_rateBelow, .long m_tools, .int m_can, .long m_sum, .ref a_m_costs, .ref a_m_pieces, .ref a_m_maker, .ref a_m_partOf, .int m_ran, .int m_keptRows, .ref a_m_keptCosts, .ref a_m_keptPieces, .ref a_m_keptMaker, .ref a_m_keptPart, .ref a_m_oldCosts])), aJ g a_m_stocks 30 m_stocks] [(0, .ref a_t), (1, .int p0), (2, .long p1)] [.int r4, .ref a_t] 21 0 0
    refine st_if_eq X 28 d_M_stock_21 (by decide) (fun hc => ?_) (fun hc => ?_)
    · replace hw := hw.1 hc
      refine st_iconst X (v := 2) d_M_stock_28 (by decide) ?_
      refine st_lv [0, 1, 2] rfl ?_
      exact J29 2 hw
    · replace hw := hw.2 hc
      refine st_iconst X (v := 0) d_M_stock_24 (by decide) ?_
      refine st_goto X 29 d_M_stock_25 (by decide) ?_
      refine st_lv [0, 1, 2] rfl ?_
      exact J29 0 hw
  · replace hw := hw.2 hc
    refine st_iconst X (v := 1) d_M_stock_9 (by decide) ?_
    refine st_goto X 29 d_M_stock_10 (by decide) ?_
    refine st_lv [0, 1, 2] rfl ?_
    exact J29 1 hw

theorem h9_M_alternate : y_M_alternate.cls ≠ "java/lang/invoke/MethodHandle" ∧ y_M_alternate.cls ≠ "java/lang/invoke/VarHandle" ∧ (parseMethodDescriptor y_M_alternate.desc).map (fun d => d.parameters.length) = some 2 := by decide +kernel
def wp_M_alternate_J51 (m_alternates : Nat → Int32) (v2 : Int32) (Q : Int32 → Int32 → (Nat → Int32) → Prop) : Prop :=
  ((0 : Int32) = 0 ∨ (0 : Int32) = 1) ∧ Q 0 v2 m_alternates
def wp_M_alternate_J22 (p0 : Int32) (p1 : Int32) (m_alternates : Nat → Int32) (Q : Int32 → Int32 → (Nat → Int32) → Prop) (v2 : Int32) : Prop :=
  ((¬ v2 = 0) → wp_M_alternate_J51 m_alternates v2 Q) ∧
  ((v2 = 0) → ((p0 = p1) → wp_M_alternate_J51 m_alternates v2 Q) ∧
  ((¬ p0 = p1) → vp_in p0 30 ∧
  ((¬ (((m_alternates p0.toNatClampNeg) >>> (p1 &&& 31)) &&& 1) = 1) → vp_in p0 30 ∧
  ∀ x3 : Int32, x3 = (m_alternates p0.toNatClampNeg) ||| (1 <<< (p1 &&& 31)) →
  vp_in p0 30 ∧
  ∀ f4 : Nat → Int32, f4 = upd m_alternates p0.toNatClampNeg x3 →
  ((1 : Int32) = 0 ∨ (1 : Int32) = 1) ∧ Q 1 v2 f4) ∧
  (((((m_alternates p0.toNatClampNeg) >>> (p1 &&& 31)) &&& 1) = 1) → wp_M_alternate_J51 m_alternates v2 Q)))
def wp_M_alternate_J21 (p0 : Int32) (p1 : Int32) (m_alternates : Nat → Int32) (Q : Int32 → Int32 → (Nat → Int32) → Prop) : Prop :=
  wp_M_alternate_J22 p0 p1 m_alternates Q 1
def wp_M_alternate (p0 : Int32) (p1 : Int32) (m_parts : Int32) (m_alternates : Nat → Int32) (Q : Int32 → Int32 → (Nat → Int32) → Prop) : Prop :=
  wp_M_isPart p0 m_parts (fun r1 =>
  ((r1 = 0) → wp_M_alternate_J21 p0 p1 m_alternates Q) ∧
  ((¬ r1 = 0) → wp_M_isPart p1 m_parts (fun r5 =>
  ((r5 = 0) → wp_M_alternate_J21 p0 p1 m_alternates Q) ∧
  ((¬ r5 = 0) → wp_M_alternate_J22 p0 p1 m_alternates Q 0))))
set_option maxHeartbeats 4000000 in
set_option maxRecDepth 100000 in
theorem k_M_alternate (g : GX) (hg : g.1.stackTraces = false) (a_t : Nat) (p0 : Int32) (p1 : Int32) (m_thrown : Int32) (m_parts : Int32) (a_m_stepCount : Nat) (a_m_froms : Nat) (a_m_cents : Nat) (a_m_uses : Nat) (a_m_stocks : Nat) (a_m_alternates : Nat) (a_m_assemblies : Nat) (a_m_placings : Nat) (m_yields : Int32) (a_m_yieldAbove : Nat) (a_m_yieldBelow : Nat) (a_m_dayCount : Nat) (a_m_days : Nat) (a_m_rateAbove : Nat) (a_m_rateBelow : Nat) (m_tools : Int64) (m_can : Int32) (m_sum : Int64) (a_m_costs : Nat) (a_m_pieces : Nat) (a_m_maker : Nat) (a_m_partOf : Nat) (m_ran : Int32) (m_keptRows : Int32) (a_m_keptCosts : Nat) (a_m_keptPieces : Nat) (a_m_keptMaker : Nat) (a_m_keptPart : Nat) (a_m_oldCosts : Nat) (m_alternates : Nat → Int32) (Q : Int32 → Int32 → (Nat → Int32) → Prop) (hw : wp_M_alternate p0 p1 m_parts m_alternates Q) : CT g y_M_alternate c_M_alternate 3 (some .boolean) ({ frames := 1, cells := 0, slots := 0, locals := 21 } : Room) [.ref a_t, .int p0, .int p1] [(a_t, .inr (6, [.int m_thrown, .int m_parts, .ref a_m_stepCount, .ref a_m_froms, .ref a_m_cents, .ref a_m_uses, .ref a_m_stocks, .ref a_m_alternates, .ref a_m_assemblies, .ref a_m_placings, .int m_yields, .ref a_m_yieldAbove, .ref a_m_yieldBelow, .ref a_m_dayCount, .ref a_m_days, .ref a_m_rateAbove, .ref a_m_rateBelow, .long m_tools, .int m_can, .long m_sum, .ref a_m_costs, .ref a_m_pieces, .ref a_m_maker, .ref a_m_partOf, .int m_ran, .int m_keptRows, .ref a_m_keptCosts, .ref a_m_keptPieces, .ref a_m_keptMaker, .ref a_m_keptPart, .ref a_m_oldCosts])), aI g a_m_alternates 30 m_alternates] (QI g [(a_t, .inr (6, [.int m_thrown, .int m_parts, .ref a_m_stepCount, .ref a_m_froms, .ref a_m_cents, .ref a_m_uses, .ref a_m_stocks, .ref a_m_alternates, .ref a_m_assemblies, .ref a_m_placings, .int m_yields, .ref a_m_yieldAbove, .ref a_m_yieldBelow, .ref a_m_dayCount, .ref a_m_days, .ref a_m_rateAbove, .ref a_m_rateBelow, .long m_tools, .int m_can, .long m_sum, .ref a_m_costs, .ref a_m_pieces, .ref a_m_maker, .ref a_m_partOf, .int m_ran, .int m_keptRows, .ref a_m_keptCosts, .ref a_m_keptPieces, .ref a_m_keptMaker, .ref a_m_keptPart, .ref a_m_oldCosts])), aI g a_m_alternates 30 m_alternates] (fun u : Int32 × (Nat → Int32) => [(a_t, .inr (6, [.int u.1, .int m_parts, .ref a_m_stepCount, .ref a_m_froms, .ref a_m_cents, .ref a_m_uses, .ref a_m_stocks, .ref a_m_alternates, .ref a_m_assemblies, .ref a_m_placings, .int m_yields, .ref a_m_yieldAbove, .ref a_m_yieldBelow, .ref a_m_dayCount, .ref a_m_days, .ref a_m_rateAbove, .ref a_m_rateBelow, .long m_tools, .int m_can, .long m_sum, .ref a_m_costs, .ref a_m_pieces, .ref a_m_maker, .ref a_m_partOf, .int m_ran, .int m_keptRows, .ref a_m_keptCosts, .ref a_m_keptPieces, .ref a_m_keptMaker, .ref a_m_keptPart, .ref a_m_oldCosts])), aI g a_m_alternates 30 u.2]) (fun r u => Q r u.1 u.2)) := by
  refine ct_of hg (by decide) (Nat.le_of_ble_eq_true rfl) (fun sz C X hr => ?_)
  unfold wp_M_alternate at hw
  show ST g C [(a_t, .inr (6, [.int m_thrown, .int m_parts, .ref a_m_stepCount, .ref a_m_froms, .ref a_m_cents, .ref a_m_uses, .ref a_m_stocks, .ref a_m_alternates, .ref a_m_assemblies, .ref a_m_placings, .int m_yields, .ref a_m_yieldAbove, .ref a_m_yieldBelow, .ref a_m_dayCount, .ref a_m_days, .ref a_m_rateAbove, .ref a_m_rateBelow, .long m_tools, .int m_can, .long m_sum, .ref a_m_costs, .ref a_m_pieces, .ref a_m_maker, .ref a_m_partOf, .int m_ran, .int m_keptRows, .ref a_m_keptCosts, .ref a_m_keptPieces, .ref a_m_keptMaker, .ref a_m_keptPart, .ref a_m_oldCosts])), aI g a_m_alternates 30 m_alternates] [(0, .ref a_t), (1, .int p0), (2, .int p1)] [] 0 0 0
  refine st_aload_n X 0 d_M_alternate_0 rfl rfl ?_
  refine st_aload_n X 0 d_M_alternate_1 rfl rfl ?_
  refine st_iload_n X 1 d_M_alternate_2 rfl rfl ?_
  have hR := rn_V (pc := 3) (k := 0) (n := 0) (As := [.int p0]) (rest := [.ref a_t]) X (k_M_isPart g hg a_t p0 m_thrown m_parts a_m_stepCount a_m_froms a_m_cents a_m_uses a_m_stocks a_m_alternates a_m_assemblies a_m_placings m_yields a_m_yieldAbove a_m_yieldBelow a_m_dayCount a_m_days a_m_rateAbove a_m_rateBelow m_tools m_can m_sum a_m_costs a_m_pieces a_m_maker a_m_partOf m_ran m_keptRows a_m_keptCosts a_m_keptPieces a_m_keptMaker a_m_keptPart a_m_oldCosts _ hw) (q0 := 0) rfl rfl wm_M_95 wi_M_isPart wl_M_isPart wz_M wc_M_isPart h9_M_isPart ⟨by decide, by decide⟩ (Nat.le_of_ble_eq_true rfl) ⟨by decide, by decide⟩ d_M_alternate_3
  refine st_calli X hR [0] [1] (wr := [aI g a_m_alternates 30 m_alternates]) rfl rfl (by decide) (by decide) (by decide) (fun r1 u9 hw => ?_)
  try dsimp only at hw
  refine st_widen (k2 := 0) (n2 := 0) (by decide) (by decide) ?_
  refine st_perm (ws2 := [(a_t, .inr (6, [.int m_thrown, .int m_parts, .ref a_m_stepCount, .ref a_m_froms, .ref a_m_cents, .ref a_m_uses, .ref a_m_stocks, .ref a_m_alternates, .ref a_m_assemblies, .ref a_m_placings, .int m_yields, .ref a_m_yieldAbove, .ref a_m_yieldBelow, .ref a_m_dayCount, .ref a_m_days, .ref a_m_rateAbove, .ref a_m_rateBelow, .long m_tools, .int m_can, .long m_sum, .ref a_m_costs, .ref a_m_pieces, .ref a_m_maker, .ref a_m_partOf, .int m_ran, .int m_keptRows, .ref a_m_keptCosts, .ref a_m_keptPieces, .ref a_m_keptMaker, .ref a_m_keptPart, .ref a_m_oldCosts])), aI g a_m_alternates 30 m_alternates]) [1, 0] rfl (by decide) ?_
  show ST g C [(a_t, .inr (6, [.int m_thrown, .int m_parts, .ref a_m_stepCount, .ref a_m_froms, .ref a_m_cents, .ref a_m_uses, .ref a_m_stocks, .ref a_m_alternates, .ref a_m_assemblies, .ref a_m_placings, .int m_yields, .ref a_m_yieldAbove, .ref a_m_yieldBelow, .ref a_m_dayCount, .ref a_m_days, .ref a_m_rateAbove, .ref a_m_rateBelow, .long m_tools, .int m_can, .long m_sum, .ref a_m_costs, .ref a_m_pieces, .ref a_m_maker, .ref a_m_partOf, .int m_ran, .int m_keptRows, .ref a_m_keptCosts, .ref a_m_keptPieces, .ref a_m_keptMaker, .ref a_m_keptPart, .ref a_m_oldCosts])), aI g a_m_alternates 30 m_alternates] [(0, .ref a_t), (1, .int p0), (2, .int p1)] [.int r1, .ref a_t] 6 0 0
  have J22 : ∀ (v2 : Int32), wp_M_alternate_J22 p0 p1 m_alternates Q v2 → ST g C [(a_t, .inr (6, [.int m_thrown, .int m_parts, .ref a_m_stepCount, .ref a_m_froms, .ref a_m_cents, .ref a_m_uses, .ref a_m_stocks, .ref a_m_alternates, .ref a_m_assemblies, .ref a_m_placings, .int m_yields, .ref a_m_yieldAbove, .ref a_m_yieldBelow, .ref a_m_dayCount, .ref a_m_days, .ref a_m_rateAbove, .ref a_m_rateBelow, .long m_tools, .int m_can, .long m_sum, .ref a_m_costs, .ref a_m_pieces, .ref a_m_maker, .ref a_m_partOf, .int m_ran, .int m_keptRows, .ref a_m_keptCosts, .ref a_m_keptPieces, .ref a_m_keptMaker, .ref a_m_keptPart, .ref a_m_oldCosts])), aI g a_m_alternates 30 m_alternates] [(0, .ref a_t), (1, .int p0), (2, .int p1)] [.int v2, .ref a_t] 22 0 0 := by
    intro v2 hw
    unfold wp_M_alternate_J22 at hw
    refine st_put X (ci := 6) (ty := .int) in_M t_M to_M nm_M 0 0 wf_M_80 rfl rfl (by decide) rfl (by decide +kernel) rfl rfl (Nat.le_of_ble_eq_true rfl) (ws2 := [(a_t, .inr (6, [.int v2, .int m_parts, .ref a_m_stepCount, .ref a_m_froms, .ref a_m_cents, .ref a_m_uses, .ref a_m_stocks, .ref a_m_alternates, .ref a_m_assemblies, .ref a_m_placings, .int m_yields, .ref a_m_yieldAbove, .ref a_m_yieldBelow, .ref a_m_dayCount, .ref a_m_days, .ref a_m_rateAbove, .ref a_m_rateBelow, .long m_tools, .int m_can, .long m_sum, .ref a_m_costs, .ref a_m_pieces, .ref a_m_maker, .ref a_m_partOf, .int m_ran, .int m_keptRows, .ref a_m_keptCosts, .ref a_m_keptPieces, .ref a_m_keptMaker, .ref a_m_keptPart, .ref a_m_oldCosts])), aI g a_m_alternates 30 m_alternates]) rfl d_M_alternate_22 ?_
    refine st_aload_n X 0 d_M_alternate_25 rfl rfl ?_
    refine st_get X (ci := 6) in_M 0 0 wf_M_80 rfl rfl (by decide) rfl d_M_alternate_26 ?_
    have J51 : wp_M_alternate_J51 m_alternates v2 Q → ST g C [(a_t, .inr (6, [.int v2, .int m_parts, .ref a_m_stepCount, .ref a_m_froms, .ref a_m_cents, .ref a_m_uses, .ref a_m_stocks, .ref a_m_alternates, .ref a_m_assemblies, .ref a_m_placings, .int m_yields, .ref a_m_yieldAbove, .ref a_m_yieldBelow, .ref a_m_dayCount, .ref a_m_days, .ref a_m_rateAbove, .ref a_m_rateBelow, .long m_tools, .int m_can, .long m_sum, .ref a_m_costs, .ref a_m_pieces, .ref a_m_maker, .ref a_m_partOf, .int m_ran, .int m_keptRows, .ref a_m_keptCosts, .ref a_m_keptPieces, .ref a_m_keptMaker, .ref a_m_keptPart, .ref a_m_oldCosts])), aI g a_m_alternates 30 m_alternates] [(0, .ref a_t), (1, .int p0), (2, .int p1)] [] 51 0 0 := by
      intro hw
      unfold wp_M_alternate_J51 at hw
      refine st_iconst X (v := 0) d_M_alternate_51 (by decide) ?_
      obtain ⟨hz, hw⟩ := hw
      exact st_zret X hr (v2, m_alternates) hw hz rfl (by decide) (by decide) d_M_alternate_52
    refine st_if_ne X 51 d_M_alternate_29 (by decide) (fun hc => ?_) (fun hc => ?_)
    · replace hw := hw.1 hc
      refine st_lv [0, 1, 2] rfl ?_
      exact J51 hw
    · replace hw := hw.2 hc
      refine st_iload_n X 1 d_M_alternate_32 rfl rfl ?_
      refine st_iload_n X 2 d_M_alternate_33 rfl rfl ?_
      refine st_icmp_eq X 51 d_M_alternate_34 (by decide) (fun hc => ?_) (fun hc => ?_)
      · replace hw := hw.1 hc
        refine st_lv [0, 1, 2] rfl ?_
        exact J51 hw
      · replace hw := hw.2 hc
        refine st_aload_n X 0 d_M_alternate_37 rfl rfl ?_
        refine st_get X (ci := 6) in_M 0 7 wf_M_26 rfl rfl (by decide) rfl d_M_alternate_38 ?_
        refine st_iload_n X 1 d_M_alternate_41 rfl rfl ?_
        obtain ⟨hb1, hw⟩ := hw
        refine st_iald X 1 rfl hb1 d_M_alternate_42 ?_
        refine st_iload_n X 2 d_M_alternate_43 rfl rfl ?_
        refine st_ishr X d_M_alternate_44 ?_
        refine st_iconst X (v := 1) d_M_alternate_45 (by decide) ?_
        refine st_iand X d_M_alternate_46 ?_
        refine st_iconst X (v := 1) d_M_alternate_47 (by decide) ?_
        refine st_icmp_ne X 53 d_M_alternate_48 (by decide) (fun hc => ?_) (fun hc => ?_)
        · replace hw := hw.1 hc
          refine st_aload_n X 0 d_M_alternate_53 rfl rfl ?_
          refine st_get X (ci := 6) in_M 0 7 wf_M_26 rfl rfl (by decide) rfl d_M_alternate_54 ?_
          refine st_iload_n X 1 d_M_alternate_57 rfl rfl ?_
          refine st_aload_n X 0 d_M_alternate_58 rfl rfl ?_
          refine st_get X (ci := 6) in_M 0 7 wf_M_26 rfl rfl (by decide) rfl d_M_alternate_59 ?_
          refine st_iload_n X 1 d_M_alternate_62 rfl rfl ?_
          obtain ⟨hb2, hw⟩ := hw
          refine st_iald X 1 rfl hb2 d_M_alternate_63 ?_
          refine st_iconst X (v := 1) d_M_alternate_64 (by decide) ?_
          refine st_iload_n X 2 d_M_alternate_65 rfl rfl ?_
          refine st_ishl X d_M_alternate_66 ?_
          refine st_ior X d_M_alternate_67 ?_
          refine st_topi (fun x3 hx3 => ?_)
          replace hw := hw x3 hx3
          obtain ⟨hb3, hw⟩ := hw
          obtain ⟨f4, hf4⟩ : ∃ z : Nat → Int32, z = upd m_alternates p0.toNatClampNeg x3 := ⟨_, rfl⟩
          replace hw := hw f4 hf4
          refine st_iast X (ws2 := [(a_t, .inr (6, [.int v2, .int m_parts, .ref a_m_stepCount, .ref a_m_froms, .ref a_m_cents, .ref a_m_uses, .ref a_m_stocks, .ref a_m_alternates, .ref a_m_assemblies, .ref a_m_placings, .int m_yields, .ref a_m_yieldAbove, .ref a_m_yieldBelow, .ref a_m_dayCount, .ref a_m_days, .ref a_m_rateAbove, .ref a_m_rateBelow, .long m_tools, .int m_can, .long m_sum, .ref a_m_costs, .ref a_m_pieces, .ref a_m_maker, .ref a_m_partOf, .int m_ran, .int m_keptRows, .ref a_m_keptCosts, .ref a_m_keptPieces, .ref a_m_keptMaker, .ref a_m_keptPart, .ref a_m_oldCosts])), aI g a_m_alternates 30 f4]) 1 rfl hb3 (by rw [hf4]; rfl) d_M_alternate_68 ?_
          refine st_iconst X (v := 1) d_M_alternate_69 (by decide) ?_
          obtain ⟨hz, hw⟩ := hw
          exact st_zret X hr (v2, f4) hw hz rfl (by decide) (by decide) d_M_alternate_70
        · replace hw := hw.2 hc
          refine st_lv [0, 1, 2] rfl ?_
          exact J51 hw
  have J21 : wp_M_alternate_J21 p0 p1 m_alternates Q → ST g C [(a_t, .inr (6, [.int m_thrown, .int m_parts, .ref a_m_stepCount, .ref a_m_froms, .ref a_m_cents, .ref a_m_uses, .ref a_m_stocks, .ref a_m_alternates, .ref a_m_assemblies, .ref a_m_placings, .int m_yields, .ref a_m_yieldAbove, .ref a_m_yieldBelow, .ref a_m_dayCount, .ref a_m_days, .ref a_m_rateAbove, .ref a_m_rateBelow, .long m_tools, .int m_can, .long m_sum, .ref a_m_costs, .ref a_m_pieces, .ref a_m_maker, .ref a_m_partOf, .int m_ran, .int m_keptRows, .ref a_m_keptCosts, .ref a_m_keptPieces, .ref a_m_keptMaker, .ref a_m_keptPart, .ref a_m_oldCosts])), aI g a_m_alternates 30 m_alternates] [(0, .ref a_t), (1, .int p0), (2, .int p1)] [.ref a_t] 21 0 0 := by
    intro hw
    unfold wp_M_alternate_J21 at hw
    refine st_iconst X (v := 1) d_M_alternate_21 (by decide) ?_
    refine st_lv [0, 1, 2] rfl ?_
    exact J22 1 hw
  refine st_if_eq X 21 d_M_alternate_6 (by decide) (fun hc => ?_) (fun hc => ?_)
  · replace hw := hw.1 hc
    refine st_lv [0, 1, 2] rfl ?_
    exact J21 hw
  · replace hw := hw.2 hc
    refine st_aload_n X 0 d_M_alternate_9 rfl rfl ?_
    refine st_iload_n X 2 d_M_alternate_10 rfl rfl ?_
    have hR := rn_V (pc := 11) (k := 0) (n := 0) (As := [.int p1]) (rest := [.ref a_t]) X (k_M_isPart g hg a_t p1 m_thrown m_parts a_m_stepCount a_m_froms a_m_cents a_m_uses a_m_stocks a_m_alternates a_m_assemblies a_m_placings m_yields a_m_yieldAbove a_m_yieldBelow a_m_dayCount a_m_days a_m_rateAbove a_m_rateBelow m_tools m_can m_sum a_m_costs a_m_pieces a_m_maker a_m_partOf m_ran m_keptRows a_m_keptCosts a_m_keptPieces a_m_keptMaker a_m_keptPart a_m_oldCosts _ hw) (q0 := 0) rfl rfl wm_M_95 wi_M_isPart wl_M_isPart wz_M wc_M_isPart h9_M_isPart ⟨by decide, by decide⟩ (Nat.le_of_ble_eq_true rfl) ⟨by decide, by decide⟩ d_M_alternate_11
    refine st_calli X hR [0] [1] (wr := [aI g a_m_alternates 30 m_alternates]) rfl rfl (by decide) (by decide) (by decide) (fun r5 u9 hw => ?_)
    try dsimp only at hw
    refine st_widen (k2 := 0) (n2 := 0) (by decide) (by decide) ?_
    refine st_perm (ws2 := [(a_t, .inr (6, [.int m_thrown, .int m_parts, .ref a_m_stepCount, .ref a_m_froms, .ref a_m_cents, .ref a_m_uses, .ref a_m_stocks, .ref a_m_alternates, .ref a_m_assemblies, .ref a_m_placings, .int m_yields, .ref a_m_yieldAbove, .ref a_m_yieldBelow, .ref a_m_dayCount, .ref a_m_days, .ref a_m_rateAbove, .ref a_m_rateBelow, .long m_tools, .int m_can, .long m_sum, .ref a_m_costs, .ref a_m_pieces, .ref a_m_maker, .ref a_m_partOf, .int m_ran, .int m_keptRows, .ref a_m_keptCosts, .ref a_m_keptPieces, .ref a_m_keptMaker, .ref a_m_keptPart, .ref a_m_oldCosts])), aI g a_m_alternates 30 m_alternates]) [1, 0] rfl (by decide) ?_
    show ST g C [(a_t, .inr (6, [.int m_thrown, .int m_parts, .ref a_m_stepCount, .ref a_m_froms, .ref a_m_cents, .ref a_m_uses, .ref a_m_stocks, .ref a_m_alternates, .ref a_m_assemblies, .ref a_m_placings, .int m_yields, .ref a_m_yieldAbove, .ref a_m_yieldBelow, .ref a_m_dayCount, .ref a_m_days, .ref a_m_rateAbove, .ref a_m_rateBelow, .long m_tools, .int m_can, .long m_sum, .ref a_m_costs, .ref a_m_pieces, .ref a_m_maker, .ref a_m_partOf, .int m_ran, .int m_keptRows, .ref a_m_keptCosts, .ref a_m_keptPieces, .ref a_m_keptMaker, .ref a_m_keptPart, .ref a_m_oldCosts])), aI g a_m_alternates 30 m_alternates] [(0, .ref a_t), (1, .int p0), (2, .int p1)] [.int r5, .ref a_t] 14 0 0
    refine st_if_eq X 21 d_M_alternate_14 (by decide) (fun hc => ?_) (fun hc => ?_)
    · replace hw := hw.1 hc
      refine st_lv [0, 1, 2] rfl ?_
      exact J21 hw
    · replace hw := hw.2 hc
      refine st_iconst X (v := 0) d_M_alternate_17 (by decide) ?_
      refine st_goto X 22 d_M_alternate_18 (by decide) ?_
      refine st_lv [0, 1, 2] rfl ?_
      exact J22 0 hw

theorem h9_M_assembly : y_M_assembly.cls ≠ "java/lang/invoke/MethodHandle" ∧ y_M_assembly.cls ≠ "java/lang/invoke/VarHandle" ∧ (parseMethodDescriptor y_M_assembly.desc).map (fun d => d.parameters.length) = some 2 := by decide +kernel
def wp_M_assembly_J49 (m_assemblies : Nat → Int64) (v2 : Int32) (Q : Int32 → Int32 → (Nat → Int64) → Prop) : Prop :=
  ((0 : Int32) = 0 ∨ (0 : Int32) = 1) ∧ Q 0 v2 m_assemblies
def wp_M_assembly_J28 (p0 : Int32) (p1 : Int64) (m_assemblies : Nat → Int64) (Q : Int32 → Int32 → (Nat → Int64) → Prop) (v2 : Int32) : Prop :=
  ((¬ v2 = 0) → wp_M_assembly_J49 m_assemblies v2 Q) ∧
  ((v2 = 0) → vp_in p0 8 ∧
  ((¬ (m_assemblies p0.toNatClampNeg) = p1) → vp_in p0 8 ∧
  ∀ f3 : Nat → Int64, f3 = vp_updL m_assemblies p0.toNatClampNeg p1 →
  ((1 : Int32) = 0 ∨ (1 : Int32) = 1) ∧ Q 1 v2 f3) ∧
  (((m_assemblies p0.toNatClampNeg) = p1) → wp_M_assembly_J49 m_assemblies v2 Q))
def wp_M_assembly (p0 : Int32) (p1 : Int64) (m_assemblies : Nat → Int64) (Q : Int32 → Int32 → (Nat → Int64) → Prop) : Prop :=
  wp_M_isSort p0 (fun r1 =>
  ((¬ r1 = 0) → wp_M_within p1 (0 : Int64) (1000000 : Int64) (fun r4 =>
  ((r4 = 0) → wp_M_assembly_J28 p0 p1 m_assemblies Q 2) ∧
  ((¬ r4 = 0) → wp_M_assembly_J28 p0 p1 m_assemblies Q 0))) ∧
  ((r1 = 0) → wp_M_assembly_J28 p0 p1 m_assemblies Q 1))
set_option maxHeartbeats 4000000 in
set_option maxRecDepth 100000 in
theorem k_M_assembly (g : GX) (hg : g.1.stackTraces = false) (a_t : Nat) (p0 : Int32) (p1 : Int64) (m_thrown : Int32) (m_parts : Int32) (a_m_stepCount : Nat) (a_m_froms : Nat) (a_m_cents : Nat) (a_m_uses : Nat) (a_m_stocks : Nat) (a_m_alternates : Nat) (a_m_assemblies : Nat) (a_m_placings : Nat) (m_yields : Int32) (a_m_yieldAbove : Nat) (a_m_yieldBelow : Nat) (a_m_dayCount : Nat) (a_m_days : Nat) (a_m_rateAbove : Nat) (a_m_rateBelow : Nat) (m_tools : Int64) (m_can : Int32) (m_sum : Int64) (a_m_costs : Nat) (a_m_pieces : Nat) (a_m_maker : Nat) (a_m_partOf : Nat) (m_ran : Int32) (m_keptRows : Int32) (a_m_keptCosts : Nat) (a_m_keptPieces : Nat) (a_m_keptMaker : Nat) (a_m_keptPart : Nat) (a_m_oldCosts : Nat) (m_assemblies : Nat → Int64) (Q : Int32 → Int32 → (Nat → Int64) → Prop) (hw : wp_M_assembly p0 p1 m_assemblies Q) : CT g y_M_assembly c_M_assembly 4 (some .boolean) ({ frames := 1, cells := 0, slots := 0, locals := 25 } : Room) [.ref a_t, .int p0, .long p1] [(a_t, .inr (6, [.int m_thrown, .int m_parts, .ref a_m_stepCount, .ref a_m_froms, .ref a_m_cents, .ref a_m_uses, .ref a_m_stocks, .ref a_m_alternates, .ref a_m_assemblies, .ref a_m_placings, .int m_yields, .ref a_m_yieldAbove, .ref a_m_yieldBelow, .ref a_m_dayCount, .ref a_m_days, .ref a_m_rateAbove, .ref a_m_rateBelow, .long m_tools, .int m_can, .long m_sum, .ref a_m_costs, .ref a_m_pieces, .ref a_m_maker, .ref a_m_partOf, .int m_ran, .int m_keptRows, .ref a_m_keptCosts, .ref a_m_keptPieces, .ref a_m_keptMaker, .ref a_m_keptPart, .ref a_m_oldCosts])), aJ g a_m_assemblies 8 m_assemblies] (QI g [(a_t, .inr (6, [.int m_thrown, .int m_parts, .ref a_m_stepCount, .ref a_m_froms, .ref a_m_cents, .ref a_m_uses, .ref a_m_stocks, .ref a_m_alternates, .ref a_m_assemblies, .ref a_m_placings, .int m_yields, .ref a_m_yieldAbove, .ref a_m_yieldBelow, .ref a_m_dayCount, .ref a_m_days, .ref a_m_rateAbove, .ref a_m_rateBelow, .long m_tools, .int m_can, .long m_sum, .ref a_m_costs, .ref a_m_pieces, .ref a_m_maker, .ref a_m_partOf, .int m_ran, .int m_keptRows, .ref a_m_keptCosts, .ref a_m_keptPieces, .ref a_m_keptMaker, .ref a_m_keptPart, .ref a_m_oldCosts])), aJ g a_m_assemblies 8 m_assemblies] (fun u : Int32 × (Nat → Int64) => [(a_t, .inr (6, [.int u.1, .int m_parts, .ref a_m_stepCount, .ref a_m_froms, .ref a_m_cents, .ref a_m_uses, .ref a_m_stocks, .ref a_m_alternates, .ref a_m_assemblies, .ref a_m_placings, .int m_yields, .ref a_m_yieldAbove, .ref a_m_yieldBelow, .ref a_m_dayCount, .ref a_m_days, .ref a_m_rateAbove, .ref a_m_rateBelow, .long m_tools, .int m_can, .long m_sum, .ref a_m_costs, .ref a_m_pieces, .ref a_m_maker, .ref a_m_partOf, .int m_ran, .int m_keptRows, .ref a_m_keptCosts, .ref a_m_keptPieces, .ref a_m_keptMaker, .ref a_m_keptPart, .ref a_m_oldCosts])), aJ g a_m_assemblies 8 u.2]) (fun r u => Q r u.1 u.2)) := by
  refine ct_of hg (by decide) (Nat.le_of_ble_eq_true rfl) (fun sz C X hr => ?_)
  unfold wp_M_assembly at hw
  show ST g C [(a_t, .inr (6, [.int m_thrown, .int m_parts, .ref a_m_stepCount, .ref a_m_froms, .ref a_m_cents, .ref a_m_uses, .ref a_m_stocks, .ref a_m_alternates, .ref a_m_assemblies, .ref a_m_placings, .int m_yields, .ref a_m_yieldAbove, .ref a_m_yieldBelow, .ref a_m_dayCount, .ref a_m_days, .ref a_m_rateAbove, .ref a_m_rateBelow, .long m_tools, .int m_can, .long m_sum, .ref a_m_costs, .ref a_m_pieces, .ref a_m_maker, .ref a_m_partOf, .int m_ran, .int m_keptRows, .ref a_m_keptCosts, .ref a_m_keptPieces, .ref a_m_keptMaker, .ref a_m_keptPart, .ref a_m_oldCosts])), aJ g a_m_assemblies 8 m_assemblies] [(0, .ref a_t), (1, .int p0), (2, .long p1)] [] 0 0 0
  refine st_aload_n X 0 d_M_assembly_0 rfl rfl ?_
  refine st_iload_n X 1 d_M_assembly_1 rfl rfl ?_
  have hR := rn_S (pc := 2) (k := 0) (n := 0) (As := [.int p0]) (rest := [.ref a_t]) X (k_M_isSort g hg p0 _ hw) wm_M_108 ws_M_isSort wz_M wc_M_isSort h9_M_isSort ⟨by decide, by decide⟩ (Nat.le_of_ble_eq_true rfl) ⟨by decide, by decide⟩ d_M_assembly_2
  refine st_calli X hR [] [0, 1] (wr := [(a_t, .inr (6, [.int m_thrown, .int m_parts, .ref a_m_stepCount, .ref a_m_froms, .ref a_m_cents, .ref a_m_uses, .ref a_m_stocks, .ref a_m_alternates, .ref a_m_assemblies, .ref a_m_placings, .int m_yields, .ref a_m_yieldAbove, .ref a_m_yieldBelow, .ref a_m_dayCount, .ref a_m_days, .ref a_m_rateAbove, .ref a_m_rateBelow, .long m_tools, .int m_can, .long m_sum, .ref a_m_costs, .ref a_m_pieces, .ref a_m_maker, .ref a_m_partOf, .int m_ran, .int m_keptRows, .ref a_m_keptCosts, .ref a_m_keptPieces, .ref a_m_keptMaker, .ref a_m_keptPart, .ref a_m_oldCosts])), aJ g a_m_assemblies 8 m_assemblies]) rfl rfl (by decide) (by decide) (by decide) (fun r1 u9 hw => ?_)
  try dsimp only at hw
  refine st_widen (k2 := 0) (n2 := 0) (by decide) (by decide) ?_
  refine st_perm (ws2 := [(a_t, .inr (6, [.int m_thrown, .int m_parts, .ref a_m_stepCount, .ref a_m_froms, .ref a_m_cents, .ref a_m_uses, .ref a_m_stocks, .ref a_m_alternates, .ref a_m_assemblies, .ref a_m_placings, .int m_yields, .ref a_m_yieldAbove, .ref a_m_yieldBelow, .ref a_m_dayCount, .ref a_m_days, .ref a_m_rateAbove, .ref a_m_rateBelow, .long m_tools, .int m_can, .long m_sum, .ref a_m_costs, .ref a_m_pieces, .ref a_m_maker, .ref a_m_partOf, .int m_ran, .int m_keptRows, .ref a_m_keptCosts, .ref a_m_keptPieces, .ref a_m_keptMaker, .ref a_m_keptPart, .ref a_m_oldCosts])), aJ g a_m_assemblies 8 m_assemblies]) [0, 1] rfl (by decide) ?_
  show ST g C [(a_t, .inr (6, [.int m_thrown, .int m_parts, .ref a_m_stepCount, .ref a_m_froms, .ref a_m_cents, .ref a_m_uses, .ref a_m_stocks, .ref a_m_alternates, .ref a_m_assemblies, .ref a_m_placings, .int m_yields, .ref a_m_yieldAbove, .ref a_m_yieldBelow, .ref a_m_dayCount, .ref a_m_days, .ref a_m_rateAbove, .ref a_m_rateBelow, .long m_tools, .int m_can, .long m_sum, .ref a_m_costs, .ref a_m_pieces, .ref a_m_maker, .ref a_m_partOf, .int m_ran, .int m_keptRows, .ref a_m_keptCosts, .ref a_m_keptPieces, .ref a_m_keptMaker, .ref a_m_keptPart, .ref a_m_oldCosts])), aJ g a_m_assemblies 8 m_assemblies] [(0, .ref a_t), (1, .int p0), (2, .long p1)] [.int r1, .ref a_t] 5 0 0
  have J28 : ∀ (v2 : Int32), wp_M_assembly_J28 p0 p1 m_assemblies Q v2 → ST g C [(a_t, .inr (6, [.int m_thrown, .int m_parts, .ref a_m_stepCount, .ref a_m_froms, .ref a_m_cents, .ref a_m_uses, .ref a_m_stocks, .ref a_m_alternates, .ref a_m_assemblies, .ref a_m_placings, .int m_yields, .ref a_m_yieldAbove, .ref a_m_yieldBelow, .ref a_m_dayCount, .ref a_m_days, .ref a_m_rateAbove, .ref a_m_rateBelow, .long m_tools, .int m_can, .long m_sum, .ref a_m_costs, .ref a_m_pieces, .ref a_m_maker, .ref a_m_partOf, .int m_ran, .int m_keptRows, .ref a_m_keptCosts, .ref a_m_keptPieces, .ref a_m_keptMaker, .ref a_m_keptPart, .ref a_m_oldCosts])), aJ g a_m_assemblies 8 m_assemblies] [(0, .ref a_t), (1, .int p0), (2, .long p1)] [.int v2, .ref a_t] 28 0 0 := by
    intro v2 hw
    unfold wp_M_assembly_J28 at hw
    refine st_put X (ci := 6) (ty := .int) in_M t_M to_M nm_M 0 0 wf_M_80 rfl rfl (by decide) rfl (by decide +kernel) rfl rfl (Nat.le_of_ble_eq_true rfl) (ws2 := [(a_t, .inr (6, [.int v2, .int m_parts, .ref a_m_stepCount, .ref a_m_froms, .ref a_m_cents, .ref a_m_uses, .ref a_m_stocks, .ref a_m_alternates, .ref a_m_assemblies, .ref a_m_placings, .int m_yields, .ref a_m_yieldAbove, .ref a_m_yieldBelow, .ref a_m_dayCount, .ref a_m_days, .ref a_m_rateAbove, .ref a_m_rateBelow, .long m_tools, .int m_can, .long m_sum, .ref a_m_costs, .ref a_m_pieces, .ref a_m_maker, .ref a_m_partOf, .int m_ran, .int m_keptRows, .ref a_m_keptCosts, .ref a_m_keptPieces, .ref a_m_keptMaker, .ref a_m_keptPart, .ref a_m_oldCosts])), aJ g a_m_assemblies 8 m_assemblies]) rfl d_M_assembly_28 ?_
    refine st_aload_n X 0 d_M_assembly_31 rfl rfl ?_
    refine st_get X (ci := 6) in_M 0 0 wf_M_80 rfl rfl (by decide) rfl d_M_assembly_32 ?_
    have J49 : wp_M_assembly_J49 m_assemblies v2 Q → ST g C [(a_t, .inr (6, [.int v2, .int m_parts, .ref a_m_stepCount, .ref a_m_froms, .ref a_m_cents, .ref a_m_uses, .ref a_m_stocks, .ref a_m_alternates, .ref a_m_assemblies, .ref a_m_placings, .int m_yields, .ref a_m_yieldAbove, .ref a_m_yieldBelow, .ref a_m_dayCount, .ref a_m_days, .ref a_m_rateAbove, .ref a_m_rateBelow, .long m_tools, .int m_can, .long m_sum, .ref a_m_costs, .ref a_m_pieces, .ref a_m_maker, .ref a_m_partOf, .int m_ran, .int m_keptRows, .ref a_m_keptCosts, .ref a_m_keptPieces, .ref a_m_keptMaker, .ref a_m_keptPart, .ref a_m_oldCosts])), aJ g a_m_assemblies 8 m_assemblies] [(0, .ref a_t), (1, .int p0), (2, .long p1)] [] 49 0 0 := by
      intro hw
      unfold wp_M_assembly_J49 at hw
      refine st_iconst X (v := 0) d_M_assembly_49 (by decide) ?_
      obtain ⟨hz, hw⟩ := hw
      exact st_zret X hr (v2, m_assemblies) hw hz rfl (by decide) (by decide) d_M_assembly_50
    refine st_if_ne X 49 d_M_assembly_35 (by decide) (fun hc => ?_) (fun hc => ?_)
    · replace hw := hw.1 hc
      refine st_lv [0, 1, 2] rfl ?_
      exact J49 hw
    · replace hw := hw.2 hc
      refine st_aload_n X 0 d_M_assembly_38 rfl rfl ?_
      refine st_get X (ci := 6) in_M 0 8 wf_M_29 rfl rfl (by decide) rfl d_M_assembly_39 ?_
      refine st_iload_n X 1 d_M_assembly_42 rfl rfl ?_
      obtain ⟨hb1, hw⟩ := hw
      refine st_lald X 1 rfl hb1 d_M_assembly_43 ?_
      refine st_lload_n X 2 d_M_assembly_44 rfl rfl ?_
      refine st_lcmp_ne X 51 d_M_assembly_45 d_M_assembly_46 (by decide) (fun hc => ?_) (fun hc => ?_)
      · replace hw := hw.1 hc
        refine st_aload_n X 0 d_M_assembly_51 rfl rfl ?_
        refine st_get X (ci := 6) in_M 0 8 wf_M_29 rfl rfl (by decide) rfl d_M_assembly_52 ?_
        refine st_iload_n X 1 d_M_assembly_55 rfl rfl ?_
        refine st_lload_n X 2 d_M_assembly_56 rfl rfl ?_
        obtain ⟨hb2, hw⟩ := hw
        obtain ⟨f3, hf3⟩ : ∃ z : Nat → Int64, z = vp_updL m_assemblies p0.toNatClampNeg p1 := ⟨_, rfl⟩
        replace hw := hw f3 hf3
        refine st_last X (ws2 := [(a_t, .inr (6, [.int v2, .int m_parts, .ref a_m_stepCount, .ref a_m_froms, .ref a_m_cents, .ref a_m_uses, .ref a_m_stocks, .ref a_m_alternates, .ref a_m_assemblies, .ref a_m_placings, .int m_yields, .ref a_m_yieldAbove, .ref a_m_yieldBelow, .ref a_m_dayCount, .ref a_m_days, .ref a_m_rateAbove, .ref a_m_rateBelow, .long m_tools, .int m_can, .long m_sum, .ref a_m_costs, .ref a_m_pieces, .ref a_m_maker, .ref a_m_partOf, .int m_ran, .int m_keptRows, .ref a_m_keptCosts, .ref a_m_keptPieces, .ref a_m_keptMaker, .ref a_m_keptPart, .ref a_m_oldCosts])), aJ g a_m_assemblies 8 f3]) 1 rfl hb2 (by rw [hf3]; rfl) d_M_assembly_57 ?_
        refine st_iconst X (v := 1) d_M_assembly_58 (by decide) ?_
        obtain ⟨hz, hw⟩ := hw
        exact st_zret X hr (v2, f3) hw hz rfl (by decide) (by decide) d_M_assembly_59
      · replace hw := hw.2 hc
        refine st_lv [0, 1, 2] rfl ?_
        exact J49 hw
  refine st_if_ne X 12 d_M_assembly_5 (by decide) (fun hc => ?_) (fun hc => ?_)
  · replace hw := hw.1 hc
    refine st_lload_n X 2 d_M_assembly_12 rfl rfl ?_
    refine st_lconst X (v := 0) d_M_assembly_13 (by decide) ?_
    refine st_ldc2 X wv_M_111 d_M_assembly_14 ?_
    have hR := rn_S (pc := 17) (k := 0) (n := 0) (As := [.long p1, .long 0, .long 1000000]) (rest := [.ref a_t]) X (k_M_within g hg p1 (0 : Int64) (1000000 : Int64) _ hw) wm_M_89 ws_M_within wz_M wc_M_within h9_M_within ⟨by decide, by decide⟩ (Nat.le_of_ble_eq_true rfl) ⟨by decide, by decide⟩ d_M_assembly_17
    refine st_calli X hR [] [0, 1] (wr := [(a_t, .inr (6, [.int m_thrown, .int m_parts, .ref a_m_stepCount, .ref a_m_froms, .ref a_m_cents, .ref a_m_uses, .ref a_m_stocks, .ref a_m_alternates, .ref a_m_assemblies, .ref a_m_placings, .int m_yields, .ref a_m_yieldAbove, .ref a_m_yieldBelow, .ref a_m_dayCount, .ref a_m_days, .ref a_m_rateAbove, .ref a_m_rateBelow, .long m_tools, .int m_can, .long m_sum, .ref a_m_costs, .ref a_m_pieces, .ref a_m_maker, .ref a_m_partOf, .int m_ran, .int m_keptRows, .ref a_m_keptCosts, .ref a_m_keptPieces, .ref a_m_keptMaker, .ref a_m_keptPart, .ref a_m_oldCosts])), aJ g a_m_assemblies 8 m_assemblies]) rfl rfl (by decide) (by decide) (by decide) (fun r4 u9 hw => ?_)
    try dsimp only at hw
    refine st_widen (k2 := 0) (n2 := 0) (by decide) (by decide) ?_
    refine st_perm (ws2 := [(a_t, .inr (6, [.int m_thrown, .int m_parts, .ref a_m_stepCount, .ref a_m_froms, .ref a_m_cents, .ref a_m_uses, .ref a_m_stocks, .ref a_m_alternates, .ref a_m_assemblies, .ref a_m_placings, .int m_yields, .ref a_m_yieldAbove, .ref a_m_yieldBelow, .ref a_m_dayCount, .ref a_m_days, .ref a_m_rateAbove, .ref a_m_rateBelow, .long m_tools, .int m_can, .long m_sum, .ref a_m_costs, .ref a_m_pieces, .ref a_m_maker, .ref a_m_partOf, .int m_ran, .int m_keptRows, .ref a_m_keptCosts, .ref a_m_keptPieces, .ref a_m_keptMaker, .ref a_m_keptPart, .ref a_m_oldCosts])), aJ g a_m_assemblies 8 m_assemblies]) [0, 1] rfl (by decide) ?_
    show ST g C [(a_t, .inr (6, [.int m_thrown, .int m_parts, .ref a_m_stepCount, .ref a_m_froms, .ref a_m_cents, .ref a_m_uses, .ref a_m_stocks, .ref a_m_alternates, .ref a_m_assemblies, .ref a_m_placings, .int m_yields, .ref a_m_yieldAbove, .ref a_m_yieldBelow, .ref a_m_dayCount, .ref a_m_days, .ref a_m_rateAbove, .ref a_m_rateBelow, .long m_tools, .int m_can, .long m_sum, .ref a_m_costs, .ref a_m_pieces, .ref a_m_maker, .ref a_m_partOf, .int m_ran, .int m_keptRows, .ref a_m_keptCosts, .ref a_m_keptPieces, .ref a_m_keptMaker, .ref a_m_keptPart, .ref a_m_oldCosts])), aJ g a_m_assemblies 8 m_assemblies] [(0, .ref a_t), (1, .int p0), (2, .long p1)] [.int r4, .ref a_t] 20 0 0
    refine st_if_eq X 27 d_M_assembly_20 (by decide) (fun hc => ?_) (fun hc => ?_)
    · replace hw := hw.1 hc
      refine st_iconst X (v := 2) d_M_assembly_27 (by decide) ?_
      refine st_lv [0, 1, 2] rfl ?_
      exact J28 2 hw
    · replace hw := hw.2 hc
      refine st_iconst X (v := 0) d_M_assembly_23 (by decide) ?_
      refine st_goto X 28 d_M_assembly_24 (by decide) ?_
      refine st_lv [0, 1, 2] rfl ?_
      exact J28 0 hw
  · replace hw := hw.2 hc
    refine st_iconst X (v := 1) d_M_assembly_8 (by decide) ?_
    refine st_goto X 28 d_M_assembly_9 (by decide) ?_
    refine st_lv [0, 1, 2] rfl ?_
    exact J28 1 hw

theorem h9_M_placed : y_M_placed.cls ≠ "java/lang/invoke/MethodHandle" ∧ y_M_placed.cls ≠ "java/lang/invoke/VarHandle" ∧ (parseMethodDescriptor y_M_placed.desc).map (fun d => d.parameters.length) = some 2 := by decide +kernel
def wp_M_placed_J49 (m_placings : Nat → Int64) (v2 : Int32) (Q : Int32 → Int32 → (Nat → Int64) → Prop) : Prop :=
  ((0 : Int32) = 0 ∨ (0 : Int32) = 1) ∧ Q 0 v2 m_placings
def wp_M_placed_J28 (p0 : Int32) (p1 : Int64) (m_placings : Nat → Int64) (Q : Int32 → Int32 → (Nat → Int64) → Prop) (v2 : Int32) : Prop :=
  ((¬ v2 = 0) → wp_M_placed_J49 m_placings v2 Q) ∧
  ((v2 = 0) → vp_in p0 8 ∧
  ((¬ (m_placings p0.toNatClampNeg) = p1) → vp_in p0 8 ∧
  ∀ f3 : Nat → Int64, f3 = vp_updL m_placings p0.toNatClampNeg p1 →
  ((1 : Int32) = 0 ∨ (1 : Int32) = 1) ∧ Q 1 v2 f3) ∧
  (((m_placings p0.toNatClampNeg) = p1) → wp_M_placed_J49 m_placings v2 Q))
def wp_M_placed (p0 : Int32) (p1 : Int64) (m_placings : Nat → Int64) (Q : Int32 → Int32 → (Nat → Int64) → Prop) : Prop :=
  wp_M_isSort p0 (fun r1 =>
  ((¬ r1 = 0) → wp_M_within p1 (0 : Int64) (1000 : Int64) (fun r4 =>
  ((r4 = 0) → wp_M_placed_J28 p0 p1 m_placings Q 2) ∧
  ((¬ r4 = 0) → wp_M_placed_J28 p0 p1 m_placings Q 0))) ∧
  ((r1 = 0) → wp_M_placed_J28 p0 p1 m_placings Q 1))
set_option maxHeartbeats 4000000 in
set_option maxRecDepth 100000 in
theorem k_M_placed (g : GX) (hg : g.1.stackTraces = false) (a_t : Nat) (p0 : Int32) (p1 : Int64) (m_thrown : Int32) (m_parts : Int32) (a_m_stepCount : Nat) (a_m_froms : Nat) (a_m_cents : Nat) (a_m_uses : Nat) (a_m_stocks : Nat) (a_m_alternates : Nat) (a_m_assemblies : Nat) (a_m_placings : Nat) (m_yields : Int32) (a_m_yieldAbove : Nat) (a_m_yieldBelow : Nat) (a_m_dayCount : Nat) (a_m_days : Nat) (a_m_rateAbove : Nat) (a_m_rateBelow : Nat) (m_tools : Int64) (m_can : Int32) (m_sum : Int64) (a_m_costs : Nat) (a_m_pieces : Nat) (a_m_maker : Nat) (a_m_partOf : Nat) (m_ran : Int32) (m_keptRows : Int32) (a_m_keptCosts : Nat) (a_m_keptPieces : Nat) (a_m_keptMaker : Nat) (a_m_keptPart : Nat) (a_m_oldCosts : Nat) (m_placings : Nat → Int64) (Q : Int32 → Int32 → (Nat → Int64) → Prop) (hw : wp_M_placed p0 p1 m_placings Q) : CT g y_M_placed c_M_placed 4 (some .boolean) ({ frames := 1, cells := 0, slots := 0, locals := 25 } : Room) [.ref a_t, .int p0, .long p1] [(a_t, .inr (6, [.int m_thrown, .int m_parts, .ref a_m_stepCount, .ref a_m_froms, .ref a_m_cents, .ref a_m_uses, .ref a_m_stocks, .ref a_m_alternates, .ref a_m_assemblies, .ref a_m_placings, .int m_yields, .ref a_m_yieldAbove, .ref a_m_yieldBelow, .ref a_m_dayCount, .ref a_m_days, .ref a_m_rateAbove, .ref a_m_rateBelow, .long m_tools, .int m_can, .long m_sum, .ref a_m_costs, .ref a_m_pieces, .ref a_m_maker, .ref a_m_partOf, .int m_ran, .int m_keptRows, .ref a_m_keptCosts, .ref a_m_keptPieces, .ref a_m_keptMaker, .ref a_m_keptPart, .ref a_m_oldCosts])), aJ g a_m_placings 8 m_placings] (QI g [(a_t, .inr (6, [.int m_thrown, .int m_parts, .ref a_m_stepCount, .ref a_m_froms, .ref a_m_cents, .ref a_m_uses, .ref a_m_stocks, .ref a_m_alternates, .ref a_m_assemblies, .ref a_m_placings, .int m_yields, .ref a_m_yieldAbove, .ref a_m_yieldBelow, .ref a_m_dayCount, .ref a_m_days, .ref a_m_rateAbove, .ref a_m_rateBelow, .long m_tools, .int m_can, .long m_sum, .ref a_m_costs, .ref a_m_pieces, .ref a_m_maker, .ref a_m_partOf, .int m_ran, .int m_keptRows, .ref a_m_keptCosts, .ref a_m_keptPieces, .ref a_m_keptMaker, .ref a_m_keptPart, .ref a_m_oldCosts])), aJ g a_m_placings 8 m_placings] (fun u : Int32 × (Nat → Int64) => [(a_t, .inr (6, [.int u.1, .int m_parts, .ref a_m_stepCount, .ref a_m_froms, .ref a_m_cents, .ref a_m_uses, .ref a_m_stocks, .ref a_m_alternates, .ref a_m_assemblies, .ref a_m_placings, .int m_yields, .ref a_m_yieldAbove, .ref a_m_yieldBelow, .ref a_m_dayCount, .ref a_m_days, .ref a_m_rateAbove, .ref a_m_rateBelow, .long m_tools, .int m_can, .long m_sum, .ref a_m_costs, .ref a_m_pieces, .ref a_m_maker, .ref a_m_partOf, .int m_ran, .int m_keptRows, .ref a_m_keptCosts, .ref a_m_keptPieces, .ref a_m_keptMaker, .ref a_m_keptPart, .ref a_m_oldCosts])), aJ g a_m_placings 8 u.2]) (fun r u => Q r u.1 u.2)) := by
  refine ct_of hg (by decide) (Nat.le_of_ble_eq_true rfl) (fun sz C X hr => ?_)
  unfold wp_M_placed at hw
  show ST g C [(a_t, .inr (6, [.int m_thrown, .int m_parts, .ref a_m_stepCount, .ref a_m_froms, .ref a_m_cents, .ref a_m_uses, .ref a_m_stocks, .ref a_m_alternates, .ref a_m_assemblies, .ref a_m_placings, .int m_yields, .ref a_m_yieldAbove, .ref a_m_yieldBelow, .ref a_m_dayCount, .ref a_m_days, .ref a_m_rateAbove, .ref a_m_rateBelow, .long m_tools, .int m_can, .long m_sum, .ref a_m_costs, .ref a_m_pieces, .ref a_m_maker, .ref a_m_partOf, .int m_ran, .int m_keptRows, .ref a_m_keptCosts, .ref a_m_keptPieces, .ref a_m_keptMaker, .ref a_m_keptPart, .ref a_m_oldCosts])), aJ g a_m_placings 8 m_placings] [(0, .ref a_t), (1, .int p0), (2, .long p1)] [] 0 0 0
  refine st_aload_n X 0 d_M_placed_0 rfl rfl ?_
  refine st_iload_n X 1 d_M_placed_1 rfl rfl ?_
  have hR := rn_S (pc := 2) (k := 0) (n := 0) (As := [.int p0]) (rest := [.ref a_t]) X (k_M_isSort g hg p0 _ hw) wm_M_108 ws_M_isSort wz_M wc_M_isSort h9_M_isSort ⟨by decide, by decide⟩ (Nat.le_of_ble_eq_true rfl) ⟨by decide, by decide⟩ d_M_placed_2
  refine st_calli X hR [] [0, 1] (wr := [(a_t, .inr (6, [.int m_thrown, .int m_parts, .ref a_m_stepCount, .ref a_m_froms, .ref a_m_cents, .ref a_m_uses, .ref a_m_stocks, .ref a_m_alternates, .ref a_m_assemblies, .ref a_m_placings, .int m_yields, .ref a_m_yieldAbove, .ref a_m_yieldBelow, .ref a_m_dayCount, .ref a_m_days, .ref a_m_rateAbove, .ref a_m_rateBelow, .long m_tools, .int m_can, .long m_sum, .ref a_m_costs, .ref a_m_pieces, .ref a_m_maker, .ref a_m_partOf, .int m_ran, .int m_keptRows, .ref a_m_keptCosts, .ref a_m_keptPieces, .ref a_m_keptMaker, .ref a_m_keptPart, .ref a_m_oldCosts])), aJ g a_m_placings 8 m_placings]) rfl rfl (by decide) (by decide) (by decide) (fun r1 u9 hw => ?_)
  try dsimp only at hw
  refine st_widen (k2 := 0) (n2 := 0) (by decide) (by decide) ?_
  refine st_perm (ws2 := [(a_t, .inr (6, [.int m_thrown, .int m_parts, .ref a_m_stepCount, .ref a_m_froms, .ref a_m_cents, .ref a_m_uses, .ref a_m_stocks, .ref a_m_alternates, .ref a_m_assemblies, .ref a_m_placings, .int m_yields, .ref a_m_yieldAbove, .ref a_m_yieldBelow, .ref a_m_dayCount, .ref a_m_days, .ref a_m_rateAbove, .ref a_m_rateBelow, .long m_tools, .int m_can, .long m_sum, .ref a_m_costs, .ref a_m_pieces, .ref a_m_maker, .ref a_m_partOf, .int m_ran, .int m_keptRows, .ref a_m_keptCosts, .ref a_m_keptPieces, .ref a_m_keptMaker, .ref a_m_keptPart, .ref a_m_oldCosts])), aJ g a_m_placings 8 m_placings]) [0, 1] rfl (by decide) ?_
  show ST g C [(a_t, .inr (6, [.int m_thrown, .int m_parts, .ref a_m_stepCount, .ref a_m_froms, .ref a_m_cents, .ref a_m_uses, .ref a_m_stocks, .ref a_m_alternates, .ref a_m_assemblies, .ref a_m_placings, .int m_yields, .ref a_m_yieldAbove, .ref a_m_yieldBelow, .ref a_m_dayCount, .ref a_m_days, .ref a_m_rateAbove, .ref a_m_rateBelow, .long m_tools, .int m_can, .long m_sum, .ref a_m_costs, .ref a_m_pieces, .ref a_m_maker, .ref a_m_partOf, .int m_ran, .int m_keptRows, .ref a_m_keptCosts, .ref a_m_keptPieces, .ref a_m_keptMaker, .ref a_m_keptPart, .ref a_m_oldCosts])), aJ g a_m_placings 8 m_placings] [(0, .ref a_t), (1, .int p0), (2, .long p1)] [.int r1, .ref a_t] 5 0 0
  have J28 : ∀ (v2 : Int32), wp_M_placed_J28 p0 p1 m_placings Q v2 → ST g C [(a_t, .inr (6, [.int m_thrown, .int m_parts, .ref a_m_stepCount, .ref a_m_froms, .ref a_m_cents, .ref a_m_uses, .ref a_m_stocks, .ref a_m_alternates, .ref a_m_assemblies, .ref a_m_placings, .int m_yields, .ref a_m_yieldAbove, .ref a_m_yieldBelow, .ref a_m_dayCount, .ref a_m_days, .ref a_m_rateAbove, .ref a_m_rateBelow, .long m_tools, .int m_can, .long m_sum, .ref a_m_costs, .ref a_m_pieces, .ref a_m_maker, .ref a_m_partOf, .int m_ran, .int m_keptRows, .ref a_m_keptCosts, .ref a_m_keptPieces, .ref a_m_keptMaker, .ref a_m_keptPart, .ref a_m_oldCosts])), aJ g a_m_placings 8 m_placings] [(0, .ref a_t), (1, .int p0), (2, .long p1)] [.int v2, .ref a_t] 28 0 0 := by
    intro v2 hw
    unfold wp_M_placed_J28 at hw
    refine st_put X (ci := 6) (ty := .int) in_M t_M to_M nm_M 0 0 wf_M_80 rfl rfl (by decide) rfl (by decide +kernel) rfl rfl (Nat.le_of_ble_eq_true rfl) (ws2 := [(a_t, .inr (6, [.int v2, .int m_parts, .ref a_m_stepCount, .ref a_m_froms, .ref a_m_cents, .ref a_m_uses, .ref a_m_stocks, .ref a_m_alternates, .ref a_m_assemblies, .ref a_m_placings, .int m_yields, .ref a_m_yieldAbove, .ref a_m_yieldBelow, .ref a_m_dayCount, .ref a_m_days, .ref a_m_rateAbove, .ref a_m_rateBelow, .long m_tools, .int m_can, .long m_sum, .ref a_m_costs, .ref a_m_pieces, .ref a_m_maker, .ref a_m_partOf, .int m_ran, .int m_keptRows, .ref a_m_keptCosts, .ref a_m_keptPieces, .ref a_m_keptMaker, .ref a_m_keptPart, .ref a_m_oldCosts])), aJ g a_m_placings 8 m_placings]) rfl d_M_placed_28 ?_
    refine st_aload_n X 0 d_M_placed_31 rfl rfl ?_
    refine st_get X (ci := 6) in_M 0 0 wf_M_80 rfl rfl (by decide) rfl d_M_placed_32 ?_
    have J49 : wp_M_placed_J49 m_placings v2 Q → ST g C [(a_t, .inr (6, [.int v2, .int m_parts, .ref a_m_stepCount, .ref a_m_froms, .ref a_m_cents, .ref a_m_uses, .ref a_m_stocks, .ref a_m_alternates, .ref a_m_assemblies, .ref a_m_placings, .int m_yields, .ref a_m_yieldAbove, .ref a_m_yieldBelow, .ref a_m_dayCount, .ref a_m_days, .ref a_m_rateAbove, .ref a_m_rateBelow, .long m_tools, .int m_can, .long m_sum, .ref a_m_costs, .ref a_m_pieces, .ref a_m_maker, .ref a_m_partOf, .int m_ran, .int m_keptRows, .ref a_m_keptCosts, .ref a_m_keptPieces, .ref a_m_keptMaker, .ref a_m_keptPart, .ref a_m_oldCosts])), aJ g a_m_placings 8 m_placings] [(0, .ref a_t), (1, .int p0), (2, .long p1)] [] 49 0 0 := by
      intro hw
      unfold wp_M_placed_J49 at hw
      refine st_iconst X (v := 0) d_M_placed_49 (by decide) ?_
      obtain ⟨hz, hw⟩ := hw
      exact st_zret X hr (v2, m_placings) hw hz rfl (by decide) (by decide) d_M_placed_50
    refine st_if_ne X 49 d_M_placed_35 (by decide) (fun hc => ?_) (fun hc => ?_)
    · replace hw := hw.1 hc
      refine st_lv [0, 1, 2] rfl ?_
      exact J49 hw
    · replace hw := hw.2 hc
      refine st_aload_n X 0 d_M_placed_38 rfl rfl ?_
      refine st_get X (ci := 6) in_M 0 9 wf_M_32 rfl rfl (by decide) rfl d_M_placed_39 ?_
      refine st_iload_n X 1 d_M_placed_42 rfl rfl ?_
      obtain ⟨hb1, hw⟩ := hw
      refine st_lald X 1 rfl hb1 d_M_placed_43 ?_
      refine st_lload_n X 2 d_M_placed_44 rfl rfl ?_
      refine st_lcmp_ne X 51 d_M_placed_45 d_M_placed_46 (by decide) (fun hc => ?_) (fun hc => ?_)
      · replace hw := hw.1 hc
        refine st_aload_n X 0 d_M_placed_51 rfl rfl ?_
        refine st_get X (ci := 6) in_M 0 9 wf_M_32 rfl rfl (by decide) rfl d_M_placed_52 ?_
        refine st_iload_n X 1 d_M_placed_55 rfl rfl ?_
        refine st_lload_n X 2 d_M_placed_56 rfl rfl ?_
        obtain ⟨hb2, hw⟩ := hw
        obtain ⟨f3, hf3⟩ : ∃ z : Nat → Int64, z = vp_updL m_placings p0.toNatClampNeg p1 := ⟨_, rfl⟩
        replace hw := hw f3 hf3
        refine st_last X (ws2 := [(a_t, .inr (6, [.int v2, .int m_parts, .ref a_m_stepCount, .ref a_m_froms, .ref a_m_cents, .ref a_m_uses, .ref a_m_stocks, .ref a_m_alternates, .ref a_m_assemblies, .ref a_m_placings, .int m_yields, .ref a_m_yieldAbove, .ref a_m_yieldBelow, .ref a_m_dayCount, .ref a_m_days, .ref a_m_rateAbove, .ref a_m_rateBelow, .long m_tools, .int m_can, .long m_sum, .ref a_m_costs, .ref a_m_pieces, .ref a_m_maker, .ref a_m_partOf, .int m_ran, .int m_keptRows, .ref a_m_keptCosts, .ref a_m_keptPieces, .ref a_m_keptMaker, .ref a_m_keptPart, .ref a_m_oldCosts])), aJ g a_m_placings 8 f3]) 1 rfl hb2 (by rw [hf3]; rfl) d_M_placed_57 ?_
        refine st_iconst X (v := 1) d_M_placed_58 (by decide) ?_
        obtain ⟨hz, hw⟩ := hw
        exact st_zret X hr (v2, f3) hw hz rfl (by decide) (by decide) d_M_placed_59
      · replace hw := hw.2 hc
        refine st_lv [0, 1, 2] rfl ?_
        exact J49 hw
  refine st_if_ne X 12 d_M_placed_5 (by decide) (fun hc => ?_) (fun hc => ?_)
  · replace hw := hw.1 hc
    refine st_lload_n X 2 d_M_placed_12 rfl rfl ?_
    refine st_lconst X (v := 0) d_M_placed_13 (by decide) ?_
    refine st_ldc2 X wv_M_106 d_M_placed_14 ?_
    have hR := rn_S (pc := 17) (k := 0) (n := 0) (As := [.long p1, .long 0, .long 1000]) (rest := [.ref a_t]) X (k_M_within g hg p1 (0 : Int64) (1000 : Int64) _ hw) wm_M_89 ws_M_within wz_M wc_M_within h9_M_within ⟨by decide, by decide⟩ (Nat.le_of_ble_eq_true rfl) ⟨by decide, by decide⟩ d_M_placed_17
    refine st_calli X hR [] [0, 1] (wr := [(a_t, .inr (6, [.int m_thrown, .int m_parts, .ref a_m_stepCount, .ref a_m_froms, .ref a_m_cents, .ref a_m_uses, .ref a_m_stocks, .ref a_m_alternates, .ref a_m_assemblies, .ref a_m_placings, .int m_yields, .ref a_m_yieldAbove, .ref a_m_yieldBelow, .ref a_m_dayCount, .ref a_m_days, .ref a_m_rateAbove, .ref a_m_rateBelow, .long m_tools, .int m_can, .long m_sum, .ref a_m_costs, .ref a_m_pieces, .ref a_m_maker, .ref a_m_partOf, .int m_ran, .int m_keptRows, .ref a_m_keptCosts, .ref a_m_keptPieces, .ref a_m_keptMaker, .ref a_m_keptPart, .ref a_m_oldCosts])), aJ g a_m_placings 8 m_placings]) rfl rfl (by decide) (by decide) (by decide) (fun r4 u9 hw => ?_)
    try dsimp only at hw
    refine st_widen (k2 := 0) (n2 := 0) (by decide) (by decide) ?_
    refine st_perm (ws2 := [(a_t, .inr (6, [.int m_thrown, .int m_parts, .ref a_m_stepCount, .ref a_m_froms, .ref a_m_cents, .ref a_m_uses, .ref a_m_stocks, .ref a_m_alternates, .ref a_m_assemblies, .ref a_m_placings, .int m_yields, .ref a_m_yieldAbove, .ref a_m_yieldBelow, .ref a_m_dayCount, .ref a_m_days, .ref a_m_rateAbove, .ref a_m_rateBelow, .long m_tools, .int m_can, .long m_sum, .ref a_m_costs, .ref a_m_pieces, .ref a_m_maker, .ref a_m_partOf, .int m_ran, .int m_keptRows, .ref a_m_keptCosts, .ref a_m_keptPieces, .ref a_m_keptMaker, .ref a_m_keptPart, .ref a_m_oldCosts])), aJ g a_m_placings 8 m_placings]) [0, 1] rfl (by decide) ?_
    show ST g C [(a_t, .inr (6, [.int m_thrown, .int m_parts, .ref a_m_stepCount, .ref a_m_froms, .ref a_m_cents, .ref a_m_uses, .ref a_m_stocks, .ref a_m_alternates, .ref a_m_assemblies, .ref a_m_placings, .int m_yields, .ref a_m_yieldAbove, .ref a_m_yieldBelow, .ref a_m_dayCount, .ref a_m_days, .ref a_m_rateAbove, .ref a_m_rateBelow, .long m_tools, .int m_can, .long m_sum, .ref a_m_costs, .ref a_m_pieces, .ref a_m_maker, .ref a_m_partOf, .int m_ran, .int m_keptRows, .ref a_m_keptCosts, .ref a_m_keptPieces, .ref a_m_keptMaker, .ref a_m_keptPart, .ref a_m_oldCosts])), aJ g a_m_placings 8 m_placings] [(0, .ref a_t), (1, .int p0), (2, .long p1)] [.int r4, .ref a_t] 20 0 0
    refine st_if_eq X 27 d_M_placed_20 (by decide) (fun hc => ?_) (fun hc => ?_)
    · replace hw := hw.1 hc
      refine st_iconst X (v := 2) d_M_placed_27 (by decide) ?_
      refine st_lv [0, 1, 2] rfl ?_
      exact J28 2 hw
    · replace hw := hw.2 hc
      refine st_iconst X (v := 0) d_M_placed_23 (by decide) ?_
      refine st_goto X 28 d_M_placed_24 (by decide) ?_
      refine st_lv [0, 1, 2] rfl ?_
      exact J28 0 hw
  · replace hw := hw.2 hc
    refine st_iconst X (v := 1) d_M_placed_8 (by decide) ?_
    refine st_goto X 28 d_M_placed_9 (by decide) ?_
    refine st_lv [0, 1, 2] rfl ?_
    exact J28 1 hw

theorem h9_M_yieldOf : y_M_yieldOf.cls ≠ "java/lang/invoke/MethodHandle" ∧ y_M_yieldOf.cls ≠ "java/lang/invoke/VarHandle" ∧ (parseMethodDescriptor y_M_yieldOf.desc).map (fun d => d.parameters.length) = some 2 := by decide +kernel
def wp_M_yieldOf_J45 (m_yields : Int32) (m_yieldAbove : Nat → Int64) (m_yieldBelow : Nat → Int64) (v1 : Int32) (Q : Int32 → Int32 → Int32 → (Nat → Int64) → (Nat → Int64) → Prop) : Prop :=
  ((0 : Int32) = 0 ∨ (0 : Int32) = 1) ∧ Q 0 v1 m_yields m_yieldAbove m_yieldBelow
def wp_M_yieldOf_J26 (p0 : Int64) (p1 : Int64) (m_yields : Int32) (m_yieldAbove : Nat → Int64) (m_yieldBelow : Nat → Int64) (Q : Int32 → Int32 → Int32 → (Nat → Int64) → (Nat → Int64) → Prop) (v1 : Int32) : Prop :=
  ((¬ v1 = 0) → wp_M_yieldOf_J45 m_yields m_yieldAbove m_yieldBelow v1 Q) ∧
  ((v1 = 0) → ((¬ m_yields = 8) → vp_in m_yields 8 ∧
  ∀ f2 : Nat → Int64, f2 = vp_updL m_yieldAbove m_yields.toNatClampNeg p0 →
  vp_in m_yields 8 ∧
  ∀ f3 : Nat → Int64, f3 = vp_updL m_yieldBelow m_yields.toNatClampNeg p1 →
  ∀ x4 : Int32, x4 = m_yields + 1 →
  ((1 : Int32) = 0 ∨ (1 : Int32) = 1) ∧ Q 1 v1 x4 f2 f3) ∧
  ((m_yields = 8) → wp_M_yieldOf_J45 m_yields m_yieldAbove m_yieldBelow v1 Q))
def wp_M_yieldOf_J25 (p0 : Int64) (p1 : Int64) (m_yields : Int32) (m_yieldAbove : Nat → Int64) (m_yieldBelow : Nat → Int64) (Q : Int32 → Int32 → Int32 → (Nat → Int64) → (Nat → Int64) → Prop) : Prop :=
  wp_M_yieldOf_J26 p0 p1 m_yields m_yieldAbove m_yieldBelow Q 1
def wp_M_yieldOf (p0 : Int64) (p1 : Int64) (m_yields : Int32) (m_yieldAbove : Nat → Int64) (m_yieldBelow : Nat → Int64) (Q : Int32 → Int32 → Int32 → (Nat → Int64) → (Nat → Int64) → Prop) : Prop :=
  ((p0 < 1) → wp_M_yieldOf_J25 p0 p1 m_yields m_yieldAbove m_yieldBelow Q) ∧
  ((¬ p0 < 1) → ((p1 < p0) → wp_M_yieldOf_J25 p0 p1 m_yields m_yieldAbove m_yieldBelow Q) ∧
  ((¬ p1 < p0) → ((1000 < p1) → wp_M_yieldOf_J25 p0 p1 m_yields m_yieldAbove m_yieldBelow Q) ∧
  ((¬ 1000 < p1) → wp_M_yieldOf_J26 p0 p1 m_yields m_yieldAbove m_yieldBelow Q 0)))
set_option maxHeartbeats 4000000 in
set_option maxRecDepth 100000 in
theorem k_M_yieldOf (g : GX) (hg : g.1.stackTraces = false) (a_t : Nat) (p0 : Int64) (p1 : Int64) (m_thrown : Int32) (m_parts : Int32) (a_m_stepCount : Nat) (a_m_froms : Nat) (a_m_cents : Nat) (a_m_uses : Nat) (a_m_stocks : Nat) (a_m_alternates : Nat) (a_m_assemblies : Nat) (a_m_placings : Nat) (m_yields : Int32) (a_m_yieldAbove : Nat) (a_m_yieldBelow : Nat) (a_m_dayCount : Nat) (a_m_days : Nat) (a_m_rateAbove : Nat) (a_m_rateBelow : Nat) (m_tools : Int64) (m_can : Int32) (m_sum : Int64) (a_m_costs : Nat) (a_m_pieces : Nat) (a_m_maker : Nat) (a_m_partOf : Nat) (m_ran : Int32) (m_keptRows : Int32) (a_m_keptCosts : Nat) (a_m_keptPieces : Nat) (a_m_keptMaker : Nat) (a_m_keptPart : Nat) (a_m_oldCosts : Nat) (m_yieldAbove : Nat → Int64) (m_yieldBelow : Nat → Int64) (Q : Int32 → Int32 → Int32 → (Nat → Int64) → (Nat → Int64) → Prop) (hw : wp_M_yieldOf p0 p1 m_yields m_yieldAbove m_yieldBelow Q) : CT g y_M_yieldOf c_M_yieldOf 5 (some .boolean) ({ frames := 0, cells := 0, slots := 0, locals := 0 } : Room) [.ref a_t, .long p0, .long p1] [(a_t, .inr (6, [.int m_thrown, .int m_parts, .ref a_m_stepCount, .ref a_m_froms, .ref a_m_cents, .ref a_m_uses, .ref a_m_stocks, .ref a_m_alternates, .ref a_m_assemblies, .ref a_m_placings, .int m_yields, .ref a_m_yieldAbove, .ref a_m_yieldBelow, .ref a_m_dayCount, .ref a_m_days, .ref a_m_rateAbove, .ref a_m_rateBelow, .long m_tools, .int m_can, .long m_sum, .ref a_m_costs, .ref a_m_pieces, .ref a_m_maker, .ref a_m_partOf, .int m_ran, .int m_keptRows, .ref a_m_keptCosts, .ref a_m_keptPieces, .ref a_m_keptMaker, .ref a_m_keptPart, .ref a_m_oldCosts])), aJ g a_m_yieldAbove 8 m_yieldAbove, aJ g a_m_yieldBelow 8 m_yieldBelow] (QI g [(a_t, .inr (6, [.int m_thrown, .int m_parts, .ref a_m_stepCount, .ref a_m_froms, .ref a_m_cents, .ref a_m_uses, .ref a_m_stocks, .ref a_m_alternates, .ref a_m_assemblies, .ref a_m_placings, .int m_yields, .ref a_m_yieldAbove, .ref a_m_yieldBelow, .ref a_m_dayCount, .ref a_m_days, .ref a_m_rateAbove, .ref a_m_rateBelow, .long m_tools, .int m_can, .long m_sum, .ref a_m_costs, .ref a_m_pieces, .ref a_m_maker, .ref a_m_partOf, .int m_ran, .int m_keptRows, .ref a_m_keptCosts, .ref a_m_keptPieces, .ref a_m_keptMaker, .ref a_m_keptPart, .ref a_m_oldCosts])), aJ g a_m_yieldAbove 8 m_yieldAbove, aJ g a_m_yieldBelow 8 m_yieldBelow] (fun u : Int32 × Int32 × (Nat → Int64) × (Nat → Int64) => [(a_t, .inr (6, [.int u.1, .int m_parts, .ref a_m_stepCount, .ref a_m_froms, .ref a_m_cents, .ref a_m_uses, .ref a_m_stocks, .ref a_m_alternates, .ref a_m_assemblies, .ref a_m_placings, .int u.2.1, .ref a_m_yieldAbove, .ref a_m_yieldBelow, .ref a_m_dayCount, .ref a_m_days, .ref a_m_rateAbove, .ref a_m_rateBelow, .long m_tools, .int m_can, .long m_sum, .ref a_m_costs, .ref a_m_pieces, .ref a_m_maker, .ref a_m_partOf, .int m_ran, .int m_keptRows, .ref a_m_keptCosts, .ref a_m_keptPieces, .ref a_m_keptMaker, .ref a_m_keptPart, .ref a_m_oldCosts])), aJ g a_m_yieldAbove 8 u.2.2.1, aJ g a_m_yieldBelow 8 u.2.2.2]) (fun r u => Q r u.1 u.2.1 u.2.2.1 u.2.2.2)) := by
  refine ct_of hg (by decide) (Nat.le_of_ble_eq_true rfl) (fun sz C X hr => ?_)
  unfold wp_M_yieldOf at hw
  show ST g C [(a_t, .inr (6, [.int m_thrown, .int m_parts, .ref a_m_stepCount, .ref a_m_froms, .ref a_m_cents, .ref a_m_uses, .ref a_m_stocks, .ref a_m_alternates, .ref a_m_assemblies, .ref a_m_placings, .int m_yields, .ref a_m_yieldAbove, .ref a_m_yieldBelow, .ref a_m_dayCount, .ref a_m_days, .ref a_m_rateAbove, .ref a_m_rateBelow, .long m_tools, .int m_can, .long m_sum, .ref a_m_costs, .ref a_m_pieces, .ref a_m_maker, .ref a_m_partOf, .int m_ran, .int m_keptRows, .ref a_m_keptCosts, .ref a_m_keptPieces, .ref a_m_keptMaker, .ref a_m_keptPart, .ref a_m_oldCosts])), aJ g a_m_yieldAbove 8 m_yieldAbove, aJ g a_m_yieldBelow 8 m_yieldBelow] [(0, .ref a_t), (1, .long p0), (3, .long p1)] [] 0 0 0
  refine st_aload_n X 0 d_M_yieldOf_0 rfl rfl ?_
  refine st_lload_n X 1 d_M_yieldOf_1 rfl rfl ?_
  refine st_lconst X (v := 1) d_M_yieldOf_2 (by decide) ?_
  have J26 : ∀ (v1 : Int32), wp_M_yieldOf_J26 p0 p1 m_yields m_yieldAbove m_yieldBelow Q v1 → ST g C [(a_t, .inr (6, [.int m_thrown, .int m_parts, .ref a_m_stepCount, .ref a_m_froms, .ref a_m_cents, .ref a_m_uses, .ref a_m_stocks, .ref a_m_alternates, .ref a_m_assemblies, .ref a_m_placings, .int m_yields, .ref a_m_yieldAbove, .ref a_m_yieldBelow, .ref a_m_dayCount, .ref a_m_days, .ref a_m_rateAbove, .ref a_m_rateBelow, .long m_tools, .int m_can, .long m_sum, .ref a_m_costs, .ref a_m_pieces, .ref a_m_maker, .ref a_m_partOf, .int m_ran, .int m_keptRows, .ref a_m_keptCosts, .ref a_m_keptPieces, .ref a_m_keptMaker, .ref a_m_keptPart, .ref a_m_oldCosts])), aJ g a_m_yieldAbove 8 m_yieldAbove, aJ g a_m_yieldBelow 8 m_yieldBelow] [(0, .ref a_t), (1, .long p0), (3, .long p1)] [.int v1, .ref a_t] 26 0 0 := by
    intro v1 hw
    unfold wp_M_yieldOf_J26 at hw
    refine st_put X (ci := 6) (ty := .int) in_M t_M to_M nm_M 0 0 wf_M_80 rfl rfl (by decide) rfl (by decide +kernel) rfl rfl (Nat.le_of_ble_eq_true rfl) (ws2 := [(a_t, .inr (6, [.int v1, .int m_parts, .ref a_m_stepCount, .ref a_m_froms, .ref a_m_cents, .ref a_m_uses, .ref a_m_stocks, .ref a_m_alternates, .ref a_m_assemblies, .ref a_m_placings, .int m_yields, .ref a_m_yieldAbove, .ref a_m_yieldBelow, .ref a_m_dayCount, .ref a_m_days, .ref a_m_rateAbove, .ref a_m_rateBelow, .long m_tools, .int m_can, .long m_sum, .ref a_m_costs, .ref a_m_pieces, .ref a_m_maker, .ref a_m_partOf, .int m_ran, .int m_keptRows, .ref a_m_keptCosts, .ref a_m_keptPieces, .ref a_m_keptMaker, .ref a_m_keptPart, .ref a_m_oldCosts])), aJ g a_m_yieldAbove 8 m_yieldAbove, aJ g a_m_yieldBelow 8 m_yieldBelow]) rfl d_M_yieldOf_26 ?_
    refine st_aload_n X 0 d_M_yieldOf_29 rfl rfl ?_
    refine st_get X (ci := 6) in_M 0 0 wf_M_80 rfl rfl (by decide) rfl d_M_yieldOf_30 ?_
    have J45 : wp_M_yieldOf_J45 m_yields m_yieldAbove m_yieldBelow v1 Q → ST g C [(a_t, .inr (6, [.int v1, .int m_parts, .ref a_m_stepCount, .ref a_m_froms, .ref a_m_cents, .ref a_m_uses, .ref a_m_stocks, .ref a_m_alternates, .ref a_m_assemblies, .ref a_m_placings, .int m_yields, .ref a_m_yieldAbove, .ref a_m_yieldBelow, .ref a_m_dayCount, .ref a_m_days, .ref a_m_rateAbove, .ref a_m_rateBelow, .long m_tools, .int m_can, .long m_sum, .ref a_m_costs, .ref a_m_pieces, .ref a_m_maker, .ref a_m_partOf, .int m_ran, .int m_keptRows, .ref a_m_keptCosts, .ref a_m_keptPieces, .ref a_m_keptMaker, .ref a_m_keptPart, .ref a_m_oldCosts])), aJ g a_m_yieldAbove 8 m_yieldAbove, aJ g a_m_yieldBelow 8 m_yieldBelow] [(0, .ref a_t), (1, .long p0), (3, .long p1)] [] 45 0 0 := by
      intro hw
      unfold wp_M_yieldOf_J45 at hw
      refine st_iconst X (v := 0) d_M_yieldOf_45 (by decide) ?_
      obtain ⟨hz, hw⟩ := hw
      exact st_zret X hr (v1, m_yields, m_yieldAbove, m_yieldBelow) hw hz rfl (by decide) (by decide) d_M_yieldOf_46
    refine st_if_ne X 45 d_M_yieldOf_33 (by decide) (fun hc => ?_) (fun hc => ?_)
    · replace hw := hw.1 hc
      refine st_lv [0, 1, 2] rfl ?_
      exact J45 hw
    · replace hw := hw.2 hc
      refine st_aload_n X 0 d_M_yieldOf_36 rfl rfl ?_
      refine st_get X (ci := 6) in_M 0 10 wf_M_113 rfl rfl (by decide) rfl d_M_yieldOf_37 ?_
      refine st_bipush X (v := 8) d_M_yieldOf_40 (by decide) ?_
      refine st_icmp_ne X 47 d_M_yieldOf_42 (by decide) (fun hc => ?_) (fun hc => ?_)
      · replace hw := hw.1 hc
        refine st_aload_n X 0 d_M_yieldOf_47 rfl rfl ?_
        refine st_get X (ci := 6) in_M 0 11 wf_M_35 rfl rfl (by decide) rfl d_M_yieldOf_48 ?_
        refine st_aload_n X 0 d_M_yieldOf_51 rfl rfl ?_
        refine st_get X (ci := 6) in_M 0 10 wf_M_113 rfl rfl (by decide) rfl d_M_yieldOf_52 ?_
        refine st_lload_n X 1 d_M_yieldOf_55 rfl rfl ?_
        obtain ⟨hb1, hw⟩ := hw
        obtain ⟨f2, hf2⟩ : ∃ z : Nat → Int64, z = vp_updL m_yieldAbove m_yields.toNatClampNeg p0 := ⟨_, rfl⟩
        replace hw := hw f2 hf2
        refine st_last X (ws2 := [(a_t, .inr (6, [.int v1, .int m_parts, .ref a_m_stepCount, .ref a_m_froms, .ref a_m_cents, .ref a_m_uses, .ref a_m_stocks, .ref a_m_alternates, .ref a_m_assemblies, .ref a_m_placings, .int m_yields, .ref a_m_yieldAbove, .ref a_m_yieldBelow, .ref a_m_dayCount, .ref a_m_days, .ref a_m_rateAbove, .ref a_m_rateBelow, .long m_tools, .int m_can, .long m_sum, .ref a_m_costs, .ref a_m_pieces, .ref a_m_maker, .ref a_m_partOf, .int m_ran, .int m_keptRows, .ref a_m_keptCosts, .ref a_m_keptPieces, .ref a_m_keptMaker, .ref a_m_keptPart, .ref a_m_oldCosts])), aJ g a_m_yieldAbove 8 f2, aJ g a_m_yieldBelow 8 m_yieldBelow]) 1 rfl hb1 (by rw [hf2]; rfl) d_M_yieldOf_56 ?_
        refine st_aload_n X 0 d_M_yieldOf_57 rfl rfl ?_
        refine st_get X (ci := 6) in_M 0 12 wf_M_38 rfl rfl (by decide) rfl d_M_yieldOf_58 ?_
        refine st_aload_n X 0 d_M_yieldOf_61 rfl rfl ?_
        refine st_get X (ci := 6) in_M 0 10 wf_M_113 rfl rfl (by decide) rfl d_M_yieldOf_62 ?_
        refine st_lload_n X 2 d_M_yieldOf_65 rfl rfl ?_
        obtain ⟨hb2, hw⟩ := hw
        obtain ⟨f3, hf3⟩ : ∃ z : Nat → Int64, z = vp_updL m_yieldBelow m_yields.toNatClampNeg p1 := ⟨_, rfl⟩
        replace hw := hw f3 hf3
        refine st_last X (ws2 := [(a_t, .inr (6, [.int v1, .int m_parts, .ref a_m_stepCount, .ref a_m_froms, .ref a_m_cents, .ref a_m_uses, .ref a_m_stocks, .ref a_m_alternates, .ref a_m_assemblies, .ref a_m_placings, .int m_yields, .ref a_m_yieldAbove, .ref a_m_yieldBelow, .ref a_m_dayCount, .ref a_m_days, .ref a_m_rateAbove, .ref a_m_rateBelow, .long m_tools, .int m_can, .long m_sum, .ref a_m_costs, .ref a_m_pieces, .ref a_m_maker, .ref a_m_partOf, .int m_ran, .int m_keptRows, .ref a_m_keptCosts, .ref a_m_keptPieces, .ref a_m_keptMaker, .ref a_m_keptPart, .ref a_m_oldCosts])), aJ g a_m_yieldAbove 8 f2, aJ g a_m_yieldBelow 8 f3]) 2 rfl hb2 (by rw [hf3]; rfl) d_M_yieldOf_66 ?_
        refine st_aload_n X 0 d_M_yieldOf_67 rfl rfl ?_
        refine st_dup X d_M_yieldOf_68 rfl ?_
        refine st_get X (ci := 6) in_M 0 10 wf_M_113 rfl rfl (by decide) rfl d_M_yieldOf_69 ?_
        refine st_iconst X (v := 1) d_M_yieldOf_72 (by decide) ?_
        refine st_iadd X d_M_yieldOf_73 ?_
        refine st_topi (fun x4 hx4 => ?_)
        replace hw := hw x4 hx4
        refine st_put X (ci := 6) (ty := .int) in_M t_M to_M nm_M 0 10 wf_M_113 rfl rfl (by decide) rfl (by decide +kernel) rfl rfl (Nat.le_of_ble_eq_true rfl) (ws2 := [(a_t, .inr (6, [.int v1, .int m_parts, .ref a_m_stepCount, .ref a_m_froms, .ref a_m_cents, .ref a_m_uses, .ref a_m_stocks, .ref a_m_alternates, .ref a_m_assemblies, .ref a_m_placings, .int x4, .ref a_m_yieldAbove, .ref a_m_yieldBelow, .ref a_m_dayCount, .ref a_m_days, .ref a_m_rateAbove, .ref a_m_rateBelow, .long m_tools, .int m_can, .long m_sum, .ref a_m_costs, .ref a_m_pieces, .ref a_m_maker, .ref a_m_partOf, .int m_ran, .int m_keptRows, .ref a_m_keptCosts, .ref a_m_keptPieces, .ref a_m_keptMaker, .ref a_m_keptPart, .ref a_m_oldCosts])), aJ g a_m_yieldAbove 8 f2, aJ g a_m_yieldBelow 8 f3]) rfl d_M_yieldOf_74 ?_
        refine st_iconst X (v := 1) d_M_yieldOf_77 (by decide) ?_
        obtain ⟨hz, hw⟩ := hw
        exact st_zret X hr (v1, x4, f2, f3) hw hz rfl (by decide) (by decide) d_M_yieldOf_78
      · replace hw := hw.2 hc
        refine st_lv [0, 1, 2] rfl ?_
        exact J45 hw
  have J25 : wp_M_yieldOf_J25 p0 p1 m_yields m_yieldAbove m_yieldBelow Q → ST g C [(a_t, .inr (6, [.int m_thrown, .int m_parts, .ref a_m_stepCount, .ref a_m_froms, .ref a_m_cents, .ref a_m_uses, .ref a_m_stocks, .ref a_m_alternates, .ref a_m_assemblies, .ref a_m_placings, .int m_yields, .ref a_m_yieldAbove, .ref a_m_yieldBelow, .ref a_m_dayCount, .ref a_m_days, .ref a_m_rateAbove, .ref a_m_rateBelow, .long m_tools, .int m_can, .long m_sum, .ref a_m_costs, .ref a_m_pieces, .ref a_m_maker, .ref a_m_partOf, .int m_ran, .int m_keptRows, .ref a_m_keptCosts, .ref a_m_keptPieces, .ref a_m_keptMaker, .ref a_m_keptPart, .ref a_m_oldCosts])), aJ g a_m_yieldAbove 8 m_yieldAbove, aJ g a_m_yieldBelow 8 m_yieldBelow] [(0, .ref a_t), (1, .long p0), (3, .long p1)] [.ref a_t] 25 0 0 := by
    intro hw
    unfold wp_M_yieldOf_J25 at hw
    refine st_iconst X (v := 1) d_M_yieldOf_25 (by decide) ?_
    refine st_lv [0, 1, 2] rfl ?_
    exact J26 1 hw
  refine st_lcmp_lt X 25 d_M_yieldOf_3 d_M_yieldOf_4 (by decide) (fun hc => ?_) (fun hc => ?_)
  · replace hw := hw.1 hc
    refine st_lv [0, 1, 2] rfl ?_
    exact J25 hw
  · replace hw := hw.2 hc
    refine st_lload_n X 1 d_M_yieldOf_7 rfl rfl ?_
    refine st_lload_n X 2 d_M_yieldOf_8 rfl rfl ?_
    refine st_lcmp_gt X 25 d_M_yieldOf_9 d_M_yieldOf_10 (by decide) (fun hc => ?_) (fun hc => ?_)
    · replace hw := hw.1 hc
      refine st_lv [0, 1, 2] rfl ?_
      exact J25 hw
    · replace hw := hw.2 hc
      refine st_lload_n X 2 d_M_yieldOf_13 rfl rfl ?_
      refine st_ldc2 X wv_M_106 d_M_yieldOf_14 ?_
      refine st_lcmp_gt X 25 d_M_yieldOf_17 d_M_yieldOf_18 (by decide) (fun hc => ?_) (fun hc => ?_)
      · replace hw := hw.1 hc
        refine st_lv [0, 1, 2] rfl ?_
        exact J25 hw
      · replace hw := hw.2 hc
        refine st_iconst X (v := 0) d_M_yieldOf_21 (by decide) ?_
        refine st_goto X 26 d_M_yieldOf_22 (by decide) ?_
        refine st_lv [0, 1, 2] rfl ?_
        exact J26 0 hw

theorem h9_M_tooling : y_M_tooling.cls ≠ "java/lang/invoke/MethodHandle" ∧ y_M_tooling.cls ≠ "java/lang/invoke/VarHandle" ∧ (parseMethodDescriptor y_M_tooling.desc).map (fun d => d.parameters.length) = some 1 := by decide +kernel
def wp_M_tooling_J36 (m_tools : Int64) (v2 : Int32) (Q : Int32 → Int32 → Int64 → Prop) : Prop :=
  ((0 : Int32) = 0 ∨ (0 : Int32) = 1) ∧ Q 0 v2 m_tools
def wp_M_tooling_J17 (p0 : Int64) (m_tools : Int64) (Q : Int32 → Int32 → Int64 → Prop) (v2 : Int32) : Prop :=
  ((¬ v2 = 0) → wp_M_tooling_J36 m_tools v2 Q) ∧
  ((v2 = 0) → ((¬ m_tools = p0) → ((1 : Int32) = 0 ∨ (1 : Int32) = 1) ∧ Q 1 v2 p0) ∧
  ((m_tools = p0) → wp_M_tooling_J36 m_tools v2 Q))
def wp_M_tooling (p0 : Int64) (m_tools : Int64) (Q : Int32 → Int32 → Int64 → Prop) : Prop :=
  wp_M_within p0 (0 : Int64) (1000000000 : Int64) (fun r1 =>
  ((r1 = 0) → wp_M_tooling_J17 p0 m_tools Q 1) ∧
  ((¬ r1 = 0) → wp_M_tooling_J17 p0 m_tools Q 0))
set_option maxHeartbeats 4000000 in
set_option maxRecDepth 100000 in
theorem k_M_tooling (g : GX) (hg : g.1.stackTraces = false) (a_t : Nat) (p0 : Int64) (m_thrown : Int32) (m_parts : Int32) (a_m_stepCount : Nat) (a_m_froms : Nat) (a_m_cents : Nat) (a_m_uses : Nat) (a_m_stocks : Nat) (a_m_alternates : Nat) (a_m_assemblies : Nat) (a_m_placings : Nat) (m_yields : Int32) (a_m_yieldAbove : Nat) (a_m_yieldBelow : Nat) (a_m_dayCount : Nat) (a_m_days : Nat) (a_m_rateAbove : Nat) (a_m_rateBelow : Nat) (m_tools : Int64) (m_can : Int32) (m_sum : Int64) (a_m_costs : Nat) (a_m_pieces : Nat) (a_m_maker : Nat) (a_m_partOf : Nat) (m_ran : Int32) (m_keptRows : Int32) (a_m_keptCosts : Nat) (a_m_keptPieces : Nat) (a_m_keptMaker : Nat) (a_m_keptPart : Nat) (a_m_oldCosts : Nat) (Q : Int32 → Int32 → Int64 → Prop) (hw : wp_M_tooling p0 m_tools Q) : CT g y_M_tooling c_M_tooling 3 (some .boolean) ({ frames := 1, cells := 0, slots := 0, locals := 25 } : Room) [.ref a_t, .long p0] [(a_t, .inr (6, [.int m_thrown, .int m_parts, .ref a_m_stepCount, .ref a_m_froms, .ref a_m_cents, .ref a_m_uses, .ref a_m_stocks, .ref a_m_alternates, .ref a_m_assemblies, .ref a_m_placings, .int m_yields, .ref a_m_yieldAbove, .ref a_m_yieldBelow, .ref a_m_dayCount, .ref a_m_days, .ref a_m_rateAbove, .ref a_m_rateBelow, .long m_tools, .int m_can, .long m_sum, .ref a_m_costs, .ref a_m_pieces, .ref a_m_maker, .ref a_m_partOf, .int m_ran, .int m_keptRows, .ref a_m_keptCosts, .ref a_m_keptPieces, .ref a_m_keptMaker, .ref a_m_keptPart, .ref a_m_oldCosts]))] (QI g [(a_t, .inr (6, [.int m_thrown, .int m_parts, .ref a_m_stepCount, .ref a_m_froms, .ref a_m_cents, .ref a_m_uses, .ref a_m_stocks, .ref a_m_alternates, .ref a_m_assemblies, .ref a_m_placings, .int m_yields, .ref a_m_yieldAbove, .ref a_m_yieldBelow, .ref a_m_dayCount, .ref a_m_days, .ref a_m_rateAbove, .ref a_m_rateBelow, .long m_tools, .int m_can, .long m_sum, .ref a_m_costs, .ref a_m_pieces, .ref a_m_maker, .ref a_m_partOf, .int m_ran, .int m_keptRows, .ref a_m_keptCosts, .ref a_m_keptPieces, .ref a_m_keptMaker, .ref a_m_keptPart, .ref a_m_oldCosts]))] (fun u : Int32 × Int64 => [(a_t, .inr (6, [.int u.1, .int m_parts, .ref a_m_stepCount, .ref a_m_froms, .ref a_m_cents, .ref a_m_uses, .ref a_m_stocks, .ref a_m_alternates, .ref a_m_assemblies, .ref a_m_placings, .int m_yields, .ref a_m_yieldAbove, .ref a_m_yieldBelow, .ref a_m_dayCount, .ref a_m_days, .ref a_m_rateAbove, .ref a_m_rateBelow, .long u.2, .int m_can, .long m_sum, .ref a_m_costs, .ref a_m_pieces, .ref a_m_maker, .ref a_m_partOf, .int m_ran, .int m_keptRows, .ref a_m_keptCosts, .ref a_m_keptPieces, .ref a_m_keptMaker, .ref a_m_keptPart, .ref a_m_oldCosts]))]) (fun r u => Q r u.1 u.2)) := by
  refine ct_of hg (by decide) (Nat.le_of_ble_eq_true rfl) (fun sz C X hr => ?_)
  unfold wp_M_tooling at hw
  show ST g C [(a_t, .inr (6, [.int m_thrown, .int m_parts, .ref a_m_stepCount, .ref a_m_froms, .ref a_m_cents, .ref a_m_uses, .ref a_m_stocks, .ref a_m_alternates, .ref a_m_assemblies, .ref a_m_placings, .int m_yields, .ref a_m_yieldAbove, .ref a_m_yieldBelow, .ref a_m_dayCount, .ref a_m_days, .ref a_m_rateAbove, .ref a_m_rateBelow, .long m_tools, .int m_can, .long m_sum, .ref a_m_costs, .ref a_m_pieces, .ref a_m_maker, .ref a_m_partOf, .int m_ran, .int m_keptRows, .ref a_m_keptCosts, .ref a_m_keptPieces, .ref a_m_keptMaker, .ref a_m_keptPart, .ref a_m_oldCosts]))] [(0, .ref a_t), (1, .long p0)] [] 0 0 0
  refine st_aload_n X 0 d_M_tooling_0 rfl rfl ?_
  refine st_lload_n X 1 d_M_tooling_1 rfl rfl ?_
  refine st_lconst X (v := 0) d_M_tooling_2 (by decide) ?_
  refine st_ldc2 X wv_M_87 d_M_tooling_3 ?_
  have hR := rn_S (pc := 6) (k := 0) (n := 0) (As := [.long p0, .long 0, .long 1000000000]) (rest := [.ref a_t]) X (k_M_within g hg p0 (0 : Int64) (1000000000 : Int64) _ hw) wm_M_89 ws_M_within wz_M wc_M_within h9_M_within ⟨by decide, by decide⟩ (Nat.le_of_ble_eq_true rfl) ⟨by decide, by decide⟩ d_M_tooling_6
  refine st_calli X hR [] [0] (wr := [(a_t, .inr (6, [.int m_thrown, .int m_parts, .ref a_m_stepCount, .ref a_m_froms, .ref a_m_cents, .ref a_m_uses, .ref a_m_stocks, .ref a_m_alternates, .ref a_m_assemblies, .ref a_m_placings, .int m_yields, .ref a_m_yieldAbove, .ref a_m_yieldBelow, .ref a_m_dayCount, .ref a_m_days, .ref a_m_rateAbove, .ref a_m_rateBelow, .long m_tools, .int m_can, .long m_sum, .ref a_m_costs, .ref a_m_pieces, .ref a_m_maker, .ref a_m_partOf, .int m_ran, .int m_keptRows, .ref a_m_keptCosts, .ref a_m_keptPieces, .ref a_m_keptMaker, .ref a_m_keptPart, .ref a_m_oldCosts]))]) rfl rfl (by decide) (by decide) (by decide) (fun r1 u9 hw => ?_)
  try dsimp only at hw
  refine st_widen (k2 := 0) (n2 := 0) (by decide) (by decide) ?_
  refine st_perm (ws2 := [(a_t, .inr (6, [.int m_thrown, .int m_parts, .ref a_m_stepCount, .ref a_m_froms, .ref a_m_cents, .ref a_m_uses, .ref a_m_stocks, .ref a_m_alternates, .ref a_m_assemblies, .ref a_m_placings, .int m_yields, .ref a_m_yieldAbove, .ref a_m_yieldBelow, .ref a_m_dayCount, .ref a_m_days, .ref a_m_rateAbove, .ref a_m_rateBelow, .long m_tools, .int m_can, .long m_sum, .ref a_m_costs, .ref a_m_pieces, .ref a_m_maker, .ref a_m_partOf, .int m_ran, .int m_keptRows, .ref a_m_keptCosts, .ref a_m_keptPieces, .ref a_m_keptMaker, .ref a_m_keptPart, .ref a_m_oldCosts]))]) [0] rfl (by decide) ?_
  show ST g C [(a_t, .inr (6, [.int m_thrown, .int m_parts, .ref a_m_stepCount, .ref a_m_froms, .ref a_m_cents, .ref a_m_uses, .ref a_m_stocks, .ref a_m_alternates, .ref a_m_assemblies, .ref a_m_placings, .int m_yields, .ref a_m_yieldAbove, .ref a_m_yieldBelow, .ref a_m_dayCount, .ref a_m_days, .ref a_m_rateAbove, .ref a_m_rateBelow, .long m_tools, .int m_can, .long m_sum, .ref a_m_costs, .ref a_m_pieces, .ref a_m_maker, .ref a_m_partOf, .int m_ran, .int m_keptRows, .ref a_m_keptCosts, .ref a_m_keptPieces, .ref a_m_keptMaker, .ref a_m_keptPart, .ref a_m_oldCosts]))] [(0, .ref a_t), (1, .long p0)] [.int r1, .ref a_t] 9 0 0
  have J17 : ∀ (v2 : Int32), wp_M_tooling_J17 p0 m_tools Q v2 → ST g C [(a_t, .inr (6, [.int m_thrown, .int m_parts, .ref a_m_stepCount, .ref a_m_froms, .ref a_m_cents, .ref a_m_uses, .ref a_m_stocks, .ref a_m_alternates, .ref a_m_assemblies, .ref a_m_placings, .int m_yields, .ref a_m_yieldAbove, .ref a_m_yieldBelow, .ref a_m_dayCount, .ref a_m_days, .ref a_m_rateAbove, .ref a_m_rateBelow, .long m_tools, .int m_can, .long m_sum, .ref a_m_costs, .ref a_m_pieces, .ref a_m_maker, .ref a_m_partOf, .int m_ran, .int m_keptRows, .ref a_m_keptCosts, .ref a_m_keptPieces, .ref a_m_keptMaker, .ref a_m_keptPart, .ref a_m_oldCosts]))] [(0, .ref a_t), (1, .long p0)] [.int v2, .ref a_t] 17 0 0 := by
    intro v2 hw
    unfold wp_M_tooling_J17 at hw
    refine st_put X (ci := 6) (ty := .int) in_M t_M to_M nm_M 0 0 wf_M_80 rfl rfl (by decide) rfl (by decide +kernel) rfl rfl (Nat.le_of_ble_eq_true rfl) (ws2 := [(a_t, .inr (6, [.int v2, .int m_parts, .ref a_m_stepCount, .ref a_m_froms, .ref a_m_cents, .ref a_m_uses, .ref a_m_stocks, .ref a_m_alternates, .ref a_m_assemblies, .ref a_m_placings, .int m_yields, .ref a_m_yieldAbove, .ref a_m_yieldBelow, .ref a_m_dayCount, .ref a_m_days, .ref a_m_rateAbove, .ref a_m_rateBelow, .long m_tools, .int m_can, .long m_sum, .ref a_m_costs, .ref a_m_pieces, .ref a_m_maker, .ref a_m_partOf, .int m_ran, .int m_keptRows, .ref a_m_keptCosts, .ref a_m_keptPieces, .ref a_m_keptMaker, .ref a_m_keptPart, .ref a_m_oldCosts]))]) rfl d_M_tooling_17 ?_
    refine st_aload_n X 0 d_M_tooling_20 rfl rfl ?_
    refine st_get X (ci := 6) in_M 0 0 wf_M_80 rfl rfl (by decide) rfl d_M_tooling_21 ?_
    have J36 : wp_M_tooling_J36 m_tools v2 Q → ST g C [(a_t, .inr (6, [.int v2, .int m_parts, .ref a_m_stepCount, .ref a_m_froms, .ref a_m_cents, .ref a_m_uses, .ref a_m_stocks, .ref a_m_alternates, .ref a_m_assemblies, .ref a_m_placings, .int m_yields, .ref a_m_yieldAbove, .ref a_m_yieldBelow, .ref a_m_dayCount, .ref a_m_days, .ref a_m_rateAbove, .ref a_m_rateBelow, .long m_tools, .int m_can, .long m_sum, .ref a_m_costs, .ref a_m_pieces, .ref a_m_maker, .ref a_m_partOf, .int m_ran, .int m_keptRows, .ref a_m_keptCosts, .ref a_m_keptPieces, .ref a_m_keptMaker, .ref a_m_keptPart, .ref a_m_oldCosts]))] [(0, .ref a_t), (1, .long p0)] [] 36 0 0 := by
      intro hw
      unfold wp_M_tooling_J36 at hw
      refine st_iconst X (v := 0) d_M_tooling_36 (by decide) ?_
      obtain ⟨hz, hw⟩ := hw
      exact st_zret X hr (v2, m_tools) hw hz rfl (by decide) (by decide) d_M_tooling_37
    refine st_if_ne X 36 d_M_tooling_24 (by decide) (fun hc => ?_) (fun hc => ?_)
    · replace hw := hw.1 hc
      refine st_lv [0, 1] rfl ?_
      exact J36 hw
    · replace hw := hw.2 hc
      refine st_aload_n X 0 d_M_tooling_27 rfl rfl ?_
      refine st_get X (ci := 6) in_M 0 17 wf_M_116 rfl rfl (by decide) rfl d_M_tooling_28 ?_
      refine st_lload_n X 1 d_M_tooling_31 rfl rfl ?_
      refine st_lcmp_ne X 38 d_M_tooling_32 d_M_tooling_33 (by decide) (fun hc => ?_) (fun hc => ?_)
      · replace hw := hw.1 hc
        refine st_aload_n X 0 d_M_tooling_38 rfl rfl ?_
        refine st_lload_n X 1 d_M_tooling_39 rfl rfl ?_
        refine st_put X (ci := 6) (ty := .long) in_M t_M to_M nm_M 0 17 wf_M_116 rfl rfl (by decide) rfl (by decide +kernel) rfl rfl (Nat.le_of_ble_eq_true rfl) (ws2 := [(a_t, .inr (6, [.int v2, .int m_parts, .ref a_m_stepCount, .ref a_m_froms, .ref a_m_cents, .ref a_m_uses, .ref a_m_stocks, .ref a_m_alternates, .ref a_m_assemblies, .ref a_m_placings, .int m_yields, .ref a_m_yieldAbove, .ref a_m_yieldBelow, .ref a_m_dayCount, .ref a_m_days, .ref a_m_rateAbove, .ref a_m_rateBelow, .long p0, .int m_can, .long m_sum, .ref a_m_costs, .ref a_m_pieces, .ref a_m_maker, .ref a_m_partOf, .int m_ran, .int m_keptRows, .ref a_m_keptCosts, .ref a_m_keptPieces, .ref a_m_keptMaker, .ref a_m_keptPart, .ref a_m_oldCosts]))]) rfl d_M_tooling_40 ?_
        refine st_iconst X (v := 1) d_M_tooling_43 (by decide) ?_
        obtain ⟨hz, hw⟩ := hw
        exact st_zret X hr (v2, p0) hw hz rfl (by decide) (by decide) d_M_tooling_44
      · replace hw := hw.2 hc
        refine st_lv [0, 1] rfl ?_
        exact J36 hw
  refine st_if_eq X 16 d_M_tooling_9 (by decide) (fun hc => ?_) (fun hc => ?_)
  · replace hw := hw.1 hc
    refine st_iconst X (v := 1) d_M_tooling_16 (by decide) ?_
    refine st_lv [0, 1] rfl ?_
    exact J17 1 hw
  · replace hw := hw.2 hc
    refine st_iconst X (v := 0) d_M_tooling_12 (by decide) ?_
    refine st_goto X 17 d_M_tooling_13 (by decide) ?_
    refine st_lv [0, 1] rfl ?_
    exact J17 0 hw
