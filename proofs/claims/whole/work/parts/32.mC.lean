theorem h9_M_buyPart : y_M_buyPart.cls ≠ "java/lang/invoke/MethodHandle" ∧ y_M_buyPart.cls ≠ "java/lang/invoke/VarHandle" ∧ (parseMethodDescriptor y_M_buyPart.desc).map (fun d => d.parameters.length) = some 3 := by decide +kernel
def wp_M_buyPart_J131 (f3 : Nat → Int64) (f4 : Nat → Int64) (f5 : Nat → Int32) (f6 : Nat → Int32) (Q : Int32 → (Nat → Int64) → (Nat → Int64) → (Nat → Int32) → (Nat → Int32) → Prop) (v7 : Int32) : Prop :=
  (v7 = (0 : Int32) ∨ v7 = (1 : Int32)) ∧
  Q v7 f3 f4 f5 f6
def wp_M_buyPart_J106 (v2 : Int32) (K43 : Int32 → (Nat → Int64) → (Nat → Int64) → (Nat → Int32) → (Nat → Int32) → Prop) (f8 : Nat → Int64) (f9 : Nat → Int64) (f10 : Nat → Int32) (f11 : Nat → Int32) : Prop :=
  ∀ x12 : Int32, x12 = v2 + 1 →
  K43 x12 f8 f9 f10 f11
def wp_M_buyPart_L78 (p0 : Int32) (p2 : Int64) (m_stepCount : Nat → Int32) (m_froms : Nat → Int64) (m_cents : Nat → Int64) (m_dayCount : Nat → Int32) (m_days : Nat → Int64) (m_rateAbove : Nat → Int64) (m_rateBelow : Nat → Int64) (x1 : Int64) (v2 : Int32) (K43 : Int32 → (Nat → Int64) → (Nat → Int64) → (Nat → Int32) → (Nat → Int32) → Prop) : Nat → Int32 → (Nat → Int64) → (Nat → Int64) → (Nat → Int32) → (Nat → Int32) → Prop
  | 0, _, _, _, _, _ => False
  | n78 + 1, v13, f14, f15, f16, f17 =>
  ((8 ≤ v13) → wp_M_buyPart_J106 v2 K43 f14 f15 f16 f17) ∧
  ((¬ 8 ≤ v13) → wp_M_offer (3 + p0) v2 v13 x1 p2 m_stepCount m_froms m_cents m_dayCount m_days m_rateAbove m_rateBelow f14 f15 f16 f17 (fun u18 u19 u20 u21 =>
  ∀ x22 : Int32, x22 = v13 + 1 →
  (wp_M_buyPart_L78 p0 p2 m_stepCount m_froms m_cents m_dayCount m_days m_rateAbove m_rateBelow x1 v2 K43 n78) x22 u18 u19 u20 u21))
def wp_M_buyPart_J75 (p0 : Int32) (p2 : Int64) (m_stepCount : Nat → Int32) (m_froms : Nat → Int64) (m_cents : Nat → Int64) (m_dayCount : Nat → Int32) (m_days : Nat → Int64) (m_rateAbove : Nat → Int64) (m_rateBelow : Nat → Int64) (x1 : Int64) (v2 : Int32) (f3 : Nat → Int64) (f4 : Nat → Int64) (f5 : Nat → Int32) (f6 : Nat → Int32) (K43 : Int32 → (Nat → Int64) → (Nat → Int64) → (Nat → Int32) → (Nat → Int32) → Prop) : Prop :=
  ∃ n78 : Nat, wp_M_buyPart_L78 p0 p2 m_stepCount m_froms m_cents m_dayCount m_days m_rateAbove m_rateBelow x1 v2 K43 n78 0 f3 f4 f5 f6
def wp_M_buyPart_L43 (p0 : Int32) (p2 : Int64) (m_parts : Int32) (m_stepCount : Nat → Int32) (m_froms : Nat → Int64) (m_cents : Nat → Int64) (m_alternates : Nat → Int32) (m_dayCount : Nat → Int32) (m_days : Nat → Int64) (m_rateAbove : Nat → Int64) (m_rateBelow : Nat → Int64) (x1 : Int64) (Q : Int32 → (Nat → Int64) → (Nat → Int64) → (Nat → Int32) → (Nat → Int32) → Prop) : Nat → Int32 → (Nat → Int64) → (Nat → Int64) → (Nat → Int32) → (Nat → Int32) → Prop
  | 0, _, _, _, _, _ => False
  | n43 + 1, v2, f3, f4, f5, f6 =>
  ((m_parts ≤ v2) → vp_in (3 + p0) 33 ∧
  (((f4 (3 + p0).toNatClampNeg) ≤ 0) → wp_M_buyPart_J131 f3 f4 f5 f6 Q 0) ∧
  ((¬ (f4 (3 + p0).toNatClampNeg) ≤ 0) → wp_M_buyPart_J131 f3 f4 f5 f6 Q 1)) ∧
  ((¬ m_parts ≤ v2) → ((v2 = p0) → wp_M_buyPart_J75 p0 p2 m_stepCount m_froms m_cents m_dayCount m_days m_rateAbove m_rateBelow x1 v2 f3 f4 f5 f6 (wp_M_buyPart_L43 p0 p2 m_parts m_stepCount m_froms m_cents m_alternates m_dayCount m_days m_rateAbove m_rateBelow x1 Q n43)) ∧
  ((¬ v2 = p0) → vp_in p0 30 ∧
  ((¬ (((m_alternates p0.toNatClampNeg) >>> (v2 &&& 31)) &&& 1) = 0) → wp_M_buyPart_J75 p0 p2 m_stepCount m_froms m_cents m_dayCount m_days m_rateAbove m_rateBelow x1 v2 f3 f4 f5 f6 (wp_M_buyPart_L43 p0 p2 m_parts m_stepCount m_froms m_cents m_alternates m_dayCount m_days m_rateAbove m_rateBelow x1 Q n43)) ∧
  (((((m_alternates p0.toNatClampNeg) >>> (v2 &&& 31)) &&& 1) = 0) → wp_M_buyPart_J106 v2 (wp_M_buyPart_L43 p0 p2 m_parts m_stepCount m_froms m_cents m_alternates m_dayCount m_days m_rateAbove m_rateBelow x1 Q n43) f3 f4 f5 f6)))
def wp_M_buyPart (p0 : Int32) (p1 : Int64) (p2 : Int64) (m_parts : Int32) (m_can : Int32) (m_stepCount : Nat → Int32) (m_froms : Nat → Int64) (m_cents : Nat → Int64) (m_uses : Nat → Int64) (m_stocks : Nat → Int64) (m_alternates : Nat → Int32) (m_dayCount : Nat → Int32) (m_days : Nat → Int64) (m_rateAbove : Nat → Int64) (m_rateBelow : Nat → Int64) (m_costs : Nat → Int64) (m_pieces : Nat → Int64) (m_maker : Nat → Int32) (m_partOf : Nat → Int32) (Q : Int32 → (Nat → Int64) → (Nat → Int64) → (Nat → Int32) → (Nat → Int32) → Prop) : Prop :=
  vp_in p0 30 ∧
  vp_in p0 30 ∧
  ∀ x1 : Int64, x1 = (p1 * (m_uses p0.toNatClampNeg)) - (m_stocks p0.toNatClampNeg) →
  ((0 < x1) → ((x1 ≤ 1000000000) → ∃ n43 : Nat, wp_M_buyPart_L43 p0 p2 m_parts m_stepCount m_froms m_cents m_alternates m_dayCount m_days m_rateAbove m_rateBelow x1 Q n43 0 m_costs m_pieces m_maker m_partOf) ∧
  ((¬ x1 ≤ 1000000000) → (0 = (0 : Int32) ∨ 0 = (1 : Int32)) ∧
  Q 0 m_costs m_pieces m_maker m_partOf)) ∧
  ((¬ 0 < x1) → Q m_can m_costs m_pieces m_maker m_partOf)
set_option maxHeartbeats 4000000 in
set_option maxRecDepth 100000 in
theorem k_M_buyPart (g : GX) (hg : g.1.stackTraces = false) (a_t : Nat) (p0 : Int32) (p1 : Int64) (p2 : Int64) (m_thrown : Int32) (m_parts : Int32) (a_m_stepCount : Nat) (a_m_froms : Nat) (a_m_cents : Nat) (a_m_uses : Nat) (a_m_stocks : Nat) (a_m_alternates : Nat) (a_m_assemblies : Nat) (a_m_placings : Nat) (m_yields : Int32) (a_m_yieldAbove : Nat) (a_m_yieldBelow : Nat) (a_m_dayCount : Nat) (a_m_days : Nat) (a_m_rateAbove : Nat) (a_m_rateBelow : Nat) (m_tools : Int64) (m_can : Int32) (m_sum : Int64) (a_m_costs : Nat) (a_m_pieces : Nat) (a_m_maker : Nat) (a_m_partOf : Nat) (m_ran : Int32) (m_keptRows : Int32) (a_m_keptCosts : Nat) (a_m_keptPieces : Nat) (a_m_keptMaker : Nat) (a_m_keptPart : Nat) (a_m_oldCosts : Nat) (m_stepCount : Nat → Int32) (m_froms : Nat → Int64) (m_cents : Nat → Int64) (m_uses : Nat → Int64) (m_stocks : Nat → Int64) (m_alternates : Nat → Int32) (m_dayCount : Nat → Int32) (m_days : Nat → Int64) (m_rateAbove : Nat → Int64) (m_rateBelow : Nat → Int64) (m_costs : Nat → Int64) (m_pieces : Nat → Int64) (m_maker : Nat → Int32) (m_partOf : Nat → Int32) (Q : Int32 → (Nat → Int64) → (Nat → Int64) → (Nat → Int32) → (Nat → Int32) → Prop) (hw : wp_M_buyPart p0 p1 p2 m_parts m_can m_stepCount m_froms m_cents m_uses m_stocks m_alternates m_dayCount m_days m_rateAbove m_rateBelow m_costs m_pieces m_maker m_partOf Q) : CT g y_M_buyPart c_M_buyPart 10 none ({ frames := 2, cells := 0, slots := 0, locals := 60 } : Room) [.ref a_t, .int p0, .long p1, .long p2] [(a_t, .inr (6, [.int m_thrown, .int m_parts, .ref a_m_stepCount, .ref a_m_froms, .ref a_m_cents, .ref a_m_uses, .ref a_m_stocks, .ref a_m_alternates, .ref a_m_assemblies, .ref a_m_placings, .int m_yields, .ref a_m_yieldAbove, .ref a_m_yieldBelow, .ref a_m_dayCount, .ref a_m_days, .ref a_m_rateAbove, .ref a_m_rateBelow, .long m_tools, .int m_can, .long m_sum, .ref a_m_costs, .ref a_m_pieces, .ref a_m_maker, .ref a_m_partOf, .int m_ran, .int m_keptRows, .ref a_m_keptCosts, .ref a_m_keptPieces, .ref a_m_keptMaker, .ref a_m_keptPart, .ref a_m_oldCosts])), aI g a_m_stepCount 248 m_stepCount, aJ g a_m_froms 1488 m_froms, aJ g a_m_cents 1488 m_cents, aJ g a_m_uses 30 m_uses, aJ g a_m_stocks 30 m_stocks, aI g a_m_alternates 30 m_alternates, aI g a_m_dayCount 8 m_dayCount, aJ g a_m_days 48 m_days, aJ g a_m_rateAbove 48 m_rateAbove, aJ g a_m_rateBelow 48 m_rateBelow, aJ g a_m_costs 33 m_costs, aJ g a_m_pieces 33 m_pieces, aI g a_m_maker 33 m_maker, aI g a_m_partOf 33 m_partOf] (QV g [(a_t, .inr (6, [.int m_thrown, .int m_parts, .ref a_m_stepCount, .ref a_m_froms, .ref a_m_cents, .ref a_m_uses, .ref a_m_stocks, .ref a_m_alternates, .ref a_m_assemblies, .ref a_m_placings, .int m_yields, .ref a_m_yieldAbove, .ref a_m_yieldBelow, .ref a_m_dayCount, .ref a_m_days, .ref a_m_rateAbove, .ref a_m_rateBelow, .long m_tools, .int m_can, .long m_sum, .ref a_m_costs, .ref a_m_pieces, .ref a_m_maker, .ref a_m_partOf, .int m_ran, .int m_keptRows, .ref a_m_keptCosts, .ref a_m_keptPieces, .ref a_m_keptMaker, .ref a_m_keptPart, .ref a_m_oldCosts])), aI g a_m_stepCount 248 m_stepCount, aJ g a_m_froms 1488 m_froms, aJ g a_m_cents 1488 m_cents, aJ g a_m_uses 30 m_uses, aJ g a_m_stocks 30 m_stocks, aI g a_m_alternates 30 m_alternates, aI g a_m_dayCount 8 m_dayCount, aJ g a_m_days 48 m_days, aJ g a_m_rateAbove 48 m_rateAbove, aJ g a_m_rateBelow 48 m_rateBelow, aJ g a_m_costs 33 m_costs, aJ g a_m_pieces 33 m_pieces, aI g a_m_maker 33 m_maker, aI g a_m_partOf 33 m_partOf] (fun u : Int32 × (Nat → Int64) × (Nat → Int64) × (Nat → Int32) × (Nat → Int32) => [(a_t, .inr (6, [.int m_thrown, .int m_parts, .ref a_m_stepCount, .ref a_m_froms, .ref a_m_cents, .ref a_m_uses, .ref a_m_stocks, .ref a_m_alternates, .ref a_m_assemblies, .ref a_m_placings, .int m_yields, .ref a_m_yieldAbove, .ref a_m_yieldBelow, .ref a_m_dayCount, .ref a_m_days, .ref a_m_rateAbove, .ref a_m_rateBelow, .long m_tools, .int u.1, .long m_sum, .ref a_m_costs, .ref a_m_pieces, .ref a_m_maker, .ref a_m_partOf, .int m_ran, .int m_keptRows, .ref a_m_keptCosts, .ref a_m_keptPieces, .ref a_m_keptMaker, .ref a_m_keptPart, .ref a_m_oldCosts])), aI g a_m_stepCount 248 m_stepCount, aJ g a_m_froms 1488 m_froms, aJ g a_m_cents 1488 m_cents, aJ g a_m_uses 30 m_uses, aJ g a_m_stocks 30 m_stocks, aI g a_m_alternates 30 m_alternates, aI g a_m_dayCount 8 m_dayCount, aJ g a_m_days 48 m_days, aJ g a_m_rateAbove 48 m_rateAbove, aJ g a_m_rateBelow 48 m_rateBelow, aJ g a_m_costs 33 u.2.1, aJ g a_m_pieces 33 u.2.2.1, aI g a_m_maker 33 u.2.2.2.1, aI g a_m_partOf 33 u.2.2.2.2]) (fun u => Q u.1 u.2.1 u.2.2.1 u.2.2.2.1 u.2.2.2.2)) := by
  refine ct_of hg (by decide) (Nat.le_of_ble_eq_true rfl) (fun sz C X hr => ?_)
  unfold wp_M_buyPart at hw
  show ST g C [(a_t, .inr (6, [.int m_thrown, .int m_parts, .ref a_m_stepCount, .ref a_m_froms, .ref a_m_cents, .ref a_m_uses, .ref a_m_stocks, .ref a_m_alternates, .ref a_m_assemblies, .ref a_m_placings, .int m_yields, .ref a_m_yieldAbove, .ref a_m_yieldBelow, .ref a_m_dayCount, .ref a_m_days, .ref a_m_rateAbove, .ref a_m_rateBelow, .long m_tools, .int m_can, .long m_sum, .ref a_m_costs, .ref a_m_pieces, .ref a_m_maker, .ref a_m_partOf, .int m_ran, .int m_keptRows, .ref a_m_keptCosts, .ref a_m_keptPieces, .ref a_m_keptMaker, .ref a_m_keptPart, .ref a_m_oldCosts])), aI g a_m_stepCount 248 m_stepCount, aJ g a_m_froms 1488 m_froms, aJ g a_m_cents 1488 m_cents, aJ g a_m_uses 30 m_uses, aJ g a_m_stocks 30 m_stocks, aI g a_m_alternates 30 m_alternates, aI g a_m_dayCount 8 m_dayCount, aJ g a_m_days 48 m_days, aJ g a_m_rateAbove 48 m_rateAbove, aJ g a_m_rateBelow 48 m_rateBelow, aJ g a_m_costs 33 m_costs, aJ g a_m_pieces 33 m_pieces, aI g a_m_maker 33 m_maker, aI g a_m_partOf 33 m_partOf] [(0, .ref a_t), (1, .int p0), (2, .long p1), (4, .long p2)] [] 0 0 0
  refine st_lload_n X 2 d_M_buyPart_0 rfl rfl ?_
  refine st_aload_n X 0 d_M_buyPart_1 rfl rfl ?_
  refine st_get X (ci := 6) in_M 0 5 wf_M_20 rfl rfl (by decide) rfl d_M_buyPart_2 ?_
  refine st_iload_n X 1 d_M_buyPart_5 rfl rfl ?_
  obtain ⟨hb1, hw⟩ := hw
  refine st_lald X 4 rfl hb1 d_M_buyPart_6 ?_
  refine st_lmul X d_M_buyPart_7 ?_
  refine st_aload_n X 0 d_M_buyPart_8 rfl rfl ?_
  refine st_get X (ci := 6) in_M 0 6 wf_M_23 rfl rfl (by decide) rfl d_M_buyPart_9 ?_
  refine st_iload_n X 1 d_M_buyPart_12 rfl rfl ?_
  obtain ⟨hb2, hw⟩ := hw
  refine st_lald X 5 rfl hb2 d_M_buyPart_13 ?_
  refine st_lsub X d_M_buyPart_14 ?_
  refine st_topl (fun x1 hx1 => ?_)
  replace hw := hw x1 hx1
  refine st_lstore X (lv2 := [(6, .long x1), (0, .ref a_t), (1, .int p0), (2, .long p1), (4, .long p2)]) d_M_buyPart_15 (by decide) rfl ?_
  refine st_lload X 0 d_M_buyPart_17 rfl ?_
  refine st_lconst X (v := 0) d_M_buyPart_19 (by decide) ?_
  refine st_lcmp_gt X 25 d_M_buyPart_20 d_M_buyPart_21 (by decide) (fun hc => ?_) (fun hc => ?_)
  · replace hw := hw.1 hc
    refine st_lload X 0 d_M_buyPart_25 rfl ?_
    refine st_ldc2 X wv_M_87 d_M_buyPart_27 ?_
    refine st_lcmp_le X 40 d_M_buyPart_30 d_M_buyPart_31 (by decide) (fun hc => ?_) (fun hc => ?_)
    · replace hw := hw.1 hc
      refine st_iconst X (v := 0) d_M_buyPart_40 (by decide) ?_
      refine st_istore X (lv2 := [(8, .int 0), (6, .long x1), (0, .ref a_t), (1, .int p0), (2, .long p1), (4, .long p2)]) d_M_buyPart_41 (by decide) rfl ?_
      have L43 : ∀ (n43 : Nat) (v2 : Int32) (f3 : Nat → Int64) (f4 : Nat → Int64) (f5 : Nat → Int32) (f6 : Nat → Int32), wp_M_buyPart_L43 p0 p2 m_parts m_stepCount m_froms m_cents m_alternates m_dayCount m_days m_rateAbove m_rateBelow x1 Q n43 v2 f3 f4 f5 f6 → ST g C [(a_t, .inr (6, [.int m_thrown, .int m_parts, .ref a_m_stepCount, .ref a_m_froms, .ref a_m_cents, .ref a_m_uses, .ref a_m_stocks, .ref a_m_alternates, .ref a_m_assemblies, .ref a_m_placings, .int m_yields, .ref a_m_yieldAbove, .ref a_m_yieldBelow, .ref a_m_dayCount, .ref a_m_days, .ref a_m_rateAbove, .ref a_m_rateBelow, .long m_tools, .int m_can, .long m_sum, .ref a_m_costs, .ref a_m_pieces, .ref a_m_maker, .ref a_m_partOf, .int m_ran, .int m_keptRows, .ref a_m_keptCosts, .ref a_m_keptPieces, .ref a_m_keptMaker, .ref a_m_keptPart, .ref a_m_oldCosts])), aI g a_m_stepCount 248 m_stepCount, aJ g a_m_froms 1488 m_froms, aJ g a_m_cents 1488 m_cents, aJ g a_m_uses 30 m_uses, aJ g a_m_stocks 30 m_stocks, aI g a_m_alternates 30 m_alternates, aI g a_m_dayCount 8 m_dayCount, aJ g a_m_days 48 m_days, aJ g a_m_rateAbove 48 m_rateAbove, aJ g a_m_rateBelow 48 m_rateBelow, aJ g a_m_costs 33 f3, aJ g a_m_pieces 33 f4, aI g a_m_maker 33 f5, aI g a_m_partOf 33 f6] [(0, .ref a_t), (1, .int p0), (2, .long p1), (4, .long p2), (6, .long x1), (8, .int v2)] [] 43 0 0 := by
        intro n43
        induction n43 with
        | zero => intro v2 f3 f4 f5 f6 hw; exact hw.elim
        | succ n43 ih43 =>
          intro v2 f3 f4 f5 f6 hw
          rw [wp_M_buyPart_L43] at hw
          refine st_iload X 5 d_M_buyPart_43 rfl ?_
          refine st_aload_n X 0 d_M_buyPart_45 rfl rfl ?_
          refine st_get X (ci := 6) in_M 0 1 wf_M_84 rfl rfl (by decide) rfl d_M_buyPart_46 ?_
          refine st_icmp_ge X 112 d_M_buyPart_49 (by decide) (fun hc => ?_) (fun hc => ?_)
          · replace hw := hw.1 hc
            refine st_aload_n X 0 d_M_buyPart_112 rfl rfl ?_
            refine st_aload_n X 0 d_M_buyPart_113 rfl rfl ?_
            refine st_get X (ci := 6) in_M 0 21 wf_M_56 rfl rfl (by decide) rfl d_M_buyPart_114 ?_
            refine st_iconst X (v := 3) d_M_buyPart_117 (by decide) ?_
            refine st_iload_n X 1 d_M_buyPart_118 rfl rfl ?_
            refine st_iadd X d_M_buyPart_119 ?_
            obtain ⟨hb3, hw⟩ := hw
            refine st_lald X 12 rfl hb3 d_M_buyPart_120 ?_
            refine st_lconst X (v := 0) d_M_buyPart_121 (by decide) ?_
            have J131 : ∀ (v7 : Int32), wp_M_buyPart_J131 f3 f4 f5 f6 Q v7 → ST g C [(a_t, .inr (6, [.int m_thrown, .int m_parts, .ref a_m_stepCount, .ref a_m_froms, .ref a_m_cents, .ref a_m_uses, .ref a_m_stocks, .ref a_m_alternates, .ref a_m_assemblies, .ref a_m_placings, .int m_yields, .ref a_m_yieldAbove, .ref a_m_yieldBelow, .ref a_m_dayCount, .ref a_m_days, .ref a_m_rateAbove, .ref a_m_rateBelow, .long m_tools, .int m_can, .long m_sum, .ref a_m_costs, .ref a_m_pieces, .ref a_m_maker, .ref a_m_partOf, .int m_ran, .int m_keptRows, .ref a_m_keptCosts, .ref a_m_keptPieces, .ref a_m_keptMaker, .ref a_m_keptPart, .ref a_m_oldCosts])), aI g a_m_stepCount 248 m_stepCount, aJ g a_m_froms 1488 m_froms, aJ g a_m_cents 1488 m_cents, aJ g a_m_uses 30 m_uses, aJ g a_m_stocks 30 m_stocks, aI g a_m_alternates 30 m_alternates, aI g a_m_dayCount 8 m_dayCount, aJ g a_m_days 48 m_days, aJ g a_m_rateAbove 48 m_rateAbove, aJ g a_m_rateBelow 48 m_rateBelow, aJ g a_m_costs 33 f3, aJ g a_m_pieces 33 f4, aI g a_m_maker 33 f5, aI g a_m_partOf 33 f6] [(0, .ref a_t), (1, .int p0), (2, .long p1), (4, .long p2), (6, .long x1), (8, .int v2)] [.int v7, .ref a_t] 131 0 0 := by
              intro v7 hw
              unfold wp_M_buyPart_J131 at hw
              obtain ⟨hz4, hw⟩ := hw
              refine st_put X (ci := 6) (ty := .boolean) in_M t_M to_M nm_M 0 18 wf_M_132 rfl rfl (by decide) rfl (by decide +kernel) (nb_bool hz4).1 (nb_bool hz4).2 (Nat.le_of_ble_eq_true rfl) (ws2 := [(a_t, .inr (6, [.int m_thrown, .int m_parts, .ref a_m_stepCount, .ref a_m_froms, .ref a_m_cents, .ref a_m_uses, .ref a_m_stocks, .ref a_m_alternates, .ref a_m_assemblies, .ref a_m_placings, .int m_yields, .ref a_m_yieldAbove, .ref a_m_yieldBelow, .ref a_m_dayCount, .ref a_m_days, .ref a_m_rateAbove, .ref a_m_rateBelow, .long m_tools, .int v7, .long m_sum, .ref a_m_costs, .ref a_m_pieces, .ref a_m_maker, .ref a_m_partOf, .int m_ran, .int m_keptRows, .ref a_m_keptCosts, .ref a_m_keptPieces, .ref a_m_keptMaker, .ref a_m_keptPart, .ref a_m_oldCosts])), aI g a_m_stepCount 248 m_stepCount, aJ g a_m_froms 1488 m_froms, aJ g a_m_cents 1488 m_cents, aJ g a_m_uses 30 m_uses, aJ g a_m_stocks 30 m_stocks, aI g a_m_alternates 30 m_alternates, aI g a_m_dayCount 8 m_dayCount, aJ g a_m_days 48 m_days, aJ g a_m_rateAbove 48 m_rateAbove, aJ g a_m_rateBelow 48 m_rateBelow, aJ g a_m_costs 33 f3, aJ g a_m_pieces 33 f4, aI g a_m_maker 33 f5, aI g a_m_partOf 33 f6]) rfl d_M_buyPart_131 ?_
              exact st_vret X hr (v7, f3, f4, f5, f6) hw rfl (by decide) (by decide) d_M_buyPart_134
            refine st_lcmp_le X 130 d_M_buyPart_122 d_M_buyPart_123 (by decide) (fun hc => ?_) (fun hc => ?_)
            · replace hw := hw.1 hc
              refine st_iconst X (v := 0) d_M_buyPart_130 (by decide) ?_
              refine st_lv [0, 1, 2, 3, 4, 5] rfl ?_
              exact J131 0 hw
            · replace hw := hw.2 hc
              refine st_iconst X (v := 1) d_M_buyPart_126 (by decide) ?_
              refine st_goto X 131 d_M_buyPart_127 (by decide) ?_
              refine st_lv [0, 1, 2, 3, 4, 5] rfl ?_
              exact J131 1 hw
          · replace hw := hw.2 hc
            refine st_iload X 5 d_M_buyPart_52 rfl ?_
            refine st_iload_n X 1 d_M_buyPart_54 rfl rfl ?_
            have J106 : ∀ (f8 : Nat → Int64) (f9 : Nat → Int64) (f10 : Nat → Int32) (f11 : Nat → Int32), wp_M_buyPart_J106 v2 (fun z0 z1 z2 z3 z4 => wp_M_buyPart_L43 p0 p2 m_parts m_stepCount m_froms m_cents m_alternates m_dayCount m_days m_rateAbove m_rateBelow x1 Q n43 z0 z1 z2 z3 z4) f8 f9 f10 f11 → ST g C [(a_t, .inr (6, [.int m_thrown, .int m_parts, .ref a_m_stepCount, .ref a_m_froms, .ref a_m_cents, .ref a_m_uses, .ref a_m_stocks, .ref a_m_alternates, .ref a_m_assemblies, .ref a_m_placings, .int m_yields, .ref a_m_yieldAbove, .ref a_m_yieldBelow, .ref a_m_dayCount, .ref a_m_days, .ref a_m_rateAbove, .ref a_m_rateBelow, .long m_tools, .int m_can, .long m_sum, .ref a_m_costs, .ref a_m_pieces, .ref a_m_maker, .ref a_m_partOf, .int m_ran, .int m_keptRows, .ref a_m_keptCosts, .ref a_m_keptPieces, .ref a_m_keptMaker, .ref a_m_keptPart, .ref a_m_oldCosts])), aI g a_m_stepCount 248 m_stepCount, aJ g a_m_froms 1488 m_froms, aJ g a_m_cents 1488 m_cents, aJ g a_m_uses 30 m_uses, aJ g a_m_stocks 30 m_stocks, aI g a_m_alternates 30 m_alternates, aI g a_m_dayCount 8 m_dayCount, aJ g a_m_days 48 m_days, aJ g a_m_rateAbove 48 m_rateAbove, aJ g a_m_rateBelow 48 m_rateBelow, aJ g a_m_costs 33 f8, aJ g a_m_pieces 33 f9, aI g a_m_maker 33 f10, aI g a_m_partOf 33 f11] [(0, .ref a_t), (1, .int p0), (2, .long p1), (4, .long p2), (6, .long x1), (8, .int v2)] [] 106 0 0 := by
              intro f8 f9 f10 f11 hw
              unfold wp_M_buyPart_J106 at hw
              obtain ⟨x12, hx12⟩ : ∃ z : Int32, z = v2 + 1 := ⟨_, rfl⟩
              replace hw := hw x12 hx12
              refine st_iinc X (v := x12) (lv2 := [(8, .int x12), (0, .ref a_t), (1, .int p0), (2, .long p1), (4, .long p2), (6, .long x1)]) 5 d_M_buyPart_106 rfl (by rw [hx12]; rfl) (by decide) rfl ?_
              refine st_goto X 43 d_M_buyPart_109 (by decide) ?_
              refine st_lv [1, 2, 3, 4, 5, 0] rfl ?_
              exact ih43 x12 f8 f9 f10 f11 hw
            have J75 : wp_M_buyPart_J75 p0 p2 m_stepCount m_froms m_cents m_dayCount m_days m_rateAbove m_rateBelow x1 v2 f3 f4 f5 f6 (fun z0 z1 z2 z3 z4 => wp_M_buyPart_L43 p0 p2 m_parts m_stepCount m_froms m_cents m_alternates m_dayCount m_days m_rateAbove m_rateBelow x1 Q n43 z0 z1 z2 z3 z4) → ST g C [(a_t, .inr (6, [.int m_thrown, .int m_parts, .ref a_m_stepCount, .ref a_m_froms, .ref a_m_cents, .ref a_m_uses, .ref a_m_stocks, .ref a_m_alternates, .ref a_m_assemblies, .ref a_m_placings, .int m_yields, .ref a_m_yieldAbove, .ref a_m_yieldBelow, .ref a_m_dayCount, .ref a_m_days, .ref a_m_rateAbove, .ref a_m_rateBelow, .long m_tools, .int m_can, .long m_sum, .ref a_m_costs, .ref a_m_pieces, .ref a_m_maker, .ref a_m_partOf, .int m_ran, .int m_keptRows, .ref a_m_keptCosts, .ref a_m_keptPieces, .ref a_m_keptMaker, .ref a_m_keptPart, .ref a_m_oldCosts])), aI g a_m_stepCount 248 m_stepCount, aJ g a_m_froms 1488 m_froms, aJ g a_m_cents 1488 m_cents, aJ g a_m_uses 30 m_uses, aJ g a_m_stocks 30 m_stocks, aI g a_m_alternates 30 m_alternates, aI g a_m_dayCount 8 m_dayCount, aJ g a_m_days 48 m_days, aJ g a_m_rateAbove 48 m_rateAbove, aJ g a_m_rateBelow 48 m_rateBelow, aJ g a_m_costs 33 f3, aJ g a_m_pieces 33 f4, aI g a_m_maker 33 f5, aI g a_m_partOf 33 f6] [(0, .ref a_t), (1, .int p0), (2, .long p1), (4, .long p2), (6, .long x1), (8, .int v2)] [] 75 0 0 := by
              intro hw
              unfold wp_M_buyPart_J75 at hw
              refine st_iconst X (v := 0) d_M_buyPart_75 (by decide) ?_
              refine st_istore X (lv2 := [(9, .int 0), (0, .ref a_t), (1, .int p0), (2, .long p1), (4, .long p2), (6, .long x1), (8, .int v2)]) d_M_buyPart_76 (by decide) rfl ?_
              have L78 : ∀ (n78 : Nat) (v13 : Int32) (f14 : Nat → Int64) (f15 : Nat → Int64) (f16 : Nat → Int32) (f17 : Nat → Int32), wp_M_buyPart_L78 p0 p2 m_stepCount m_froms m_cents m_dayCount m_days m_rateAbove m_rateBelow x1 v2 (fun z0 z1 z2 z3 z4 => wp_M_buyPart_L43 p0 p2 m_parts m_stepCount m_froms m_cents m_alternates m_dayCount m_days m_rateAbove m_rateBelow x1 Q n43 z0 z1 z2 z3 z4) n78 v13 f14 f15 f16 f17 → ST g C [(a_t, .inr (6, [.int m_thrown, .int m_parts, .ref a_m_stepCount, .ref a_m_froms, .ref a_m_cents, .ref a_m_uses, .ref a_m_stocks, .ref a_m_alternates, .ref a_m_assemblies, .ref a_m_placings, .int m_yields, .ref a_m_yieldAbove, .ref a_m_yieldBelow, .ref a_m_dayCount, .ref a_m_days, .ref a_m_rateAbove, .ref a_m_rateBelow, .long m_tools, .int m_can, .long m_sum, .ref a_m_costs, .ref a_m_pieces, .ref a_m_maker, .ref a_m_partOf, .int m_ran, .int m_keptRows, .ref a_m_keptCosts, .ref a_m_keptPieces, .ref a_m_keptMaker, .ref a_m_keptPart, .ref a_m_oldCosts])), aI g a_m_stepCount 248 m_stepCount, aJ g a_m_froms 1488 m_froms, aJ g a_m_cents 1488 m_cents, aJ g a_m_uses 30 m_uses, aJ g a_m_stocks 30 m_stocks, aI g a_m_alternates 30 m_alternates, aI g a_m_dayCount 8 m_dayCount, aJ g a_m_days 48 m_days, aJ g a_m_rateAbove 48 m_rateAbove, aJ g a_m_rateBelow 48 m_rateBelow, aJ g a_m_costs 33 f14, aJ g a_m_pieces 33 f15, aI g a_m_maker 33 f16, aI g a_m_partOf 33 f17] [(0, .ref a_t), (1, .int p0), (2, .long p1), (4, .long p2), (6, .long x1), (8, .int v2), (9, .int v13)] [] 78 0 0 := by
                intro n78
                induction n78 with
                | zero => intro v13 f14 f15 f16 f17 hw; exact hw.elim
                | succ n78 ih78 =>
                  intro v13 f14 f15 f16 f17 hw
                  rw [wp_M_buyPart_L78] at hw
                  refine st_iload X 6 d_M_buyPart_78 rfl ?_
                  refine st_bipush X (v := 8) d_M_buyPart_80 (by decide) ?_
                  refine st_icmp_ge X 106 d_M_buyPart_82 (by decide) (fun hc => ?_) (fun hc => ?_)
                  · replace hw := hw.1 hc
                    refine st_lv [0, 1, 2, 3, 4, 5] rfl ?_
                    exact J106 f14 f15 f16 f17 hw
                  · replace hw := hw.2 hc
                    refine st_aload_n X 0 d_M_buyPart_85 rfl rfl ?_
                    refine st_iconst X (v := 3) d_M_buyPart_86 (by decide) ?_
                    refine st_iload_n X 1 d_M_buyPart_87 rfl rfl ?_
                    refine st_iadd X d_M_buyPart_88 ?_
                    refine st_iload X 5 d_M_buyPart_89 rfl ?_
                    refine st_iload X 6 d_M_buyPart_91 rfl ?_
                    refine st_lload X 4 d_M_buyPart_93 rfl ?_
                    refine st_lload X 3 d_M_buyPart_95 rfl ?_
                    have hR := rn_V (pc := 97) (k := 0) (n := 0) (As := [.int (3 + p0), .int v2, .int v13, .long x1, .long p2]) (rest := []) X (k_M_offer g hg a_t (3 + p0) v2 v13 x1 p2 m_thrown m_parts a_m_stepCount a_m_froms a_m_cents a_m_uses a_m_stocks a_m_alternates a_m_assemblies a_m_placings m_yields a_m_yieldAbove a_m_yieldBelow a_m_dayCount a_m_days a_m_rateAbove a_m_rateBelow m_tools m_can m_sum a_m_costs a_m_pieces a_m_maker a_m_partOf m_ran m_keptRows a_m_keptCosts a_m_keptPieces a_m_keptMaker a_m_keptPart a_m_oldCosts m_stepCount m_froms m_cents m_dayCount m_days m_rateAbove m_rateBelow f14 f15 f16 f17 _ hw) (q0 := 0) rfl rfl wm_M_136 wi_M_offer wl_M_offer wz_M wc_M_offer h9_M_offer ⟨by decide, by decide⟩ (Nat.le_of_ble_eq_true rfl) ⟨by decide, by decide⟩ d_M_buyPart_97
                    refine st_callv X hR [0, 1, 2, 3, 7, 8, 9, 10, 11, 12, 13, 14] [4, 5, 6] (wr := [aJ g a_m_uses 30 m_uses, aJ g a_m_stocks 30 m_stocks, aI g a_m_alternates 30 m_alternates]) rfl rfl (by decide) (by decide) (by decide) (fun u9 hw => ?_)
                    obtain ⟨u18, u19, u20, u21⟩ := u9
                    try dsimp only at hw
                    refine st_widen (k2 := 0) (n2 := 0) (by decide) (by decide) ?_
                    refine st_perm (ws2 := [(a_t, .inr (6, [.int m_thrown, .int m_parts, .ref a_m_stepCount, .ref a_m_froms, .ref a_m_cents, .ref a_m_uses, .ref a_m_stocks, .ref a_m_alternates, .ref a_m_assemblies, .ref a_m_placings, .int m_yields, .ref a_m_yieldAbove, .ref a_m_yieldBelow, .ref a_m_dayCount, .ref a_m_days, .ref a_m_rateAbove, .ref a_m_rateBelow, .long m_tools, .int m_can, .long m_sum, .ref a_m_costs, .ref a_m_pieces, .ref a_m_maker, .ref a_m_partOf, .int m_ran, .int m_keptRows, .ref a_m_keptCosts, .ref a_m_keptPieces, .ref a_m_keptMaker, .ref a_m_keptPart, .ref a_m_oldCosts])), aI g a_m_stepCount 248 m_stepCount, aJ g a_m_froms 1488 m_froms, aJ g a_m_cents 1488 m_cents, aJ g a_m_uses 30 m_uses, aJ g a_m_stocks 30 m_stocks, aI g a_m_alternates 30 m_alternates, aI g a_m_dayCount 8 m_dayCount, aJ g a_m_days 48 m_days, aJ g a_m_rateAbove 48 m_rateAbove, aJ g a_m_rateBelow 48 m_rateBelow, aJ g a_m_costs 33 u18, aJ g a_m_pieces 33 u19, aI g a_m_maker 33 u20, aI g a_m_partOf 33 u21]) [3, 4, 5, 6, 0, 1, 2, 7, 8, 9, 10, 11, 12, 13, 14] rfl (by decide) ?_
                    show ST g C [(a_t, .inr (6, [.int m_thrown, .int m_parts, .ref a_m_stepCount, .ref a_m_froms, .ref a_m_cents, .ref a_m_uses, .ref a_m_stocks, .ref a_m_alternates, .ref a_m_assemblies, .ref a_m_placings, .int m_yields, .ref a_m_yieldAbove, .ref a_m_yieldBelow, .ref a_m_dayCount, .ref a_m_days, .ref a_m_rateAbove, .ref a_m_rateBelow, .long m_tools, .int m_can, .long m_sum, .ref a_m_costs, .ref a_m_pieces, .ref a_m_maker, .ref a_m_partOf, .int m_ran, .int m_keptRows, .ref a_m_keptCosts, .ref a_m_keptPieces, .ref a_m_keptMaker, .ref a_m_keptPart, .ref a_m_oldCosts])), aI g a_m_stepCount 248 m_stepCount, aJ g a_m_froms 1488 m_froms, aJ g a_m_cents 1488 m_cents, aJ g a_m_uses 30 m_uses, aJ g a_m_stocks 30 m_stocks, aI g a_m_alternates 30 m_alternates, aI g a_m_dayCount 8 m_dayCount, aJ g a_m_days 48 m_days, aJ g a_m_rateAbove 48 m_rateAbove, aJ g a_m_rateBelow 48 m_rateBelow, aJ g a_m_costs 33 u18, aJ g a_m_pieces 33 u19, aI g a_m_maker 33 u20, aI g a_m_partOf 33 u21] [(0, .ref a_t), (1, .int p0), (2, .long p1), (4, .long p2), (6, .long x1), (8, .int v2), (9, .int v13)] [] 100 0 0
                    obtain ⟨x22, hx22⟩ : ∃ z : Int32, z = v13 + 1 := ⟨_, rfl⟩
                    replace hw := hw x22 hx22
                    refine st_iinc X (v := x22) (lv2 := [(9, .int x22), (0, .ref a_t), (1, .int p0), (2, .long p1), (4, .long p2), (6, .long x1), (8, .int v2)]) 6 d_M_buyPart_100 rfl (by rw [hx22]; rfl) (by decide) rfl ?_
                    refine st_goto X 78 d_M_buyPart_103 (by decide) ?_
                    refine st_lv [1, 2, 3, 4, 5, 6, 0] rfl ?_
                    exact ih78 x22 u18 u19 u20 u21 hw
              obtain ⟨n78, hw⟩ := hw
              refine st_lv [1, 2, 3, 4, 5, 6, 0] rfl ?_
              exact L78 n78 0 f3 f4 f5 f6 hw
            refine st_icmp_eq X 75 d_M_buyPart_55 (by decide) (fun hc => ?_) (fun hc => ?_)
            · replace hw := hw.1 hc
              refine st_lv [0, 1, 2, 3, 4, 5] rfl ?_
              exact J75 hw
            · replace hw := hw.2 hc
              refine st_aload_n X 0 d_M_buyPart_58 rfl rfl ?_
              refine st_get X (ci := 6) in_M 0 7 wf_M_26 rfl rfl (by decide) rfl d_M_buyPart_59 ?_
              refine st_iload_n X 1 d_M_buyPart_62 rfl rfl ?_
              obtain ⟨hb5, hw⟩ := hw
              refine st_iald X 6 rfl hb5 d_M_buyPart_63 ?_
              refine st_iload X 5 d_M_buyPart_64 rfl ?_
              refine st_ishr X d_M_buyPart_66 ?_
              refine st_iconst X (v := 1) d_M_buyPart_67 (by decide) ?_
              refine st_iand X d_M_buyPart_68 ?_
              refine st_if_ne X 75 d_M_buyPart_69 (by decide) (fun hc => ?_) (fun hc => ?_)
              · replace hw := hw.1 hc
                refine st_lv [0, 1, 2, 3, 4, 5] rfl ?_
                exact J75 hw
              · replace hw := hw.2 hc
                refine st_goto X 106 d_M_buyPart_72 (by decide) ?_
                refine st_lv [0, 1, 2, 3, 4, 5] rfl ?_
                exact J106 f3 f4 f5 f6 hw
      obtain ⟨n43, hw⟩ := hw
      refine st_lv [2, 3, 4, 5, 1, 0] rfl ?_
      exact L43 n43 0 m_costs m_pieces m_maker m_partOf hw
    · replace hw := hw.2 hc
      refine st_aload_n X 1 d_M_buyPart_34 rfl rfl ?_
      refine st_iconst X (v := 0) d_M_buyPart_35 (by decide) ?_
      obtain ⟨hz6, hw⟩ := hw
      refine st_put X (ci := 6) (ty := .boolean) in_M t_M to_M nm_M 0 18 wf_M_132 rfl rfl (by decide) rfl (by decide +kernel) (nb_bool hz6).1 (nb_bool hz6).2 (Nat.le_of_ble_eq_true rfl) (ws2 := [(a_t, .inr (6, [.int m_thrown, .int m_parts, .ref a_m_stepCount, .ref a_m_froms, .ref a_m_cents, .ref a_m_uses, .ref a_m_stocks, .ref a_m_alternates, .ref a_m_assemblies, .ref a_m_placings, .int m_yields, .ref a_m_yieldAbove, .ref a_m_yieldBelow, .ref a_m_dayCount, .ref a_m_days, .ref a_m_rateAbove, .ref a_m_rateBelow, .long m_tools, .int 0, .long m_sum, .ref a_m_costs, .ref a_m_pieces, .ref a_m_maker, .ref a_m_partOf, .int m_ran, .int m_keptRows, .ref a_m_keptCosts, .ref a_m_keptPieces, .ref a_m_keptMaker, .ref a_m_keptPart, .ref a_m_oldCosts])), aI g a_m_stepCount 248 m_stepCount, aJ g a_m_froms 1488 m_froms, aJ g a_m_cents 1488 m_cents, aJ g a_m_uses 30 m_uses, aJ g a_m_stocks 30 m_stocks, aI g a_m_alternates 30 m_alternates, aI g a_m_dayCount 8 m_dayCount, aJ g a_m_days 48 m_days, aJ g a_m_rateAbove 48 m_rateAbove, aJ g a_m_rateBelow 48 m_rateBelow, aJ g a_m_costs 33 m_costs, aJ g a_m_pieces 33 m_pieces, aI g a_m_maker 33 m_maker, aI g a_m_partOf 33 m_partOf]) rfl d_M_buyPart_36 ?_
      exact st_vret X hr (0, m_costs, m_pieces, m_maker, m_partOf) hw rfl (by decide) (by decide) d_M_buyPart_39
  · replace hw := hw.2 hc
    exact st_vret X hr (m_can, m_costs, m_pieces, m_maker, m_partOf) hw rfl (by decide) (by decide) d_M_buyPart_24

theorem h9_M_reckon : y_M_reckon.cls ≠ "java/lang/invoke/MethodHandle" ∧ y_M_reckon.cls ≠ "java/lang/invoke/VarHandle" ∧ (parseMethodDescriptor y_M_reckon.desc).map (fun d => d.parameters.length) = some 3 := by decide +kernel
def wp_M_reckon_L228 (v9 : Int32) (f10 : Nat → Int64) (f11 : Nat → Int64) (f12 : Nat → Int32) (f14 : Nat → Int32) (Q : Int32 → Int64 → (Nat → Int64) → (Nat → Int64) → (Nat → Int32) → (Nat → Int32) → Prop) : Nat → Int32 → Int64 → Prop
  | 0, _, _ => False
  | n228 + 1, v15, v16 =>
  ((33 ≤ v15) → Q v9 v16 f10 f11 f12 f14) ∧
  ((¬ 33 ≤ v15) → vp_in v15 33 ∧
  ∀ x17 : Int64, x17 = v16 + (f10 v15.toNatClampNeg) →
  ∀ x18 : Int32, x18 = v15 + 1 →
  (wp_M_reckon_L228 v9 f10 f11 f12 f14 Q n228) x18 x17)
def wp_M_reckon_J213 (Q : Int32 → Int64 → (Nat → Int64) → (Nat → Int64) → (Nat → Int32) → (Nat → Int32) → Prop) (v9 : Int32) (f10 : Nat → Int64) (f11 : Nat → Int64) (f12 : Nat → Int32) (f13 : Nat → Int32) : Prop :=
  vp_in (1 : Int32) 33 ∧
  ∀ f14 : Nat → Int32, f14 = upd f13 (1 : Int32).toNatClampNeg (-1) →
  ∃ n228 : Nat, wp_M_reckon_L228 v9 f10 f11 f12 f14 Q n228 0 0
def wp_M_reckon_L181 (p2 : Int64) (m_parts : Int32) (m_stepCount : Nat → Int32) (m_froms : Nat → Int64) (m_cents : Nat → Int64) (m_uses : Nat → Int64) (m_stocks : Nat → Int64) (m_alternates : Nat → Int32) (m_dayCount : Nat → Int32) (m_days : Nat → Int64) (m_rateAbove : Nat → Int64) (m_rateBelow : Nat → Int64) (r6 : Int64) (Q : Int32 → Int64 → (Nat → Int64) → (Nat → Int64) → (Nat → Int32) → (Nat → Int32) → Prop) : Nat → Int32 → Int32 → (Nat → Int64) → (Nat → Int64) → (Nat → Int32) → (Nat → Int32) → Prop
  | 0, _, _, _, _, _, _ => False
  | n181 + 1, v26, v27, f28, f29, f30, f31 =>
  ((m_parts ≤ v26) → wp_M_reckon_J213 Q v27 f28 f29 f30 f31) ∧
  ((¬ m_parts ≤ v26) → ((v27 = 0) → wp_M_reckon_J213 Q v27 f28 f29 f30 f31) ∧
  ((¬ v27 = 0) → wp_M_buyPart v26 r6 p2 m_parts v27 m_stepCount m_froms m_cents m_uses m_stocks m_alternates m_dayCount m_days m_rateAbove m_rateBelow f28 f29 f30 f31 (fun u32 u33 u34 u35 u36 =>
  ∀ x37 : Int32, x37 = v26 + 1 →
  (wp_M_reckon_L181 p2 m_parts m_stepCount m_froms m_cents m_uses m_stocks m_alternates m_dayCount m_days m_rateAbove m_rateBelow r6 Q n181) x37 u32 u33 u34 u35 u36)))
def wp_M_reckon_L132 (p2 : Int64) (m_parts : Int32) (m_stepCount : Nat → Int32) (m_froms : Nat → Int64) (m_cents : Nat → Int64) (m_uses : Nat → Int64) (m_stocks : Nat → Int64) (m_alternates : Nat → Int32) (m_assemblies : Nat → Int64) (m_placings : Nat → Int64) (m_dayCount : Nat → Int32) (m_days : Nat → Int64) (m_rateAbove : Nat → Int64) (m_rateBelow : Nat → Int64) (r6 : Int64) (u20 : Nat → Int64) (u21 : Nat → Int32) (u22 : Nat → Int32) (v23 : Int32) (Q : Int32 → Int64 → (Nat → Int64) → (Nat → Int64) → (Nat → Int32) → (Nat → Int32) → Prop) : Nat → Int32 → (Nat → Int64) → Prop
  | 0, _, _ => False
  | n132 + 1, v24, f25 =>
  ((8 ≤ v24) → ∃ n181 : Nat, wp_M_reckon_L181 p2 m_parts m_stepCount m_froms m_cents m_uses m_stocks m_alternates m_dayCount m_days m_rateAbove m_rateBelow r6 Q n181 0 v23 f25 u20 u21 u22) ∧
  ((¬ 8 ≤ v24) → vp_in (2 : Int32) 33 ∧
  vp_in v24 8 ∧
  vp_in v24 8 ∧
  wp_M_up ((r6 * (m_placings v24.toNatClampNeg)) * (m_assemblies v24.toNatClampNeg)) (1000 : Int64) (fun r38 =>
  ∀ x39 : Int64, x39 = (f25 (2 : Int32).toNatClampNeg) + r38 →
  vp_in (2 : Int32) 33 ∧
  ∀ f40 : Nat → Int64, f40 = vp_updL f25 (2 : Int32).toNatClampNeg x39 →
  ∀ x41 : Int32, x41 = v24 + 1 →
  (wp_M_reckon_L132 p2 m_parts m_stepCount m_froms m_cents m_uses m_stocks m_alternates m_assemblies m_placings m_dayCount m_days m_rateAbove m_rateBelow r6 u20 u21 u22 v23 Q n132) x41 f40))
def wp_M_reckon_J126 (p2 : Int64) (m_parts : Int32) (m_stepCount : Nat → Int32) (m_froms : Nat → Int64) (m_cents : Nat → Int64) (m_uses : Nat → Int64) (m_stocks : Nat → Int64) (m_alternates : Nat → Int32) (m_assemblies : Nat → Int64) (m_placings : Nat → Int64) (m_dayCount : Nat → Int32) (m_days : Nat → Int64) (m_rateAbove : Nat → Int64) (m_rateBelow : Nat → Int64) (r6 : Int64) (u19 : Nat → Int64) (u20 : Nat → Int64) (u21 : Nat → Int32) (u22 : Nat → Int32) (Q : Int32 → Int64 → (Nat → Int64) → (Nat → Int64) → (Nat → Int32) → (Nat → Int32) → Prop) (v23 : Int32) : Prop :=
  (v23 = (0 : Int32) ∨ v23 = (1 : Int32)) ∧
  ∃ n132 : Nat, wp_M_reckon_L132 p2 m_parts m_stepCount m_froms m_cents m_uses m_stocks m_alternates m_assemblies m_placings m_dayCount m_days m_rateAbove m_rateBelow r6 u20 u21 u22 v23 Q n132 0 u19
def wp_M_reckon_J70 (p1 : Int32) (p2 : Int64) (m_parts : Int32) (m_tools : Int64) (m_stepCount : Nat → Int32) (m_froms : Nat → Int64) (m_cents : Nat → Int64) (m_uses : Nat → Int64) (m_stocks : Nat → Int64) (m_alternates : Nat → Int32) (m_assemblies : Nat → Int64) (m_placings : Nat → Int64) (m_dayCount : Nat → Int32) (m_days : Nat → Int64) (m_rateAbove : Nat → Int64) (m_rateBelow : Nat → Int64) (f2 : Nat → Int64) (f3 : Nat → Int64) (f4 : Nat → Int32) (f5 : Nat → Int32) (r6 : Int64) (Q : Int32 → Int64 → (Nat → Int64) → (Nat → Int64) → (Nat → Int32) → (Nat → Int32) → Prop) (v7 : Int32) : Prop :=
  (v7 = (0 : Int32) ∨ v7 = (1 : Int32)) ∧
  vp_in (0 : Int32) 33 ∧
  ∀ f8 : Nat → Int64, f8 = vp_updL f2 (0 : Int32).toNatClampNeg m_tools →
  ((v7 = 0) → wp_M_reckon_J213 Q v7 f8 f3 f4 f5) ∧
  ((¬ v7 = 0) → ((r6 ≤ 0) → wp_M_reckon_J213 Q v7 f8 f3 f4 f5) ∧
  ((¬ r6 ≤ 0) → wp_M_offer (1 : Int32) (30 : Int32) p1 r6 p2 m_stepCount m_froms m_cents m_dayCount m_days m_rateAbove m_rateBelow f8 f3 f4 f5 (fun u19 u20 u21 u22 =>
  vp_in (1 : Int32) 33 ∧
  (((u20 (1 : Int32).toNatClampNeg) ≤ 0) → wp_M_reckon_J126 p2 m_parts m_stepCount m_froms m_cents m_uses m_stocks m_alternates m_assemblies m_placings m_dayCount m_days m_rateAbove m_rateBelow r6 u19 u20 u21 u22 Q 0) ∧
  ((¬ (u20 (1 : Int32).toNatClampNeg) ≤ 0) → wp_M_reckon_J126 p2 m_parts m_stepCount m_froms m_cents m_uses m_stocks m_alternates m_assemblies m_placings m_dayCount m_days m_rateAbove m_rateBelow r6 u19 u20 u21 u22 Q 1))))
def wp_M_reckon_L3 (p0 : Int64) (p1 : Int32) (p2 : Int64) (m_parts : Int32) (m_yields : Int32) (m_tools : Int64) (m_stepCount : Nat → Int32) (m_froms : Nat → Int64) (m_cents : Nat → Int64) (m_uses : Nat → Int64) (m_stocks : Nat → Int64) (m_alternates : Nat → Int32) (m_assemblies : Nat → Int64) (m_placings : Nat → Int64) (m_yieldAbove : Nat → Int64) (m_yieldBelow : Nat → Int64) (m_dayCount : Nat → Int32) (m_days : Nat → Int64) (m_rateAbove : Nat → Int64) (m_rateBelow : Nat → Int64) (Q : Int32 → Int64 → (Nat → Int64) → (Nat → Int64) → (Nat → Int32) → (Nat → Int32) → Prop) : Nat → Int32 → (Nat → Int64) → (Nat → Int64) → (Nat → Int32) → (Nat → Int32) → Prop
  | 0, _, _, _, _, _ => False
  | n3 + 1, v1, f2, f3, f4, f5 =>
  ((33 ≤ v1) → wp_M_started p0 m_yields m_yieldAbove m_yieldBelow (fun r6 =>
  ((1000000000 < r6) → wp_M_reckon_J70 p1 p2 m_parts m_tools m_stepCount m_froms m_cents m_uses m_stocks m_alternates m_assemblies m_placings m_dayCount m_days m_rateAbove m_rateBelow f2 f3 f4 f5 r6 Q 0) ∧
  ((¬ 1000000000 < r6) → wp_M_reckon_J70 p1 p2 m_parts m_tools m_stepCount m_froms m_cents m_uses m_stocks m_alternates m_assemblies m_placings m_dayCount m_days m_rateAbove m_rateBelow f2 f3 f4 f5 r6 Q 1))) ∧
  ((¬ 33 ≤ v1) → vp_in v1 33 ∧
  ∀ f42 : Nat → Int64, f42 = vp_updL f2 v1.toNatClampNeg 0 →
  vp_in v1 33 ∧
  ∀ f43 : Nat → Int64, f43 = vp_updL f3 v1.toNatClampNeg 0 →
  vp_in v1 33 ∧
  ∀ f44 : Nat → Int32, f44 = upd f4 v1.toNatClampNeg (-1) →
  vp_in v1 33 ∧
  ∀ f45 : Nat → Int32, f45 = upd f5 v1.toNatClampNeg (-1) →
  ∀ x46 : Int32, x46 = v1 + 1 →
  (wp_M_reckon_L3 p0 p1 p2 m_parts m_yields m_tools m_stepCount m_froms m_cents m_uses m_stocks m_alternates m_assemblies m_placings m_yieldAbove m_yieldBelow m_dayCount m_days m_rateAbove m_rateBelow Q n3) x46 f42 f43 f44 f45)
def wp_M_reckon (p0 : Int64) (p1 : Int32) (p2 : Int64) (m_parts : Int32) (m_yields : Int32) (m_tools : Int64) (m_stepCount : Nat → Int32) (m_froms : Nat → Int64) (m_cents : Nat → Int64) (m_uses : Nat → Int64) (m_stocks : Nat → Int64) (m_alternates : Nat → Int32) (m_assemblies : Nat → Int64) (m_placings : Nat → Int64) (m_yieldAbove : Nat → Int64) (m_yieldBelow : Nat → Int64) (m_dayCount : Nat → Int32) (m_days : Nat → Int64) (m_rateAbove : Nat → Int64) (m_rateBelow : Nat → Int64) (m_costs : Nat → Int64) (m_pieces : Nat → Int64) (m_maker : Nat → Int32) (m_partOf : Nat → Int32) (Q : Int32 → Int64 → (Nat → Int64) → (Nat → Int64) → (Nat → Int32) → (Nat → Int32) → Prop) : Prop :=
  ∃ n3 : Nat, wp_M_reckon_L3 p0 p1 p2 m_parts m_yields m_tools m_stepCount m_froms m_cents m_uses m_stocks m_alternates m_assemblies m_placings m_yieldAbove m_yieldBelow m_dayCount m_days m_rateAbove m_rateBelow Q n3 0 m_costs m_pieces m_maker m_partOf
set_option maxHeartbeats 4000000 in
set_option maxRecDepth 100000 in
theorem k_M_reckon (g : GX) (hg : g.1.stackTraces = false) (a_t : Nat) (p0 : Int64) (p1 : Int32) (p2 : Int64) (m_thrown : Int32) (m_parts : Int32) (a_m_stepCount : Nat) (a_m_froms : Nat) (a_m_cents : Nat) (a_m_uses : Nat) (a_m_stocks : Nat) (a_m_alternates : Nat) (a_m_assemblies : Nat) (a_m_placings : Nat) (m_yields : Int32) (a_m_yieldAbove : Nat) (a_m_yieldBelow : Nat) (a_m_dayCount : Nat) (a_m_days : Nat) (a_m_rateAbove : Nat) (a_m_rateBelow : Nat) (m_tools : Int64) (m_can : Int32) (m_sum : Int64) (a_m_costs : Nat) (a_m_pieces : Nat) (a_m_maker : Nat) (a_m_partOf : Nat) (m_ran : Int32) (m_keptRows : Int32) (a_m_keptCosts : Nat) (a_m_keptPieces : Nat) (a_m_keptMaker : Nat) (a_m_keptPart : Nat) (a_m_oldCosts : Nat) (m_stepCount : Nat → Int32) (m_froms : Nat → Int64) (m_cents : Nat → Int64) (m_uses : Nat → Int64) (m_stocks : Nat → Int64) (m_alternates : Nat → Int32) (m_assemblies : Nat → Int64) (m_placings : Nat → Int64) (m_yieldAbove : Nat → Int64) (m_yieldBelow : Nat → Int64) (m_dayCount : Nat → Int32) (m_days : Nat → Int64) (m_rateAbove : Nat → Int64) (m_rateBelow : Nat → Int64) (m_costs : Nat → Int64) (m_pieces : Nat → Int64) (m_maker : Nat → Int32) (m_partOf : Nat → Int32) (Q : Int32 → Int64 → (Nat → Int64) → (Nat → Int64) → (Nat → Int32) → (Nat → Int32) → Prop) (hw : wp_M_reckon p0 p1 p2 m_parts m_yields m_tools m_stepCount m_froms m_cents m_uses m_stocks m_alternates m_assemblies m_placings m_yieldAbove m_yieldBelow m_dayCount m_days m_rateAbove m_rateBelow m_costs m_pieces m_maker m_partOf Q) : CT g y_M_reckon c_M_reckon 9 none ({ frames := 3, cells := 0, slots := 0, locals := 89 } : Room) [.ref a_t, .long p0, .int p1, .long p2] [(a_t, .inr (6, [.int m_thrown, .int m_parts, .ref a_m_stepCount, .ref a_m_froms, .ref a_m_cents, .ref a_m_uses, .ref a_m_stocks, .ref a_m_alternates, .ref a_m_assemblies, .ref a_m_placings, .int m_yields, .ref a_m_yieldAbove, .ref a_m_yieldBelow, .ref a_m_dayCount, .ref a_m_days, .ref a_m_rateAbove, .ref a_m_rateBelow, .long m_tools, .int m_can, .long m_sum, .ref a_m_costs, .ref a_m_pieces, .ref a_m_maker, .ref a_m_partOf, .int m_ran, .int m_keptRows, .ref a_m_keptCosts, .ref a_m_keptPieces, .ref a_m_keptMaker, .ref a_m_keptPart, .ref a_m_oldCosts])), aI g a_m_stepCount 248 m_stepCount, aJ g a_m_froms 1488 m_froms, aJ g a_m_cents 1488 m_cents, aJ g a_m_uses 30 m_uses, aJ g a_m_stocks 30 m_stocks, aI g a_m_alternates 30 m_alternates, aJ g a_m_assemblies 8 m_assemblies, aJ g a_m_placings 8 m_placings, aJ g a_m_yieldAbove 8 m_yieldAbove, aJ g a_m_yieldBelow 8 m_yieldBelow, aI g a_m_dayCount 8 m_dayCount, aJ g a_m_days 48 m_days, aJ g a_m_rateAbove 48 m_rateAbove, aJ g a_m_rateBelow 48 m_rateBelow, aJ g a_m_costs 33 m_costs, aJ g a_m_pieces 33 m_pieces, aI g a_m_maker 33 m_maker, aI g a_m_partOf 33 m_partOf] (QV g [(a_t, .inr (6, [.int m_thrown, .int m_parts, .ref a_m_stepCount, .ref a_m_froms, .ref a_m_cents, .ref a_m_uses, .ref a_m_stocks, .ref a_m_alternates, .ref a_m_assemblies, .ref a_m_placings, .int m_yields, .ref a_m_yieldAbove, .ref a_m_yieldBelow, .ref a_m_dayCount, .ref a_m_days, .ref a_m_rateAbove, .ref a_m_rateBelow, .long m_tools, .int m_can, .long m_sum, .ref a_m_costs, .ref a_m_pieces, .ref a_m_maker, .ref a_m_partOf, .int m_ran, .int m_keptRows, .ref a_m_keptCosts, .ref a_m_keptPieces, .ref a_m_keptMaker, .ref a_m_keptPart, .ref a_m_oldCosts])), aI g a_m_stepCount 248 m_stepCount, aJ g a_m_froms 1488 m_froms, aJ g a_m_cents 1488 m_cents, aJ g a_m_uses 30 m_uses, aJ g a_m_stocks 30 m_stocks, aI g a_m_alternates 30 m_alternates, aJ g a_m_assemblies 8 m_assemblies, aJ g a_m_placings 8 m_placings, aJ g a_m_yieldAbove 8 m_yieldAbove, aJ g a_m_yieldBelow 8 m_yieldBelow, aI g a_m_dayCount 8 m_dayCount, aJ g a_m_days 48 m_days, aJ g a_m_rateAbove 48 m_rateAbove, aJ g a_m_rateBelow 48 m_rateBelow, aJ g a_m_costs 33 m_costs, aJ g a_m_pieces 33 m_pieces, aI g a_m_maker 33 m_maker, aI g a_m_partOf 33 m_partOf] (fun u : Int32 × Int64 × (Nat → Int64) × (Nat → Int64) × (Nat → Int32) × (Nat → Int32) => [(a_t, .inr (6, [.int m_thrown, .int m_parts, .ref a_m_stepCount, .ref a_m_froms, .ref a_m_cents, .ref a_m_uses, .ref a_m_stocks, .ref a_m_alternates, .ref a_m_assemblies, .ref a_m_placings, .int m_yields, .ref a_m_yieldAbove, .ref a_m_yieldBelow, .ref a_m_dayCount, .ref a_m_days, .ref a_m_rateAbove, .ref a_m_rateBelow, .long m_tools, .int u.1, .long u.2.1, .ref a_m_costs, .ref a_m_pieces, .ref a_m_maker, .ref a_m_partOf, .int m_ran, .int m_keptRows, .ref a_m_keptCosts, .ref a_m_keptPieces, .ref a_m_keptMaker, .ref a_m_keptPart, .ref a_m_oldCosts])), aI g a_m_stepCount 248 m_stepCount, aJ g a_m_froms 1488 m_froms, aJ g a_m_cents 1488 m_cents, aJ g a_m_uses 30 m_uses, aJ g a_m_stocks 30 m_stocks, aI g a_m_alternates 30 m_alternates, aJ g a_m_assemblies 8 m_assemblies, aJ g a_m_placings 8 m_placings, aJ g a_m_yieldAbove 8 m_yieldAbove, aJ g a_m_yieldBelow 8 m_yieldBelow, aI g a_m_dayCount 8 m_dayCount, aJ g a_m_days 48 m_days, aJ g a_m_rateAbove 48 m_rateAbove, aJ g a_m_rateBelow 48 m_rateBelow, aJ g a_m_costs 33 u.2.2.1, aJ g a_m_pieces 33 u.2.2.2.1, aI g a_m_maker 33 u.2.2.2.2.1, aI g a_m_partOf 33 u.2.2.2.2.2]) (fun u => Q u.1 u.2.1 u.2.2.1 u.2.2.2.1 u.2.2.2.2.1 u.2.2.2.2.2)) := by
  refine ct_of hg (by decide) (Nat.le_of_ble_eq_true rfl) (fun sz C X hr => ?_)
  unfold wp_M_reckon at hw
  show ST g C [(a_t, .inr (6, [.int m_thrown, .int m_parts, .ref a_m_stepCount, .ref a_m_froms, .ref a_m_cents, .ref a_m_uses, .ref a_m_stocks, .ref a_m_alternates, .ref a_m_assemblies, .ref a_m_placings, .int m_yields, .ref a_m_yieldAbove, .ref a_m_yieldBelow, .ref a_m_dayCount, .ref a_m_days, .ref a_m_rateAbove, .ref a_m_rateBelow, .long m_tools, .int m_can, .long m_sum, .ref a_m_costs, .ref a_m_pieces, .ref a_m_maker, .ref a_m_partOf, .int m_ran, .int m_keptRows, .ref a_m_keptCosts, .ref a_m_keptPieces, .ref a_m_keptMaker, .ref a_m_keptPart, .ref a_m_oldCosts])), aI g a_m_stepCount 248 m_stepCount, aJ g a_m_froms 1488 m_froms, aJ g a_m_cents 1488 m_cents, aJ g a_m_uses 30 m_uses, aJ g a_m_stocks 30 m_stocks, aI g a_m_alternates 30 m_alternates, aJ g a_m_assemblies 8 m_assemblies, aJ g a_m_placings 8 m_placings, aJ g a_m_yieldAbove 8 m_yieldAbove, aJ g a_m_yieldBelow 8 m_yieldBelow, aI g a_m_dayCount 8 m_dayCount, aJ g a_m_days 48 m_days, aJ g a_m_rateAbove 48 m_rateAbove, aJ g a_m_rateBelow 48 m_rateBelow, aJ g a_m_costs 33 m_costs, aJ g a_m_pieces 33 m_pieces, aI g a_m_maker 33 m_maker, aI g a_m_partOf 33 m_partOf] [(0, .ref a_t), (1, .long p0), (3, .int p1), (4, .long p2)] [] 0 0 0
  refine st_iconst X (v := 0) d_M_reckon_0 (by decide) ?_
  refine st_istore X (lv2 := [(6, .int 0), (0, .ref a_t), (1, .long p0), (3, .int p1), (4, .long p2)]) d_M_reckon_1 (by decide) rfl ?_
  have L3 : ∀ (n3 : Nat) (v1 : Int32) (f2 : Nat → Int64) (f3 : Nat → Int64) (f4 : Nat → Int32) (f5 : Nat → Int32), wp_M_reckon_L3 p0 p1 p2 m_parts m_yields m_tools m_stepCount m_froms m_cents m_uses m_stocks m_alternates m_assemblies m_placings m_yieldAbove m_yieldBelow m_dayCount m_days m_rateAbove m_rateBelow Q n3 v1 f2 f3 f4 f5 → ST g C [(a_t, .inr (6, [.int m_thrown, .int m_parts, .ref a_m_stepCount, .ref a_m_froms, .ref a_m_cents, .ref a_m_uses, .ref a_m_stocks, .ref a_m_alternates, .ref a_m_assemblies, .ref a_m_placings, .int m_yields, .ref a_m_yieldAbove, .ref a_m_yieldBelow, .ref a_m_dayCount, .ref a_m_days, .ref a_m_rateAbove, .ref a_m_rateBelow, .long m_tools, .int m_can, .long m_sum, .ref a_m_costs, .ref a_m_pieces, .ref a_m_maker, .ref a_m_partOf, .int m_ran, .int m_keptRows, .ref a_m_keptCosts, .ref a_m_keptPieces, .ref a_m_keptMaker, .ref a_m_keptPart, .ref a_m_oldCosts])), aI g a_m_stepCount 248 m_stepCount, aJ g a_m_froms 1488 m_froms, aJ g a_m_cents 1488 m_cents, aJ g a_m_uses 30 m_uses, aJ g a_m_stocks 30 m_stocks, aI g a_m_alternates 30 m_alternates, aJ g a_m_assemblies 8 m_assemblies, aJ g a_m_placings 8 m_placings, aJ g a_m_yieldAbove 8 m_yieldAbove, aJ g a_m_yieldBelow 8 m_yieldBelow, aI g a_m_dayCount 8 m_dayCount, aJ g a_m_days 48 m_days, aJ g a_m_rateAbove 48 m_rateAbove, aJ g a_m_rateBelow 48 m_rateBelow, aJ g a_m_costs 33 f2, aJ g a_m_pieces 33 f3, aI g a_m_maker 33 f4, aI g a_m_partOf 33 f5] [(0, .ref a_t), (1, .long p0), (3, .int p1), (4, .long p2), (6, .int v1)] [] 3 0 0 := by
    intro n3
    induction n3 with
    | zero => intro v1 f2 f3 f4 f5 hw; exact hw.elim
    | succ n3 ih3 =>
      intro v1 f2 f3 f4 f5 hw
      rw [wp_M_reckon_L3] at hw
      refine st_iload X 4 d_M_reckon_3 rfl ?_
      refine st_bipush X (v := 33) d_M_reckon_5 (by decide) ?_
      refine st_icmp_ge X 48 d_M_reckon_7 (by decide) (fun hc => ?_) (fun hc => ?_)
      · replace hw := hw.1 hc
        refine st_aload_n X 0 d_M_reckon_48 rfl rfl ?_
        refine st_lload_n X 1 d_M_reckon_49 rfl rfl ?_
        have hR := rn_V (pc := 50) (k := 0) (n := 0) (As := [.long p0]) (rest := []) X (k_M_started g hg a_t p0 m_thrown m_parts a_m_stepCount a_m_froms a_m_cents a_m_uses a_m_stocks a_m_alternates a_m_assemblies a_m_placings m_yields a_m_yieldAbove a_m_yieldBelow a_m_dayCount a_m_days a_m_rateAbove a_m_rateBelow m_tools m_can m_sum a_m_costs a_m_pieces a_m_maker a_m_partOf m_ran m_keptRows a_m_keptCosts a_m_keptPieces a_m_keptMaker a_m_keptPart a_m_oldCosts m_yieldAbove m_yieldBelow _ hw) (q0 := 0) rfl rfl wm_M_128 wi_M_started wl_M_started wz_M wc_M_started h9_M_started ⟨by decide, by decide⟩ (Nat.le_of_ble_eq_true rfl) ⟨by decide, by decide⟩ d_M_reckon_50
        refine st_calll X hR [0, 9, 10] [1, 2, 3, 4, 5, 6, 7, 8, 11, 12, 13, 14, 15, 16, 17, 18] (wr := [aI g a_m_stepCount 248 m_stepCount, aJ g a_m_froms 1488 m_froms, aJ g a_m_cents 1488 m_cents, aJ g a_m_uses 30 m_uses, aJ g a_m_stocks 30 m_stocks, aI g a_m_alternates 30 m_alternates, aJ g a_m_assemblies 8 m_assemblies, aJ g a_m_placings 8 m_placings, aI g a_m_dayCount 8 m_dayCount, aJ g a_m_days 48 m_days, aJ g a_m_rateAbove 48 m_rateAbove, aJ g a_m_rateBelow 48 m_rateBelow, aJ g a_m_costs 33 f2, aJ g a_m_pieces 33 f3, aI g a_m_maker 33 f4, aI g a_m_partOf 33 f5]) rfl rfl (by decide) (by decide) (by decide) (fun r6 u9 hw => ?_)
        try dsimp only at hw
        refine st_widen (k2 := 0) (n2 := 0) (by decide) (by decide) ?_
        refine st_perm (ws2 := [(a_t, .inr (6, [.int m_thrown, .int m_parts, .ref a_m_stepCount, .ref a_m_froms, .ref a_m_cents, .ref a_m_uses, .ref a_m_stocks, .ref a_m_alternates, .ref a_m_assemblies, .ref a_m_placings, .int m_yields, .ref a_m_yieldAbove, .ref a_m_yieldBelow, .ref a_m_dayCount, .ref a_m_days, .ref a_m_rateAbove, .ref a_m_rateBelow, .long m_tools, .int m_can, .long m_sum, .ref a_m_costs, .ref a_m_pieces, .ref a_m_maker, .ref a_m_partOf, .int m_ran, .int m_keptRows, .ref a_m_keptCosts, .ref a_m_keptPieces, .ref a_m_keptMaker, .ref a_m_keptPart, .ref a_m_oldCosts])), aI g a_m_stepCount 248 m_stepCount, aJ g a_m_froms 1488 m_froms, aJ g a_m_cents 1488 m_cents, aJ g a_m_uses 30 m_uses, aJ g a_m_stocks 30 m_stocks, aI g a_m_alternates 30 m_alternates, aJ g a_m_assemblies 8 m_assemblies, aJ g a_m_placings 8 m_placings, aJ g a_m_yieldAbove 8 m_yieldAbove, aJ g a_m_yieldBelow 8 m_yieldBelow, aI g a_m_dayCount 8 m_dayCount, aJ g a_m_days 48 m_days, aJ g a_m_rateAbove 48 m_rateAbove, aJ g a_m_rateBelow 48 m_rateBelow, aJ g a_m_costs 33 f2, aJ g a_m_pieces 33 f3, aI g a_m_maker 33 f4, aI g a_m_partOf 33 f5]) [16, 0, 1, 2, 3, 4, 5, 6, 7, 17, 18, 8, 9, 10, 11, 12, 13, 14, 15] rfl (by decide) ?_
        show ST g C [(a_t, .inr (6, [.int m_thrown, .int m_parts, .ref a_m_stepCount, .ref a_m_froms, .ref a_m_cents, .ref a_m_uses, .ref a_m_stocks, .ref a_m_alternates, .ref a_m_assemblies, .ref a_m_placings, .int m_yields, .ref a_m_yieldAbove, .ref a_m_yieldBelow, .ref a_m_dayCount, .ref a_m_days, .ref a_m_rateAbove, .ref a_m_rateBelow, .long m_tools, .int m_can, .long m_sum, .ref a_m_costs, .ref a_m_pieces, .ref a_m_maker, .ref a_m_partOf, .int m_ran, .int m_keptRows, .ref a_m_keptCosts, .ref a_m_keptPieces, .ref a_m_keptMaker, .ref a_m_keptPart, .ref a_m_oldCosts])), aI g a_m_stepCount 248 m_stepCount, aJ g a_m_froms 1488 m_froms, aJ g a_m_cents 1488 m_cents, aJ g a_m_uses 30 m_uses, aJ g a_m_stocks 30 m_stocks, aI g a_m_alternates 30 m_alternates, aJ g a_m_assemblies 8 m_assemblies, aJ g a_m_placings 8 m_placings, aJ g a_m_yieldAbove 8 m_yieldAbove, aJ g a_m_yieldBelow 8 m_yieldBelow, aI g a_m_dayCount 8 m_dayCount, aJ g a_m_days 48 m_days, aJ g a_m_rateAbove 48 m_rateAbove, aJ g a_m_rateBelow 48 m_rateBelow, aJ g a_m_costs 33 f2, aJ g a_m_pieces 33 f3, aI g a_m_maker 33 f4, aI g a_m_partOf 33 f5] [(0, .ref a_t), (1, .long p0), (3, .int p1), (4, .long p2), (6, .int v1)] [.long r6] 53 0 0
        refine st_lstore X (lv2 := [(6, .long r6), (0, .ref a_t), (1, .long p0), (3, .int p1), (4, .long p2)]) d_M_reckon_53 (by decide) rfl ?_
        refine st_aload_n X 1 d_M_reckon_55 rfl rfl ?_
        refine st_lload X 0 d_M_reckon_56 rfl ?_
        refine st_ldc2 X wv_M_87 d_M_reckon_58 ?_
        have J70 : ∀ (v7 : Int32), wp_M_reckon_J70 p1 p2 m_parts m_tools m_stepCount m_froms m_cents m_uses m_stocks m_alternates m_assemblies m_placings m_dayCount m_days m_rateAbove m_rateBelow f2 f3 f4 f5 r6 Q v7 → ST g C [(a_t, .inr (6, [.int m_thrown, .int m_parts, .ref a_m_stepCount, .ref a_m_froms, .ref a_m_cents, .ref a_m_uses, .ref a_m_stocks, .ref a_m_alternates, .ref a_m_assemblies, .ref a_m_placings, .int m_yields, .ref a_m_yieldAbove, .ref a_m_yieldBelow, .ref a_m_dayCount, .ref a_m_days, .ref a_m_rateAbove, .ref a_m_rateBelow, .long m_tools, .int m_can, .long m_sum, .ref a_m_costs, .ref a_m_pieces, .ref a_m_maker, .ref a_m_partOf, .int m_ran, .int m_keptRows, .ref a_m_keptCosts, .ref a_m_keptPieces, .ref a_m_keptMaker, .ref a_m_keptPart, .ref a_m_oldCosts])), aI g a_m_stepCount 248 m_stepCount, aJ g a_m_froms 1488 m_froms, aJ g a_m_cents 1488 m_cents, aJ g a_m_uses 30 m_uses, aJ g a_m_stocks 30 m_stocks, aI g a_m_alternates 30 m_alternates, aJ g a_m_assemblies 8 m_assemblies, aJ g a_m_placings 8 m_placings, aJ g a_m_yieldAbove 8 m_yieldAbove, aJ g a_m_yieldBelow 8 m_yieldBelow, aI g a_m_dayCount 8 m_dayCount, aJ g a_m_days 48 m_days, aJ g a_m_rateAbove 48 m_rateAbove, aJ g a_m_rateBelow 48 m_rateBelow, aJ g a_m_costs 33 f2, aJ g a_m_pieces 33 f3, aI g a_m_maker 33 f4, aI g a_m_partOf 33 f5] [(0, .ref a_t), (1, .long p0), (3, .int p1), (4, .long p2), (6, .long r6)] [.int v7, .ref a_t] 70 0 0 := by
          intro v7 hw
          unfold wp_M_reckon_J70 at hw
          obtain ⟨hz1, hw⟩ := hw
          refine st_put X (ci := 6) (ty := .boolean) in_M t_M to_M nm_M 0 18 wf_M_132 rfl rfl (by decide) rfl (by decide +kernel) (nb_bool hz1).1 (nb_bool hz1).2 (Nat.le_of_ble_eq_true rfl) (ws2 := [(a_t, .inr (6, [.int m_thrown, .int m_parts, .ref a_m_stepCount, .ref a_m_froms, .ref a_m_cents, .ref a_m_uses, .ref a_m_stocks, .ref a_m_alternates, .ref a_m_assemblies, .ref a_m_placings, .int m_yields, .ref a_m_yieldAbove, .ref a_m_yieldBelow, .ref a_m_dayCount, .ref a_m_days, .ref a_m_rateAbove, .ref a_m_rateBelow, .long m_tools, .int v7, .long m_sum, .ref a_m_costs, .ref a_m_pieces, .ref a_m_maker, .ref a_m_partOf, .int m_ran, .int m_keptRows, .ref a_m_keptCosts, .ref a_m_keptPieces, .ref a_m_keptMaker, .ref a_m_keptPart, .ref a_m_oldCosts])), aI g a_m_stepCount 248 m_stepCount, aJ g a_m_froms 1488 m_froms, aJ g a_m_cents 1488 m_cents, aJ g a_m_uses 30 m_uses, aJ g a_m_stocks 30 m_stocks, aI g a_m_alternates 30 m_alternates, aJ g a_m_assemblies 8 m_assemblies, aJ g a_m_placings 8 m_placings, aJ g a_m_yieldAbove 8 m_yieldAbove, aJ g a_m_yieldBelow 8 m_yieldBelow, aI g a_m_dayCount 8 m_dayCount, aJ g a_m_days 48 m_days, aJ g a_m_rateAbove 48 m_rateAbove, aJ g a_m_rateBelow 48 m_rateBelow, aJ g a_m_costs 33 f2, aJ g a_m_pieces 33 f3, aI g a_m_maker 33 f4, aI g a_m_partOf 33 f5]) rfl d_M_reckon_70 ?_
          refine st_aload_n X 0 d_M_reckon_73 rfl rfl ?_
          refine st_get X (ci := 6) in_M 0 20 wf_M_53 rfl rfl (by decide) rfl d_M_reckon_74 ?_
          refine st_iconst X (v := 0) d_M_reckon_77 (by decide) ?_
          refine st_aload_n X 0 d_M_reckon_78 rfl rfl ?_
          refine st_get X (ci := 6) in_M 0 17 wf_M_116 rfl rfl (by decide) rfl d_M_reckon_79 ?_
          obtain ⟨hb2, hw⟩ := hw
          obtain ⟨f8, hf8⟩ : ∃ z : Nat → Int64, z = vp_updL f2 (0 : Int32).toNatClampNeg m_tools := ⟨_, rfl⟩
          replace hw := hw f8 hf8
          refine st_last X (ws2 := [(a_t, .inr (6, [.int m_thrown, .int m_parts, .ref a_m_stepCount, .ref a_m_froms, .ref a_m_cents, .ref a_m_uses, .ref a_m_stocks, .ref a_m_alternates, .ref a_m_assemblies, .ref a_m_placings, .int m_yields, .ref a_m_yieldAbove, .ref a_m_yieldBelow, .ref a_m_dayCount, .ref a_m_days, .ref a_m_rateAbove, .ref a_m_rateBelow, .long m_tools, .int v7, .long m_sum, .ref a_m_costs, .ref a_m_pieces, .ref a_m_maker, .ref a_m_partOf, .int m_ran, .int m_keptRows, .ref a_m_keptCosts, .ref a_m_keptPieces, .ref a_m_keptMaker, .ref a_m_keptPart, .ref a_m_oldCosts])), aI g a_m_stepCount 248 m_stepCount, aJ g a_m_froms 1488 m_froms, aJ g a_m_cents 1488 m_cents, aJ g a_m_uses 30 m_uses, aJ g a_m_stocks 30 m_stocks, aI g a_m_alternates 30 m_alternates, aJ g a_m_assemblies 8 m_assemblies, aJ g a_m_placings 8 m_placings, aJ g a_m_yieldAbove 8 m_yieldAbove, aJ g a_m_yieldBelow 8 m_yieldBelow, aI g a_m_dayCount 8 m_dayCount, aJ g a_m_days 48 m_days, aJ g a_m_rateAbove 48 m_rateAbove, aJ g a_m_rateBelow 48 m_rateBelow, aJ g a_m_costs 33 f8, aJ g a_m_pieces 33 f3, aI g a_m_maker 33 f4, aI g a_m_partOf 33 f5]) 15 rfl hb2 (by rw [hf8]; rfl) d_M_reckon_82 ?_
          refine st_aload_n X 0 d_M_reckon_83 rfl rfl ?_
          refine st_get X (ci := 6) in_M 0 18 wf_M_132 rfl rfl (by decide) rfl d_M_reckon_84 ?_
          have J213 : ∀ (v9 : Int32) (f10 : Nat → Int64) (f11 : Nat → Int64) (f12 : Nat → Int32) (f13 : Nat → Int32), wp_M_reckon_J213 Q v9 f10 f11 f12 f13 → ST g C [(a_t, .inr (6, [.int m_thrown, .int m_parts, .ref a_m_stepCount, .ref a_m_froms, .ref a_m_cents, .ref a_m_uses, .ref a_m_stocks, .ref a_m_alternates, .ref a_m_assemblies, .ref a_m_placings, .int m_yields, .ref a_m_yieldAbove, .ref a_m_yieldBelow, .ref a_m_dayCount, .ref a_m_days, .ref a_m_rateAbove, .ref a_m_rateBelow, .long m_tools, .int v9, .long m_sum, .ref a_m_costs, .ref a_m_pieces, .ref a_m_maker, .ref a_m_partOf, .int m_ran, .int m_keptRows, .ref a_m_keptCosts, .ref a_m_keptPieces, .ref a_m_keptMaker, .ref a_m_keptPart, .ref a_m_oldCosts])), aI g a_m_stepCount 248 m_stepCount, aJ g a_m_froms 1488 m_froms, aJ g a_m_cents 1488 m_cents, aJ g a_m_uses 30 m_uses, aJ g a_m_stocks 30 m_stocks, aI g a_m_alternates 30 m_alternates, aJ g a_m_assemblies 8 m_assemblies, aJ g a_m_placings 8 m_placings, aJ g a_m_yieldAbove 8 m_yieldAbove, aJ g a_m_yieldBelow 8 m_yieldBelow, aI g a_m_dayCount 8 m_dayCount, aJ g a_m_days 48 m_days, aJ g a_m_rateAbove 48 m_rateAbove, aJ g a_m_rateBelow 48 m_rateBelow, aJ g a_m_costs 33 f10, aJ g a_m_pieces 33 f11, aI g a_m_maker 33 f12, aI g a_m_partOf 33 f13] [(0, .ref a_t), (1, .long p0), (3, .int p1), (4, .long p2), (6, .long r6)] [] 213 0 0 := by
            intro v9 f10 f11 f12 f13 hw
            unfold wp_M_reckon_J213 at hw
            refine st_aload_n X 0 d_M_reckon_213 rfl rfl ?_
            refine st_get X (ci := 6) in_M 0 23 wf_M_62 rfl rfl (by decide) rfl d_M_reckon_214 ?_
            refine st_iconst X (v := 1) d_M_reckon_217 (by decide) ?_
            refine st_iconst X (v := (-1)) d_M_reckon_218 (by decide) ?_
            obtain ⟨hb3, hw⟩ := hw
            obtain ⟨f14, hf14⟩ : ∃ z : Nat → Int32, z = upd f13 (1 : Int32).toNatClampNeg (-1) := ⟨_, rfl⟩
            replace hw := hw f14 hf14
            refine st_iast X (ws2 := [(a_t, .inr (6, [.int m_thrown, .int m_parts, .ref a_m_stepCount, .ref a_m_froms, .ref a_m_cents, .ref a_m_uses, .ref a_m_stocks, .ref a_m_alternates, .ref a_m_assemblies, .ref a_m_placings, .int m_yields, .ref a_m_yieldAbove, .ref a_m_yieldBelow, .ref a_m_dayCount, .ref a_m_days, .ref a_m_rateAbove, .ref a_m_rateBelow, .long m_tools, .int v9, .long m_sum, .ref a_m_costs, .ref a_m_pieces, .ref a_m_maker, .ref a_m_partOf, .int m_ran, .int m_keptRows, .ref a_m_keptCosts, .ref a_m_keptPieces, .ref a_m_keptMaker, .ref a_m_keptPart, .ref a_m_oldCosts])), aI g a_m_stepCount 248 m_stepCount, aJ g a_m_froms 1488 m_froms, aJ g a_m_cents 1488 m_cents, aJ g a_m_uses 30 m_uses, aJ g a_m_stocks 30 m_stocks, aI g a_m_alternates 30 m_alternates, aJ g a_m_assemblies 8 m_assemblies, aJ g a_m_placings 8 m_placings, aJ g a_m_yieldAbove 8 m_yieldAbove, aJ g a_m_yieldBelow 8 m_yieldBelow, aI g a_m_dayCount 8 m_dayCount, aJ g a_m_days 48 m_days, aJ g a_m_rateAbove 48 m_rateAbove, aJ g a_m_rateBelow 48 m_rateBelow, aJ g a_m_costs 33 f10, aJ g a_m_pieces 33 f11, aI g a_m_maker 33 f12, aI g a_m_partOf 33 f14]) 18 rfl hb3 (by rw [hf14]; rfl) d_M_reckon_219 ?_
            refine st_aload_n X 0 d_M_reckon_220 rfl rfl ?_
            refine st_lconst X (v := 0) d_M_reckon_221 (by decide) ?_
            refine st_put X (ci := 6) (ty := .long) in_M t_M to_M nm_M 0 19 wf_M_144 rfl rfl (by decide) rfl (by decide +kernel) rfl rfl (Nat.le_of_ble_eq_true rfl) (ws2 := [(a_t, .inr (6, [.int m_thrown, .int m_parts, .ref a_m_stepCount, .ref a_m_froms, .ref a_m_cents, .ref a_m_uses, .ref a_m_stocks, .ref a_m_alternates, .ref a_m_assemblies, .ref a_m_placings, .int m_yields, .ref a_m_yieldAbove, .ref a_m_yieldBelow, .ref a_m_dayCount, .ref a_m_days, .ref a_m_rateAbove, .ref a_m_rateBelow, .long m_tools, .int v9, .long 0, .ref a_m_costs, .ref a_m_pieces, .ref a_m_maker, .ref a_m_partOf, .int m_ran, .int m_keptRows, .ref a_m_keptCosts, .ref a_m_keptPieces, .ref a_m_keptMaker, .ref a_m_keptPart, .ref a_m_oldCosts])), aI g a_m_stepCount 248 m_stepCount, aJ g a_m_froms 1488 m_froms, aJ g a_m_cents 1488 m_cents, aJ g a_m_uses 30 m_uses, aJ g a_m_stocks 30 m_stocks, aI g a_m_alternates 30 m_alternates, aJ g a_m_assemblies 8 m_assemblies, aJ g a_m_placings 8 m_placings, aJ g a_m_yieldAbove 8 m_yieldAbove, aJ g a_m_yieldBelow 8 m_yieldBelow, aI g a_m_dayCount 8 m_dayCount, aJ g a_m_days 48 m_days, aJ g a_m_rateAbove 48 m_rateAbove, aJ g a_m_rateBelow 48 m_rateBelow, aJ g a_m_costs 33 f10, aJ g a_m_pieces 33 f11, aI g a_m_maker 33 f12, aI g a_m_partOf 33 f14]) rfl d_M_reckon_222 ?_
            refine st_iconst X (v := 0) d_M_reckon_225 (by decide) ?_
            refine st_istore X (lv2 := [(8, .int 0), (0, .ref a_t), (1, .long p0), (3, .int p1), (4, .long p2), (6, .long r6)]) d_M_reckon_226 (by decide) rfl ?_
            have L228 : ∀ (n228 : Nat) (v15 : Int32) (v16 : Int64), wp_M_reckon_L228 v9 f10 f11 f12 f14 Q n228 v15 v16 → ST g C [(a_t, .inr (6, [.int m_thrown, .int m_parts, .ref a_m_stepCount, .ref a_m_froms, .ref a_m_cents, .ref a_m_uses, .ref a_m_stocks, .ref a_m_alternates, .ref a_m_assemblies, .ref a_m_placings, .int m_yields, .ref a_m_yieldAbove, .ref a_m_yieldBelow, .ref a_m_dayCount, .ref a_m_days, .ref a_m_rateAbove, .ref a_m_rateBelow, .long m_tools, .int v9, .long v16, .ref a_m_costs, .ref a_m_pieces, .ref a_m_maker, .ref a_m_partOf, .int m_ran, .int m_keptRows, .ref a_m_keptCosts, .ref a_m_keptPieces, .ref a_m_keptMaker, .ref a_m_keptPart, .ref a_m_oldCosts])), aI g a_m_stepCount 248 m_stepCount, aJ g a_m_froms 1488 m_froms, aJ g a_m_cents 1488 m_cents, aJ g a_m_uses 30 m_uses, aJ g a_m_stocks 30 m_stocks, aI g a_m_alternates 30 m_alternates, aJ g a_m_assemblies 8 m_assemblies, aJ g a_m_placings 8 m_placings, aJ g a_m_yieldAbove 8 m_yieldAbove, aJ g a_m_yieldBelow 8 m_yieldBelow, aI g a_m_dayCount 8 m_dayCount, aJ g a_m_days 48 m_days, aJ g a_m_rateAbove 48 m_rateAbove, aJ g a_m_rateBelow 48 m_rateBelow, aJ g a_m_costs 33 f10, aJ g a_m_pieces 33 f11, aI g a_m_maker 33 f12, aI g a_m_partOf 33 f14] [(0, .ref a_t), (1, .long p0), (3, .int p1), (4, .long p2), (6, .long r6), (8, .int v15)] [] 228 0 0 := by
              intro n228
              induction n228 with
              | zero => intro v15 v16 hw; exact hw.elim
              | succ n228 ih228 =>
                intro v15 v16 hw
                rw [wp_M_reckon_L228] at hw
                refine st_iload X 5 d_M_reckon_228 rfl ?_
                refine st_bipush X (v := 33) d_M_reckon_230 (by decide) ?_
                refine st_icmp_ge X 257 d_M_reckon_232 (by decide) (fun hc => ?_) (fun hc => ?_)
                · replace hw := hw.1 hc
                  exact st_vret X hr (v9, v16, f10, f11, f12, f14) hw rfl (by decide) (by decide) d_M_reckon_257
                · replace hw := hw.2 hc
                  refine st_aload_n X 0 d_M_reckon_235 rfl rfl ?_
                  refine st_dup X d_M_reckon_236 rfl ?_
                  refine st_get X (ci := 6) in_M 0 19 wf_M_144 rfl rfl (by decide) rfl d_M_reckon_237 ?_
                  refine st_aload_n X 0 d_M_reckon_240 rfl rfl ?_
                  refine st_get X (ci := 6) in_M 0 20 wf_M_53 rfl rfl (by decide) rfl d_M_reckon_241 ?_
                  refine st_iload X 5 d_M_reckon_244 rfl ?_
                  obtain ⟨hb4, hw⟩ := hw
                  refine st_lald X 15 rfl hb4 d_M_reckon_246 ?_
                  refine st_ladd X d_M_reckon_247 ?_
                  refine st_topl (fun x17 hx17 => ?_)
                  replace hw := hw x17 hx17
                  refine st_put X (ci := 6) (ty := .long) in_M t_M to_M nm_M 0 19 wf_M_144 rfl rfl (by decide) rfl (by decide +kernel) rfl rfl (Nat.le_of_ble_eq_true rfl) (ws2 := [(a_t, .inr (6, [.int m_thrown, .int m_parts, .ref a_m_stepCount, .ref a_m_froms, .ref a_m_cents, .ref a_m_uses, .ref a_m_stocks, .ref a_m_alternates, .ref a_m_assemblies, .ref a_m_placings, .int m_yields, .ref a_m_yieldAbove, .ref a_m_yieldBelow, .ref a_m_dayCount, .ref a_m_days, .ref a_m_rateAbove, .ref a_m_rateBelow, .long m_tools, .int v9, .long x17, .ref a_m_costs, .ref a_m_pieces, .ref a_m_maker, .ref a_m_partOf, .int m_ran, .int m_keptRows, .ref a_m_keptCosts, .ref a_m_keptPieces, .ref a_m_keptMaker, .ref a_m_keptPart, .ref a_m_oldCosts])), aI g a_m_stepCount 248 m_stepCount, aJ g a_m_froms 1488 m_froms, aJ g a_m_cents 1488 m_cents, aJ g a_m_uses 30 m_uses, aJ g a_m_stocks 30 m_stocks, aI g a_m_alternates 30 m_alternates, aJ g a_m_assemblies 8 m_assemblies, aJ g a_m_placings 8 m_placings, aJ g a_m_yieldAbove 8 m_yieldAbove, aJ g a_m_yieldBelow 8 m_yieldBelow, aI g a_m_dayCount 8 m_dayCount, aJ g a_m_days 48 m_days, aJ g a_m_rateAbove 48 m_rateAbove, aJ g a_m_rateBelow 48 m_rateBelow, aJ g a_m_costs 33 f10, aJ g a_m_pieces 33 f11, aI g a_m_maker 33 f12, aI g a_m_partOf 33 f14]) rfl d_M_reckon_248 ?_
                  obtain ⟨x18, hx18⟩ : ∃ z : Int32, z = v15 + 1 := ⟨_, rfl⟩
                  replace hw := hw x18 hx18
                  refine st_iinc X (v := x18) (lv2 := [(8, .int x18), (0, .ref a_t), (1, .long p0), (3, .int p1), (4, .long p2), (6, .long r6)]) 5 d_M_reckon_251 rfl (by rw [hx18]; rfl) (by decide) rfl ?_
                  refine st_goto X 228 d_M_reckon_254 (by decide) ?_
                  refine st_lv [1, 2, 3, 4, 5, 0] rfl ?_
                  exact ih228 x18 x17 hw
            obtain ⟨n228, hw⟩ := hw
            refine st_lv [1, 2, 3, 4, 5, 0] rfl ?_
            exact L228 n228 0 0 hw
          refine st_if_eq X 213 d_M_reckon_87 (by decide) (fun hc => ?_) (fun hc => ?_)
          · replace hw := hw.1 hc
            refine st_lv [0, 1, 2, 3, 4] rfl ?_
            exact J213 v7 f8 f3 f4 f5 hw
          · replace hw := hw.2 hc
            refine st_lload X 4 d_M_reckon_90 rfl ?_
            refine st_lconst X (v := 0) d_M_reckon_92 (by decide) ?_
            refine st_lcmp_le X 213 d_M_reckon_93 d_M_reckon_94 (by decide) (fun hc => ?_) (fun hc => ?_)
            · replace hw := hw.1 hc
              refine st_lv [0, 1, 2, 3, 4] rfl ?_
              exact J213 v7 f8 f3 f4 f5 hw
            · replace hw := hw.2 hc
              refine st_aload_n X 0 d_M_reckon_97 rfl rfl ?_
              refine st_iconst X (v := 1) d_M_reckon_98 (by decide) ?_
              refine st_bipush X (v := 30) d_M_reckon_99 (by decide) ?_
              refine st_iload_n X 2 d_M_reckon_101 rfl rfl ?_
              refine st_lload X 4 d_M_reckon_102 rfl ?_
              refine st_lload X 3 d_M_reckon_104 rfl ?_
              have hR := rn_V (pc := 106) (k := 0) (n := 0) (As := [.int 1, .int 30, .int p1, .long r6, .long p2]) (rest := []) X (k_M_offer g hg a_t (1 : Int32) (30 : Int32) p1 r6 p2 m_thrown m_parts a_m_stepCount a_m_froms a_m_cents a_m_uses a_m_stocks a_m_alternates a_m_assemblies a_m_placings m_yields a_m_yieldAbove a_m_yieldBelow a_m_dayCount a_m_days a_m_rateAbove a_m_rateBelow m_tools v7 m_sum a_m_costs a_m_pieces a_m_maker a_m_partOf m_ran m_keptRows a_m_keptCosts a_m_keptPieces a_m_keptMaker a_m_keptPart a_m_oldCosts m_stepCount m_froms m_cents m_dayCount m_days m_rateAbove m_rateBelow f8 f3 f4 f5 _ hw) (q0 := 0) rfl rfl wm_M_136 wi_M_offer wl_M_offer wz_M wc_M_offer h9_M_offer ⟨by decide, by decide⟩ (Nat.le_of_ble_eq_true rfl) ⟨by decide, by decide⟩ d_M_reckon_106
              refine st_callv X hR [0, 1, 2, 3, 11, 12, 13, 14, 15, 16, 17, 18] [4, 5, 6, 7, 8, 9, 10] (wr := [aJ g a_m_uses 30 m_uses, aJ g a_m_stocks 30 m_stocks, aI g a_m_alternates 30 m_alternates, aJ g a_m_assemblies 8 m_assemblies, aJ g a_m_placings 8 m_placings, aJ g a_m_yieldAbove 8 m_yieldAbove, aJ g a_m_yieldBelow 8 m_yieldBelow]) rfl rfl (by decide) (by decide) (by decide) (fun u9 hw => ?_)
              obtain ⟨u19, u20, u21, u22⟩ := u9
              try dsimp only at hw
              refine st_widen (k2 := 0) (n2 := 0) (by decide) (by decide) ?_
              refine st_perm (ws2 := [(a_t, .inr (6, [.int m_thrown, .int m_parts, .ref a_m_stepCount, .ref a_m_froms, .ref a_m_cents, .ref a_m_uses, .ref a_m_stocks, .ref a_m_alternates, .ref a_m_assemblies, .ref a_m_placings, .int m_yields, .ref a_m_yieldAbove, .ref a_m_yieldBelow, .ref a_m_dayCount, .ref a_m_days, .ref a_m_rateAbove, .ref a_m_rateBelow, .long m_tools, .int v7, .long m_sum, .ref a_m_costs, .ref a_m_pieces, .ref a_m_maker, .ref a_m_partOf, .int m_ran, .int m_keptRows, .ref a_m_keptCosts, .ref a_m_keptPieces, .ref a_m_keptMaker, .ref a_m_keptPart, .ref a_m_oldCosts])), aI g a_m_stepCount 248 m_stepCount, aJ g a_m_froms 1488 m_froms, aJ g a_m_cents 1488 m_cents, aJ g a_m_uses 30 m_uses, aJ g a_m_stocks 30 m_stocks, aI g a_m_alternates 30 m_alternates, aJ g a_m_assemblies 8 m_assemblies, aJ g a_m_placings 8 m_placings, aJ g a_m_yieldAbove 8 m_yieldAbove, aJ g a_m_yieldBelow 8 m_yieldBelow, aI g a_m_dayCount 8 m_dayCount, aJ g a_m_days 48 m_days, aJ g a_m_rateAbove 48 m_rateAbove, aJ g a_m_rateBelow 48 m_rateBelow, aJ g a_m_costs 33 u19, aJ g a_m_pieces 33 u20, aI g a_m_maker 33 u21, aI g a_m_partOf 33 u22]) [7, 8, 9, 10, 0, 1, 2, 3, 4, 5, 6, 11, 12, 13, 14, 15, 16, 17, 18] rfl (by decide) ?_
              show ST g C [(a_t, .inr (6, [.int m_thrown, .int m_parts, .ref a_m_stepCount, .ref a_m_froms, .ref a_m_cents, .ref a_m_uses, .ref a_m_stocks, .ref a_m_alternates, .ref a_m_assemblies, .ref a_m_placings, .int m_yields, .ref a_m_yieldAbove, .ref a_m_yieldBelow, .ref a_m_dayCount, .ref a_m_days, .ref a_m_rateAbove, .ref a_m_rateBelow, .long m_tools, .int v7, .long m_sum, .ref a_m_costs, .ref a_m_pieces, .ref a_m_maker, .ref a_m_partOf, .int m_ran, .int m_keptRows, .ref a_m_keptCosts, .ref a_m_keptPieces, .ref a_m_keptMaker, .ref a_m_keptPart, .ref a_m_oldCosts])), aI g a_m_stepCount 248 m_stepCount, aJ g a_m_froms 1488 m_froms, aJ g a_m_cents 1488 m_cents, aJ g a_m_uses 30 m_uses, aJ g a_m_stocks 30 m_stocks, aI g a_m_alternates 30 m_alternates, aJ g a_m_assemblies 8 m_assemblies, aJ g a_m_placings 8 m_placings, aJ g a_m_yieldAbove 8 m_yieldAbove, aJ g a_m_yieldBelow 8 m_yieldBelow, aI g a_m_dayCount 8 m_dayCount, aJ g a_m_days 48 m_days, aJ g a_m_rateAbove 48 m_rateAbove, aJ g a_m_rateBelow 48 m_rateBelow, aJ g a_m_costs 33 u19, aJ g a_m_pieces 33 u20, aI g a_m_maker 33 u21, aI g a_m_partOf 33 u22] [(0, .ref a_t), (1, .long p0), (3, .int p1), (4, .long p2), (6, .long r6)] [] 109 0 0
              refine st_aload_n X 0 d_M_reckon_109 rfl rfl ?_
              refine st_aload_n X 0 d_M_reckon_110 rfl rfl ?_
              refine st_get X (ci := 6) in_M 0 21 wf_M_56 rfl rfl (by decide) rfl d_M_reckon_111 ?_
              refine st_iconst X (v := 1) d_M_reckon_114 (by decide) ?_
              obtain ⟨hb5, hw⟩ := hw
              refine st_lald X 16 rfl hb5 d_M_reckon_115 ?_
              refine st_lconst X (v := 0) d_M_reckon_116 (by decide) ?_
              have J126 : ∀ (v23 : Int32), wp_M_reckon_J126 p2 m_parts m_stepCount m_froms m_cents m_uses m_stocks m_alternates m_assemblies m_placings m_dayCount m_days m_rateAbove m_rateBelow r6 u19 u20 u21 u22 Q v23 → ST g C [(a_t, .inr (6, [.int m_thrown, .int m_parts, .ref a_m_stepCount, .ref a_m_froms, .ref a_m_cents, .ref a_m_uses, .ref a_m_stocks, .ref a_m_alternates, .ref a_m_assemblies, .ref a_m_placings, .int m_yields, .ref a_m_yieldAbove, .ref a_m_yieldBelow, .ref a_m_dayCount, .ref a_m_days, .ref a_m_rateAbove, .ref a_m_rateBelow, .long m_tools, .int v7, .long m_sum, .ref a_m_costs, .ref a_m_pieces, .ref a_m_maker, .ref a_m_partOf, .int m_ran, .int m_keptRows, .ref a_m_keptCosts, .ref a_m_keptPieces, .ref a_m_keptMaker, .ref a_m_keptPart, .ref a_m_oldCosts])), aI g a_m_stepCount 248 m_stepCount, aJ g a_m_froms 1488 m_froms, aJ g a_m_cents 1488 m_cents, aJ g a_m_uses 30 m_uses, aJ g a_m_stocks 30 m_stocks, aI g a_m_alternates 30 m_alternates, aJ g a_m_assemblies 8 m_assemblies, aJ g a_m_placings 8 m_placings, aJ g a_m_yieldAbove 8 m_yieldAbove, aJ g a_m_yieldBelow 8 m_yieldBelow, aI g a_m_dayCount 8 m_dayCount, aJ g a_m_days 48 m_days, aJ g a_m_rateAbove 48 m_rateAbove, aJ g a_m_rateBelow 48 m_rateBelow, aJ g a_m_costs 33 u19, aJ g a_m_pieces 33 u20, aI g a_m_maker 33 u21, aI g a_m_partOf 33 u22] [(0, .ref a_t), (1, .long p0), (3, .int p1), (4, .long p2), (6, .long r6)] [.int v23, .ref a_t] 126 0 0 := by
                intro v23 hw
                unfold wp_M_reckon_J126 at hw
                obtain ⟨hz6, hw⟩ := hw
                refine st_put X (ci := 6) (ty := .boolean) in_M t_M to_M nm_M 0 18 wf_M_132 rfl rfl (by decide) rfl (by decide +kernel) (nb_bool hz6).1 (nb_bool hz6).2 (Nat.le_of_ble_eq_true rfl) (ws2 := [(a_t, .inr (6, [.int m_thrown, .int m_parts, .ref a_m_stepCount, .ref a_m_froms, .ref a_m_cents, .ref a_m_uses, .ref a_m_stocks, .ref a_m_alternates, .ref a_m_assemblies, .ref a_m_placings, .int m_yields, .ref a_m_yieldAbove, .ref a_m_yieldBelow, .ref a_m_dayCount, .ref a_m_days, .ref a_m_rateAbove, .ref a_m_rateBelow, .long m_tools, .int v23, .long m_sum, .ref a_m_costs, .ref a_m_pieces, .ref a_m_maker, .ref a_m_partOf, .int m_ran, .int m_keptRows, .ref a_m_keptCosts, .ref a_m_keptPieces, .ref a_m_keptMaker, .ref a_m_keptPart, .ref a_m_oldCosts])), aI g a_m_stepCount 248 m_stepCount, aJ g a_m_froms 1488 m_froms, aJ g a_m_cents 1488 m_cents, aJ g a_m_uses 30 m_uses, aJ g a_m_stocks 30 m_stocks, aI g a_m_alternates 30 m_alternates, aJ g a_m_assemblies 8 m_assemblies, aJ g a_m_placings 8 m_placings, aJ g a_m_yieldAbove 8 m_yieldAbove, aJ g a_m_yieldBelow 8 m_yieldBelow, aI g a_m_dayCount 8 m_dayCount, aJ g a_m_days 48 m_days, aJ g a_m_rateAbove 48 m_rateAbove, aJ g a_m_rateBelow 48 m_rateBelow, aJ g a_m_costs 33 u19, aJ g a_m_pieces 33 u20, aI g a_m_maker 33 u21, aI g a_m_partOf 33 u22]) rfl d_M_reckon_126 ?_
                refine st_iconst X (v := 0) d_M_reckon_129 (by decide) ?_
                refine st_istore X (lv2 := [(8, .int 0), (0, .ref a_t), (1, .long p0), (3, .int p1), (4, .long p2), (6, .long r6)]) d_M_reckon_130 (by decide) rfl ?_
                have L132 : ∀ (n132 : Nat) (v24 : Int32) (f25 : Nat → Int64), wp_M_reckon_L132 p2 m_parts m_stepCount m_froms m_cents m_uses m_stocks m_alternates m_assemblies m_placings m_dayCount m_days m_rateAbove m_rateBelow r6 u20 u21 u22 v23 Q n132 v24 f25 → ST g C [(a_t, .inr (6, [.int m_thrown, .int m_parts, .ref a_m_stepCount, .ref a_m_froms, .ref a_m_cents, .ref a_m_uses, .ref a_m_stocks, .ref a_m_alternates, .ref a_m_assemblies, .ref a_m_placings, .int m_yields, .ref a_m_yieldAbove, .ref a_m_yieldBelow, .ref a_m_dayCount, .ref a_m_days, .ref a_m_rateAbove, .ref a_m_rateBelow, .long m_tools, .int v23, .long m_sum, .ref a_m_costs, .ref a_m_pieces, .ref a_m_maker, .ref a_m_partOf, .int m_ran, .int m_keptRows, .ref a_m_keptCosts, .ref a_m_keptPieces, .ref a_m_keptMaker, .ref a_m_keptPart, .ref a_m_oldCosts])), aI g a_m_stepCount 248 m_stepCount, aJ g a_m_froms 1488 m_froms, aJ g a_m_cents 1488 m_cents, aJ g a_m_uses 30 m_uses, aJ g a_m_stocks 30 m_stocks, aI g a_m_alternates 30 m_alternates, aJ g a_m_assemblies 8 m_assemblies, aJ g a_m_placings 8 m_placings, aJ g a_m_yieldAbove 8 m_yieldAbove, aJ g a_m_yieldBelow 8 m_yieldBelow, aI g a_m_dayCount 8 m_dayCount, aJ g a_m_days 48 m_days, aJ g a_m_rateAbove 48 m_rateAbove, aJ g a_m_rateBelow 48 m_rateBelow, aJ g a_m_costs 33 f25, aJ g a_m_pieces 33 u20, aI g a_m_maker 33 u21, aI g a_m_partOf 33 u22] [(0, .ref a_t), (1, .long p0), (3, .int p1), (4, .long p2), (6, .long r6), (8, .int v24)] [] 132 0 0 := by
                  intro n132
                  induction n132 with
                  | zero => intro v24 f25 hw; exact hw.elim
                  | succ n132 ih132 =>
                    intro v24 f25 hw
                    rw [wp_M_reckon_L132] at hw
                    refine st_iload X 5 d_M_reckon_132 rfl ?_
                    refine st_bipush X (v := 8) d_M_reckon_134 (by decide) ?_
                    refine st_icmp_ge X 178 d_M_reckon_136 (by decide) (fun hc => ?_) (fun hc => ?_)
                    · replace hw := hw.1 hc
                      refine st_iconst X (v := 0) d_M_reckon_178 (by decide) ?_
                      refine st_istore X (lv2 := [(8, .int 0), (0, .ref a_t), (1, .long p0), (3, .int p1), (4, .long p2), (6, .long r6)]) d_M_reckon_179 (by decide) rfl ?_
                      have L181 : ∀ (n181 : Nat) (v26 : Int32) (v27 : Int32) (f28 : Nat → Int64) (f29 : Nat → Int64) (f30 : Nat → Int32) (f31 : Nat → Int32), wp_M_reckon_L181 p2 m_parts m_stepCount m_froms m_cents m_uses m_stocks m_alternates m_dayCount m_days m_rateAbove m_rateBelow r6 Q n181 v26 v27 f28 f29 f30 f31 → ST g C [(a_t, .inr (6, [.int m_thrown, .int m_parts, .ref a_m_stepCount, .ref a_m_froms, .ref a_m_cents, .ref a_m_uses, .ref a_m_stocks, .ref a_m_alternates, .ref a_m_assemblies, .ref a_m_placings, .int m_yields, .ref a_m_yieldAbove, .ref a_m_yieldBelow, .ref a_m_dayCount, .ref a_m_days, .ref a_m_rateAbove, .ref a_m_rateBelow, .long m_tools, .int v27, .long m_sum, .ref a_m_costs, .ref a_m_pieces, .ref a_m_maker, .ref a_m_partOf, .int m_ran, .int m_keptRows, .ref a_m_keptCosts, .ref a_m_keptPieces, .ref a_m_keptMaker, .ref a_m_keptPart, .ref a_m_oldCosts])), aI g a_m_stepCount 248 m_stepCount, aJ g a_m_froms 1488 m_froms, aJ g a_m_cents 1488 m_cents, aJ g a_m_uses 30 m_uses, aJ g a_m_stocks 30 m_stocks, aI g a_m_alternates 30 m_alternates, aJ g a_m_assemblies 8 m_assemblies, aJ g a_m_placings 8 m_placings, aJ g a_m_yieldAbove 8 m_yieldAbove, aJ g a_m_yieldBelow 8 m_yieldBelow, aI g a_m_dayCount 8 m_dayCount, aJ g a_m_days 48 m_days, aJ g a_m_rateAbove 48 m_rateAbove, aJ g a_m_rateBelow 48 m_rateBelow, aJ g a_m_costs 33 f28, aJ g a_m_pieces 33 f29, aI g a_m_maker 33 f30, aI g a_m_partOf 33 f31] [(0, .ref a_t), (1, .long p0), (3, .int p1), (4, .long p2), (6, .long r6), (8, .int v26)] [] 181 0 0 := by
                        intro n181
                        induction n181 with
                        | zero => intro v26 v27 f28 f29 f30 f31 hw; exact hw.elim
                        | succ n181 ih181 =>
                          intro v26 v27 f28 f29 f30 f31 hw
                          rw [wp_M_reckon_L181] at hw
                          refine st_iload X 5 d_M_reckon_181 rfl ?_
                          refine st_aload_n X 0 d_M_reckon_183 rfl rfl ?_
                          refine st_get X (ci := 6) in_M 0 1 wf_M_84 rfl rfl (by decide) rfl d_M_reckon_184 ?_
                          refine st_icmp_ge X 213 d_M_reckon_187 (by decide) (fun hc => ?_) (fun hc => ?_)
                          · replace hw := hw.1 hc
                            refine st_lv [0, 1, 2, 3, 4] rfl ?_
                            exact J213 v27 f28 f29 f30 f31 hw
                          · replace hw := hw.2 hc
                            refine st_aload_n X 0 d_M_reckon_190 rfl rfl ?_
                            refine st_get X (ci := 6) in_M 0 18 wf_M_132 rfl rfl (by decide) rfl d_M_reckon_191 ?_
                            refine st_if_eq X 213 d_M_reckon_194 (by decide) (fun hc => ?_) (fun hc => ?_)
                            · replace hw := hw.1 hc
                              refine st_lv [0, 1, 2, 3, 4] rfl ?_
                              exact J213 v27 f28 f29 f30 f31 hw
                            · replace hw := hw.2 hc
                              refine st_aload_n X 0 d_M_reckon_197 rfl rfl ?_
                              refine st_iload X 5 d_M_reckon_198 rfl ?_
                              refine st_lload X 4 d_M_reckon_200 rfl ?_
                              refine st_lload X 3 d_M_reckon_202 rfl ?_
                              have hR := rn_V (pc := 204) (k := 0) (n := 0) (As := [.int v26, .long r6, .long p2]) (rest := []) X (k_M_buyPart g hg a_t v26 r6 p2 m_thrown m_parts a_m_stepCount a_m_froms a_m_cents a_m_uses a_m_stocks a_m_alternates a_m_assemblies a_m_placings m_yields a_m_yieldAbove a_m_yieldBelow a_m_dayCount a_m_days a_m_rateAbove a_m_rateBelow m_tools v27 m_sum a_m_costs a_m_pieces a_m_maker a_m_partOf m_ran m_keptRows a_m_keptCosts a_m_keptPieces a_m_keptMaker a_m_keptPart a_m_oldCosts m_stepCount m_froms m_cents m_uses m_stocks m_alternates m_dayCount m_days m_rateAbove m_rateBelow f28 f29 f30 f31 _ hw) (q0 := 0) rfl rfl wm_M_140 wi_M_buyPart wl_M_buyPart wz_M wc_M_buyPart h9_M_buyPart ⟨by decide, by decide⟩ (Nat.le_of_ble_eq_true rfl) ⟨by decide, by decide⟩ d_M_reckon_204
                              refine st_callv X hR [0, 1, 2, 3, 4, 5, 6, 11, 12, 13, 14, 15, 16, 17, 18] [7, 8, 9, 10] (wr := [aJ g a_m_assemblies 8 m_assemblies, aJ g a_m_placings 8 m_placings, aJ g a_m_yieldAbove 8 m_yieldAbove, aJ g a_m_yieldBelow 8 m_yieldBelow]) rfl rfl (by decide) (by decide) (by decide) (fun u9 hw => ?_)
                              obtain ⟨u32, u33, u34, u35, u36⟩ := u9
                              try dsimp only at hw
                              refine st_widen (k2 := 0) (n2 := 0) (by decide) (by decide) ?_
                              refine st_perm (ws2 := [(a_t, .inr (6, [.int m_thrown, .int m_parts, .ref a_m_stepCount, .ref a_m_froms, .ref a_m_cents, .ref a_m_uses, .ref a_m_stocks, .ref a_m_alternates, .ref a_m_assemblies, .ref a_m_placings, .int m_yields, .ref a_m_yieldAbove, .ref a_m_yieldBelow, .ref a_m_dayCount, .ref a_m_days, .ref a_m_rateAbove, .ref a_m_rateBelow, .long m_tools, .int u32, .long m_sum, .ref a_m_costs, .ref a_m_pieces, .ref a_m_maker, .ref a_m_partOf, .int m_ran, .int m_keptRows, .ref a_m_keptCosts, .ref a_m_keptPieces, .ref a_m_keptMaker, .ref a_m_keptPart, .ref a_m_oldCosts])), aI g a_m_stepCount 248 m_stepCount, aJ g a_m_froms 1488 m_froms, aJ g a_m_cents 1488 m_cents, aJ g a_m_uses 30 m_uses, aJ g a_m_stocks 30 m_stocks, aI g a_m_alternates 30 m_alternates, aJ g a_m_assemblies 8 m_assemblies, aJ g a_m_placings 8 m_placings, aJ g a_m_yieldAbove 8 m_yieldAbove, aJ g a_m_yieldBelow 8 m_yieldBelow, aI g a_m_dayCount 8 m_dayCount, aJ g a_m_days 48 m_days, aJ g a_m_rateAbove 48 m_rateAbove, aJ g a_m_rateBelow 48 m_rateBelow, aJ g a_m_costs 33 u33, aJ g a_m_pieces 33 u34, aI g a_m_maker 33 u35, aI g a_m_partOf 33 u36]) [4, 5, 6, 7, 8, 9, 10, 0, 1, 2, 3, 11, 12, 13, 14, 15, 16, 17, 18] rfl (by decide) ?_
                              show ST g C [(a_t, .inr (6, [.int m_thrown, .int m_parts, .ref a_m_stepCount, .ref a_m_froms, .ref a_m_cents, .ref a_m_uses, .ref a_m_stocks, .ref a_m_alternates, .ref a_m_assemblies, .ref a_m_placings, .int m_yields, .ref a_m_yieldAbove, .ref a_m_yieldBelow, .ref a_m_dayCount, .ref a_m_days, .ref a_m_rateAbove, .ref a_m_rateBelow, .long m_tools, .int u32, .long m_sum, .ref a_m_costs, .ref a_m_pieces, .ref a_m_maker, .ref a_m_partOf, .int m_ran, .int m_keptRows, .ref a_m_keptCosts, .ref a_m_keptPieces, .ref a_m_keptMaker, .ref a_m_keptPart, .ref a_m_oldCosts])), aI g a_m_stepCount 248 m_stepCount, aJ g a_m_froms 1488 m_froms, aJ g a_m_cents 1488 m_cents, aJ g a_m_uses 30 m_uses, aJ g a_m_stocks 30 m_stocks, aI g a_m_alternates 30 m_alternates, aJ g a_m_assemblies 8 m_assemblies, aJ g a_m_placings 8 m_placings, aJ g a_m_yieldAbove 8 m_yieldAbove, aJ g a_m_yieldBelow 8 m_yieldBelow, aI g a_m_dayCount 8 m_dayCount, aJ g a_m_days 48 m_days, aJ g a_m_rateAbove 48 m_rateAbove, aJ g a_m_rateBelow 48 m_rateBelow, aJ g a_m_costs 33 u33, aJ g a_m_pieces 33 u34, aI g a_m_maker 33 u35, aI g a_m_partOf 33 u36] [(0, .ref a_t), (1, .long p0), (3, .int p1), (4, .long p2), (6, .long r6), (8, .int v26)] [] 207 0 0
                              obtain ⟨x37, hx37⟩ : ∃ z : Int32, z = v26 + 1 := ⟨_, rfl⟩
                              replace hw := hw x37 hx37
                              refine st_iinc X (v := x37) (lv2 := [(8, .int x37), (0, .ref a_t), (1, .long p0), (3, .int p1), (4, .long p2), (6, .long r6)]) 5 d_M_reckon_207 rfl (by rw [hx37]; rfl) (by decide) rfl ?_
                              refine st_goto X 181 d_M_reckon_210 (by decide) ?_
                              refine st_lv [1, 2, 3, 4, 5, 0] rfl ?_
                              exact ih181 x37 u32 u33 u34 u35 u36 hw
                      obtain ⟨n181, hw⟩ := hw
                      refine st_lv [1, 2, 3, 4, 5, 0] rfl ?_
                      exact L181 n181 0 v23 f25 u20 u21 u22 hw
                    · replace hw := hw.2 hc
                      refine st_aload_n X 0 d_M_reckon_139 rfl rfl ?_
                      refine st_get X (ci := 6) in_M 0 20 wf_M_53 rfl rfl (by decide) rfl d_M_reckon_140 ?_
                      refine st_iconst X (v := 2) d_M_reckon_143 (by decide) ?_
                      refine st_dup2_11 X d_M_reckon_144 rfl rfl ?_
                      obtain ⟨hb7, hw⟩ := hw
                      refine st_lald X 15 rfl hb7 d_M_reckon_145 ?_
                      refine st_lload X 4 d_M_reckon_146 rfl ?_
                      refine st_aload_n X 0 d_M_reckon_148 rfl rfl ?_
                      refine st_get X (ci := 6) in_M 0 9 wf_M_32 rfl rfl (by decide) rfl d_M_reckon_149 ?_
                      refine st_iload X 5 d_M_reckon_152 rfl ?_
                      obtain ⟨hb8, hw⟩ := hw
                      refine st_lald X 8 rfl hb8 d_M_reckon_154 ?_
                      refine st_lmul X d_M_reckon_155 ?_
                      refine st_aload_n X 0 d_M_reckon_156 rfl rfl ?_
                      refine st_get X (ci := 6) in_M 0 8 wf_M_29 rfl rfl (by decide) rfl d_M_reckon_157 ?_
                      refine st_iload X 5 d_M_reckon_160 rfl ?_
                      obtain ⟨hb9, hw⟩ := hw
                      refine st_lald X 7 rfl hb9 d_M_reckon_162 ?_
                      refine st_lmul X d_M_reckon_163 ?_
                      refine st_ldc2 X wv_M_106 d_M_reckon_164 ?_
                      have hR := rn_S (pc := 167) (k := 0) (n := 0) (As := [.long ((r6 * (m_placings v24.toNatClampNeg)) * (m_assemblies v24.toNatClampNeg)), .long 1000]) (rest := [.long (f25 (2 : Int32).toNatClampNeg), .int 2, .ref a_m_costs]) X (k_M_up g hg ((r6 * (m_placings v24.toNatClampNeg)) * (m_assemblies v24.toNatClampNeg)) (1000 : Int64) _ hw) wm_M_124 ws_M_up wz_M wc_M_up h9_M_up ⟨by decide, by decide⟩ (Nat.le_of_ble_eq_true rfl) ⟨by decide, by decide⟩ d_M_reckon_167
                      refine st_calll X hR [] [0, 1, 2, 3, 4, 5, 6, 7, 8, 9, 10, 11, 12, 13, 14, 15, 16, 17, 18] (wr := [(a_t, .inr (6, [.int m_thrown, .int m_parts, .ref a_m_stepCount, .ref a_m_froms, .ref a_m_cents, .ref a_m_uses, .ref a_m_stocks, .ref a_m_alternates, .ref a_m_assemblies, .ref a_m_placings, .int m_yields, .ref a_m_yieldAbove, .ref a_m_yieldBelow, .ref a_m_dayCount, .ref a_m_days, .ref a_m_rateAbove, .ref a_m_rateBelow, .long m_tools, .int v23, .long m_sum, .ref a_m_costs, .ref a_m_pieces, .ref a_m_maker, .ref a_m_partOf, .int m_ran, .int m_keptRows, .ref a_m_keptCosts, .ref a_m_keptPieces, .ref a_m_keptMaker, .ref a_m_keptPart, .ref a_m_oldCosts])), aI g a_m_stepCount 248 m_stepCount, aJ g a_m_froms 1488 m_froms, aJ g a_m_cents 1488 m_cents, aJ g a_m_uses 30 m_uses, aJ g a_m_stocks 30 m_stocks, aI g a_m_alternates 30 m_alternates, aJ g a_m_assemblies 8 m_assemblies, aJ g a_m_placings 8 m_placings, aJ g a_m_yieldAbove 8 m_yieldAbove, aJ g a_m_yieldBelow 8 m_yieldBelow, aI g a_m_dayCount 8 m_dayCount, aJ g a_m_days 48 m_days, aJ g a_m_rateAbove 48 m_rateAbove, aJ g a_m_rateBelow 48 m_rateBelow, aJ g a_m_costs 33 f25, aJ g a_m_pieces 33 u20, aI g a_m_maker 33 u21, aI g a_m_partOf 33 u22]) rfl rfl (by decide) (by decide) (by decide) (fun r38 u9 hw => ?_)
                      try dsimp only at hw
                      refine st_widen (k2 := 0) (n2 := 0) (by decide) (by decide) ?_
                      refine st_perm (ws2 := [(a_t, .inr (6, [.int m_thrown, .int m_parts, .ref a_m_stepCount, .ref a_m_froms, .ref a_m_cents, .ref a_m_uses, .ref a_m_stocks, .ref a_m_alternates, .ref a_m_assemblies, .ref a_m_placings, .int m_yields, .ref a_m_yieldAbove, .ref a_m_yieldBelow, .ref a_m_dayCount, .ref a_m_days, .ref a_m_rateAbove, .ref a_m_rateBelow, .long m_tools, .int v23, .long m_sum, .ref a_m_costs, .ref a_m_pieces, .ref a_m_maker, .ref a_m_partOf, .int m_ran, .int m_keptRows, .ref a_m_keptCosts, .ref a_m_keptPieces, .ref a_m_keptMaker, .ref a_m_keptPart, .ref a_m_oldCosts])), aI g a_m_stepCount 248 m_stepCount, aJ g a_m_froms 1488 m_froms, aJ g a_m_cents 1488 m_cents, aJ g a_m_uses 30 m_uses, aJ g a_m_stocks 30 m_stocks, aI g a_m_alternates 30 m_alternates, aJ g a_m_assemblies 8 m_assemblies, aJ g a_m_placings 8 m_placings, aJ g a_m_yieldAbove 8 m_yieldAbove, aJ g a_m_yieldBelow 8 m_yieldBelow, aI g a_m_dayCount 8 m_dayCount, aJ g a_m_days 48 m_days, aJ g a_m_rateAbove 48 m_rateAbove, aJ g a_m_rateBelow 48 m_rateBelow, aJ g a_m_costs 33 f25, aJ g a_m_pieces 33 u20, aI g a_m_maker 33 u21, aI g a_m_partOf 33 u22]) [0, 1, 2, 3, 4, 5, 6, 7, 8, 9, 10, 11, 12, 13, 14, 15, 16, 17, 18] rfl (by decide) ?_
                      show ST g C [(a_t, .inr (6, [.int m_thrown, .int m_parts, .ref a_m_stepCount, .ref a_m_froms, .ref a_m_cents, .ref a_m_uses, .ref a_m_stocks, .ref a_m_alternates, .ref a_m_assemblies, .ref a_m_placings, .int m_yields, .ref a_m_yieldAbove, .ref a_m_yieldBelow, .ref a_m_dayCount, .ref a_m_days, .ref a_m_rateAbove, .ref a_m_rateBelow, .long m_tools, .int v23, .long m_sum, .ref a_m_costs, .ref a_m_pieces, .ref a_m_maker, .ref a_m_partOf, .int m_ran, .int m_keptRows, .ref a_m_keptCosts, .ref a_m_keptPieces, .ref a_m_keptMaker, .ref a_m_keptPart, .ref a_m_oldCosts])), aI g a_m_stepCount 248 m_stepCount, aJ g a_m_froms 1488 m_froms, aJ g a_m_cents 1488 m_cents, aJ g a_m_uses 30 m_uses, aJ g a_m_stocks 30 m_stocks, aI g a_m_alternates 30 m_alternates, aJ g a_m_assemblies 8 m_assemblies, aJ g a_m_placings 8 m_placings, aJ g a_m_yieldAbove 8 m_yieldAbove, aJ g a_m_yieldBelow 8 m_yieldBelow, aI g a_m_dayCount 8 m_dayCount, aJ g a_m_days 48 m_days, aJ g a_m_rateAbove 48 m_rateAbove, aJ g a_m_rateBelow 48 m_rateBelow, aJ g a_m_costs 33 f25, aJ g a_m_pieces 33 u20, aI g a_m_maker 33 u21, aI g a_m_partOf 33 u22] [(0, .ref a_t), (1, .long p0), (3, .int p1), (4, .long p2), (6, .long r6), (8, .int v24)] [.long r38, .long (f25 (2 : Int32).toNatClampNeg), .int 2, .ref a_m_costs] 170 0 0
                      refine st_ladd X d_M_reckon_170 ?_
                      refine st_topl (fun x39 hx39 => ?_)
                      replace hw := hw x39 hx39
                      obtain ⟨hb10, hw⟩ := hw
                      obtain ⟨f40, hf40⟩ : ∃ z : Nat → Int64, z = vp_updL f25 (2 : Int32).toNatClampNeg x39 := ⟨_, rfl⟩
                      replace hw := hw f40 hf40
                      refine st_last X (ws2 := [(a_t, .inr (6, [.int m_thrown, .int m_parts, .ref a_m_stepCount, .ref a_m_froms, .ref a_m_cents, .ref a_m_uses, .ref a_m_stocks, .ref a_m_alternates, .ref a_m_assemblies, .ref a_m_placings, .int m_yields, .ref a_m_yieldAbove, .ref a_m_yieldBelow, .ref a_m_dayCount, .ref a_m_days, .ref a_m_rateAbove, .ref a_m_rateBelow, .long m_tools, .int v23, .long m_sum, .ref a_m_costs, .ref a_m_pieces, .ref a_m_maker, .ref a_m_partOf, .int m_ran, .int m_keptRows, .ref a_m_keptCosts, .ref a_m_keptPieces, .ref a_m_keptMaker, .ref a_m_keptPart, .ref a_m_oldCosts])), aI g a_m_stepCount 248 m_stepCount, aJ g a_m_froms 1488 m_froms, aJ g a_m_cents 1488 m_cents, aJ g a_m_uses 30 m_uses, aJ g a_m_stocks 30 m_stocks, aI g a_m_alternates 30 m_alternates, aJ g a_m_assemblies 8 m_assemblies, aJ g a_m_placings 8 m_placings, aJ g a_m_yieldAbove 8 m_yieldAbove, aJ g a_m_yieldBelow 8 m_yieldBelow, aI g a_m_dayCount 8 m_dayCount, aJ g a_m_days 48 m_days, aJ g a_m_rateAbove 48 m_rateAbove, aJ g a_m_rateBelow 48 m_rateBelow, aJ g a_m_costs 33 f40, aJ g a_m_pieces 33 u20, aI g a_m_maker 33 u21, aI g a_m_partOf 33 u22]) 15 rfl hb10 (by rw [hf40]; rfl) d_M_reckon_171 ?_
                      obtain ⟨x41, hx41⟩ : ∃ z : Int32, z = v24 + 1 := ⟨_, rfl⟩
                      replace hw := hw x41 hx41
                      refine st_iinc X (v := x41) (lv2 := [(8, .int x41), (0, .ref a_t), (1, .long p0), (3, .int p1), (4, .long p2), (6, .long r6)]) 5 d_M_reckon_172 rfl (by rw [hx41]; rfl) (by decide) rfl ?_
                      refine st_goto X 132 d_M_reckon_175 (by decide) ?_
                      refine st_lv [1, 2, 3, 4, 5, 0] rfl ?_
                      exact ih132 x41 f40 hw
                obtain ⟨n132, hw⟩ := hw
                refine st_lv [1, 2, 3, 4, 5, 0] rfl ?_
                exact L132 n132 0 u19 hw
              refine st_lcmp_le X 125 d_M_reckon_117 d_M_reckon_118 (by decide) (fun hc => ?_) (fun hc => ?_)
              · replace hw := hw.1 hc
                refine st_iconst X (v := 0) d_M_reckon_125 (by decide) ?_
                refine st_lv [0, 1, 2, 3, 4] rfl ?_
                exact J126 0 hw
              · replace hw := hw.2 hc
                refine st_iconst X (v := 1) d_M_reckon_121 (by decide) ?_
                refine st_goto X 126 d_M_reckon_122 (by decide) ?_
                refine st_lv [0, 1, 2, 3, 4] rfl ?_
                exact J126 1 hw
        refine st_lcmp_gt X 69 d_M_reckon_61 d_M_reckon_62 (by decide) (fun hc => ?_) (fun hc => ?_)
        · replace hw := hw.1 hc
          refine st_iconst X (v := 0) d_M_reckon_69 (by decide) ?_
          refine st_lv [1, 2, 3, 4, 0] rfl ?_
          exact J70 0 hw
        · replace hw := hw.2 hc
          refine st_iconst X (v := 1) d_M_reckon_65 (by decide) ?_
          refine st_goto X 70 d_M_reckon_66 (by decide) ?_
          refine st_lv [1, 2, 3, 4, 0] rfl ?_
          exact J70 1 hw
      · replace hw := hw.2 hc
        refine st_aload_n X 0 d_M_reckon_10 rfl rfl ?_
        refine st_get X (ci := 6) in_M 0 20 wf_M_53 rfl rfl (by decide) rfl d_M_reckon_11 ?_
        refine st_iload X 4 d_M_reckon_14 rfl ?_
        refine st_lconst X (v := 0) d_M_reckon_16 (by decide) ?_
        obtain ⟨hb11, hw⟩ := hw
        obtain ⟨f42, hf42⟩ : ∃ z : Nat → Int64, z = vp_updL f2 v1.toNatClampNeg 0 := ⟨_, rfl⟩
        replace hw := hw f42 hf42
        refine st_last X (ws2 := [(a_t, .inr (6, [.int m_thrown, .int m_parts, .ref a_m_stepCount, .ref a_m_froms, .ref a_m_cents, .ref a_m_uses, .ref a_m_stocks, .ref a_m_alternates, .ref a_m_assemblies, .ref a_m_placings, .int m_yields, .ref a_m_yieldAbove, .ref a_m_yieldBelow, .ref a_m_dayCount, .ref a_m_days, .ref a_m_rateAbove, .ref a_m_rateBelow, .long m_tools, .int m_can, .long m_sum, .ref a_m_costs, .ref a_m_pieces, .ref a_m_maker, .ref a_m_partOf, .int m_ran, .int m_keptRows, .ref a_m_keptCosts, .ref a_m_keptPieces, .ref a_m_keptMaker, .ref a_m_keptPart, .ref a_m_oldCosts])), aI g a_m_stepCount 248 m_stepCount, aJ g a_m_froms 1488 m_froms, aJ g a_m_cents 1488 m_cents, aJ g a_m_uses 30 m_uses, aJ g a_m_stocks 30 m_stocks, aI g a_m_alternates 30 m_alternates, aJ g a_m_assemblies 8 m_assemblies, aJ g a_m_placings 8 m_placings, aJ g a_m_yieldAbove 8 m_yieldAbove, aJ g a_m_yieldBelow 8 m_yieldBelow, aI g a_m_dayCount 8 m_dayCount, aJ g a_m_days 48 m_days, aJ g a_m_rateAbove 48 m_rateAbove, aJ g a_m_rateBelow 48 m_rateBelow, aJ g a_m_costs 33 f42, aJ g a_m_pieces 33 f3, aI g a_m_maker 33 f4, aI g a_m_partOf 33 f5]) 15 rfl hb11 (by rw [hf42]; rfl) d_M_reckon_17 ?_
        refine st_aload_n X 0 d_M_reckon_18 rfl rfl ?_
        refine st_get X (ci := 6) in_M 0 21 wf_M_56 rfl rfl (by decide) rfl d_M_reckon_19 ?_
        refine st_iload X 4 d_M_reckon_22 rfl ?_
        refine st_lconst X (v := 0) d_M_reckon_24 (by decide) ?_
        obtain ⟨hb12, hw⟩ := hw
        obtain ⟨f43, hf43⟩ : ∃ z : Nat → Int64, z = vp_updL f3 v1.toNatClampNeg 0 := ⟨_, rfl⟩
        replace hw := hw f43 hf43
        refine st_last X (ws2 := [(a_t, .inr (6, [.int m_thrown, .int m_parts, .ref a_m_stepCount, .ref a_m_froms, .ref a_m_cents, .ref a_m_uses, .ref a_m_stocks, .ref a_m_alternates, .ref a_m_assemblies, .ref a_m_placings, .int m_yields, .ref a_m_yieldAbove, .ref a_m_yieldBelow, .ref a_m_dayCount, .ref a_m_days, .ref a_m_rateAbove, .ref a_m_rateBelow, .long m_tools, .int m_can, .long m_sum, .ref a_m_costs, .ref a_m_pieces, .ref a_m_maker, .ref a_m_partOf, .int m_ran, .int m_keptRows, .ref a_m_keptCosts, .ref a_m_keptPieces, .ref a_m_keptMaker, .ref a_m_keptPart, .ref a_m_oldCosts])), aI g a_m_stepCount 248 m_stepCount, aJ g a_m_froms 1488 m_froms, aJ g a_m_cents 1488 m_cents, aJ g a_m_uses 30 m_uses, aJ g a_m_stocks 30 m_stocks, aI g a_m_alternates 30 m_alternates, aJ g a_m_assemblies 8 m_assemblies, aJ g a_m_placings 8 m_placings, aJ g a_m_yieldAbove 8 m_yieldAbove, aJ g a_m_yieldBelow 8 m_yieldBelow, aI g a_m_dayCount 8 m_dayCount, aJ g a_m_days 48 m_days, aJ g a_m_rateAbove 48 m_rateAbove, aJ g a_m_rateBelow 48 m_rateBelow, aJ g a_m_costs 33 f42, aJ g a_m_pieces 33 f43, aI g a_m_maker 33 f4, aI g a_m_partOf 33 f5]) 16 rfl hb12 (by rw [hf43]; rfl) d_M_reckon_25 ?_
        refine st_aload_n X 0 d_M_reckon_26 rfl rfl ?_
        refine st_get X (ci := 6) in_M 0 22 wf_M_59 rfl rfl (by decide) rfl d_M_reckon_27 ?_
        refine st_iload X 4 d_M_reckon_30 rfl ?_
        refine st_iconst X (v := (-1)) d_M_reckon_32 (by decide) ?_
        obtain ⟨hb13, hw⟩ := hw
        obtain ⟨f44, hf44⟩ : ∃ z : Nat → Int32, z = upd f4 v1.toNatClampNeg (-1) := ⟨_, rfl⟩
        replace hw := hw f44 hf44
        refine st_iast X (ws2 := [(a_t, .inr (6, [.int m_thrown, .int m_parts, .ref a_m_stepCount, .ref a_m_froms, .ref a_m_cents, .ref a_m_uses, .ref a_m_stocks, .ref a_m_alternates, .ref a_m_assemblies, .ref a_m_placings, .int m_yields, .ref a_m_yieldAbove, .ref a_m_yieldBelow, .ref a_m_dayCount, .ref a_m_days, .ref a_m_rateAbove, .ref a_m_rateBelow, .long m_tools, .int m_can, .long m_sum, .ref a_m_costs, .ref a_m_pieces, .ref a_m_maker, .ref a_m_partOf, .int m_ran, .int m_keptRows, .ref a_m_keptCosts, .ref a_m_keptPieces, .ref a_m_keptMaker, .ref a_m_keptPart, .ref a_m_oldCosts])), aI g a_m_stepCount 248 m_stepCount, aJ g a_m_froms 1488 m_froms, aJ g a_m_cents 1488 m_cents, aJ g a_m_uses 30 m_uses, aJ g a_m_stocks 30 m_stocks, aI g a_m_alternates 30 m_alternates, aJ g a_m_assemblies 8 m_assemblies, aJ g a_m_placings 8 m_placings, aJ g a_m_yieldAbove 8 m_yieldAbove, aJ g a_m_yieldBelow 8 m_yieldBelow, aI g a_m_dayCount 8 m_dayCount, aJ g a_m_days 48 m_days, aJ g a_m_rateAbove 48 m_rateAbove, aJ g a_m_rateBelow 48 m_rateBelow, aJ g a_m_costs 33 f42, aJ g a_m_pieces 33 f43, aI g a_m_maker 33 f44, aI g a_m_partOf 33 f5]) 17 rfl hb13 (by rw [hf44]; rfl) d_M_reckon_33 ?_
        refine st_aload_n X 0 d_M_reckon_34 rfl rfl ?_
        refine st_get X (ci := 6) in_M 0 23 wf_M_62 rfl rfl (by decide) rfl d_M_reckon_35 ?_
        refine st_iload X 4 d_M_reckon_38 rfl ?_
        refine st_iconst X (v := (-1)) d_M_reckon_40 (by decide) ?_
        obtain ⟨hb14, hw⟩ := hw
        obtain ⟨f45, hf45⟩ : ∃ z : Nat → Int32, z = upd f5 v1.toNatClampNeg (-1) := ⟨_, rfl⟩
        replace hw := hw f45 hf45
        refine st_iast X (ws2 := [(a_t, .inr (6, [.int m_thrown, .int m_parts, .ref a_m_stepCount, .ref a_m_froms, .ref a_m_cents, .ref a_m_uses, .ref a_m_stocks, .ref a_m_alternates, .ref a_m_assemblies, .ref a_m_placings, .int m_yields, .ref a_m_yieldAbove, .ref a_m_yieldBelow, .ref a_m_dayCount, .ref a_m_days, .ref a_m_rateAbove, .ref a_m_rateBelow, .long m_tools, .int m_can, .long m_sum, .ref a_m_costs, .ref a_m_pieces, .ref a_m_maker, .ref a_m_partOf, .int m_ran, .int m_keptRows, .ref a_m_keptCosts, .ref a_m_keptPieces, .ref a_m_keptMaker, .ref a_m_keptPart, .ref a_m_oldCosts])), aI g a_m_stepCount 248 m_stepCount, aJ g a_m_froms 1488 m_froms, aJ g a_m_cents 1488 m_cents, aJ g a_m_uses 30 m_uses, aJ g a_m_stocks 30 m_stocks, aI g a_m_alternates 30 m_alternates, aJ g a_m_assemblies 8 m_assemblies, aJ g a_m_placings 8 m_placings, aJ g a_m_yieldAbove 8 m_yieldAbove, aJ g a_m_yieldBelow 8 m_yieldBelow, aI g a_m_dayCount 8 m_dayCount, aJ g a_m_days 48 m_days, aJ g a_m_rateAbove 48 m_rateAbove, aJ g a_m_rateBelow 48 m_rateBelow, aJ g a_m_costs 33 f42, aJ g a_m_pieces 33 f43, aI g a_m_maker 33 f44, aI g a_m_partOf 33 f45]) 18 rfl hb14 (by rw [hf45]; rfl) d_M_reckon_41 ?_
        obtain ⟨x46, hx46⟩ : ∃ z : Int32, z = v1 + 1 := ⟨_, rfl⟩
        replace hw := hw x46 hx46
        refine st_iinc X (v := x46) (lv2 := [(6, .int x46), (0, .ref a_t), (1, .long p0), (3, .int p1), (4, .long p2)]) 4 d_M_reckon_42 rfl (by rw [hx46]; rfl) (by decide) rfl ?_
        refine st_goto X 3 d_M_reckon_45 (by decide) ?_
        refine st_lv [1, 2, 3, 4, 0] rfl ?_
        exact ih3 x46 f42 f43 f44 f45 hw
  obtain ⟨n3, hw⟩ := hw
  refine st_lv [1, 2, 3, 4, 0] rfl ?_
  exact L3 n3 0 m_costs m_pieces m_maker m_partOf hw

theorem h9_M_makersNow : y_M_makersNow.cls ≠ "java/lang/invoke/MethodHandle" ∧ y_M_makersNow.cls ≠ "java/lang/invoke/VarHandle" ∧ (parseMethodDescriptor y_M_makersNow.desc).map (fun d => d.parameters.length) = some 0 := by decide +kernel
def wp_M_makersNow_L44 (Q : Int32 → Prop) : Nat → Int32 → Int32 → Prop
  | 0, _, _ => False
  | n44 + 1, v3, v4 =>
  ((v3 = 0) → Q v4) ∧
  ((¬ v3 = 0) → ∀ x5 : Int32, x5 = v4 + (v3 &&& 1) →
  ∀ x6 : Int32, x6 = v3 >>> (1 &&& 31) →
  (wp_M_makersNow_L44 Q n44) x6 x5)
def wp_M_makersNow_J35 (v2 : Int32) (K4 : Int32 → Int32 → Prop) (v7 : Int32) : Prop :=
  ∀ x8 : Int32, x8 = v2 + 1 →
  K4 v7 x8
def wp_M_makersNow_L4 (m_pieces : Nat → Int64) (m_maker : Nat → Int32) (Q : Int32 → Prop) : Nat → Int32 → Int32 → Prop
  | 0, _, _ => False
  | n4 + 1, v1, v2 =>
  ((33 ≤ v2) → ∃ n44 : Nat, wp_M_makersNow_L44 Q n44 v1 0) ∧
  ((¬ 33 ≤ v2) → vp_in v2 33 ∧
  (((m_pieces v2.toNatClampNeg) ≤ 0) → wp_M_makersNow_J35 v2 (wp_M_makersNow_L4 m_pieces m_maker Q n4) v1) ∧
  ((¬ (m_pieces v2.toNatClampNeg) ≤ 0) → vp_in v2 33 ∧
  wp_M_makersNow_J35 v2 (wp_M_makersNow_L4 m_pieces m_maker Q n4) (v1 ||| (1 <<< ((m_maker v2.toNatClampNeg) &&& 31)))))
def wp_M_makersNow (m_pieces : Nat → Int64) (m_maker : Nat → Int32) (Q : Int32 → Prop) : Prop :=
  ∃ n4 : Nat, wp_M_makersNow_L4 m_pieces m_maker Q n4 0 1
set_option maxHeartbeats 4000000 in
set_option maxRecDepth 100000 in
theorem k_M_makersNow (g : GX) (hg : g.1.stackTraces = false) (a_t : Nat) (m_thrown : Int32) (m_parts : Int32) (a_m_stepCount : Nat) (a_m_froms : Nat) (a_m_cents : Nat) (a_m_uses : Nat) (a_m_stocks : Nat) (a_m_alternates : Nat) (a_m_assemblies : Nat) (a_m_placings : Nat) (m_yields : Int32) (a_m_yieldAbove : Nat) (a_m_yieldBelow : Nat) (a_m_dayCount : Nat) (a_m_days : Nat) (a_m_rateAbove : Nat) (a_m_rateBelow : Nat) (m_tools : Int64) (m_can : Int32) (m_sum : Int64) (a_m_costs : Nat) (a_m_pieces : Nat) (a_m_maker : Nat) (a_m_partOf : Nat) (m_ran : Int32) (m_keptRows : Int32) (a_m_keptCosts : Nat) (a_m_keptPieces : Nat) (a_m_keptMaker : Nat) (a_m_keptPart : Nat) (a_m_oldCosts : Nat) (m_pieces : Nat → Int64) (m_maker : Nat → Int32) (Q : Int32 → Prop) (hw : wp_M_makersNow m_pieces m_maker Q) : CT g y_M_makersNow c_M_makersNow 3 (some .int) ({ frames := 0, cells := 0, slots := 0, locals := 0 } : Room) [.ref a_t] [(a_t, .inr (6, [.int m_thrown, .int m_parts, .ref a_m_stepCount, .ref a_m_froms, .ref a_m_cents, .ref a_m_uses, .ref a_m_stocks, .ref a_m_alternates, .ref a_m_assemblies, .ref a_m_placings, .int m_yields, .ref a_m_yieldAbove, .ref a_m_yieldBelow, .ref a_m_dayCount, .ref a_m_days, .ref a_m_rateAbove, .ref a_m_rateBelow, .long m_tools, .int m_can, .long m_sum, .ref a_m_costs, .ref a_m_pieces, .ref a_m_maker, .ref a_m_partOf, .int m_ran, .int m_keptRows, .ref a_m_keptCosts, .ref a_m_keptPieces, .ref a_m_keptMaker, .ref a_m_keptPart, .ref a_m_oldCosts])), aJ g a_m_pieces 33 m_pieces, aI g a_m_maker 33 m_maker] (QI g [(a_t, .inr (6, [.int m_thrown, .int m_parts, .ref a_m_stepCount, .ref a_m_froms, .ref a_m_cents, .ref a_m_uses, .ref a_m_stocks, .ref a_m_alternates, .ref a_m_assemblies, .ref a_m_placings, .int m_yields, .ref a_m_yieldAbove, .ref a_m_yieldBelow, .ref a_m_dayCount, .ref a_m_days, .ref a_m_rateAbove, .ref a_m_rateBelow, .long m_tools, .int m_can, .long m_sum, .ref a_m_costs, .ref a_m_pieces, .ref a_m_maker, .ref a_m_partOf, .int m_ran, .int m_keptRows, .ref a_m_keptCosts, .ref a_m_keptPieces, .ref a_m_keptMaker, .ref a_m_keptPart, .ref a_m_oldCosts])), aJ g a_m_pieces 33 m_pieces, aI g a_m_maker 33 m_maker] (fun u : Unit => [(a_t, .inr (6, [.int m_thrown, .int m_parts, .ref a_m_stepCount, .ref a_m_froms, .ref a_m_cents, .ref a_m_uses, .ref a_m_stocks, .ref a_m_alternates, .ref a_m_assemblies, .ref a_m_placings, .int m_yields, .ref a_m_yieldAbove, .ref a_m_yieldBelow, .ref a_m_dayCount, .ref a_m_days, .ref a_m_rateAbove, .ref a_m_rateBelow, .long m_tools, .int m_can, .long m_sum, .ref a_m_costs, .ref a_m_pieces, .ref a_m_maker, .ref a_m_partOf, .int m_ran, .int m_keptRows, .ref a_m_keptCosts, .ref a_m_keptPieces, .ref a_m_keptMaker, .ref a_m_keptPart, .ref a_m_oldCosts])), aJ g a_m_pieces 33 m_pieces, aI g a_m_maker 33 m_maker]) (fun r u => Q r)) := by
  refine ct_of hg (by decide) (Nat.le_of_ble_eq_true rfl) (fun sz C X hr => ?_)
  unfold wp_M_makersNow at hw
  show ST g C [(a_t, .inr (6, [.int m_thrown, .int m_parts, .ref a_m_stepCount, .ref a_m_froms, .ref a_m_cents, .ref a_m_uses, .ref a_m_stocks, .ref a_m_alternates, .ref a_m_assemblies, .ref a_m_placings, .int m_yields, .ref a_m_yieldAbove, .ref a_m_yieldBelow, .ref a_m_dayCount, .ref a_m_days, .ref a_m_rateAbove, .ref a_m_rateBelow, .long m_tools, .int m_can, .long m_sum, .ref a_m_costs, .ref a_m_pieces, .ref a_m_maker, .ref a_m_partOf, .int m_ran, .int m_keptRows, .ref a_m_keptCosts, .ref a_m_keptPieces, .ref a_m_keptMaker, .ref a_m_keptPart, .ref a_m_oldCosts])), aJ g a_m_pieces 33 m_pieces, aI g a_m_maker 33 m_maker] [(0, .ref a_t)] [] 0 0 0
  refine st_iconst X (v := 0) d_M_makersNow_0 (by decide) ?_
  refine st_istore_n X (lv2 := [(1, .int 0), (0, .ref a_t)]) d_M_makersNow_1 rfl (by decide) rfl ?_
  refine st_iconst X (v := 1) d_M_makersNow_2 (by decide) ?_
  refine st_istore_n X (lv2 := [(2, .int 1), (1, .int 0), (0, .ref a_t)]) d_M_makersNow_3 rfl (by decide) rfl ?_
  have L4 : ∀ (n4 : Nat) (v1 : Int32) (v2 : Int32), wp_M_makersNow_L4 m_pieces m_maker Q n4 v1 v2 → ST g C [(a_t, .inr (6, [.int m_thrown, .int m_parts, .ref a_m_stepCount, .ref a_m_froms, .ref a_m_cents, .ref a_m_uses, .ref a_m_stocks, .ref a_m_alternates, .ref a_m_assemblies, .ref a_m_placings, .int m_yields, .ref a_m_yieldAbove, .ref a_m_yieldBelow, .ref a_m_dayCount, .ref a_m_days, .ref a_m_rateAbove, .ref a_m_rateBelow, .long m_tools, .int m_can, .long m_sum, .ref a_m_costs, .ref a_m_pieces, .ref a_m_maker, .ref a_m_partOf, .int m_ran, .int m_keptRows, .ref a_m_keptCosts, .ref a_m_keptPieces, .ref a_m_keptMaker, .ref a_m_keptPart, .ref a_m_oldCosts])), aJ g a_m_pieces 33 m_pieces, aI g a_m_maker 33 m_maker] [(0, .ref a_t), (1, .int v1), (2, .int v2)] [] 4 0 0 := by
    intro n4
    induction n4 with
    | zero => intro v1 v2 hw; exact hw.elim
    | succ n4 ih4 =>
      intro v1 v2 hw
      rw [wp_M_makersNow_L4] at hw
      refine st_iload_n X 2 d_M_makersNow_4 rfl rfl ?_
      refine st_bipush X (v := 33) d_M_makersNow_5 (by decide) ?_
      refine st_icmp_ge X 42 d_M_makersNow_7 (by decide) (fun hc => ?_) (fun hc => ?_)
      · replace hw := hw.1 hc
        refine st_iconst X (v := 0) d_M_makersNow_42 (by decide) ?_
        refine st_istore_n X (lv2 := [(2, .int 0), (0, .ref a_t), (1, .int v1)]) d_M_makersNow_43 rfl (by decide) rfl ?_
        have L44 : ∀ (n44 : Nat) (v3 : Int32) (v4 : Int32), wp_M_makersNow_L44 Q n44 v3 v4 → ST g C [(a_t, .inr (6, [.int m_thrown, .int m_parts, .ref a_m_stepCount, .ref a_m_froms, .ref a_m_cents, .ref a_m_uses, .ref a_m_stocks, .ref a_m_alternates, .ref a_m_assemblies, .ref a_m_placings, .int m_yields, .ref a_m_yieldAbove, .ref a_m_yieldBelow, .ref a_m_dayCount, .ref a_m_days, .ref a_m_rateAbove, .ref a_m_rateBelow, .long m_tools, .int m_can, .long m_sum, .ref a_m_costs, .ref a_m_pieces, .ref a_m_maker, .ref a_m_partOf, .int m_ran, .int m_keptRows, .ref a_m_keptCosts, .ref a_m_keptPieces, .ref a_m_keptMaker, .ref a_m_keptPart, .ref a_m_oldCosts])), aJ g a_m_pieces 33 m_pieces, aI g a_m_maker 33 m_maker] [(0, .ref a_t), (1, .int v3), (2, .int v4)] [] 44 0 0 := by
          intro n44
          induction n44 with
          | zero => intro v3 v4 hw; exact hw.elim
          | succ n44 ih44 =>
            intro v3 v4 hw
            rw [wp_M_makersNow_L44] at hw
            refine st_iload_n X 1 d_M_makersNow_44 rfl rfl ?_
            refine st_if_eq X 61 d_M_makersNow_45 (by decide) (fun hc => ?_) (fun hc => ?_)
            · replace hw := hw.1 hc
              refine st_iload_n X 2 d_M_makersNow_61 rfl rfl ?_
              exact st_iret X hr () hw rfl (by decide) (by decide) d_M_makersNow_62
            · replace hw := hw.2 hc
              refine st_iload_n X 2 d_M_makersNow_48 rfl rfl ?_
              refine st_iload_n X 1 d_M_makersNow_49 rfl rfl ?_
              refine st_iconst X (v := 1) d_M_makersNow_50 (by decide) ?_
              refine st_iand X d_M_makersNow_51 ?_
              refine st_iadd X d_M_makersNow_52 ?_
              refine st_topi (fun x5 hx5 => ?_)
              replace hw := hw x5 hx5
              refine st_istore_n X (lv2 := [(2, .int x5), (0, .ref a_t), (1, .int v3)]) d_M_makersNow_53 rfl (by decide) rfl ?_
              refine st_iload_n X 2 d_M_makersNow_54 rfl rfl ?_
              refine st_iconst X (v := 1) d_M_makersNow_55 (by decide) ?_
              refine st_ishr X d_M_makersNow_56 ?_
              refine st_topi (fun x6 hx6 => ?_)
              replace hw := hw x6 hx6
              refine st_istore_n X (lv2 := [(1, .int x6), (2, .int x5), (0, .ref a_t)]) d_M_makersNow_57 rfl (by decide) rfl ?_
              refine st_goto X 44 d_M_makersNow_58 (by decide) ?_
              refine st_lv [2, 0, 1] rfl ?_
              exact ih44 x6 x5 hw
        obtain ⟨n44, hw⟩ := hw
        refine st_lv [1, 2, 0] rfl ?_
        exact L44 n44 v1 0 hw
      · replace hw := hw.2 hc
        refine st_aload_n X 0 d_M_makersNow_10 rfl rfl ?_
        refine st_get X (ci := 6) in_M 0 21 wf_M_56 rfl rfl (by decide) rfl d_M_makersNow_11 ?_
        refine st_iload_n X 2 d_M_makersNow_14 rfl rfl ?_
        obtain ⟨hb1, hw⟩ := hw
        refine st_lald X 1 rfl hb1 d_M_makersNow_15 ?_
        refine st_lconst X (v := 0) d_M_makersNow_16 (by decide) ?_
        have J35 : ∀ (v7 : Int32), wp_M_makersNow_J35 v2 (fun z0 z1 => wp_M_makersNow_L4 m_pieces m_maker Q n4 z0 z1) v7 → ST g C [(a_t, .inr (6, [.int m_thrown, .int m_parts, .ref a_m_stepCount, .ref a_m_froms, .ref a_m_cents, .ref a_m_uses, .ref a_m_stocks, .ref a_m_alternates, .ref a_m_assemblies, .ref a_m_placings, .int m_yields, .ref a_m_yieldAbove, .ref a_m_yieldBelow, .ref a_m_dayCount, .ref a_m_days, .ref a_m_rateAbove, .ref a_m_rateBelow, .long m_tools, .int m_can, .long m_sum, .ref a_m_costs, .ref a_m_pieces, .ref a_m_maker, .ref a_m_partOf, .int m_ran, .int m_keptRows, .ref a_m_keptCosts, .ref a_m_keptPieces, .ref a_m_keptMaker, .ref a_m_keptPart, .ref a_m_oldCosts])), aJ g a_m_pieces 33 m_pieces, aI g a_m_maker 33 m_maker] [(0, .ref a_t), (1, .int v1), (2, .int v2)] [.int v7] 35 0 0 := by
          intro v7 hw
          unfold wp_M_makersNow_J35 at hw
          refine st_istore_n X (lv2 := [(1, .int v7), (0, .ref a_t), (2, .int v2)]) d_M_makersNow_35 rfl (by decide) rfl ?_
          obtain ⟨x8, hx8⟩ : ∃ z : Int32, z = v2 + 1 := ⟨_, rfl⟩
          replace hw := hw x8 hx8
          refine st_iinc X (v := x8) (lv2 := [(2, .int x8), (1, .int v7), (0, .ref a_t)]) 2 d_M_makersNow_36 rfl (by rw [hx8]; rfl) (by decide) rfl ?_
          refine st_goto X 4 d_M_makersNow_39 (by decide) ?_
          refine st_lv [2, 1, 0] rfl ?_
          exact ih4 v7 x8 hw
        refine st_lcmp_le X 34 d_M_makersNow_17 d_M_makersNow_18 (by decide) (fun hc => ?_) (fun hc => ?_)
        · replace hw := hw.1 hc
          refine st_iload_n X 1 d_M_makersNow_34 rfl rfl ?_
          refine st_lv [0, 1, 2] rfl ?_
          exact J35 v1 hw
        · replace hw := hw.2 hc
          refine st_iload_n X 1 d_M_makersNow_21 rfl rfl ?_
          refine st_iconst X (v := 1) d_M_makersNow_22 (by decide) ?_
          refine st_aload_n X 0 d_M_makersNow_23 rfl rfl ?_
          refine st_get X (ci := 6) in_M 0 22 wf_M_59 rfl rfl (by decide) rfl d_M_makersNow_24 ?_
          refine st_iload_n X 2 d_M_makersNow_27 rfl rfl ?_
          obtain ⟨hb2, hw⟩ := hw
          refine st_iald X 2 rfl hb2 d_M_makersNow_28 ?_
          refine st_ishl X d_M_makersNow_29 ?_
          refine st_ior X d_M_makersNow_30 ?_
          refine st_goto X 35 d_M_makersNow_31 (by decide) ?_
          refine st_lv [0, 1, 2] rfl ?_
          exact J35 (v1 ||| (1 <<< ((m_maker v2.toNatClampNeg) &&& 31))) hw
  obtain ⟨n4, hw⟩ := hw
  refine st_lv [2, 1, 0] rfl ?_
  exact L4 n4 0 1 hw
