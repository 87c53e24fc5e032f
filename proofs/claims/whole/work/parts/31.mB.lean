theorem h9_M_currency : y_M_currency.cls ≠ "java/lang/invoke/MethodHandle" ∧ y_M_currency.cls ≠ "java/lang/invoke/VarHandle" ∧ (parseMethodDescriptor y_M_currency.desc).map (fun d => d.parameters.length) = some 4 := by decide +kernel
def wp_M_currency_J190 (p1 : Int64) (p2 : Int64) (p3 : Int64) (m_days : Nat → Int64) (m_rateAbove : Nat → Int64) (m_rateBelow : Nat → Int64) (v4 : Int32) (v6 : Int32) (Q : Int32 → Int32 → (Nat → Int32) → (Nat → Int64) → (Nat → Int64) → (Nat → Int64) → Prop) (f8 : Nat → Int32) : Prop :=
  vp_in v6 48 ∧
  ∀ f9 : Nat → Int64, f9 = vp_updL m_days v6.toNatClampNeg p1 →
  vp_in v6 48 ∧
  ∀ f10 : Nat → Int64, f10 = vp_updL m_rateAbove v6.toNatClampNeg p2 →
  vp_in v6 48 ∧
  ∀ f11 : Nat → Int64, f11 = vp_updL m_rateBelow v6.toNatClampNeg p3 →
  ((1 : Int32) = 0 ∨ (1 : Int32) = 1) ∧ Q 1 v4 f8 f9 f10 f11
def wp_M_currency_J175 (p0 : Int32) (p1 : Int64) (p2 : Int64) (p3 : Int64) (m_dayCount : Nat → Int32) (m_days : Nat → Int64) (m_rateAbove : Nat → Int64) (m_rateBelow : Nat → Int64) (v4 : Int32) (v6 : Int32) (v7 : Int32) (Q : Int32 → Int32 → (Nat → Int32) → (Nat → Int64) → (Nat → Int64) → (Nat → Int64) → Prop) : Prop :=
  ((¬ v7 = 0) → wp_M_currency_J190 p1 p2 p3 m_days m_rateAbove m_rateBelow v4 v6 Q m_dayCount) ∧
  ((v7 = 0) → vp_in p0 8 ∧
  ∀ x12 : Int32, x12 = (m_dayCount p0.toNatClampNeg) + 1 →
  vp_in p0 8 ∧
  ∀ f13 : Nat → Int32, f13 = upd m_dayCount p0.toNatClampNeg x12 →
  wp_M_currency_J190 p1 p2 p3 m_days m_rateAbove m_rateBelow v4 v6 Q f13)
def wp_M_currency_J173 (m_dayCount : Nat → Int32) (m_days : Nat → Int64) (m_rateAbove : Nat → Int64) (m_rateBelow : Nat → Int64) (v4 : Int32) (Q : Int32 → Int32 → (Nat → Int32) → (Nat → Int64) → (Nat → Int64) → (Nat → Int64) → Prop) : Prop :=
  ((0 : Int32) = 0 ∨ (0 : Int32) = 1) ∧ Q 0 v4 m_dayCount m_days m_rateAbove m_rateBelow
def wp_M_currency_J126 (p0 : Int32) (p1 : Int64) (p2 : Int64) (p3 : Int64) (m_dayCount : Nat → Int32) (m_days : Nat → Int64) (m_rateAbove : Nat → Int64) (m_rateBelow : Nat → Int64) (v4 : Int32) (v6 : Int32) (Q : Int32 → Int32 → (Nat → Int32) → (Nat → Int64) → (Nat → Int64) → (Nat → Int64) → Prop) (v7 : Int32) : Prop :=
  ((v7 = 0) → vp_in p0 8 ∧
  ((¬ (m_dayCount p0.toNatClampNeg) = 6) → wp_M_currency_J175 p0 p1 p2 p3 m_dayCount m_days m_rateAbove m_rateBelow v4 v6 v7 Q) ∧
  (((m_dayCount p0.toNatClampNeg) = 6) → wp_M_currency_J173 m_dayCount m_days m_rateAbove m_rateBelow v4 Q)) ∧
  ((¬ v7 = 0) → vp_in v6 48 ∧
  ((¬ (m_rateAbove v6.toNatClampNeg) = p2) → wp_M_currency_J175 p0 p1 p2 p3 m_dayCount m_days m_rateAbove m_rateBelow v4 v6 v7 Q) ∧
  (((m_rateAbove v6.toNatClampNeg) = p2) → vp_in v6 48 ∧
  ((¬ (m_rateBelow v6.toNatClampNeg) = p3) → wp_M_currency_J175 p0 p1 p2 p3 m_dayCount m_days m_rateAbove m_rateBelow v4 v6 v7 Q) ∧
  (((m_rateBelow v6.toNatClampNeg) = p3) → wp_M_currency_J173 m_dayCount m_days m_rateAbove m_rateBelow v4 Q)))
def wp_M_currency_J105 (p0 : Int32) (p1 : Int64) (p2 : Int64) (p3 : Int64) (m_dayCount : Nat → Int32) (m_days : Nat → Int64) (m_rateAbove : Nat → Int64) (m_rateBelow : Nat → Int64) (v4 : Int32) (v6 : Int32) (Q : Int32 → Int32 → (Nat → Int32) → (Nat → Int64) → (Nat → Int64) → (Nat → Int64) → Prop) : Prop :=
  vp_in p0 8 ∧
  ((((6 * p0) + (m_dayCount p0.toNatClampNeg)) ≤ v6) → wp_M_currency_J126 p0 p1 p2 p3 m_dayCount m_days m_rateAbove m_rateBelow v4 v6 Q 0) ∧
  ((¬ ((6 * p0) + (m_dayCount p0.toNatClampNeg)) ≤ v6) → wp_M_currency_J126 p0 p1 p2 p3 m_dayCount m_days m_rateAbove m_rateBelow v4 v6 Q 1)
def wp_M_currency_L71 (p0 : Int32) (p1 : Int64) (p2 : Int64) (p3 : Int64) (m_dayCount : Nat → Int32) (m_days : Nat → Int64) (m_rateAbove : Nat → Int64) (m_rateBelow : Nat → Int64) (v4 : Int32) (Q : Int32 → Int32 → (Nat → Int32) → (Nat → Int64) → (Nat → Int64) → (Nat → Int64) → Prop) : Nat → Int32 → Prop
  | 0, _ => False
  | n71 + 1, v6 =>
  vp_in p0 8 ∧
  ((((6 * p0) + (m_dayCount p0.toNatClampNeg)) ≤ v6) → wp_M_currency_J105 p0 p1 p2 p3 m_dayCount m_days m_rateAbove m_rateBelow v4 v6 Q) ∧
  ((¬ ((6 * p0) + (m_dayCount p0.toNatClampNeg)) ≤ v6) → vp_in v6 48 ∧
  (((m_days v6.toNatClampNeg) = p1) → wp_M_currency_J105 p0 p1 p2 p3 m_dayCount m_days m_rateAbove m_rateBelow v4 v6 Q) ∧
  ((¬ (m_days v6.toNatClampNeg) = p1) → ∀ x14 : Int32, x14 = v6 + 1 →
  (wp_M_currency_L71 p0 p1 p2 p3 m_dayCount m_days m_rateAbove m_rateBelow v4 Q n71) x14))
def wp_M_currency_J53 (p0 : Int32) (p1 : Int64) (p2 : Int64) (p3 : Int64) (m_dayCount : Nat → Int32) (m_days : Nat → Int64) (m_rateAbove : Nat → Int64) (m_rateBelow : Nat → Int64) (Q : Int32 → Int32 → (Nat → Int32) → (Nat → Int64) → (Nat → Int64) → (Nat → Int64) → Prop) (v4 : Int32) : Prop :=
  ((v4 = 0) → ∀ x5 : Int32, x5 = 6 * p0 →
  ∃ n71 : Nat, wp_M_currency_L71 p0 p1 p2 p3 m_dayCount m_days m_rateAbove m_rateBelow v4 Q n71 x5) ∧
  ((¬ v4 = 0) → ((0 : Int32) = 0 ∨ (0 : Int32) = 1) ∧ Q 0 v4 m_dayCount m_days m_rateAbove m_rateBelow)
def wp_M_currency_J29 (p0 : Int32) (p1 : Int64) (p2 : Int64) (p3 : Int64) (m_dayCount : Nat → Int32) (m_days : Nat → Int64) (m_rateAbove : Nat → Int64) (m_rateBelow : Nat → Int64) (Q : Int32 → Int32 → (Nat → Int32) → (Nat → Int64) → (Nat → Int64) → (Nat → Int64) → Prop) (v2 : Int32) : Prop :=
  wp_M_isMaker p0 (fun r3 =>
  ((¬ r3 = 0) → ((v2 = 0) → wp_M_currency_J53 p0 p1 p2 p3 m_dayCount m_days m_rateAbove m_rateBelow Q 2) ∧
  ((¬ v2 = 0) → wp_M_currency_J53 p0 p1 p2 p3 m_dayCount m_days m_rateAbove m_rateBelow Q 0)) ∧
  ((r3 = 0) → wp_M_currency_J53 p0 p1 p2 p3 m_dayCount m_days m_rateAbove m_rateBelow Q 1))
def wp_M_currency_J28 (p0 : Int32) (p1 : Int64) (p2 : Int64) (p3 : Int64) (m_dayCount : Nat → Int32) (m_days : Nat → Int64) (m_rateAbove : Nat → Int64) (m_rateBelow : Nat → Int64) (Q : Int32 → Int32 → (Nat → Int32) → (Nat → Int64) → (Nat → Int64) → (Nat → Int64) → Prop) : Prop :=
  wp_M_currency_J29 p0 p1 p2 p3 m_dayCount m_days m_rateAbove m_rateBelow Q 0
def wp_M_currency (p0 : Int32) (p1 : Int64) (p2 : Int64) (p3 : Int64) (m_dayCount : Nat → Int32) (m_days : Nat → Int64) (m_rateAbove : Nat → Int64) (m_rateBelow : Nat → Int64) (Q : Int32 → Int32 → (Nat → Int32) → (Nat → Int64) → (Nat → Int64) → (Nat → Int64) → Prop) : Prop :=
  wp_M_within p2 (1 : Int64) (1000 : Int64) (fun r1 =>
  ((r1 = 0) → wp_M_currency_J28 p0 p1 p2 p3 m_dayCount m_days m_rateAbove m_rateBelow Q) ∧
  ((¬ r1 = 0) → wp_M_within p3 (1 : Int64) (1000 : Int64) (fun r15 =>
  ((r15 = 0) → wp_M_currency_J28 p0 p1 p2 p3 m_dayCount m_days m_rateAbove m_rateBelow Q) ∧
  ((¬ r15 = 0) → wp_M_currency_J29 p0 p1 p2 p3 m_dayCount m_days m_rateAbove m_rateBelow Q 1))))
set_option maxHeartbeats 4000000 in
set_option maxRecDepth 100000 in
theorem k_M_currency (g : GX) (hg : g.1.stackTraces = false) (a_t : Nat) (p0 : Int32) (p1 : Int64) (p2 : Int64) (p3 : Int64) (m_thrown : Int32) (m_parts : Int32) (a_m_stepCount : Nat) (a_m_froms : Nat) (a_m_cents : Nat) (a_m_uses : Nat) (a_m_stocks : Nat) (a_m_alternates : Nat) (a_m_assemblies : Nat) (a_m_placings : Nat) (m_yields : Int32) (a_m_yieldAbove : Nat) (a_m_yieldBelow : Nat) (a_m_dayCount : Nat) (a_m_days : Nat) (a_m_rateAbove : Nat) (a_m_rateBelow : Nat) (m_tools : Int64) (m_can : Int32) (m_sum : Int64) (a_m_costs : Nat) (a_m_pieces : Nat) (a_m_maker : Nat) (a_m_partOf : Nat) (m_ran : Int32) (m_keptRows : Int32) (a_m_keptCosts : Nat) (a_m_keptPieces : Nat) (a_m_keptMaker : Nat) (a_m_keptPart : Nat) (a_m_oldCosts : Nat) (m_dayCount : Nat → Int32) (m_days : Nat → Int64) (m_rateAbove : Nat → Int64) (m_rateBelow : Nat → Int64) (Q : Int32 → Int32 → (Nat → Int32) → (Nat → Int64) → (Nat → Int64) → (Nat → Int64) → Prop) (hw : wp_M_currency p0 p1 p2 p3 m_dayCount m_days m_rateAbove m_rateBelow Q) : CT g y_M_currency c_M_currency 11 (some .boolean) ({ frames := 1, cells := 0, slots := 0, locals := 25 } : Room) [.ref a_t, .int p0, .long p1, .long p2, .long p3] [(a_t, .inr (6, [.int m_thrown, .int m_parts, .ref a_m_stepCount, .ref a_m_froms, .ref a_m_cents, .ref a_m_uses, .ref a_m_stocks, .ref a_m_alternates, .ref a_m_assemblies, .ref a_m_placings, .int m_yields, .ref a_m_yieldAbove, .ref a_m_yieldBelow, .ref a_m_dayCount, .ref a_m_days, .ref a_m_rateAbove, .ref a_m_rateBelow, .long m_tools, .int m_can, .long m_sum, .ref a_m_costs, .ref a_m_pieces, .ref a_m_maker, .ref a_m_partOf, .int m_ran, .int m_keptRows, .ref a_m_keptCosts, .ref a_m_keptPieces, .ref a_m_keptMaker, .ref a_m_keptPart, .ref a_m_oldCosts])), aI g a_m_dayCount 8 m_dayCount, aJ g a_m_days 48 m_days, aJ g a_m_rateAbove 48 m_rateAbove, aJ g a_m_rateBelow 48 m_rateBelow] (QI g [(a_t, .inr (6, [.int m_thrown, .int m_parts, .ref a_m_stepCount, .ref a_m_froms, .ref a_m_cents, .ref a_m_uses, .ref a_m_stocks, .ref a_m_alternates, .ref a_m_assemblies, .ref a_m_placings, .int m_yields, .ref a_m_yieldAbove, .ref a_m_yieldBelow, .ref a_m_dayCount, .ref a_m_days, .ref a_m_rateAbove, .ref a_m_rateBelow, .long m_tools, .int m_can, .long m_sum, .ref a_m_costs, .ref a_m_pieces, .ref a_m_maker, .ref a_m_partOf, .int m_ran, .int m_keptRows, .ref a_m_keptCosts, .ref a_m_keptPieces, .ref a_m_keptMaker, .ref a_m_keptPart, .ref a_m_oldCosts])), aI g a_m_dayCount 8 m_dayCount, aJ g a_m_days 48 m_days, aJ g a_m_rateAbove 48 m_rateAbove, aJ g a_m_rateBelow 48 m_rateBelow] (fun u : Int32 × (Nat → Int32) × (Nat → Int64) × (Nat → Int64) × (Nat → Int64) => [(a_t, .inr (6, [.int u.1, .int m_parts, .ref a_m_stepCount, .ref a_m_froms, .ref a_m_cents, .ref a_m_uses, .ref a_m_stocks, .ref a_m_alternates, .ref a_m_assemblies, .ref a_m_placings, .int m_yields, .ref a_m_yieldAbove, .ref a_m_yieldBelow, .ref a_m_dayCount, .ref a_m_days, .ref a_m_rateAbove, .ref a_m_rateBelow, .long m_tools, .int m_can, .long m_sum, .ref a_m_costs, .ref a_m_pieces, .ref a_m_maker, .ref a_m_partOf, .int m_ran, .int m_keptRows, .ref a_m_keptCosts, .ref a_m_keptPieces, .ref a_m_keptMaker, .ref a_m_keptPart, .ref a_m_oldCosts])), aI g a_m_dayCount 8 u.2.1, aJ g a_m_days 48 u.2.2.1, aJ g a_m_rateAbove 48 u.2.2.2.1, aJ g a_m_rateBelow 48 u.2.2.2.2]) (fun r u => Q r u.1 u.2.1 u.2.2.1 u.2.2.2.1 u.2.2.2.2)) := by
  refine ct_of hg (by decide) (Nat.le_of_ble_eq_true rfl) (fun sz C X hr => ?_)
  unfold wp_M_currency at hw
  show ST g C [(a_t, .inr (6, [.int m_thrown, .int m_parts, .ref a_m_stepCount, .ref a_m_froms, .ref a_m_cents, .ref a_m_uses, .ref a_m_stocks, .ref a_m_alternates, .ref a_m_assemblies, .ref a_m_placings, .int m_yields, .ref a_m_yieldAbove, .ref a_m_yieldBelow, .ref a_m_dayCount, .ref a_m_days, .ref a_m_rateAbove, .ref a_m_rateBelow, .long m_tools, .int m_can, .long m_sum, .ref a_m_costs, .ref a_m_pieces, .ref a_m_maker, .ref a_m_partOf, .int m_ran, .int m_keptRows, .ref a_m_keptCosts, .ref a_m_keptPieces, .ref a_m_keptMaker, .ref a_m_keptPart, .ref a_m_oldCosts])), aI g a_m_dayCount 8 m_dayCount, aJ g a_m_days 48 m_days, aJ g a_m_rateAbove 48 m_rateAbove, aJ g a_m_rateBelow 48 m_rateBelow] [(0, .ref a_t), (1, .int p0), (2, .long p1), (4, .long p2), (6, .long p3)] [] 0 0 0
  refine st_lload X 3 d_M_currency_0 rfl ?_
  refine st_lconst X (v := 1) d_M_currency_2 (by decide) ?_
  refine st_ldc2 X wv_M_106 d_M_currency_3 ?_
  have hR := rn_S (pc := 6) (k := 0) (n := 0) (As := [.long p2, .long 1, .long 1000]) (rest := []) X (k_M_within g hg p2 (1 : Int64) (1000 : Int64) _ hw) wm_M_89 ws_M_within wz_M wc_M_within h9_M_within ⟨by decide, by decide⟩ (Nat.le_of_ble_eq_true rfl) ⟨by decide, by decide⟩ d_M_currency_6
  refine st_calli X hR [] [0, 1, 2, 3, 4] (wr := [(a_t, .inr (6, [.int m_thrown, .int m_parts, .ref a_m_stepCount, .ref a_m_froms, .ref a_m_cents, .ref a_m_uses, .ref a_m_stocks, .ref a_m_alternates, .ref a_m_assemblies, .ref a_m_placings, .int m_yields, .ref a_m_yieldAbove, .ref a_m_yieldBelow, .ref a_m_dayCount, .ref a_m_days, .ref a_m_rateAbove, .ref a_m_rateBelow, .long m_tools, .int m_can, .long m_sum, .ref a_m_costs, .ref a_m_pieces, .ref a_m_maker, .ref a_m_partOf, .int m_ran, .int m_keptRows, .ref a_m_keptCosts, .ref a_m_keptPieces, .ref a_m_keptMaker, .ref a_m_keptPart, .ref a_m_oldCosts])), aI g a_m_dayCount 8 m_dayCount, aJ g a_m_days 48 m_days, aJ g a_m_rateAbove 48 m_rateAbove, aJ g a_m_rateBelow 48 m_rateBelow]) rfl rfl (by decide) (by decide) (by decide) (fun r1 u9 hw => ?_)
  try dsimp only at hw
  refine st_widen (k2 := 0) (n2 := 0) (by decide) (by decide) ?_
  refine st_perm (ws2 := [(a_t, .inr (6, [.int m_thrown, .int m_parts, .ref a_m_stepCount, .ref a_m_froms, .ref a_m_cents, .ref a_m_uses, .ref a_m_stocks, .ref a_m_alternates, .ref a_m_assemblies, .ref a_m_placings, .int m_yields, .ref a_m_yieldAbove, .ref a_m_yieldBelow, .ref a_m_dayCount, .ref a_m_days, .ref a_m_rateAbove, .ref a_m_rateBelow, .long m_tools, .int m_can, .long m_sum, .ref a_m_costs, .ref a_m_pieces, .ref a_m_maker, .ref a_m_partOf, .int m_ran, .int m_keptRows, .ref a_m_keptCosts, .ref a_m_keptPieces, .ref a_m_keptMaker, .ref a_m_keptPart, .ref a_m_oldCosts])), aI g a_m_dayCount 8 m_dayCount, aJ g a_m_days 48 m_days, aJ g a_m_rateAbove 48 m_rateAbove, aJ g a_m_rateBelow 48 m_rateBelow]) [0, 1, 2, 3, 4] rfl (by decide) ?_
  show ST g C [(a_t, .inr (6, [.int m_thrown, .int m_parts, .ref a_m_stepCount, .ref a_m_froms, .ref a_m_cents, .ref a_m_uses, .ref a_m_stocks, .ref a_m_alternates, .ref a_m_assemblies, .ref a_m_placings, .int m_yields, .ref a_m_yieldAbove, .ref a_m_yieldBelow, .ref a_m_dayCount, .ref a_m_days, .ref a_m_rateAbove, .ref a_m_rateBelow, .long m_tools, .int m_can, .long m_sum, .ref a_m_costs, .ref a_m_pieces, .ref a_m_maker, .ref a_m_partOf, .int m_ran, .int m_keptRows, .ref a_m_keptCosts, .ref a_m_keptPieces, .ref a_m_keptMaker, .ref a_m_keptPart, .ref a_m_oldCosts])), aI g a_m_dayCount 8 m_dayCount, aJ g a_m_days 48 m_days, aJ g a_m_rateAbove 48 m_rateAbove, aJ g a_m_rateBelow 48 m_rateBelow] [(0, .ref a_t), (1, .int p0), (2, .long p1), (4, .long p2), (6, .long p3)] [.int r1] 9 0 0
  have J29 : ∀ (v2 : Int32), wp_M_currency_J29 p0 p1 p2 p3 m_dayCount m_days m_rateAbove m_rateBelow Q v2 → ST g C [(a_t, .inr (6, [.int m_thrown, .int m_parts, .ref a_m_stepCount, .ref a_m_froms, .ref a_m_cents, .ref a_m_uses, .ref a_m_stocks, .ref a_m_alternates, .ref a_m_assemblies, .ref a_m_placings, .int m_yields, .ref a_m_yieldAbove, .ref a_m_yieldBelow, .ref a_m_dayCount, .ref a_m_days, .ref a_m_rateAbove, .ref a_m_rateBelow, .long m_tools, .int m_can, .long m_sum, .ref a_m_costs, .ref a_m_pieces, .ref a_m_maker, .ref a_m_partOf, .int m_ran, .int m_keptRows, .ref a_m_keptCosts, .ref a_m_keptPieces, .ref a_m_keptMaker, .ref a_m_keptPart, .ref a_m_oldCosts])), aI g a_m_dayCount 8 m_dayCount, aJ g a_m_days 48 m_days, aJ g a_m_rateAbove 48 m_rateAbove, aJ g a_m_rateBelow 48 m_rateBelow] [(0, .ref a_t), (1, .int p0), (2, .long p1), (4, .long p2), (6, .long p3)] [.int v2] 29 0 0 := by
    intro v2 hw
    unfold wp_M_currency_J29 at hw
    refine st_istore X (lv2 := [(8, .int v2), (0, .ref a_t), (1, .int p0), (2, .long p1), (4, .long p2), (6, .long p3)]) d_M_currency_29 (by decide) rfl ?_
    refine st_aload_n X 1 d_M_currency_31 rfl rfl ?_
    refine st_iload_n X 2 d_M_currency_32 rfl rfl ?_
    have hR := rn_S (pc := 33) (k := 0) (n := 0) (As := [.int p0]) (rest := [.ref a_t]) X (k_M_isMaker g hg p0 _ hw) wm_M_99 ws_M_isMaker wz_M wc_M_isMaker h9_M_isMaker ⟨by decide, by decide⟩ (Nat.le_of_ble_eq_true rfl) ⟨by decide, by decide⟩ d_M_currency_33
    refine st_calli X hR [] [0, 1, 2, 3, 4] (wr := [(a_t, .inr (6, [.int m_thrown, .int m_parts, .ref a_m_stepCount, .ref a_m_froms, .ref a_m_cents, .ref a_m_uses, .ref a_m_stocks, .ref a_m_alternates, .ref a_m_assemblies, .ref a_m_placings, .int m_yields, .ref a_m_yieldAbove, .ref a_m_yieldBelow, .ref a_m_dayCount, .ref a_m_days, .ref a_m_rateAbove, .ref a_m_rateBelow, .long m_tools, .int m_can, .long m_sum, .ref a_m_costs, .ref a_m_pieces, .ref a_m_maker, .ref a_m_partOf, .int m_ran, .int m_keptRows, .ref a_m_keptCosts, .ref a_m_keptPieces, .ref a_m_keptMaker, .ref a_m_keptPart, .ref a_m_oldCosts])), aI g a_m_dayCount 8 m_dayCount, aJ g a_m_days 48 m_days, aJ g a_m_rateAbove 48 m_rateAbove, aJ g a_m_rateBelow 48 m_rateBelow]) rfl rfl (by decide) (by decide) (by decide) (fun r3 u9 hw => ?_)
    try dsimp only at hw
    refine st_widen (k2 := 0) (n2 := 0) (by decide) (by decide) ?_
    refine st_perm (ws2 := [(a_t, .inr (6, [.int m_thrown, .int m_parts, .ref a_m_stepCount, .ref a_m_froms, .ref a_m_cents, .ref a_m_uses, .ref a_m_stocks, .ref a_m_alternates, .ref a_m_assemblies, .ref a_m_placings, .int m_yields, .ref a_m_yieldAbove, .ref a_m_yieldBelow, .ref a_m_dayCount, .ref a_m_days, .ref a_m_rateAbove, .ref a_m_rateBelow, .long m_tools, .int m_can, .long m_sum, .ref a_m_costs, .ref a_m_pieces, .ref a_m_maker, .ref a_m_partOf, .int m_ran, .int m_keptRows, .ref a_m_keptCosts, .ref a_m_keptPieces, .ref a_m_keptMaker, .ref a_m_keptPart, .ref a_m_oldCosts])), aI g a_m_dayCount 8 m_dayCount, aJ g a_m_days 48 m_days, aJ g a_m_rateAbove 48 m_rateAbove, aJ g a_m_rateBelow 48 m_rateBelow]) [0, 1, 2, 3, 4] rfl (by decide) ?_
    show ST g C [(a_t, .inr (6, [.int m_thrown, .int m_parts, .ref a_m_stepCount, .ref a_m_froms, .ref a_m_cents, .ref a_m_uses, .ref a_m_stocks, .ref a_m_alternates, .ref a_m_assemblies, .ref a_m_placings, .int m_yields, .ref a_m_yieldAbove, .ref a_m_yieldBelow, .ref a_m_dayCount, .ref a_m_days, .ref a_m_rateAbove, .ref a_m_rateBelow, .long m_tools, .int m_can, .long m_sum, .ref a_m_costs, .ref a_m_pieces, .ref a_m_maker, .ref a_m_partOf, .int m_ran, .int m_keptRows, .ref a_m_keptCosts, .ref a_m_keptPieces, .ref a_m_keptMaker, .ref a_m_keptPart, .ref a_m_oldCosts])), aI g a_m_dayCount 8 m_dayCount, aJ g a_m_days 48 m_days, aJ g a_m_rateAbove 48 m_rateAbove, aJ g a_m_rateBelow 48 m_rateBelow] [(8, .int v2), (0, .ref a_t), (1, .int p0), (2, .long p1), (4, .long p2), (6, .long p3)] [.int r3, .ref a_t] 36 0 0
    have J53 : ∀ (v4 : Int32), wp_M_currency_J53 p0 p1 p2 p3 m_dayCount m_days m_rateAbove m_rateBelow Q v4 → ST g C [(a_t, .inr (6, [.int m_thrown, .int m_parts, .ref a_m_stepCount, .ref a_m_froms, .ref a_m_cents, .ref a_m_uses, .ref a_m_stocks, .ref a_m_alternates, .ref a_m_assemblies, .ref a_m_placings, .int m_yields, .ref a_m_yieldAbove, .ref a_m_yieldBelow, .ref a_m_dayCount, .ref a_m_days, .ref a_m_rateAbove, .ref a_m_rateBelow, .long m_tools, .int m_can, .long m_sum, .ref a_m_costs, .ref a_m_pieces, .ref a_m_maker, .ref a_m_partOf, .int m_ran, .int m_keptRows, .ref a_m_keptCosts, .ref a_m_keptPieces, .ref a_m_keptMaker, .ref a_m_keptPart, .ref a_m_oldCosts])), aI g a_m_dayCount 8 m_dayCount, aJ g a_m_days 48 m_days, aJ g a_m_rateAbove 48 m_rateAbove, aJ g a_m_rateBelow 48 m_rateBelow] [(0, .ref a_t), (1, .int p0), (2, .long p1), (4, .long p2), (6, .long p3), (8, .int v2)] [.int v4, .ref a_t] 53 0 0 := by
      intro v4 hw
      unfold wp_M_currency_J53 at hw
      refine st_put X (ci := 6) (ty := .int) in_M t_M to_M nm_M 0 0 wf_M_80 rfl rfl (by decide) rfl (by decide +kernel) rfl rfl (Nat.le_of_ble_eq_true rfl) (ws2 := [(a_t, .inr (6, [.int v4, .int m_parts, .ref a_m_stepCount, .ref a_m_froms, .ref a_m_cents, .ref a_m_uses, .ref a_m_stocks, .ref a_m_alternates, .ref a_m_assemblies, .ref a_m_placings, .int m_yields, .ref a_m_yieldAbove, .ref a_m_yieldBelow, .ref a_m_dayCount, .ref a_m_days, .ref a_m_rateAbove, .ref a_m_rateBelow, .long m_tools, .int m_can, .long m_sum, .ref a_m_costs, .ref a_m_pieces, .ref a_m_maker, .ref a_m_partOf, .int m_ran, .int m_keptRows, .ref a_m_keptCosts, .ref a_m_keptPieces, .ref a_m_keptMaker, .ref a_m_keptPart, .ref a_m_oldCosts])), aI g a_m_dayCount 8 m_dayCount, aJ g a_m_days 48 m_days, aJ g a_m_rateAbove 48 m_rateAbove, aJ g a_m_rateBelow 48 m_rateBelow]) rfl d_M_currency_53 ?_
      refine st_aload_n X 0 d_M_currency_56 rfl rfl ?_
      refine st_get X (ci := 6) in_M 0 0 wf_M_80 rfl rfl (by decide) rfl d_M_currency_57 ?_
      refine st_if_eq X 65 d_M_currency_60 (by decide) (fun hc => ?_) (fun hc => ?_)
      · replace hw := hw.1 hc
        refine st_bipush X (v := 6) d_M_currency_65 (by decide) ?_
        refine st_iload_n X 1 d_M_currency_67 rfl rfl ?_
        refine st_imul X d_M_currency_68 ?_
        refine st_topi (fun x5 hx5 => ?_)
        replace hw := hw x5 hx5
        refine st_istore X (lv2 := [(9, .int x5), (0, .ref a_t), (1, .int p0), (2, .long p1), (4, .long p2), (6, .long p3), (8, .int v2)]) d_M_currency_69 (by decide) rfl ?_
        have L71 : ∀ (n71 : Nat) (v6 : Int32), wp_M_currency_L71 p0 p1 p2 p3 m_dayCount m_days m_rateAbove m_rateBelow v4 Q n71 v6 → ST g C [(a_t, .inr (6, [.int v4, .int m_parts, .ref a_m_stepCount, .ref a_m_froms, .ref a_m_cents, .ref a_m_uses, .ref a_m_stocks, .ref a_m_alternates, .ref a_m_assemblies, .ref a_m_placings, .int m_yields, .ref a_m_yieldAbove, .ref a_m_yieldBelow, .ref a_m_dayCount, .ref a_m_days, .ref a_m_rateAbove, .ref a_m_rateBelow, .long m_tools, .int m_can, .long m_sum, .ref a_m_costs, .ref a_m_pieces, .ref a_m_maker, .ref a_m_partOf, .int m_ran, .int m_keptRows, .ref a_m_keptCosts, .ref a_m_keptPieces, .ref a_m_keptMaker, .ref a_m_keptPart, .ref a_m_oldCosts])), aI g a_m_dayCount 8 m_dayCount, aJ g a_m_days 48 m_days, aJ g a_m_rateAbove 48 m_rateAbove, aJ g a_m_rateBelow 48 m_rateBelow] [(0, .ref a_t), (1, .int p0), (2, .long p1), (4, .long p2), (6, .long p3), (8, .int v2), (9, .int v6)] [] 71 0 0 := by
          intro n71
          induction n71 with
          | zero => intro v6 hw; exact hw.elim
          | succ n71 ih71 =>
            intro v6 hw
            rw [wp_M_currency_L71] at hw
            refine st_iload X 6 d_M_currency_71 rfl ?_
            refine st_bipush X (v := 6) d_M_currency_73 (by decide) ?_
            refine st_iload_n X 1 d_M_currency_75 rfl rfl ?_
            refine st_imul X d_M_currency_76 ?_
            refine st_aload_n X 0 d_M_currency_77 rfl rfl ?_
            refine st_get X (ci := 6) in_M 0 13 wf_M_41 rfl rfl (by decide) rfl d_M_currency_78 ?_
            refine st_iload_n X 1 d_M_currency_81 rfl rfl ?_
            obtain ⟨hb1, hw⟩ := hw
            refine st_iald X 1 rfl hb1 d_M_currency_82 ?_
            refine st_iadd X d_M_currency_83 ?_
            have J105 : wp_M_currency_J105 p0 p1 p2 p3 m_dayCount m_days m_rateAbove m_rateBelow v4 v6 Q → ST g C [(a_t, .inr (6, [.int v4, .int m_parts, .ref a_m_stepCount, .ref a_m_froms, .ref a_m_cents, .ref a_m_uses, .ref a_m_stocks, .ref a_m_alternates, .ref a_m_assemblies, .ref a_m_placings, .int m_yields, .ref a_m_yieldAbove, .ref a_m_yieldBelow, .ref a_m_dayCount, .ref a_m_days, .ref a_m_rateAbove, .ref a_m_rateBelow, .long m_tools, .int m_can, .long m_sum, .ref a_m_costs, .ref a_m_pieces, .ref a_m_maker, .ref a_m_partOf, .int m_ran, .int m_keptRows, .ref a_m_keptCosts, .ref a_m_keptPieces, .ref a_m_keptMaker, .ref a_m_keptPart, .ref a_m_oldCosts])), aI g a_m_dayCount 8 m_dayCount, aJ g a_m_days 48 m_days, aJ g a_m_rateAbove 48 m_rateAbove, aJ g a_m_rateBelow 48 m_rateBelow] [(0, .ref a_t), (1, .int p0), (2, .long p1), (4, .long p2), (6, .long p3), (8, .int v2), (9, .int v6)] [] 105 0 0 := by
              intro hw
              unfold wp_M_currency_J105 at hw
              refine st_iload X 6 d_M_currency_105 rfl ?_
              refine st_bipush X (v := 6) d_M_currency_107 (by decide) ?_
              refine st_iload_n X 1 d_M_currency_109 rfl rfl ?_
              refine st_imul X d_M_currency_110 ?_
              refine st_aload_n X 0 d_M_currency_111 rfl rfl ?_
              refine st_get X (ci := 6) in_M 0 13 wf_M_41 rfl rfl (by decide) rfl d_M_currency_112 ?_
              refine st_iload_n X 1 d_M_currency_115 rfl rfl ?_
              obtain ⟨hb2, hw⟩ := hw
              refine st_iald X 1 rfl hb2 d_M_currency_116 ?_
              refine st_iadd X d_M_currency_117 ?_
              have J126 : ∀ (v7 : Int32), wp_M_currency_J126 p0 p1 p2 p3 m_dayCount m_days m_rateAbove m_rateBelow v4 v6 Q v7 → ST g C [(a_t, .inr (6, [.int v4, .int m_parts, .ref a_m_stepCount, .ref a_m_froms, .ref a_m_cents, .ref a_m_uses, .ref a_m_stocks, .ref a_m_alternates, .ref a_m_assemblies, .ref a_m_placings, .int m_yields, .ref a_m_yieldAbove, .ref a_m_yieldBelow, .ref a_m_dayCount, .ref a_m_days, .ref a_m_rateAbove, .ref a_m_rateBelow, .long m_tools, .int m_can, .long m_sum, .ref a_m_costs, .ref a_m_pieces, .ref a_m_maker, .ref a_m_partOf, .int m_ran, .int m_keptRows, .ref a_m_keptCosts, .ref a_m_keptPieces, .ref a_m_keptMaker, .ref a_m_keptPart, .ref a_m_oldCosts])), aI g a_m_dayCount 8 m_dayCount, aJ g a_m_days 48 m_days, aJ g a_m_rateAbove 48 m_rateAbove, aJ g a_m_rateBelow 48 m_rateBelow] [(0, .ref a_t), (1, .int p0), (2, .long p1), (4, .long p2), (6, .long p3), (8, .int v2), (9, .int v6)] [.int v7] 126 0 0 := by
                intro v7 hw
                unfold wp_M_currency_J126 at hw
                refine st_istore X (lv2 := [(10, .int v7), (0, .ref a_t), (1, .int p0), (2, .long p1), (4, .long p2), (6, .long p3), (8, .int v2), (9, .int v6)]) d_M_currency_126 (by decide) rfl ?_
                refine st_iload X 0 d_M_currency_128 rfl ?_
                have J175 : wp_M_currency_J175 p0 p1 p2 p3 m_dayCount m_days m_rateAbove m_rateBelow v4 v6 v7 Q → ST g C [(a_t, .inr (6, [.int v4, .int m_parts, .ref a_m_stepCount, .ref a_m_froms, .ref a_m_cents, .ref a_m_uses, .ref a_m_stocks, .ref a_m_alternates, .ref a_m_assemblies, .ref a_m_placings, .int m_yields, .ref a_m_yieldAbove, .ref a_m_yieldBelow, .ref a_m_dayCount, .ref a_m_days, .ref a_m_rateAbove, .ref a_m_rateBelow, .long m_tools, .int m_can, .long m_sum, .ref a_m_costs, .ref a_m_pieces, .ref a_m_maker, .ref a_m_partOf, .int m_ran, .int m_keptRows, .ref a_m_keptCosts, .ref a_m_keptPieces, .ref a_m_keptMaker, .ref a_m_keptPart, .ref a_m_oldCosts])), aI g a_m_dayCount 8 m_dayCount, aJ g a_m_days 48 m_days, aJ g a_m_rateAbove 48 m_rateAbove, aJ g a_m_rateBelow 48 m_rateBelow] [(0, .ref a_t), (1, .int p0), (2, .long p1), (4, .long p2), (6, .long p3), (8, .int v2), (9, .int v6), (10, .int v7)] [] 175 0 0 := by
                  intro hw
                  unfold wp_M_currency_J175 at hw
                  refine st_iload X 7 d_M_currency_175 rfl ?_
                  have J190 : ∀ (f8 : Nat → Int32), wp_M_currency_J190 p1 p2 p3 m_days m_rateAbove m_rateBelow v4 v6 Q f8 → ST g C [(a_t, .inr (6, [.int v4, .int m_parts, .ref a_m_stepCount, .ref a_m_froms, .ref a_m_cents, .ref a_m_uses, .ref a_m_stocks, .ref a_m_alternates, .ref a_m_assemblies, .ref a_m_placings, .int m_yields, .ref a_m_yieldAbove, .ref a_m_yieldBelow, .ref a_m_dayCount, .ref a_m_days, .ref a_m_rateAbove, .ref a_m_rateBelow, .long m_tools, .int m_can, .long m_sum, .ref a_m_costs, .ref a_m_pieces, .ref a_m_maker, .ref a_m_partOf, .int m_ran, .int m_keptRows, .ref a_m_keptCosts, .ref a_m_keptPieces, .ref a_m_keptMaker, .ref a_m_keptPart, .ref a_m_oldCosts])), aI g a_m_dayCount 8 f8, aJ g a_m_days 48 m_days, aJ g a_m_rateAbove 48 m_rateAbove, aJ g a_m_rateBelow 48 m_rateBelow] [(0, .ref a_t), (1, .int p0), (2, .long p1), (4, .long p2), (6, .long p3), (8, .int v2), (9, .int v6), (10, .int v7)] [] 190 0 0 := by
                    intro f8 hw
                    unfold wp_M_currency_J190 at hw
                    refine st_aload_n X 0 d_M_currency_190 rfl rfl ?_
                    refine st_get X (ci := 6) in_M 0 14 wf_M_44 rfl rfl (by decide) rfl d_M_currency_191 ?_
                    refine st_iload X 6 d_M_currency_194 rfl ?_
                    refine st_lload_n X 2 d_M_currency_196 rfl rfl ?_
                    obtain ⟨hb3, hw⟩ := hw
                    obtain ⟨f9, hf9⟩ : ∃ z : Nat → Int64, z = vp_updL m_days v6.toNatClampNeg p1 := ⟨_, rfl⟩
                    replace hw := hw f9 hf9
                    refine st_last X (ws2 := [(a_t, .inr (6, [.int v4, .int m_parts, .ref a_m_stepCount, .ref a_m_froms, .ref a_m_cents, .ref a_m_uses, .ref a_m_stocks, .ref a_m_alternates, .ref a_m_assemblies, .ref a_m_placings, .int m_yields, .ref a_m_yieldAbove, .ref a_m_yieldBelow, .ref a_m_dayCount, .ref a_m_days, .ref a_m_rateAbove, .ref a_m_rateBelow, .long m_tools, .int m_can, .long m_sum, .ref a_m_costs, .ref a_m_pieces, .ref a_m_maker, .ref a_m_partOf, .int m_ran, .int m_keptRows, .ref a_m_keptCosts, .ref a_m_keptPieces, .ref a_m_keptMaker, .ref a_m_keptPart, .ref a_m_oldCosts])), aI g a_m_dayCount 8 f8, aJ g a_m_days 48 f9, aJ g a_m_rateAbove 48 m_rateAbove, aJ g a_m_rateBelow 48 m_rateBelow]) 2 rfl hb3 (by rw [hf9]; rfl) d_M_currency_197 ?_
                    refine st_aload_n X 0 d_M_currency_198 rfl rfl ?_
                    refine st_get X (ci := 6) in_M 0 15 wf_M_47 rfl rfl (by decide) rfl d_M_currency_199 ?_
                    refine st_iload X 6 d_M_currency_202 rfl ?_
                    refine st_lload X 3 d_M_currency_204 rfl ?_
                    obtain ⟨hb4, hw⟩ := hw
                    obtain ⟨f10, hf10⟩ : ∃ z : Nat → Int64, z = vp_updL m_rateAbove v6.toNatClampNeg p2 := ⟨_, rfl⟩
                    replace hw := hw f10 hf10
                    refine st_last X (ws2 := [(a_t, .inr (6, [.int v4, .int m_parts, .ref a_m_stepCount, .ref a_m_froms, .ref a_m_cents, .ref a_m_uses, .ref a_m_stocks, .ref a_m_alternates, .ref a_m_assemblies, .ref a_m_placings, .int m_yields, .ref a_m_yieldAbove, .ref a_m_yieldBelow, .ref a_m_dayCount, .ref a_m_days, .ref a_m_rateAbove, .ref a_m_rateBelow, .long m_tools, .int m_can, .long m_sum, .ref a_m_costs, .ref a_m_pieces, .ref a_m_maker, .ref a_m_partOf, .int m_ran, .int m_keptRows, .ref a_m_keptCosts, .ref a_m_keptPieces, .ref a_m_keptMaker, .ref a_m_keptPart, .ref a_m_oldCosts])), aI g a_m_dayCount 8 f8, aJ g a_m_days 48 f9, aJ g a_m_rateAbove 48 f10, aJ g a_m_rateBelow 48 m_rateBelow]) 3 rfl hb4 (by rw [hf10]; rfl) d_M_currency_206 ?_
                    refine st_aload_n X 0 d_M_currency_207 rfl rfl ?_
                    refine st_get X (ci := 6) in_M 0 16 wf_M_50 rfl rfl (by decide) rfl d_M_currency_208 ?_
                    refine st_iload X 6 d_M_currency_211 rfl ?_
                    refine st_lload X 4 d_M_currency_213 rfl ?_
                    obtain ⟨hb5, hw⟩ := hw
                    obtain ⟨f11, hf11⟩ : ∃ z : Nat → Int64, z = vp_updL m_rateBelow v6.toNatClampNeg p3 := ⟨_, rfl⟩
                    replace hw := hw f11 hf11
                    refine st_last X (ws2 := [(a_t, .inr (6, [.int v4, .int m_parts, .ref a_m_stepCount, .ref a_m_froms, .ref a_m_cents, .ref a_m_uses, .ref a_m_stocks, .ref a_m_alternates, .ref a_m_assemblies, .ref a_m_placings, .int m_yields, .ref a_m_yieldAbove, .ref a_m_yieldBelow, .ref a_m_dayCount, .ref a_m_days, .ref a_m_rateAbove, .ref a_m_rateBelow, .long m_tools, .int m_can, .long m_sum, .ref a_m_costs, .ref a_m_pieces, .ref a_m_maker, .ref a_m_partOf, .int m_ran, .int m_keptRows, .ref a_m_keptCosts, .ref a_m_keptPieces, .ref a_m_keptMaker, .ref a_m_keptPart, .ref a_m_oldCosts])), aI g a_m_dayCount 8 f8, aJ g a_m_days 48 f9, aJ g a_m_rateAbove 48 f10, aJ g a_m_rateBelow 48 f11]) 4 rfl hb5 (by rw [hf11]; rfl) d_M_currency_215 ?_
                    refine st_iconst X (v := 1) d_M_currency_216 (by decide) ?_
                    obtain ⟨hz, hw⟩ := hw
                    exact st_zret X hr (v4, f8, f9, f10, f11) hw hz rfl (by decide) (by decide) d_M_currency_217
                  refine st_if_ne X 190 d_M_currency_177 (by decide) (fun hc => ?_) (fun hc => ?_)
                  · replace hw := hw.1 hc
                    refine st_lv [0, 1, 2, 3, 4, 5, 6, 7] rfl ?_
                    exact J190 m_dayCount hw
                  · replace hw := hw.2 hc
                    refine st_aload_n X 0 d_M_currency_180 rfl rfl ?_
                    refine st_get X (ci := 6) in_M 0 13 wf_M_41 rfl rfl (by decide) rfl d_M_currency_181 ?_
                    refine st_iload_n X 1 d_M_currency_184 rfl rfl ?_
                    refine st_dup2_11 X d_M_currency_185 rfl rfl ?_
                    obtain ⟨hb6, hw⟩ := hw
                    refine st_iald X 1 rfl hb6 d_M_currency_186 ?_
                    refine st_iconst X (v := 1) d_M_currency_187 (by decide) ?_
                    refine st_iadd X d_M_currency_188 ?_
                    refine st_topi (fun x12 hx12 => ?_)
                    replace hw := hw x12 hx12
                    obtain ⟨hb7, hw⟩ := hw
                    obtain ⟨f13, hf13⟩ : ∃ z : Nat → Int32, z = upd m_dayCount p0.toNatClampNeg x12 := ⟨_, rfl⟩
                    replace hw := hw f13 hf13
                    refine st_iast X (ws2 := [(a_t, .inr (6, [.int v4, .int m_parts, .ref a_m_stepCount, .ref a_m_froms, .ref a_m_cents, .ref a_m_uses, .ref a_m_stocks, .ref a_m_alternates, .ref a_m_assemblies, .ref a_m_placings, .int m_yields, .ref a_m_yieldAbove, .ref a_m_yieldBelow, .ref a_m_dayCount, .ref a_m_days, .ref a_m_rateAbove, .ref a_m_rateBelow, .long m_tools, .int m_can, .long m_sum, .ref a_m_costs, .ref a_m_pieces, .ref a_m_maker, .ref a_m_partOf, .int m_ran, .int m_keptRows, .ref a_m_keptCosts, .ref a_m_keptPieces, .ref a_m_keptMaker, .ref a_m_keptPart, .ref a_m_oldCosts])), aI g a_m_dayCount 8 f13, aJ g a_m_days 48 m_days, aJ g a_m_rateAbove 48 m_rateAbove, aJ g a_m_rateBelow 48 m_rateBelow]) 1 rfl hb7 (by rw [hf13]; rfl) d_M_currency_189 ?_
                    refine st_lv [0, 1, 2, 3, 4, 5, 6, 7] rfl ?_
                    exact J190 f13 hw
                have J173 : wp_M_currency_J173 m_dayCount m_days m_rateAbove m_rateBelow v4 Q → ST g C [(a_t, .inr (6, [.int v4, .int m_parts, .ref a_m_stepCount, .ref a_m_froms, .ref a_m_cents, .ref a_m_uses, .ref a_m_stocks, .ref a_m_alternates, .ref a_m_assemblies, .ref a_m_placings, .int m_yields, .ref a_m_yieldAbove, .ref a_m_yieldBelow, .ref a_m_dayCount, .ref a_m_days, .ref a_m_rateAbove, .ref a_m_rateBelow, .long m_tools, .int m_can, .long m_sum, .ref a_m_costs, .ref a_m_pieces, .ref a_m_maker, .ref a_m_partOf, .int m_ran, .int m_keptRows, .ref a_m_keptCosts, .ref a_m_keptPieces, .ref a_m_keptMaker, .ref a_m_keptPart, .ref a_m_oldCosts])), aI g a_m_dayCount 8 m_dayCount, aJ g a_m_days 48 m_days, aJ g a_m_rateAbove 48 m_rateAbove, aJ g a_m_rateBelow 48 m_rateBelow] [(0, .ref a_t), (1, .int p0), (2, .long p1), (4, .long p2), (6, .long p3), (8, .int v2), (9, .int v6), (10, .int v7)] [] 173 0 0 := by
                  intro hw
                  unfold wp_M_currency_J173 at hw
                  refine st_iconst X (v := 0) d_M_currency_173 (by decide) ?_
                  obtain ⟨hz, hw⟩ := hw
                  exact st_zret X hr (v4, m_dayCount, m_days, m_rateAbove, m_rateBelow) hw hz rfl (by decide) (by decide) d_M_currency_174
                refine st_if_eq X 162 d_M_currency_130 (by decide) (fun hc => ?_) (fun hc => ?_)
                · replace hw := hw.1 hc
                  refine st_aload_n X 1 d_M_currency_162 rfl rfl ?_
                  refine st_get X (ci := 6) in_M 0 13 wf_M_41 rfl rfl (by decide) rfl d_M_currency_163 ?_
                  refine st_iload_n X 2 d_M_currency_166 rfl rfl ?_
                  obtain ⟨hb8, hw⟩ := hw
                  refine st_iald X 1 rfl hb8 d_M_currency_167 ?_
                  refine st_bipush X (v := 6) d_M_currency_168 (by decide) ?_
                  refine st_icmp_ne X 175 d_M_currency_170 (by decide) (fun hc => ?_) (fun hc => ?_)
                  · replace hw := hw.1 hc
                    refine st_lv [1, 2, 3, 4, 5, 6, 7, 0] rfl ?_
                    exact J175 hw
                  · replace hw := hw.2 hc
                    refine st_lv [1, 2, 3, 4, 5, 6, 7, 0] rfl ?_
                    exact J173 hw
                · replace hw := hw.2 hc
                  refine st_aload_n X 1 d_M_currency_133 rfl rfl ?_
                  refine st_get X (ci := 6) in_M 0 15 wf_M_47 rfl rfl (by decide) rfl d_M_currency_134 ?_
                  refine st_iload X 7 d_M_currency_137 rfl ?_
                  obtain ⟨hb9, hw⟩ := hw
                  refine st_lald X 3 rfl hb9 d_M_currency_139 ?_
                  refine st_lload X 4 d_M_currency_140 rfl ?_
                  refine st_lcmp_ne X 175 d_M_currency_142 d_M_currency_143 (by decide) (fun hc => ?_) (fun hc => ?_)
                  · replace hw := hw.1 hc
                    refine st_lv [1, 2, 3, 4, 5, 6, 7, 0] rfl ?_
                    exact J175 hw
                  · replace hw := hw.2 hc
                    refine st_aload_n X 1 d_M_currency_146 rfl rfl ?_
                    refine st_get X (ci := 6) in_M 0 16 wf_M_50 rfl rfl (by decide) rfl d_M_currency_147 ?_
                    refine st_iload X 7 d_M_currency_150 rfl ?_
                    obtain ⟨hb10, hw⟩ := hw
                    refine st_lald X 4 rfl hb10 d_M_currency_152 ?_
                    refine st_lload X 5 d_M_currency_153 rfl ?_
                    refine st_lcmp_ne X 175 d_M_currency_155 d_M_currency_156 (by decide) (fun hc => ?_) (fun hc => ?_)
                    · replace hw := hw.1 hc
                      refine st_lv [1, 2, 3, 4, 5, 6, 7, 0] rfl ?_
                      exact J175 hw
                    · replace hw := hw.2 hc
                      refine st_goto X 173 d_M_currency_159 (by decide) ?_
                      refine st_lv [1, 2, 3, 4, 5, 6, 7, 0] rfl ?_
                      exact J173 hw
              refine st_icmp_ge X 125 d_M_currency_118 (by decide) (fun hc => ?_) (fun hc => ?_)
              · replace hw := hw.1 hc
                refine st_iconst X (v := 0) d_M_currency_125 (by decide) ?_
                refine st_lv [0, 1, 2, 3, 4, 5, 6] rfl ?_
                exact J126 0 hw
              · replace hw := hw.2 hc
                refine st_iconst X (v := 1) d_M_currency_121 (by decide) ?_
                refine st_goto X 126 d_M_currency_122 (by decide) ?_
                refine st_lv [0, 1, 2, 3, 4, 5, 6] rfl ?_
                exact J126 1 hw
            refine st_icmp_ge X 105 d_M_currency_84 (by decide) (fun hc => ?_) (fun hc => ?_)
            · replace hw := hw.1 hc
              refine st_lv [0, 1, 2, 3, 4, 5, 6] rfl ?_
              exact J105 hw
            · replace hw := hw.2 hc
              refine st_aload_n X 0 d_M_currency_87 rfl rfl ?_
              refine st_get X (ci := 6) in_M 0 14 wf_M_44 rfl rfl (by decide) rfl d_M_currency_88 ?_
              refine st_iload X 6 d_M_currency_91 rfl ?_
              obtain ⟨hb11, hw⟩ := hw
              refine st_lald X 2 rfl hb11 d_M_currency_93 ?_
              refine st_lload_n X 2 d_M_currency_94 rfl rfl ?_
              refine st_lcmp_eq X 105 d_M_currency_95 d_M_currency_96 (by decide) (fun hc => ?_) (fun hc => ?_)
              · replace hw := hw.1 hc
                refine st_lv [0, 1, 2, 3, 4, 5, 6] rfl ?_
                exact J105 hw
              · replace hw := hw.2 hc
                obtain ⟨x14, hx14⟩ : ∃ z : Int32, z = v6 + 1 := ⟨_, rfl⟩
                replace hw := hw x14 hx14
                refine st_iinc X (v := x14) (lv2 := [(9, .int x14), (0, .ref a_t), (1, .int p0), (2, .long p1), (4, .long p2), (6, .long p3), (8, .int v2)]) 6 d_M_currency_99 rfl (by rw [hx14]; rfl) (by decide) rfl ?_
                refine st_goto X 71 d_M_currency_102 (by decide) ?_
                refine st_lv [1, 2, 3, 4, 5, 6, 0] rfl ?_
                exact ih71 x14 hw
        obtain ⟨n71, hw⟩ := hw
        refine st_lv [1, 2, 3, 4, 5, 6, 0] rfl ?_
        exact L71 n71 x5 hw
      · replace hw := hw.2 hc
        refine st_iconst X (v := 0) d_M_currency_63 (by decide) ?_
        obtain ⟨hz, hw⟩ := hw
        exact st_zret X hr (v4, m_dayCount, m_days, m_rateAbove, m_rateBelow) hw hz rfl (by decide) (by decide) d_M_currency_64
    refine st_if_ne X 43 d_M_currency_36 (by decide) (fun hc => ?_) (fun hc => ?_)
    · replace hw := hw.1 hc
      refine st_iload X 0 d_M_currency_43 rfl ?_
      refine st_if_eq X 52 d_M_currency_45 (by decide) (fun hc => ?_) (fun hc => ?_)
      · replace hw := hw.1 hc
        refine st_iconst X (v := 2) d_M_currency_52 (by decide) ?_
        refine st_lv [1, 2, 3, 4, 5, 0] rfl ?_
        exact J53 2 hw
      · replace hw := hw.2 hc
        refine st_iconst X (v := 0) d_M_currency_48 (by decide) ?_
        refine st_goto X 53 d_M_currency_49 (by decide) ?_
        refine st_lv [1, 2, 3, 4, 5, 0] rfl ?_
        exact J53 0 hw
    · replace hw := hw.2 hc
      refine st_iconst X (v := 1) d_M_currency_39 (by decide) ?_
      refine st_goto X 53 d_M_currency_40 (by decide) ?_
      refine st_lv [1, 2, 3, 4, 5, 0] rfl ?_
      exact J53 1 hw
  have J28 : wp_M_currency_J28 p0 p1 p2 p3 m_dayCount m_days m_rateAbove m_rateBelow Q → ST g C [(a_t, .inr (6, [.int m_thrown, .int m_parts, .ref a_m_stepCount, .ref a_m_froms, .ref a_m_cents, .ref a_m_uses, .ref a_m_stocks, .ref a_m_alternates, .ref a_m_assemblies, .ref a_m_placings, .int m_yields, .ref a_m_yieldAbove, .ref a_m_yieldBelow, .ref a_m_dayCount, .ref a_m_days, .ref a_m_rateAbove, .ref a_m_rateBelow, .long m_tools, .int m_can, .long m_sum, .ref a_m_costs, .ref a_m_pieces, .ref a_m_maker, .ref a_m_partOf, .int m_ran, .int m_keptRows, .ref a_m_keptCosts, .ref a_m_keptPieces, .ref a_m_keptMaker, .ref a_m_keptPart, .ref a_m_oldCosts])), aI g a_m_dayCount 8 m_dayCount, aJ g a_m_days 48 m_days, aJ g a_m_rateAbove 48 m_rateAbove, aJ g a_m_rateBelow 48 m_rateBelow] [(0, .ref a_t), (1, .int p0), (2, .long p1), (4, .long p2), (6, .long p3)] [] 28 0 0 := by
    intro hw
    unfold wp_M_currency_J28 at hw
    refine st_iconst X (v := 0) d_M_currency_28 (by decide) ?_
    refine st_lv [0, 1, 2, 3, 4] rfl ?_
    exact J29 0 hw
  refine st_if_eq X 28 d_M_currency_9 (by decide) (fun hc => ?_) (fun hc => ?_)
  · replace hw := hw.1 hc
    refine st_lv [0, 1, 2, 3, 4] rfl ?_
    exact J28 hw
  · replace hw := hw.2 hc
    refine st_lload X 4 d_M_currency_12 rfl ?_
    refine st_lconst X (v := 1) d_M_currency_14 (by decide) ?_
    refine st_ldc2 X wv_M_106 d_M_currency_15 ?_
    have hR := rn_S (pc := 18) (k := 0) (n := 0) (As := [.long p3, .long 1, .long 1000]) (rest := []) X (k_M_within g hg p3 (1 : Int64) (1000 : Int64) _ hw) wm_M_89 ws_M_within wz_M wc_M_within h9_M_within ⟨by decide, by decide⟩ (Nat.le_of_ble_eq_true rfl) ⟨by decide, by decide⟩ d_M_currency_18
    refine st_calli X hR [] [0, 1, 2, 3, 4] (wr := [(a_t, .inr (6, [.int m_thrown, .int m_parts, .ref a_m_stepCount, .ref a_m_froms, .ref a_m_cents, .ref a_m_uses, .ref a_m_stocks, .ref a_m_alternates, .ref a_m_assemblies, .ref a_m_placings, .int m_yields, .ref a_m_yieldAbove, .ref a_m_yieldBelow, .ref a_m_dayCount, .ref a_m_days, .ref a_m_rateAbove, .ref a_m_rateBelow, .long m_tools, .int m_can, .long m_sum, .ref a_m_costs, .ref a_m_pieces, .ref a_m_maker, .ref a_m_partOf, .int m_ran, .int m_keptRows, .ref a_m_keptCosts, .ref a_m_keptPieces, .ref a_m_keptMaker, .ref a_m_keptPart, .ref a_m_oldCosts])), aI g a_m_dayCount 8 m_dayCount, aJ g a_m_days 48 m_days, aJ g a_m_rateAbove 48 m_rateAbove, aJ g a_m_rateBelow 48 m_rateBelow]) rfl rfl (by decide) (by decide) (by decide) (fun r15 u9 hw => ?_)
    try dsimp only at hw
    refine st_widen (k2 := 0) (n2 := 0) (by decide) (by decide) ?_
    refine st_perm (ws2 := [(a_t, .inr (6, [.int m_thrown, .int m_parts, .ref a_m_stepCount, .ref a_m_froms, .ref a_m_cents, .ref a_m_uses, .ref a_m_stocks, .ref a_m_alternates, .ref a_m_assemblies, .ref a_m_placings, .int m_yields, .ref a_m_yieldAbove, .ref a_m_yieldBelow, .ref a_m_dayCount, .ref a_m_days, .ref a_m_rateAbove, .ref a_m_rateBelow, .long m_tools, .int m_can, .long m_sum, .ref a_m_costs, .ref a_m_pieces, .ref a_m_maker, .ref a_m_partOf, .int m_ran, .int m_keptRows, .ref a_m_keptCosts, .ref a_m_keptPieces, .ref a_m_keptMaker, .ref a_m_keptPart, .ref a_m_oldCosts])), aI g a_m_dayCount 8 m_dayCount, aJ g a_m_days 48 m_days, aJ g a_m_rateAbove 48 m_rateAbove, aJ g a_m_rateBelow 48 m_rateBelow]) [0, 1, 2, 3, 4] rfl (by decide) ?_
    show ST g C [(a_t, .inr (6, [.int m_thrown, .int m_parts, .ref a_m_stepCount, .ref a_m_froms, .ref a_m_cents, .ref a_m_uses, .ref a_m_stocks, .ref a_m_alternates, .ref a_m_assemblies, .ref a_m_placings, .int m_yields, .ref a_m_yieldAbove, .ref a_m_yieldBelow, .ref a_m_dayCount, .ref a_m_days, .ref a_m_rateAbove, .ref a_m_rateBelow, .long m_tools, .int m_can, .long m_sum, .ref a_m_costs, .ref a_m_pieces, .ref a_m_maker, .ref a_m_partOf, .int m_ran, .int m_keptRows, .ref a_m_keptCosts, .ref a_m_keptPieces, .ref a_m_keptMaker, .ref a_m_keptPart, .ref a_m_oldCosts])), aI g a_m_dayCount 8 m_dayCount, aJ g a_m_days 48 m_days, aJ g a_m_rateAbove 48 m_rateAbove, aJ g a_m_rateBelow 48 m_rateBelow] [(0, .ref a_t), (1, .int p0), (2, .long p1), (4, .long p2), (6, .long p3)] [.int r15] 21 0 0
    refine st_if_eq X 28 d_M_currency_21 (by decide) (fun hc => ?_) (fun hc => ?_)
    · replace hw := hw.1 hc
      refine st_lv [0, 1, 2, 3, 4] rfl ?_
      exact J28 hw
    · replace hw := hw.2 hc
      refine st_iconst X (v := 1) d_M_currency_24 (by decide) ?_
      refine st_goto X 29 d_M_currency_25 (by decide) ?_
      refine st_lv [0, 1, 2, 3, 4] rfl ?_
      exact J29 1 hw

theorem h9_M_rateOf : y_M_rateOf.cls ≠ "java/lang/invoke/MethodHandle" ∧ y_M_rateOf.cls ≠ "java/lang/invoke/VarHandle" ∧ (parseMethodDescriptor y_M_rateOf.desc).map (fun d => d.parameters.length) = some 2 := by decide +kernel
def wp_M_rateOf_J65 (v3 : Int32) (K9 : Int32 → Int32 → Prop) (v4 : Int32) : Prop :=
  ∀ x5 : Int32, x5 = v3 + 1 →
  K9 v4 x5
def wp_M_rateOf_J61 (v3 : Int32) (K9 : Int32 → Int32 → Prop) : Prop :=
  wp_M_rateOf_J65 v3 K9 v3
def wp_M_rateOf_L9 (p0 : Int32) (p1 : Int64) (m_dayCount : Nat → Int32) (m_days : Nat → Int64) (Q : Int32 → Prop) : Nat → Int32 → Int32 → Prop
  | 0, _, _ => False
  | n9 + 1, v2, v3 =>
  vp_in p0 8 ∧
  ((((6 * p0) + (m_dayCount p0.toNatClampNeg)) ≤ v3) → Q v2) ∧
  ((¬ ((6 * p0) + (m_dayCount p0.toNatClampNeg)) ≤ v3) → vp_in v3 48 ∧
  ((p1 < (m_days v3.toNatClampNeg)) → wp_M_rateOf_J65 v3 (wp_M_rateOf_L9 p0 p1 m_dayCount m_days Q n9) v2) ∧
  ((¬ p1 < (m_days v3.toNatClampNeg)) → ((v2 = (-1)) → wp_M_rateOf_J61 v3 (wp_M_rateOf_L9 p0 p1 m_dayCount m_days Q n9)) ∧
  ((¬ v2 = (-1)) → vp_in v3 48 ∧
  vp_in v2 48 ∧
  (((m_days v3.toNatClampNeg) ≤ (m_days v2.toNatClampNeg)) → wp_M_rateOf_J65 v3 (wp_M_rateOf_L9 p0 p1 m_dayCount m_days Q n9) v2) ∧
  ((¬ (m_days v3.toNatClampNeg) ≤ (m_days v2.toNatClampNeg)) → wp_M_rateOf_J61 v3 (wp_M_rateOf_L9 p0 p1 m_dayCount m_days Q n9)))))
def wp_M_rateOf (p0 : Int32) (p1 : Int64) (m_dayCount : Nat → Int32) (m_days : Nat → Int64) (Q : Int32 → Prop) : Prop :=
  ∀ x1 : Int32, x1 = 6 * p0 →
  ∃ n9 : Nat, wp_M_rateOf_L9 p0 p1 m_dayCount m_days Q n9 (-1) x1
set_option maxHeartbeats 4000000 in
set_option maxRecDepth 100000 in
theorem k_M_rateOf (g : GX) (hg : g.1.stackTraces = false) (a_t : Nat) (p0 : Int32) (p1 : Int64) (m_thrown : Int32) (m_parts : Int32) (a_m_stepCount : Nat) (a_m_froms : Nat) (a_m_cents : Nat) (a_m_uses : Nat) (a_m_stocks : Nat) (a_m_alternates : Nat) (a_m_assemblies : Nat) (a_m_placings : Nat) (m_yields : Int32) (a_m_yieldAbove : Nat) (a_m_yieldBelow : Nat) (a_m_dayCount : Nat) (a_m_days : Nat) (a_m_rateAbove : Nat) (a_m_rateBelow : Nat) (m_tools : Int64) (m_can : Int32) (m_sum : Int64) (a_m_costs : Nat) (a_m_pieces : Nat) (a_m_maker : Nat) (a_m_partOf : Nat) (m_ran : Int32) (m_keptRows : Int32) (a_m_keptCosts : Nat) (a_m_keptPieces : Nat) (a_m_keptMaker : Nat) (a_m_keptPart : Nat) (a_m_oldCosts : Nat) (m_dayCount : Nat → Int32) (m_days : Nat → Int64) (Q : Int32 → Prop) (hw : wp_M_rateOf p0 p1 m_dayCount m_days Q) : CT g y_M_rateOf c_M_rateOf 6 (some .int) ({ frames := 0, cells := 0, slots := 0, locals := 0 } : Room) [.ref a_t, .int p0, .long p1] [(a_t, .inr (6, [.int m_thrown, .int m_parts, .ref a_m_stepCount, .ref a_m_froms, .ref a_m_cents, .ref a_m_uses, .ref a_m_stocks, .ref a_m_alternates, .ref a_m_assemblies, .ref a_m_placings, .int m_yields, .ref a_m_yieldAbove, .ref a_m_yieldBelow, .ref a_m_dayCount, .ref a_m_days, .ref a_m_rateAbove, .ref a_m_rateBelow, .long m_tools, .int m_can, .long m_sum, .ref a_m_costs, .ref a_m_pieces, .ref a_m_maker, .ref a_m_partOf, .int m_ran, .int m_keptRows, .ref a_m_keptCosts, .ref a_m_keptPieces, .ref a_m_keptMaker, .ref a_m_keptPart, .ref a_m_oldCosts])), aI g a_m_dayCount 8 m_dayCount, aJ g a_m_days 48 m_days] (QI g [(a_t, .inr (6, [.int m_thrown, .int m_parts, .ref a_m_stepCount, .ref a_m_froms, .ref a_m_cents, .ref a_m_uses, .ref a_m_stocks, .ref a_m_alternates, .ref a_m_assemblies, .ref a_m_placings, .int m_yields, .ref a_m_yieldAbove, .ref a_m_yieldBelow, .ref a_m_dayCount, .ref a_m_days, .ref a_m_rateAbove, .ref a_m_rateBelow, .long m_tools, .int m_can, .long m_sum, .ref a_m_costs, .ref a_m_pieces, .ref a_m_maker, .ref a_m_partOf, .int m_ran, .int m_keptRows, .ref a_m_keptCosts, .ref a_m_keptPieces, .ref a_m_keptMaker, .ref a_m_keptPart, .ref a_m_oldCosts])), aI g a_m_dayCount 8 m_dayCount, aJ g a_m_days 48 m_days] (fun u : Unit => [(a_t, .inr (6, [.int m_thrown, .int m_parts, .ref a_m_stepCount, .ref a_m_froms, .ref a_m_cents, .ref a_m_uses, .ref a_m_stocks, .ref a_m_alternates, .ref a_m_assemblies, .ref a_m_placings, .int m_yields, .ref a_m_yieldAbove, .ref a_m_yieldBelow, .ref a_m_dayCount, .ref a_m_days, .ref a_m_rateAbove, .ref a_m_rateBelow, .long m_tools, .int m_can, .long m_sum, .ref a_m_costs, .ref a_m_pieces, .ref a_m_maker, .ref a_m_partOf, .int m_ran, .int m_keptRows, .ref a_m_keptCosts, .ref a_m_keptPieces, .ref a_m_keptMaker, .ref a_m_keptPart, .ref a_m_oldCosts])), aI g a_m_dayCount 8 m_dayCount, aJ g a_m_days 48 m_days]) (fun r u => Q r)) := by
  refine ct_of hg (by decide) (Nat.le_of_ble_eq_true rfl) (fun sz C X hr => ?_)
  unfold wp_M_rateOf at hw
  show ST g C [(a_t, .inr (6, [.int m_thrown, .int m_parts, .ref a_m_stepCount, .ref a_m_froms, .ref a_m_cents, .ref a_m_uses, .ref a_m_stocks, .ref a_m_alternates, .ref a_m_assemblies, .ref a_m_placings, .int m_yields, .ref a_m_yieldAbove, .ref a_m_yieldBelow, .ref a_m_dayCount, .ref a_m_days, .ref a_m_rateAbove, .ref a_m_rateBelow, .long m_tools, .int m_can, .long m_sum, .ref a_m_costs, .ref a_m_pieces, .ref a_m_maker, .ref a_m_partOf, .int m_ran, .int m_keptRows, .ref a_m_keptCosts, .ref a_m_keptPieces, .ref a_m_keptMaker, .ref a_m_keptPart, .ref a_m_oldCosts])), aI g a_m_dayCount 8 m_dayCount, aJ g a_m_days 48 m_days] [(0, .ref a_t), (1, .int p0), (2, .long p1)] [] 0 0 0
  refine st_iconst X (v := (-1)) d_M_rateOf_0 (by decide) ?_
  refine st_istore X (lv2 := [(4, .int (-1)), (0, .ref a_t), (1, .int p0), (2, .long p1)]) d_M_rateOf_1 (by decide) rfl ?_
  refine st_bipush X (v := 6) d_M_rateOf_3 (by decide) ?_
  refine st_iload_n X 2 d_M_rateOf_5 rfl rfl ?_
  refine st_imul X d_M_rateOf_6 ?_
  refine st_topi (fun x1 hx1 => ?_)
  replace hw := hw x1 hx1
  refine st_istore X (lv2 := [(5, .int x1), (4, .int (-1)), (0, .ref a_t), (1, .int p0), (2, .long p1)]) d_M_rateOf_7 (by decide) rfl ?_
  have L9 : ∀ (n9 : Nat) (v2 : Int32) (v3 : Int32), wp_M_rateOf_L9 p0 p1 m_dayCount m_days Q n9 v2 v3 → ST g C [(a_t, .inr (6, [.int m_thrown, .int m_parts, .ref a_m_stepCount, .ref a_m_froms, .ref a_m_cents, .ref a_m_uses, .ref a_m_stocks, .ref a_m_alternates, .ref a_m_assemblies, .ref a_m_placings, .int m_yields, .ref a_m_yieldAbove, .ref a_m_yieldBelow, .ref a_m_dayCount, .ref a_m_days, .ref a_m_rateAbove, .ref a_m_rateBelow, .long m_tools, .int m_can, .long m_sum, .ref a_m_costs, .ref a_m_pieces, .ref a_m_maker, .ref a_m_partOf, .int m_ran, .int m_keptRows, .ref a_m_keptCosts, .ref a_m_keptPieces, .ref a_m_keptMaker, .ref a_m_keptPart, .ref a_m_oldCosts])), aI g a_m_dayCount 8 m_dayCount, aJ g a_m_days 48 m_days] [(0, .ref a_t), (1, .int p0), (2, .long p1), (4, .int v2), (5, .int v3)] [] 9 0 0 := by
    intro n9
    induction n9 with
    | zero => intro v2 v3 hw; exact hw.elim
    | succ n9 ih9 =>
      intro v2 v3 hw
      rw [wp_M_rateOf_L9] at hw
      refine st_iload X 4 d_M_rateOf_9 rfl ?_
      refine st_bipush X (v := 6) d_M_rateOf_11 (by decide) ?_
      refine st_iload_n X 1 d_M_rateOf_13 rfl rfl ?_
      refine st_imul X d_M_rateOf_14 ?_
      refine st_aload_n X 0 d_M_rateOf_15 rfl rfl ?_
      refine st_get X (ci := 6) in_M 0 13 wf_M_41 rfl rfl (by decide) rfl d_M_rateOf_16 ?_
      refine st_iload_n X 1 d_M_rateOf_19 rfl rfl ?_
      obtain ⟨hb1, hw⟩ := hw
      refine st_iald X 1 rfl hb1 d_M_rateOf_20 ?_
      refine st_iadd X d_M_rateOf_21 ?_
      refine st_icmp_ge X 71 d_M_rateOf_22 (by decide) (fun hc => ?_) (fun hc => ?_)
      · replace hw := hw.1 hc
        refine st_iload X 3 d_M_rateOf_71 rfl ?_
        exact st_iret X hr () hw rfl (by decide) (by decide) d_M_rateOf_73
      · replace hw := hw.2 hc
        refine st_aload_n X 0 d_M_rateOf_25 rfl rfl ?_
        refine st_get X (ci := 6) in_M 0 14 wf_M_44 rfl rfl (by decide) rfl d_M_rateOf_26 ?_
        refine st_iload X 4 d_M_rateOf_29 rfl ?_
        obtain ⟨hb2, hw⟩ := hw
        refine st_lald X 2 rfl hb2 d_M_rateOf_31 ?_
        refine st_lload_n X 2 d_M_rateOf_32 rfl rfl ?_
        have J65 : ∀ (v4 : Int32), wp_M_rateOf_J65 v3 (fun z0 z1 => wp_M_rateOf_L9 p0 p1 m_dayCount m_days Q n9 z0 z1) v4 → ST g C [(a_t, .inr (6, [.int m_thrown, .int m_parts, .ref a_m_stepCount, .ref a_m_froms, .ref a_m_cents, .ref a_m_uses, .ref a_m_stocks, .ref a_m_alternates, .ref a_m_assemblies, .ref a_m_placings, .int m_yields, .ref a_m_yieldAbove, .ref a_m_yieldBelow, .ref a_m_dayCount, .ref a_m_days, .ref a_m_rateAbove, .ref a_m_rateBelow, .long m_tools, .int m_can, .long m_sum, .ref a_m_costs, .ref a_m_pieces, .ref a_m_maker, .ref a_m_partOf, .int m_ran, .int m_keptRows, .ref a_m_keptCosts, .ref a_m_keptPieces, .ref a_m_keptMaker, .ref a_m_keptPart, .ref a_m_oldCosts])), aI g a_m_dayCount 8 m_dayCount, aJ g a_m_days 48 m_days] [(0, .ref a_t), (1, .int p0), (2, .long p1), (4, .int v4), (5, .int v3)] [] 65 0 0 := by
          intro v4 hw
          unfold wp_M_rateOf_J65 at hw
          obtain ⟨x5, hx5⟩ : ∃ z : Int32, z = v3 + 1 := ⟨_, rfl⟩
          replace hw := hw x5 hx5
          refine st_iinc X (v := x5) (lv2 := [(5, .int x5), (0, .ref a_t), (1, .int p0), (2, .long p1), (4, .int v4)]) 4 d_M_rateOf_65 rfl (by rw [hx5]; rfl) (by decide) rfl ?_
          refine st_goto X 9 d_M_rateOf_68 (by decide) ?_
          refine st_lv [1, 2, 3, 4, 0] rfl ?_
          exact ih9 v4 x5 hw
        refine st_lcmp_gt X 65 d_M_rateOf_33 d_M_rateOf_34 (by decide) (fun hc => ?_) (fun hc => ?_)
        · replace hw := hw.1 hc
          refine st_lv [0, 1, 2, 3, 4] rfl ?_
          exact J65 v2 hw
        · replace hw := hw.2 hc
          refine st_iload X 3 d_M_rateOf_37 rfl ?_
          refine st_iconst X (v := (-1)) d_M_rateOf_39 (by decide) ?_
          have J61 : wp_M_rateOf_J61 v3 (fun z0 z1 => wp_M_rateOf_L9 p0 p1 m_dayCount m_days Q n9 z0 z1) → ST g C [(a_t, .inr (6, [.int m_thrown, .int m_parts, .ref a_m_stepCount, .ref a_m_froms, .ref a_m_cents, .ref a_m_uses, .ref a_m_stocks, .ref a_m_alternates, .ref a_m_assemblies, .ref a_m_placings, .int m_yields, .ref a_m_yieldAbove, .ref a_m_yieldBelow, .ref a_m_dayCount, .ref a_m_days, .ref a_m_rateAbove, .ref a_m_rateBelow, .long m_tools, .int m_can, .long m_sum, .ref a_m_costs, .ref a_m_pieces, .ref a_m_maker, .ref a_m_partOf, .int m_ran, .int m_keptRows, .ref a_m_keptCosts, .ref a_m_keptPieces, .ref a_m_keptMaker, .ref a_m_keptPart, .ref a_m_oldCosts])), aI g a_m_dayCount 8 m_dayCount, aJ g a_m_days 48 m_days] [(0, .ref a_t), (1, .int p0), (2, .long p1), (4, .int v2), (5, .int v3)] [] 61 0 0 := by
            intro hw
            unfold wp_M_rateOf_J61 at hw
            refine st_iload X 4 d_M_rateOf_61 rfl ?_
            refine st_istore X (lv2 := [(4, .int v3), (0, .ref a_t), (1, .int p0), (2, .long p1), (5, .int v3)]) d_M_rateOf_63 (by decide) rfl ?_
            refine st_lv [1, 2, 3, 0, 4] rfl ?_
            exact J65 v3 hw
          refine st_icmp_eq X 61 d_M_rateOf_40 (by decide) (fun hc => ?_) (fun hc => ?_)
          · replace hw := hw.1 hc
            refine st_lv [0, 1, 2, 3, 4] rfl ?_
            exact J61 hw
          · replace hw := hw.2 hc
            refine st_aload_n X 0 d_M_rateOf_43 rfl rfl ?_
            refine st_get X (ci := 6) in_M 0 14 wf_M_44 rfl rfl (by decide) rfl d_M_rateOf_44 ?_
            refine st_iload X 4 d_M_rateOf_47 rfl ?_
            obtain ⟨hb3, hw⟩ := hw
            refine st_lald X 2 rfl hb3 d_M_rateOf_49 ?_
            refine st_aload_n X 0 d_M_rateOf_50 rfl rfl ?_
            refine st_get X (ci := 6) in_M 0 14 wf_M_44 rfl rfl (by decide) rfl d_M_rateOf_51 ?_
            refine st_iload X 3 d_M_rateOf_54 rfl ?_
            obtain ⟨hb4, hw⟩ := hw
            refine st_lald X 2 rfl hb4 d_M_rateOf_56 ?_
            refine st_lcmp_le X 65 d_M_rateOf_57 d_M_rateOf_58 (by decide) (fun hc => ?_) (fun hc => ?_)
            · replace hw := hw.1 hc
              refine st_lv [0, 1, 2, 3, 4] rfl ?_
              exact J65 v2 hw
            · replace hw := hw.2 hc
              refine st_lv [0, 1, 2, 3, 4] rfl ?_
              exact J61 hw
  obtain ⟨n9, hw⟩ := hw
  refine st_lv [2, 3, 4, 1, 0] rfl ?_
  exact L9 n9 (-1) x1 hw

theorem h9_M_offer : y_M_offer.cls ≠ "java/lang/invoke/MethodHandle" ∧ y_M_offer.cls ≠ "java/lang/invoke/VarHandle" ∧ (parseMethodDescriptor y_M_offer.desc).map (fun d => d.parameters.length) = some 5 := by decide +kernel
def wp_M_offer_J230 (v4 : Int32) (K24 : Int32 → (Nat → Int64) → (Nat → Int64) → (Nat → Int32) → (Nat → Int32) → Prop) (f12 : Nat → Int64) (f13 : Nat → Int64) (f14 : Nat → Int32) (f15 : Nat → Int32) : Prop :=
  ∀ x16 : Int32, x16 = v4 + 1 →
  K24 x16 f12 f13 f14 f15
def wp_M_offer_J190 (p0 : Int32) (p1 : Int32) (p2 : Int32) (v4 : Int32) (f5 : Nat → Int64) (f6 : Nat → Int64) (f7 : Nat → Int32) (f8 : Nat → Int32) (v9 : Int64) (v10 : Int64) (K24 : Int32 → (Nat → Int64) → (Nat → Int64) → (Nat → Int32) → (Nat → Int32) → Prop) (v11 : Int32) : Prop :=
  ((¬ v11 = 0) → vp_in p0 33 ∧
  ∀ f17 : Nat → Int64, f17 = vp_updL f5 p0.toNatClampNeg v10 →
  vp_in p0 33 ∧
  ∀ f18 : Nat → Int64, f18 = vp_updL f6 p0.toNatClampNeg v9 →
  vp_in p0 33 ∧
  ∀ f19 : Nat → Int32, f19 = upd f7 p0.toNatClampNeg p2 →
  vp_in p0 33 ∧
  ∀ f20 : Nat → Int32, f20 = upd f8 p0.toNatClampNeg p1 →
  wp_M_offer_J230 v4 K24 f17 f18 f19 f20) ∧
  ((v11 = 0) → wp_M_offer_J230 v4 K24 f5 f6 f7 f8)
def wp_M_offer_J185 (p0 : Int32) (p1 : Int32) (p2 : Int32) (v4 : Int32) (f5 : Nat → Int64) (f6 : Nat → Int64) (f7 : Nat → Int32) (f8 : Nat → Int32) (v9 : Int64) (v10 : Int64) (K24 : Int32 → (Nat → Int64) → (Nat → Int64) → (Nat → Int32) → (Nat → Int32) → Prop) : Prop :=
  wp_M_offer_J190 p0 p1 p2 v4 f5 f6 f7 f8 v9 v10 K24 1
def wp_M_offer_J189 (p0 : Int32) (p1 : Int32) (p2 : Int32) (v4 : Int32) (f5 : Nat → Int64) (f6 : Nat → Int64) (f7 : Nat → Int32) (f8 : Nat → Int32) (v9 : Int64) (v10 : Int64) (K24 : Int32 → (Nat → Int64) → (Nat → Int64) → (Nat → Int32) → (Nat → Int32) → Prop) : Prop :=
  wp_M_offer_J190 p0 p1 p2 v4 f5 f6 f7 f8 v9 v10 K24 0
def wp_M_offer_J116 (p0 : Int32) (p1 : Int32) (p2 : Int32) (v4 : Int32) (f5 : Nat → Int64) (f6 : Nat → Int64) (f7 : Nat → Int32) (f8 : Nat → Int32) (v9 : Int64) (K24 : Int32 → (Nat → Int64) → (Nat → Int64) → (Nat → Int32) → (Nat → Int32) → Prop) (v10 : Int64) : Prop :=
  vp_in p0 33 ∧
  (((f6 p0.toNatClampNeg) = 0) → wp_M_offer_J185 p0 p1 p2 v4 f5 f6 f7 f8 v9 v10 K24) ∧
  ((¬ (f6 p0.toNatClampNeg) = 0) → vp_in p0 33 ∧
  ((v10 < (f5 p0.toNatClampNeg)) → wp_M_offer_J185 p0 p1 p2 v4 f5 f6 f7 f8 v9 v10 K24) ∧
  ((¬ v10 < (f5 p0.toNatClampNeg)) → vp_in p0 33 ∧
  ((¬ v10 = (f5 p0.toNatClampNeg)) → wp_M_offer_J189 p0 p1 p2 v4 f5 f6 f7 f8 v9 v10 K24) ∧
  ((v10 = (f5 p0.toNatClampNeg)) → vp_in p0 33 ∧
  ((¬ (f7 p0.toNatClampNeg) = p2) → wp_M_offer_J189 p0 p1 p2 v4 f5 f6 f7 f8 v9 v10 K24) ∧
  (((f7 p0.toNatClampNeg) = p2) → vp_in p0 33 ∧
  ((¬ (f8 p0.toNatClampNeg) = p1) → wp_M_offer_J189 p0 p1 p2 v4 f5 f6 f7 f8 v9 v10 K24) ∧
  (((f8 p0.toNatClampNeg) = p1) → vp_in p0 33 ∧
  (((f6 p0.toNatClampNeg) ≤ v9) → wp_M_offer_J189 p0 p1 p2 v4 f5 f6 f7 f8 v9 v10 K24) ∧
  ((¬ (f6 p0.toNatClampNeg) ≤ v9) → wp_M_offer_J185 p0 p1 p2 v4 f5 f6 f7 f8 v9 v10 K24))))))
def wp_M_offer_J67 (p0 : Int32) (p1 : Int32) (p2 : Int32) (m_cents : Nat → Int64) (m_rateAbove : Nat → Int64) (m_rateBelow : Nat → Int64) (r2 : Int32) (v4 : Int32) (f5 : Nat → Int64) (f6 : Nat → Int64) (f7 : Nat → Int32) (f8 : Nat → Int32) (K24 : Int32 → (Nat → Int64) → (Nat → Int64) → (Nat → Int32) → (Nat → Int32) → Prop) (v9 : Int64) : Prop :=
  ((¬ r2 = (-1)) → vp_in v4 1488 ∧
  vp_in r2 48 ∧
  vp_in r2 48 ∧
  wp_M_up ((v9 * (m_cents v4.toNatClampNeg)) * (m_rateAbove r2.toNatClampNeg)) (m_rateBelow r2.toNatClampNeg) (fun r21 =>
  wp_M_offer_J116 p0 p1 p2 v4 f5 f6 f7 f8 v9 K24 r21)) ∧
  ((r2 = (-1)) → vp_in v4 1488 ∧
  wp_M_offer_J116 p0 p1 p2 v4 f5 f6 f7 f8 v9 K24 (v9 * (m_cents v4.toNatClampNeg)))
def wp_M_offer_L24 (p0 : Int32) (p1 : Int32) (p2 : Int32) (p3 : Int64) (m_stepCount : Nat → Int32) (m_froms : Nat → Int64) (m_cents : Nat → Int64) (m_rateAbove : Nat → Int64) (m_rateBelow : Nat → Int64) (x1 : Int32) (r2 : Int32) (Q : (Nat → Int64) → (Nat → Int64) → (Nat → Int32) → (Nat → Int32) → Prop) : Nat → Int32 → (Nat → Int64) → (Nat → Int64) → (Nat → Int32) → (Nat → Int32) → Prop
  | 0, _, _, _, _, _ => False
  | n24 + 1, v4, f5, f6, f7, f8 =>
  vp_in x1 248 ∧
  ((((6 * x1) + (m_stepCount x1.toNatClampNeg)) ≤ v4) → Q f5 f6 f7 f8) ∧
  ((¬ ((6 * x1) + (m_stepCount x1.toNatClampNeg)) ≤ v4) → vp_in v4 1488 ∧
  (((m_froms v4.toNatClampNeg) ≤ p3) → wp_M_offer_J67 p0 p1 p2 m_cents m_rateAbove m_rateBelow r2 v4 f5 f6 f7 f8 (wp_M_offer_L24 p0 p1 p2 p3 m_stepCount m_froms m_cents m_rateAbove m_rateBelow x1 r2 Q n24) p3) ∧
  ((¬ (m_froms v4.toNatClampNeg) ≤ p3) → vp_in v4 1488 ∧
  wp_M_offer_J67 p0 p1 p2 m_cents m_rateAbove m_rateBelow r2 v4 f5 f6 f7 f8 (wp_M_offer_L24 p0 p1 p2 p3 m_stepCount m_froms m_cents m_rateAbove m_rateBelow x1 r2 Q n24) (m_froms v4.toNatClampNeg)))
def wp_M_offer (p0 : Int32) (p1 : Int32) (p2 : Int32) (p3 : Int64) (p4 : Int64) (m_stepCount : Nat → Int32) (m_froms : Nat → Int64) (m_cents : Nat → Int64) (m_dayCount : Nat → Int32) (m_days : Nat → Int64) (m_rateAbove : Nat → Int64) (m_rateBelow : Nat → Int64) (m_costs : Nat → Int64) (m_pieces : Nat → Int64) (m_maker : Nat → Int32) (m_partOf : Nat → Int32) (Q : (Nat → Int64) → (Nat → Int64) → (Nat → Int32) → (Nat → Int32) → Prop) : Prop :=
  ∀ x1 : Int32, x1 = (8 * p1) + p2 →
  wp_M_rateOf p2 p4 m_dayCount m_days (fun r2 =>
  ∀ x3 : Int32, x3 = 6 * x1 →
  ∃ n24 : Nat, wp_M_offer_L24 p0 p1 p2 p3 m_stepCount m_froms m_cents m_rateAbove m_rateBelow x1 r2 Q n24 x3 m_costs m_pieces m_maker m_partOf)
set_option maxHeartbeats 4000000 in
set_option maxRecDepth 100000 in
theorem k_M_offer (g : GX) (hg : g.1.stackTraces = false) (a_t : Nat) (p0 : Int32) (p1 : Int32) (p2 : Int32) (p3 : Int64) (p4 : Int64) (m_thrown : Int32) (m_parts : Int32) (a_m_stepCount : Nat) (a_m_froms : Nat) (a_m_cents : Nat) (a_m_uses : Nat) (a_m_stocks : Nat) (a_m_alternates : Nat) (a_m_assemblies : Nat) (a_m_placings : Nat) (m_yields : Int32) (a_m_yieldAbove : Nat) (a_m_yieldBelow : Nat) (a_m_dayCount : Nat) (a_m_days : Nat) (a_m_rateAbove : Nat) (a_m_rateBelow : Nat) (m_tools : Int64) (m_can : Int32) (m_sum : Int64) (a_m_costs : Nat) (a_m_pieces : Nat) (a_m_maker : Nat) (a_m_partOf : Nat) (m_ran : Int32) (m_keptRows : Int32) (a_m_keptCosts : Nat) (a_m_keptPieces : Nat) (a_m_keptMaker : Nat) (a_m_keptPart : Nat) (a_m_oldCosts : Nat) (m_stepCount : Nat → Int32) (m_froms : Nat → Int64) (m_cents : Nat → Int64) (m_dayCount : Nat → Int32) (m_days : Nat → Int64) (m_rateAbove : Nat → Int64) (m_rateBelow : Nat → Int64) (m_costs : Nat → Int64) (m_pieces : Nat → Int64) (m_maker : Nat → Int32) (m_partOf : Nat → Int32) (Q : (Nat → Int64) → (Nat → Int64) → (Nat → Int32) → (Nat → Int32) → Prop) (hw : wp_M_offer p0 p1 p2 p3 p4 m_stepCount m_froms m_cents m_dayCount m_days m_rateAbove m_rateBelow m_costs m_pieces m_maker m_partOf Q) : CT g y_M_offer c_M_offer 16 none ({ frames := 1, cells := 0, slots := 0, locals := 25 } : Room) [.ref a_t, .int p0, .int p1, .int p2, .long p3, .long p4] [(a_t, .inr (6, [.int m_thrown, .int m_parts, .ref a_m_stepCount, .ref a_m_froms, .ref a_m_cents, .ref a_m_uses, .ref a_m_stocks, .ref a_m_alternates, .ref a_m_assemblies, .ref a_m_placings, .int m_yields, .ref a_m_yieldAbove, .ref a_m_yieldBelow, .ref a_m_dayCount, .ref a_m_days, .ref a_m_rateAbove, .ref a_m_rateBelow, .long m_tools, .int m_can, .long m_sum, .ref a_m_costs, .ref a_m_pieces, .ref a_m_maker, .ref a_m_partOf, .int m_ran, .int m_keptRows, .ref a_m_keptCosts, .ref a_m_keptPieces, .ref a_m_keptMaker, .ref a_m_keptPart, .ref a_m_oldCosts])), aI g a_m_stepCount 248 m_stepCount, aJ g a_m_froms 1488 m_froms, aJ g a_m_cents 1488 m_cents, aI g a_m_dayCount 8 m_dayCount, aJ g a_m_days 48 m_days, aJ g a_m_rateAbove 48 m_rateAbove, aJ g a_m_rateBelow 48 m_rateBelow, aJ g a_m_costs 33 m_costs, aJ g a_m_pieces 33 m_pieces, aI g a_m_maker 33 m_maker, aI g a_m_partOf 33 m_partOf] (QV g [(a_t, .inr (6, [.int m_thrown, .int m_parts, .ref a_m_stepCount, .ref a_m_froms, .ref a_m_cents, .ref a_m_uses, .ref a_m_stocks, .ref a_m_alternates, .ref a_m_assemblies, .ref a_m_placings, .int m_yields, .ref a_m_yieldAbove, .ref a_m_yieldBelow, .ref a_m_dayCount, .ref a_m_days, .ref a_m_rateAbove, .ref a_m_rateBelow, .long m_tools, .int m_can, .long m_sum, .ref a_m_costs, .ref a_m_pieces, .ref a_m_maker, .ref a_m_partOf, .int m_ran, .int m_keptRows, .ref a_m_keptCosts, .ref a_m_keptPieces, .ref a_m_keptMaker, .ref a_m_keptPart, .ref a_m_oldCosts])), aI g a_m_stepCount 248 m_stepCount, aJ g a_m_froms 1488 m_froms, aJ g a_m_cents 1488 m_cents, aI g a_m_dayCount 8 m_dayCount, aJ g a_m_days 48 m_days, aJ g a_m_rateAbove 48 m_rateAbove, aJ g a_m_rateBelow 48 m_rateBelow, aJ g a_m_costs 33 m_costs, aJ g a_m_pieces 33 m_pieces, aI g a_m_maker 33 m_maker, aI g a_m_partOf 33 m_partOf] (fun u : (Nat → Int64) × (Nat → Int64) × (Nat → Int32) × (Nat → Int32) => [(a_t, .inr (6, [.int m_thrown, .int m_parts, .ref a_m_stepCount, .ref a_m_froms, .ref a_m_cents, .ref a_m_uses, .ref a_m_stocks, .ref a_m_alternates, .ref a_m_assemblies, .ref a_m_placings, .int m_yields, .ref a_m_yieldAbove, .ref a_m_yieldBelow, .ref a_m_dayCount, .ref a_m_days, .ref a_m_rateAbove, .ref a_m_rateBelow, .long m_tools, .int m_can, .long m_sum, .ref a_m_costs, .ref a_m_pieces, .ref a_m_maker, .ref a_m_partOf, .int m_ran, .int m_keptRows, .ref a_m_keptCosts, .ref a_m_keptPieces, .ref a_m_keptMaker, .ref a_m_keptPart, .ref a_m_oldCosts])), aI g a_m_stepCount 248 m_stepCount, aJ g a_m_froms 1488 m_froms, aJ g a_m_cents 1488 m_cents, aI g a_m_dayCount 8 m_dayCount, aJ g a_m_days 48 m_days, aJ g a_m_rateAbove 48 m_rateAbove, aJ g a_m_rateBelow 48 m_rateBelow, aJ g a_m_costs 33 u.1, aJ g a_m_pieces 33 u.2.1, aI g a_m_maker 33 u.2.2.1, aI g a_m_partOf 33 u.2.2.2]) (fun u => Q u.1 u.2.1 u.2.2.1 u.2.2.2)) := by
  refine ct_of hg (by decide) (Nat.le_of_ble_eq_true rfl) (fun sz C X hr => ?_)
  unfold wp_M_offer at hw
  show ST g C [(a_t, .inr (6, [.int m_thrown, .int m_parts, .ref a_m_stepCount, .ref a_m_froms, .ref a_m_cents, .ref a_m_uses, .ref a_m_stocks, .ref a_m_alternates, .ref a_m_assemblies, .ref a_m_placings, .int m_yields, .ref a_m_yieldAbove, .ref a_m_yieldBelow, .ref a_m_dayCount, .ref a_m_days, .ref a_m_rateAbove, .ref a_m_rateBelow, .long m_tools, .int m_can, .long m_sum, .ref a_m_costs, .ref a_m_pieces, .ref a_m_maker, .ref a_m_partOf, .int m_ran, .int m_keptRows, .ref a_m_keptCosts, .ref a_m_keptPieces, .ref a_m_keptMaker, .ref a_m_keptPart, .ref a_m_oldCosts])), aI g a_m_stepCount 248 m_stepCount, aJ g a_m_froms 1488 m_froms, aJ g a_m_cents 1488 m_cents, aI g a_m_dayCount 8 m_dayCount, aJ g a_m_days 48 m_days, aJ g a_m_rateAbove 48 m_rateAbove, aJ g a_m_rateBelow 48 m_rateBelow, aJ g a_m_costs 33 m_costs, aJ g a_m_pieces 33 m_pieces, aI g a_m_maker 33 m_maker, aI g a_m_partOf 33 m_partOf] [(0, .ref a_t), (1, .int p0), (2, .int p1), (3, .int p2), (4, .long p3), (6, .long p4)] [] 0 0 0
  refine st_bipush X (v := 8) d_M_offer_0 (by decide) ?_
  refine st_iload_n X 2 d_M_offer_2 rfl rfl ?_
  refine st_imul X d_M_offer_3 ?_
  refine st_iload_n X 3 d_M_offer_4 rfl rfl ?_
  refine st_iadd X d_M_offer_5 ?_
  refine st_topi (fun x1 hx1 => ?_)
  replace hw := hw x1 hx1
  refine st_istore X (lv2 := [(8, .int x1), (0, .ref a_t), (1, .int p0), (2, .int p1), (3, .int p2), (4, .long p3), (6, .long p4)]) d_M_offer_6 (by decide) rfl ?_
  refine st_aload_n X 1 d_M_offer_8 rfl rfl ?_
  refine st_iload_n X 4 d_M_offer_9 rfl rfl ?_
  refine st_lload X 6 d_M_offer_10 rfl ?_
  have hR := rn_V (pc := 12) (k := 0) (n := 0) (As := [.int p2, .long p4]) (rest := []) X (k_M_rateOf g hg a_t p2 p4 m_thrown m_parts a_m_stepCount a_m_froms a_m_cents a_m_uses a_m_stocks a_m_alternates a_m_assemblies a_m_placings m_yields a_m_yieldAbove a_m_yieldBelow a_m_dayCount a_m_days a_m_rateAbove a_m_rateBelow m_tools m_can m_sum a_m_costs a_m_pieces a_m_maker a_m_partOf m_ran m_keptRows a_m_keptCosts a_m_keptPieces a_m_keptMaker a_m_keptPart a_m_oldCosts m_dayCount m_days _ hw) (q0 := 0) rfl rfl wm_M_120 wi_M_rateOf wl_M_rateOf wz_M wc_M_rateOf h9_M_rateOf ⟨by decide, by decide⟩ (Nat.le_of_ble_eq_true rfl) ⟨by decide, by decide⟩ d_M_offer_12
  refine st_calli X hR [0, 4, 5] [1, 2, 3, 6, 7, 8, 9, 10, 11] (wr := [aI g a_m_stepCount 248 m_stepCount, aJ g a_m_froms 1488 m_froms, aJ g a_m_cents 1488 m_cents, aJ g a_m_rateAbove 48 m_rateAbove, aJ g a_m_rateBelow 48 m_rateBelow, aJ g a_m_costs 33 m_costs, aJ g a_m_pieces 33 m_pieces, aI g a_m_maker 33 m_maker, aI g a_m_partOf 33 m_partOf]) rfl rfl (by decide) (by decide) (by decide) (fun r2 u9 hw => ?_)
  try dsimp only at hw
  refine st_widen (k2 := 0) (n2 := 0) (by decide) (by decide) ?_
  refine st_perm (ws2 := [(a_t, .inr (6, [.int m_thrown, .int m_parts, .ref a_m_stepCount, .ref a_m_froms, .ref a_m_cents, .ref a_m_uses, .ref a_m_stocks, .ref a_m_alternates, .ref a_m_assemblies, .ref a_m_placings, .int m_yields, .ref a_m_yieldAbove, .ref a_m_yieldBelow, .ref a_m_dayCount, .ref a_m_days, .ref a_m_rateAbove, .ref a_m_rateBelow, .long m_tools, .int m_can, .long m_sum, .ref a_m_costs, .ref a_m_pieces, .ref a_m_maker, .ref a_m_partOf, .int m_ran, .int m_keptRows, .ref a_m_keptCosts, .ref a_m_keptPieces, .ref a_m_keptMaker, .ref a_m_keptPart, .ref a_m_oldCosts])), aI g a_m_stepCount 248 m_stepCount, aJ g a_m_froms 1488 m_froms, aJ g a_m_cents 1488 m_cents, aI g a_m_dayCount 8 m_dayCount, aJ g a_m_days 48 m_days, aJ g a_m_rateAbove 48 m_rateAbove, aJ g a_m_rateBelow 48 m_rateBelow, aJ g a_m_costs 33 m_costs, aJ g a_m_pieces 33 m_pieces, aI g a_m_maker 33 m_maker, aI g a_m_partOf 33 m_partOf]) [9, 0, 1, 2, 10, 11, 3, 4, 5, 6, 7, 8] rfl (by decide) ?_
  show ST g C [(a_t, .inr (6, [.int m_thrown, .int m_parts, .ref a_m_stepCount, .ref a_m_froms, .ref a_m_cents, .ref a_m_uses, .ref a_m_stocks, .ref a_m_alternates, .ref a_m_assemblies, .ref a_m_placings, .int m_yields, .ref a_m_yieldAbove, .ref a_m_yieldBelow, .ref a_m_dayCount, .ref a_m_days, .ref a_m_rateAbove, .ref a_m_rateBelow, .long m_tools, .int m_can, .long m_sum, .ref a_m_costs, .ref a_m_pieces, .ref a_m_maker, .ref a_m_partOf, .int m_ran, .int m_keptRows, .ref a_m_keptCosts, .ref a_m_keptPieces, .ref a_m_keptMaker, .ref a_m_keptPart, .ref a_m_oldCosts])), aI g a_m_stepCount 248 m_stepCount, aJ g a_m_froms 1488 m_froms, aJ g a_m_cents 1488 m_cents, aI g a_m_dayCount 8 m_dayCount, aJ g a_m_days 48 m_days, aJ g a_m_rateAbove 48 m_rateAbove, aJ g a_m_rateBelow 48 m_rateBelow, aJ g a_m_costs 33 m_costs, aJ g a_m_pieces 33 m_pieces, aI g a_m_maker 33 m_maker, aI g a_m_partOf 33 m_partOf] [(8, .int x1), (0, .ref a_t), (1, .int p0), (2, .int p1), (3, .int p2), (4, .long p3), (6, .long p4)] [.int r2] 15 0 0
  refine st_istore X (lv2 := [(9, .int r2), (8, .int x1), (0, .ref a_t), (1, .int p0), (2, .int p1), (3, .int p2), (4, .long p3), (6, .long p4)]) d_M_offer_15 (by decide) rfl ?_
  refine st_bipush X (v := 6) d_M_offer_17 (by decide) ?_
  refine st_iload X 1 d_M_offer_19 rfl ?_
  refine st_imul X d_M_offer_21 ?_
  refine st_topi (fun x3 hx3 => ?_)
  replace hw := hw x3 hx3
  refine st_istore X (lv2 := [(10, .int x3), (9, .int r2), (8, .int x1), (0, .ref a_t), (1, .int p0), (2, .int p1), (3, .int p2), (4, .long p3), (6, .long p4)]) d_M_offer_22 (by decide) rfl ?_
  have L24 : ∀ (n24 : Nat) (v4 : Int32) (f5 : Nat → Int64) (f6 : Nat → Int64) (f7 : Nat → Int32) (f8 : Nat → Int32), wp_M_offer_L24 p0 p1 p2 p3 m_stepCount m_froms m_cents m_rateAbove m_rateBelow x1 r2 Q n24 v4 f5 f6 f7 f8 → ST g C [(a_t, .inr (6, [.int m_thrown, .int m_parts, .ref a_m_stepCount, .ref a_m_froms, .ref a_m_cents, .ref a_m_uses, .ref a_m_stocks, .ref a_m_alternates, .ref a_m_assemblies, .ref a_m_placings, .int m_yields, .ref a_m_yieldAbove, .ref a_m_yieldBelow, .ref a_m_dayCount, .ref a_m_days, .ref a_m_rateAbove, .ref a_m_rateBelow, .long m_tools, .int m_can, .long m_sum, .ref a_m_costs, .ref a_m_pieces, .ref a_m_maker, .ref a_m_partOf, .int m_ran, .int m_keptRows, .ref a_m_keptCosts, .ref a_m_keptPieces, .ref a_m_keptMaker, .ref a_m_keptPart, .ref a_m_oldCosts])), aI g a_m_stepCount 248 m_stepCount, aJ g a_m_froms 1488 m_froms, aJ g a_m_cents 1488 m_cents, aI g a_m_dayCount 8 m_dayCount, aJ g a_m_days 48 m_days, aJ g a_m_rateAbove 48 m_rateAbove, aJ g a_m_rateBelow 48 m_rateBelow, aJ g a_m_costs 33 f5, aJ g a_m_pieces 33 f6, aI g a_m_maker 33 f7, aI g a_m_partOf 33 f8] [(0, .ref a_t), (1, .int p0), (2, .int p1), (3, .int p2), (4, .long p3), (6, .long p4), (8, .int x1), (9, .int r2), (10, .int v4)] [] 24 0 0 := by
    intro n24
    induction n24 with
    | zero => intro v4 f5 f6 f7 f8 hw; exact hw.elim
    | succ n24 ih24 =>
      intro v4 f5 f6 f7 f8 hw
      rw [wp_M_offer_L24] at hw
      refine st_iload X 8 d_M_offer_24 rfl ?_
      refine st_bipush X (v := 6) d_M_offer_26 (by decide) ?_
      refine st_iload X 6 d_M_offer_28 rfl ?_
      refine st_imul X d_M_offer_30 ?_
      refine st_aload_n X 0 d_M_offer_31 rfl rfl ?_
      refine st_get X (ci := 6) in_M 0 2 wf_M_7 rfl rfl (by decide) rfl d_M_offer_32 ?_
      refine st_iload X 6 d_M_offer_35 rfl ?_
      obtain ⟨hb1, hw⟩ := hw
      refine st_iald X 1 rfl hb1 d_M_offer_37 ?_
      refine st_iadd X d_M_offer_38 ?_
      refine st_icmp_ge X 236 d_M_offer_39 (by decide) (fun hc => ?_) (fun hc => ?_)
      · replace hw := hw.1 hc
        exact st_vret X hr (f5, f6, f7, f8) hw rfl (by decide) (by decide) d_M_offer_236
      · replace hw := hw.2 hc
        refine st_aload_n X 0 d_M_offer_42 rfl rfl ?_
        refine st_get X (ci := 6) in_M 0 3 wf_M_13 rfl rfl (by decide) rfl d_M_offer_43 ?_
        refine st_iload X 8 d_M_offer_46 rfl ?_
        obtain ⟨hb2, hw⟩ := hw
        refine st_lald X 2 rfl hb2 d_M_offer_48 ?_
        refine st_lload X 4 d_M_offer_49 rfl ?_
        have J67 : ∀ (v9 : Int64), wp_M_offer_J67 p0 p1 p2 m_cents m_rateAbove m_rateBelow r2 v4 f5 f6 f7 f8 (fun z0 z1 z2 z3 z4 => wp_M_offer_L24 p0 p1 p2 p3 m_stepCount m_froms m_cents m_rateAbove m_rateBelow x1 r2 Q n24 z0 z1 z2 z3 z4) v9 → ST g C [(a_t, .inr (6, [.int m_thrown, .int m_parts, .ref a_m_stepCount, .ref a_m_froms, .ref a_m_cents, .ref a_m_uses, .ref a_m_stocks, .ref a_m_alternates, .ref a_m_assemblies, .ref a_m_placings, .int m_yields, .ref a_m_yieldAbove, .ref a_m_yieldBelow, .ref a_m_dayCount, .ref a_m_days, .ref a_m_rateAbove, .ref a_m_rateBelow, .long m_tools, .int m_can, .long m_sum, .ref a_m_costs, .ref a_m_pieces, .ref a_m_maker, .ref a_m_partOf, .int m_ran, .int m_keptRows, .ref a_m_keptCosts, .ref a_m_keptPieces, .ref a_m_keptMaker, .ref a_m_keptPart, .ref a_m_oldCosts])), aI g a_m_stepCount 248 m_stepCount, aJ g a_m_froms 1488 m_froms, aJ g a_m_cents 1488 m_cents, aI g a_m_dayCount 8 m_dayCount, aJ g a_m_days 48 m_days, aJ g a_m_rateAbove 48 m_rateAbove, aJ g a_m_rateBelow 48 m_rateBelow, aJ g a_m_costs 33 f5, aJ g a_m_pieces 33 f6, aI g a_m_maker 33 f7, aI g a_m_partOf 33 f8] [(0, .ref a_t), (1, .int p0), (2, .int p1), (3, .int p2), (4, .long p3), (6, .long p4), (8, .int x1), (9, .int r2), (10, .int v4)] [.long v9] 67 0 0 := by
          intro v9 hw
          unfold wp_M_offer_J67 at hw
          refine st_lstore X (lv2 := [(11, .long v9), (0, .ref a_t), (1, .int p0), (2, .int p1), (3, .int p2), (4, .long p3), (6, .long p4), (8, .int x1), (9, .int r2), (10, .int v4)]) d_M_offer_67 (by decide) rfl ?_
          refine st_iload X 8 d_M_offer_69 rfl ?_
          refine st_iconst X (v := (-1)) d_M_offer_71 (by decide) ?_
          have J116 : ∀ (v10 : Int64), wp_M_offer_J116 p0 p1 p2 v4 f5 f6 f7 f8 v9 (fun z0 z1 z2 z3 z4 => wp_M_offer_L24 p0 p1 p2 p3 m_stepCount m_froms m_cents m_rateAbove m_rateBelow x1 r2 Q n24 z0 z1 z2 z3 z4) v10 → ST g C [(a_t, .inr (6, [.int m_thrown, .int m_parts, .ref a_m_stepCount, .ref a_m_froms, .ref a_m_cents, .ref a_m_uses, .ref a_m_stocks, .ref a_m_alternates, .ref a_m_assemblies, .ref a_m_placings, .int m_yields, .ref a_m_yieldAbove, .ref a_m_yieldBelow, .ref a_m_dayCount, .ref a_m_days, .ref a_m_rateAbove, .ref a_m_rateBelow, .long m_tools, .int m_can, .long m_sum, .ref a_m_costs, .ref a_m_pieces, .ref a_m_maker, .ref a_m_partOf, .int m_ran, .int m_keptRows, .ref a_m_keptCosts, .ref a_m_keptPieces, .ref a_m_keptMaker, .ref a_m_keptPart, .ref a_m_oldCosts])), aI g a_m_stepCount 248 m_stepCount, aJ g a_m_froms 1488 m_froms, aJ g a_m_cents 1488 m_cents, aI g a_m_dayCount 8 m_dayCount, aJ g a_m_days 48 m_days, aJ g a_m_rateAbove 48 m_rateAbove, aJ g a_m_rateBelow 48 m_rateBelow, aJ g a_m_costs 33 f5, aJ g a_m_pieces 33 f6, aI g a_m_maker 33 f7, aI g a_m_partOf 33 f8] [(0, .ref a_t), (1, .int p0), (2, .int p1), (3, .int p2), (4, .long p3), (6, .long p4), (8, .int x1), (9, .int r2), (10, .int v4), (11, .long v9)] [.long v10] 116 0 0 := by
            intro v10 hw
            unfold wp_M_offer_J116 at hw
            refine st_lstore X (lv2 := [(13, .long v10), (0, .ref a_t), (1, .int p0), (2, .int p1), (3, .int p2), (4, .long p3), (6, .long p4), (8, .int x1), (9, .int r2), (10, .int v4), (11, .long v9)]) d_M_offer_116 (by decide) rfl ?_
            refine st_aload_n X 1 d_M_offer_118 rfl rfl ?_
            refine st_get X (ci := 6) in_M 0 21 wf_M_56 rfl rfl (by decide) rfl d_M_offer_119 ?_
            refine st_iload_n X 2 d_M_offer_122 rfl rfl ?_
            obtain ⟨hb3, hw⟩ := hw
            refine st_lald X 9 rfl hb3 d_M_offer_123 ?_
            refine st_lconst X (v := 0) d_M_offer_124 (by decide) ?_
            have J190 : ∀ (v11 : Int32), wp_M_offer_J190 p0 p1 p2 v4 f5 f6 f7 f8 v9 v10 (fun z0 z1 z2 z3 z4 => wp_M_offer_L24 p0 p1 p2 p3 m_stepCount m_froms m_cents m_rateAbove m_rateBelow x1 r2 Q n24 z0 z1 z2 z3 z4) v11 → ST g C [(a_t, .inr (6, [.int m_thrown, .int m_parts, .ref a_m_stepCount, .ref a_m_froms, .ref a_m_cents, .ref a_m_uses, .ref a_m_stocks, .ref a_m_alternates, .ref a_m_assemblies, .ref a_m_placings, .int m_yields, .ref a_m_yieldAbove, .ref a_m_yieldBelow, .ref a_m_dayCount, .ref a_m_days, .ref a_m_rateAbove, .ref a_m_rateBelow, .long m_tools, .int m_can, .long m_sum, .ref a_m_costs, .ref a_m_pieces, .ref a_m_maker, .ref a_m_partOf, .int m_ran, .int m_keptRows, .ref a_m_keptCosts, .ref a_m_keptPieces, .ref a_m_keptMaker, .ref a_m_keptPart, .ref a_m_oldCosts])), aI g a_m_stepCount 248 m_stepCount, aJ g a_m_froms 1488 m_froms, aJ g a_m_cents 1488 m_cents, aI g a_m_dayCount 8 m_dayCount, aJ g a_m_days 48 m_days, aJ g a_m_rateAbove 48 m_rateAbove, aJ g a_m_rateBelow 48 m_rateBelow, aJ g a_m_costs 33 f5, aJ g a_m_pieces 33 f6, aI g a_m_maker 33 f7, aI g a_m_partOf 33 f8] [(0, .ref a_t), (1, .int p0), (2, .int p1), (3, .int p2), (4, .long p3), (6, .long p4), (8, .int x1), (9, .int r2), (10, .int v4), (11, .long v9), (13, .long v10)] [.int v11] 190 0 0 := by
              intro v11 hw
              unfold wp_M_offer_J190 at hw
              refine st_istore X (lv2 := [(15, .int v11), (0, .ref a_t), (1, .int p0), (2, .int p1), (3, .int p2), (4, .long p3), (6, .long p4), (8, .int x1), (9, .int r2), (10, .int v4), (11, .long v9), (13, .long v10)]) d_M_offer_190 (by decide) rfl ?_
              refine st_iload X 0 d_M_offer_192 rfl ?_
              have J230 : ∀ (f12 : Nat → Int64) (f13 : Nat → Int64) (f14 : Nat → Int32) (f15 : Nat → Int32), wp_M_offer_J230 v4 (fun z0 z1 z2 z3 z4 => wp_M_offer_L24 p0 p1 p2 p3 m_stepCount m_froms m_cents m_rateAbove m_rateBelow x1 r2 Q n24 z0 z1 z2 z3 z4) f12 f13 f14 f15 → ST g C [(a_t, .inr (6, [.int m_thrown, .int m_parts, .ref a_m_stepCount, .ref a_m_froms, .ref a_m_cents, .ref a_m_uses, .ref a_m_stocks, .ref a_m_alternates, .ref a_m_assemblies, .ref a_m_placings, .int m_yields, .ref a_m_yieldAbove, .ref a_m_yieldBelow, .ref a_m_dayCount, .ref a_m_days, .ref a_m_rateAbove, .ref a_m_rateBelow, .long m_tools, .int m_can, .long m_sum, .ref a_m_costs, .ref a_m_pieces, .ref a_m_maker, .ref a_m_partOf, .int m_ran, .int m_keptRows, .ref a_m_keptCosts, .ref a_m_keptPieces, .ref a_m_keptMaker, .ref a_m_keptPart, .ref a_m_oldCosts])), aI g a_m_stepCount 248 m_stepCount, aJ g a_m_froms 1488 m_froms, aJ g a_m_cents 1488 m_cents, aI g a_m_dayCount 8 m_dayCount, aJ g a_m_days 48 m_days, aJ g a_m_rateAbove 48 m_rateAbove, aJ g a_m_rateBelow 48 m_rateBelow, aJ g a_m_costs 33 f12, aJ g a_m_pieces 33 f13, aI g a_m_maker 33 f14, aI g a_m_partOf 33 f15] [(0, .ref a_t), (1, .int p0), (2, .int p1), (3, .int p2), (4, .long p3), (6, .long p4), (8, .int x1), (9, .int r2), (10, .int v4), (11, .long v9), (13, .long v10), (15, .int v11)] [] 230 0 0 := by
                intro f12 f13 f14 f15 hw
                unfold wp_M_offer_J230 at hw
                obtain ⟨x16, hx16⟩ : ∃ z : Int32, z = v4 + 1 := ⟨_, rfl⟩
                replace hw := hw x16 hx16
                refine st_iinc X (v := x16) (lv2 := [(10, .int x16), (0, .ref a_t), (1, .int p0), (2, .int p1), (3, .int p2), (4, .long p3), (6, .long p4), (8, .int x1), (9, .int r2), (11, .long v9), (13, .long v10), (15, .int v11)]) 8 d_M_offer_230 rfl (by rw [hx16]; rfl) (by decide) rfl ?_
                refine st_goto X 24 d_M_offer_233 (by decide) ?_
                refine st_lv [1, 2, 3, 4, 5, 6, 7, 8, 0] rfl ?_
                exact ih24 x16 f12 f13 f14 f15 hw
              refine st_if_ne X 200 d_M_offer_194 (by decide) (fun hc => ?_) (fun hc => ?_)
              · replace hw := hw.1 hc
                refine st_aload_n X 1 d_M_offer_200 rfl rfl ?_
                refine st_get X (ci := 6) in_M 0 20 wf_M_53 rfl rfl (by decide) rfl d_M_offer_201 ?_
                refine st_iload_n X 2 d_M_offer_204 rfl rfl ?_
                refine st_lload X 11 d_M_offer_205 rfl ?_
                obtain ⟨hb4, hw⟩ := hw
                obtain ⟨f17, hf17⟩ : ∃ z : Nat → Int64, z = vp_updL f5 p0.toNatClampNeg v10 := ⟨_, rfl⟩
                replace hw := hw f17 hf17
                refine st_last X (ws2 := [(a_t, .inr (6, [.int m_thrown, .int m_parts, .ref a_m_stepCount, .ref a_m_froms, .ref a_m_cents, .ref a_m_uses, .ref a_m_stocks, .ref a_m_alternates, .ref a_m_assemblies, .ref a_m_placings, .int m_yields, .ref a_m_yieldAbove, .ref a_m_yieldBelow, .ref a_m_dayCount, .ref a_m_days, .ref a_m_rateAbove, .ref a_m_rateBelow, .long m_tools, .int m_can, .long m_sum, .ref a_m_costs, .ref a_m_pieces, .ref a_m_maker, .ref a_m_partOf, .int m_ran, .int m_keptRows, .ref a_m_keptCosts, .ref a_m_keptPieces, .ref a_m_keptMaker, .ref a_m_keptPart, .ref a_m_oldCosts])), aI g a_m_stepCount 248 m_stepCount, aJ g a_m_froms 1488 m_froms, aJ g a_m_cents 1488 m_cents, aI g a_m_dayCount 8 m_dayCount, aJ g a_m_days 48 m_days, aJ g a_m_rateAbove 48 m_rateAbove, aJ g a_m_rateBelow 48 m_rateBelow, aJ g a_m_costs 33 f17, aJ g a_m_pieces 33 f6, aI g a_m_maker 33 f7, aI g a_m_partOf 33 f8]) 8 rfl hb4 (by rw [hf17]; rfl) d_M_offer_207 ?_
                refine st_aload_n X 1 d_M_offer_208 rfl rfl ?_
                refine st_get X (ci := 6) in_M 0 21 wf_M_56 rfl rfl (by decide) rfl d_M_offer_209 ?_
                refine st_iload_n X 2 d_M_offer_212 rfl rfl ?_
                refine st_lload X 10 d_M_offer_213 rfl ?_
                obtain ⟨hb5, hw⟩ := hw
                obtain ⟨f18, hf18⟩ : ∃ z : Nat → Int64, z = vp_updL f6 p0.toNatClampNeg v9 := ⟨_, rfl⟩
                replace hw := hw f18 hf18
                refine st_last X (ws2 := [(a_t, .inr (6, [.int m_thrown, .int m_parts, .ref a_m_stepCount, .ref a_m_froms, .ref a_m_cents, .ref a_m_uses, .ref a_m_stocks, .ref a_m_alternates, .ref a_m_assemblies, .ref a_m_placings, .int m_yields, .ref a_m_yieldAbove, .ref a_m_yieldBelow, .ref a_m_dayCount, .ref a_m_days, .ref a_m_rateAbove, .ref a_m_rateBelow, .long m_tools, .int m_can, .long m_sum, .ref a_m_costs, .ref a_m_pieces, .ref a_m_maker, .ref a_m_partOf, .int m_ran, .int m_keptRows, .ref a_m_keptCosts, .ref a_m_keptPieces, .ref a_m_keptMaker, .ref a_m_keptPart, .ref a_m_oldCosts])), aI g a_m_stepCount 248 m_stepCount, aJ g a_m_froms 1488 m_froms, aJ g a_m_cents 1488 m_cents, aI g a_m_dayCount 8 m_dayCount, aJ g a_m_days 48 m_days, aJ g a_m_rateAbove 48 m_rateAbove, aJ g a_m_rateBelow 48 m_rateBelow, aJ g a_m_costs 33 f17, aJ g a_m_pieces 33 f18, aI g a_m_maker 33 f7, aI g a_m_partOf 33 f8]) 9 rfl hb5 (by rw [hf18]; rfl) d_M_offer_215 ?_
                refine st_aload_n X 1 d_M_offer_216 rfl rfl ?_
                refine st_get X (ci := 6) in_M 0 22 wf_M_59 rfl rfl (by decide) rfl d_M_offer_217 ?_
                refine st_iload_n X 2 d_M_offer_220 rfl rfl ?_
                refine st_iload_n X 4 d_M_offer_221 rfl rfl ?_
                obtain ⟨hb6, hw⟩ := hw
                obtain ⟨f19, hf19⟩ : ∃ z : Nat → Int32, z = upd f7 p0.toNatClampNeg p2 := ⟨_, rfl⟩
                replace hw := hw f19 hf19
                refine st_iast X (ws2 := [(a_t, .inr (6, [.int m_thrown, .int m_parts, .ref a_m_stepCount, .ref a_m_froms, .ref a_m_cents, .ref a_m_uses, .ref a_m_stocks, .ref a_m_alternates, .ref a_m_assemblies, .ref a_m_placings, .int m_yields, .ref a_m_yieldAbove, .ref a_m_yieldBelow, .ref a_m_dayCount, .ref a_m_days, .ref a_m_rateAbove, .ref a_m_rateBelow, .long m_tools, .int m_can, .long m_sum, .ref a_m_costs, .ref a_m_pieces, .ref a_m_maker, .ref a_m_partOf, .int m_ran, .int m_keptRows, .ref a_m_keptCosts, .ref a_m_keptPieces, .ref a_m_keptMaker, .ref a_m_keptPart, .ref a_m_oldCosts])), aI g a_m_stepCount 248 m_stepCount, aJ g a_m_froms 1488 m_froms, aJ g a_m_cents 1488 m_cents, aI g a_m_dayCount 8 m_dayCount, aJ g a_m_days 48 m_days, aJ g a_m_rateAbove 48 m_rateAbove, aJ g a_m_rateBelow 48 m_rateBelow, aJ g a_m_costs 33 f17, aJ g a_m_pieces 33 f18, aI g a_m_maker 33 f19, aI g a_m_partOf 33 f8]) 10 rfl hb6 (by rw [hf19]; rfl) d_M_offer_222 ?_
                refine st_aload_n X 1 d_M_offer_223 rfl rfl ?_
                refine st_get X (ci := 6) in_M 0 23 wf_M_62 rfl rfl (by decide) rfl d_M_offer_224 ?_
                refine st_iload_n X 2 d_M_offer_227 rfl rfl ?_
                refine st_iload_n X 3 d_M_offer_228 rfl rfl ?_
                obtain ⟨hb7, hw⟩ := hw
                obtain ⟨f20, hf20⟩ : ∃ z : Nat → Int32, z = upd f8 p0.toNatClampNeg p1 := ⟨_, rfl⟩
                replace hw := hw f20 hf20
                refine st_iast X (ws2 := [(a_t, .inr (6, [.int m_thrown, .int m_parts, .ref a_m_stepCount, .ref a_m_froms, .ref a_m_cents, .ref a_m_uses, .ref a_m_stocks, .ref a_m_alternates, .ref a_m_assemblies, .ref a_m_placings, .int m_yields, .ref a_m_yieldAbove, .ref a_m_yieldBelow, .ref a_m_dayCount, .ref a_m_days, .ref a_m_rateAbove, .ref a_m_rateBelow, .long m_tools, .int m_can, .long m_sum, .ref a_m_costs, .ref a_m_pieces, .ref a_m_maker, .ref a_m_partOf, .int m_ran, .int m_keptRows, .ref a_m_keptCosts, .ref a_m_keptPieces, .ref a_m_keptMaker, .ref a_m_keptPart, .ref a_m_oldCosts])), aI g a_m_stepCount 248 m_stepCount, aJ g a_m_froms 1488 m_froms, aJ g a_m_cents 1488 m_cents, aI g a_m_dayCount 8 m_dayCount, aJ g a_m_days 48 m_days, aJ g a_m_rateAbove 48 m_rateAbove, aJ g a_m_rateBelow 48 m_rateBelow, aJ g a_m_costs 33 f17, aJ g a_m_pieces 33 f18, aI g a_m_maker 33 f19, aI g a_m_partOf 33 f20]) 11 rfl hb7 (by rw [hf20]; rfl) d_M_offer_229 ?_
                refine st_lv [1, 2, 3, 4, 5, 6, 7, 8, 9, 10, 11, 0] rfl ?_
                exact J230 f17 f18 f19 f20 hw
              · replace hw := hw.2 hc
                refine st_goto X 230 d_M_offer_197 (by decide) ?_
                refine st_lv [1, 2, 3, 4, 5, 6, 7, 8, 9, 10, 11, 0] rfl ?_
                exact J230 f5 f6 f7 f8 hw
            have J185 : wp_M_offer_J185 p0 p1 p2 v4 f5 f6 f7 f8 v9 v10 (fun z0 z1 z2 z3 z4 => wp_M_offer_L24 p0 p1 p2 p3 m_stepCount m_froms m_cents m_rateAbove m_rateBelow x1 r2 Q n24 z0 z1 z2 z3 z4) → ST g C [(a_t, .inr (6, [.int m_thrown, .int m_parts, .ref a_m_stepCount, .ref a_m_froms, .ref a_m_cents, .ref a_m_uses, .ref a_m_stocks, .ref a_m_alternates, .ref a_m_assemblies, .ref a_m_placings, .int m_yields, .ref a_m_yieldAbove, .ref a_m_yieldBelow, .ref a_m_dayCount, .ref a_m_days, .ref a_m_rateAbove, .ref a_m_rateBelow, .long m_tools, .int m_can, .long m_sum, .ref a_m_costs, .ref a_m_pieces, .ref a_m_maker, .ref a_m_partOf, .int m_ran, .int m_keptRows, .ref a_m_keptCosts, .ref a_m_keptPieces, .ref a_m_keptMaker, .ref a_m_keptPart, .ref a_m_oldCosts])), aI g a_m_stepCount 248 m_stepCount, aJ g a_m_froms 1488 m_froms, aJ g a_m_cents 1488 m_cents, aI g a_m_dayCount 8 m_dayCount, aJ g a_m_days 48 m_days, aJ g a_m_rateAbove 48 m_rateAbove, aJ g a_m_rateBelow 48 m_rateBelow, aJ g a_m_costs 33 f5, aJ g a_m_pieces 33 f6, aI g a_m_maker 33 f7, aI g a_m_partOf 33 f8] [(0, .ref a_t), (1, .int p0), (2, .int p1), (3, .int p2), (4, .long p3), (6, .long p4), (8, .int x1), (9, .int r2), (10, .int v4), (11, .long v9), (13, .long v10)] [] 185 0 0 := by
              intro hw
              unfold wp_M_offer_J185 at hw
              refine st_iconst X (v := 1) d_M_offer_185 (by decide) ?_
              refine st_goto X 190 d_M_offer_186 (by decide) ?_
              refine st_lv [0, 1, 2, 3, 4, 5, 6, 7, 8, 9, 10] rfl ?_
              exact J190 1 hw
            refine st_lcmp_eq X 185 d_M_offer_125 d_M_offer_126 (by decide) (fun hc => ?_) (fun hc => ?_)
            · replace hw := hw.1 hc
              refine st_lv [1, 2, 3, 4, 5, 6, 7, 8, 9, 10, 0] rfl ?_
              exact J185 hw
            · replace hw := hw.2 hc
              refine st_lload X 0 d_M_offer_129 rfl ?_
              refine st_aload_n X 1 d_M_offer_131 rfl rfl ?_
              refine st_get X (ci := 6) in_M 0 20 wf_M_53 rfl rfl (by decide) rfl d_M_offer_132 ?_
              refine st_iload_n X 2 d_M_offer_135 rfl rfl ?_
              obtain ⟨hb8, hw⟩ := hw
              refine st_lald X 8 rfl hb8 d_M_offer_136 ?_
              refine st_lcmp_lt X 185 d_M_offer_137 d_M_offer_138 (by decide) (fun hc => ?_) (fun hc => ?_)
              · replace hw := hw.1 hc
                refine st_lv [1, 2, 3, 4, 5, 6, 7, 8, 9, 10, 0] rfl ?_
                exact J185 hw
              · replace hw := hw.2 hc
                refine st_lload X 0 d_M_offer_141 rfl ?_
                refine st_aload_n X 1 d_M_offer_143 rfl rfl ?_
                refine st_get X (ci := 6) in_M 0 20 wf_M_53 rfl rfl (by decide) rfl d_M_offer_144 ?_
                refine st_iload_n X 2 d_M_offer_147 rfl rfl ?_
                obtain ⟨hb9, hw⟩ := hw
                refine st_lald X 8 rfl hb9 d_M_offer_148 ?_
                have J189 : wp_M_offer_J189 p0 p1 p2 v4 f5 f6 f7 f8 v9 v10 (fun z0 z1 z2 z3 z4 => wp_M_offer_L24 p0 p1 p2 p3 m_stepCount m_froms m_cents m_rateAbove m_rateBelow x1 r2 Q n24 z0 z1 z2 z3 z4) → ST g C [(a_t, .inr (6, [.int m_thrown, .int m_parts, .ref a_m_stepCount, .ref a_m_froms, .ref a_m_cents, .ref a_m_uses, .ref a_m_stocks, .ref a_m_alternates, .ref a_m_assemblies, .ref a_m_placings, .int m_yields, .ref a_m_yieldAbove, .ref a_m_yieldBelow, .ref a_m_dayCount, .ref a_m_days, .ref a_m_rateAbove, .ref a_m_rateBelow, .long m_tools, .int m_can, .long m_sum, .ref a_m_costs, .ref a_m_pieces, .ref a_m_maker, .ref a_m_partOf, .int m_ran, .int m_keptRows, .ref a_m_keptCosts, .ref a_m_keptPieces, .ref a_m_keptMaker, .ref a_m_keptPart, .ref a_m_oldCosts])), aI g a_m_stepCount 248 m_stepCount, aJ g a_m_froms 1488 m_froms, aJ g a_m_cents 1488 m_cents, aI g a_m_dayCount 8 m_dayCount, aJ g a_m_days 48 m_days, aJ g a_m_rateAbove 48 m_rateAbove, aJ g a_m_rateBelow 48 m_rateBelow, aJ g a_m_costs 33 f5, aJ g a_m_pieces 33 f6, aI g a_m_maker 33 f7, aI g a_m_partOf 33 f8] [(0, .ref a_t), (1, .int p0), (2, .int p1), (3, .int p2), (4, .long p3), (6, .long p4), (8, .int x1), (9, .int r2), (10, .int v4), (11, .long v9), (13, .long v10)] [] 189 0 0 := by
                  intro hw
                  unfold wp_M_offer_J189 at hw
                  refine st_iconst X (v := 0) d_M_offer_189 (by decide) ?_
                  refine st_lv [0, 1, 2, 3, 4, 5, 6, 7, 8, 9, 10] rfl ?_
                  exact J190 0 hw
                refine st_lcmp_ne X 189 d_M_offer_149 d_M_offer_150 (by decide) (fun hc => ?_) (fun hc => ?_)
                · replace hw := hw.1 hc
                  refine st_lv [1, 2, 3, 4, 5, 6, 7, 8, 9, 10, 0] rfl ?_
                  exact J189 hw
                · replace hw := hw.2 hc
                  refine st_aload_n X 1 d_M_offer_153 rfl rfl ?_
                  refine st_get X (ci := 6) in_M 0 22 wf_M_59 rfl rfl (by decide) rfl d_M_offer_154 ?_
                  refine st_iload_n X 2 d_M_offer_157 rfl rfl ?_
                  obtain ⟨hb10, hw⟩ := hw
                  refine st_iald X 10 rfl hb10 d_M_offer_158 ?_
                  refine st_iload_n X 4 d_M_offer_159 rfl rfl ?_
                  refine st_icmp_ne X 189 d_M_offer_160 (by decide) (fun hc => ?_) (fun hc => ?_)
                  · replace hw := hw.1 hc
                    refine st_lv [1, 2, 3, 4, 5, 6, 7, 8, 9, 10, 0] rfl ?_
                    exact J189 hw
                  · replace hw := hw.2 hc
                    refine st_aload_n X 1 d_M_offer_163 rfl rfl ?_
                    refine st_get X (ci := 6) in_M 0 23 wf_M_62 rfl rfl (by decide) rfl d_M_offer_164 ?_
                    refine st_iload_n X 2 d_M_offer_167 rfl rfl ?_
                    obtain ⟨hb11, hw⟩ := hw
                    refine st_iald X 11 rfl hb11 d_M_offer_168 ?_
                    refine st_iload_n X 3 d_M_offer_169 rfl rfl ?_
                    refine st_icmp_ne X 189 d_M_offer_170 (by decide) (fun hc => ?_) (fun hc => ?_)
                    · replace hw := hw.1 hc
                      refine st_lv [1, 2, 3, 4, 5, 6, 7, 8, 9, 10, 0] rfl ?_
                      exact J189 hw
                    · replace hw := hw.2 hc
                      refine st_lload X 10 d_M_offer_173 rfl ?_
                      refine st_aload_n X 1 d_M_offer_175 rfl rfl ?_
                      refine st_get X (ci := 6) in_M 0 21 wf_M_56 rfl rfl (by decide) rfl d_M_offer_176 ?_
                      refine st_iload_n X 2 d_M_offer_179 rfl rfl ?_
                      obtain ⟨hb12, hw⟩ := hw
                      refine st_lald X 9 rfl hb12 d_M_offer_180 ?_
                      refine st_lcmp_ge X 189 d_M_offer_181 d_M_offer_182 (by decide) (fun hc => ?_) (fun hc => ?_)
                      · replace hw := hw.1 hc
                        refine st_lv [1, 2, 3, 4, 5, 6, 7, 8, 9, 10, 0] rfl ?_
                        exact J189 hw
                      · replace hw := hw.2 hc
                        refine st_lv [1, 2, 3, 4, 5, 6, 7, 8, 9, 10, 0] rfl ?_
                        exact J185 hw
          refine st_icmp_ne X 88 d_M_offer_72 (by decide) (fun hc => ?_) (fun hc => ?_)
          · replace hw := hw.1 hc
            refine st_lload X 0 d_M_offer_88 rfl ?_
            refine st_aload_n X 1 d_M_offer_90 rfl rfl ?_
            refine st_get X (ci := 6) in_M 0 4 wf_M_17 rfl rfl (by decide) rfl d_M_offer_91 ?_
            refine st_iload X 9 d_M_offer_94 rfl ?_
            obtain ⟨hb13, hw⟩ := hw
            refine st_lald X 3 rfl hb13 d_M_offer_96 ?_
            refine st_lmul X d_M_offer_97 ?_
            refine st_aload_n X 1 d_M_offer_98 rfl rfl ?_
            refine st_get X (ci := 6) in_M 0 15 wf_M_47 rfl rfl (by decide) rfl d_M_offer_99 ?_
            refine st_iload X 8 d_M_offer_102 rfl ?_
            obtain ⟨hb14, hw⟩ := hw
            refine st_lald X 6 rfl hb14 d_M_offer_104 ?_
            refine st_lmul X d_M_offer_105 ?_
            refine st_aload_n X 1 d_M_offer_106 rfl rfl ?_
            refine st_get X (ci := 6) in_M 0 16 wf_M_50 rfl rfl (by decide) rfl d_M_offer_107 ?_
            refine st_iload X 8 d_M_offer_110 rfl ?_
            obtain ⟨hb15, hw⟩ := hw
            refine st_lald X 7 rfl hb15 d_M_offer_112 ?_
            have hR := rn_S (pc := 113) (k := 0) (n := 0) (As := [.long ((v9 * (m_cents v4.toNatClampNeg)) * (m_rateAbove r2.toNatClampNeg)), .long (m_rateBelow r2.toNatClampNeg)]) (rest := []) X (k_M_up g hg ((v9 * (m_cents v4.toNatClampNeg)) * (m_rateAbove r2.toNatClampNeg)) (m_rateBelow r2.toNatClampNeg) _ hw) wm_M_124 ws_M_up wz_M wc_M_up h9_M_up ⟨by decide, by decide⟩ (Nat.le_of_ble_eq_true rfl) ⟨by decide, by decide⟩ d_M_offer_113
            refine st_calll X hR [] [0, 1, 2, 3, 4, 5, 6, 7, 8, 9, 10, 11] (wr := [(a_t, .inr (6, [.int m_thrown, .int m_parts, .ref a_m_stepCount, .ref a_m_froms, .ref a_m_cents, .ref a_m_uses, .ref a_m_stocks, .ref a_m_alternates, .ref a_m_assemblies, .ref a_m_placings, .int m_yields, .ref a_m_yieldAbove, .ref a_m_yieldBelow, .ref a_m_dayCount, .ref a_m_days, .ref a_m_rateAbove, .ref a_m_rateBelow, .long m_tools, .int m_can, .long m_sum, .ref a_m_costs, .ref a_m_pieces, .ref a_m_maker, .ref a_m_partOf, .int m_ran, .int m_keptRows, .ref a_m_keptCosts, .ref a_m_keptPieces, .ref a_m_keptMaker, .ref a_m_keptPart, .ref a_m_oldCosts])), aI g a_m_stepCount 248 m_stepCount, aJ g a_m_froms 1488 m_froms, aJ g a_m_cents 1488 m_cents, aI g a_m_dayCount 8 m_dayCount, aJ g a_m_days 48 m_days, aJ g a_m_rateAbove 48 m_rateAbove, aJ g a_m_rateBelow 48 m_rateBelow, aJ g a_m_costs 33 f5, aJ g a_m_pieces 33 f6, aI g a_m_maker 33 f7, aI g a_m_partOf 33 f8]) rfl rfl (by decide) (by decide) (by decide) (fun r21 u9 hw => ?_)
            try dsimp only at hw
            refine st_widen (k2 := 0) (n2 := 0) (by decide) (by decide) ?_
            refine st_perm (ws2 := [(a_t, .inr (6, [.int m_thrown, .int m_parts, .ref a_m_stepCount, .ref a_m_froms, .ref a_m_cents, .ref a_m_uses, .ref a_m_stocks, .ref a_m_alternates, .ref a_m_assemblies, .ref a_m_placings, .int m_yields, .ref a_m_yieldAbove, .ref a_m_yieldBelow, .ref a_m_dayCount, .ref a_m_days, .ref a_m_rateAbove, .ref a_m_rateBelow, .long m_tools, .int m_can, .long m_sum, .ref a_m_costs, .ref a_m_pieces, .ref a_m_maker, .ref a_m_partOf, .int m_ran, .int m_keptRows, .ref a_m_keptCosts, .ref a_m_keptPieces, .ref a_m_keptMaker, .ref a_m_keptPart, .ref a_m_oldCosts])), aI g a_m_stepCount 248 m_stepCount, aJ g a_m_froms 1488 m_froms, aJ g a_m_cents 1488 m_cents, aI g a_m_dayCount 8 m_dayCount, aJ g a_m_days 48 m_days, aJ g a_m_rateAbove 48 m_rateAbove, aJ g a_m_rateBelow 48 m_rateBelow, aJ g a_m_costs 33 f5, aJ g a_m_pieces 33 f6, aI g a_m_maker 33 f7, aI g a_m_partOf 33 f8]) [0, 1, 2, 3, 4, 5, 6, 7, 8, 9, 10, 11] rfl (by decide) ?_
            show ST g C [(a_t, .inr (6, [.int m_thrown, .int m_parts, .ref a_m_stepCount, .ref a_m_froms, .ref a_m_cents, .ref a_m_uses, .ref a_m_stocks, .ref a_m_alternates, .ref a_m_assemblies, .ref a_m_placings, .int m_yields, .ref a_m_yieldAbove, .ref a_m_yieldBelow, .ref a_m_dayCount, .ref a_m_days, .ref a_m_rateAbove, .ref a_m_rateBelow, .long m_tools, .int m_can, .long m_sum, .ref a_m_costs, .ref a_m_pieces, .ref a_m_maker, .ref a_m_partOf, .int m_ran, .int m_keptRows, .ref a_m_keptCosts, .ref a_m_keptPieces, .ref a_m_keptMaker, .ref a_m_keptPart, .ref a_m_oldCosts])), aI g a_m_stepCount 248 m_stepCount, aJ g a_m_froms 1488 m_froms, aJ g a_m_cents 1488 m_cents, aI g a_m_dayCount 8 m_dayCount, aJ g a_m_days 48 m_days, aJ g a_m_rateAbove 48 m_rateAbove, aJ g a_m_rateBelow 48 m_rateBelow, aJ g a_m_costs 33 f5, aJ g a_m_pieces 33 f6, aI g a_m_maker 33 f7, aI g a_m_partOf 33 f8] [(11, .long v9), (0, .ref a_t), (1, .int p0), (2, .int p1), (3, .int p2), (4, .long p3), (6, .long p4), (8, .int x1), (9, .int r2), (10, .int v4)] [.long r21] 116 0 0
            refine st_lv [1, 2, 3, 4, 5, 6, 7, 8, 9, 0] rfl ?_
            exact J116 r21 hw
          · replace hw := hw.2 hc
            refine st_lload X 0 d_M_offer_75 rfl ?_
            refine st_aload_n X 1 d_M_offer_77 rfl rfl ?_
            refine st_get X (ci := 6) in_M 0 4 wf_M_17 rfl rfl (by decide) rfl d_M_offer_78 ?_
            refine st_iload X 9 d_M_offer_81 rfl ?_
            obtain ⟨hb16, hw⟩ := hw
            refine st_lald X 3 rfl hb16 d_M_offer_83 ?_
            refine st_lmul X d_M_offer_84 ?_
            refine st_goto X 116 d_M_offer_85 (by decide) ?_
            refine st_lv [1, 2, 3, 4, 5, 6, 7, 8, 9, 0] rfl ?_
            exact J116 (v9 * (m_cents v4.toNatClampNeg)) hw
        refine st_lcmp_le X 65 d_M_offer_51 d_M_offer_52 (by decide) (fun hc => ?_) (fun hc => ?_)
        · replace hw := hw.1 hc
          refine st_lload X 4 d_M_offer_65 rfl ?_
          refine st_lv [0, 1, 2, 3, 4, 5, 6, 7, 8] rfl ?_
          exact J67 p3 hw
        · replace hw := hw.2 hc
          refine st_aload_n X 0 d_M_offer_55 rfl rfl ?_
          refine st_get X (ci := 6) in_M 0 3 wf_M_13 rfl rfl (by decide) rfl d_M_offer_56 ?_
          refine st_iload X 8 d_M_offer_59 rfl ?_
          obtain ⟨hb17, hw⟩ := hw
          refine st_lald X 2 rfl hb17 d_M_offer_61 ?_
          refine st_goto X 67 d_M_offer_62 (by decide) ?_
          refine st_lv [0, 1, 2, 3, 4, 5, 6, 7, 8] rfl ?_
          exact J67 (m_froms v4.toNatClampNeg) hw
  obtain ⟨n24, hw⟩ := hw
  refine st_lv [3, 4, 5, 6, 7, 8, 2, 1, 0] rfl ?_
  exact L24 n24 x3 m_costs m_pieces m_maker m_partOf hw

theorem h9_M_started : y_M_started.cls ≠ "java/lang/invoke/MethodHandle" ∧ y_M_started.cls ≠ "java/lang/invoke/VarHandle" ∧ (parseMethodDescriptor y_M_started.desc).map (fun d => d.parameters.length) = some 1 := by decide +kernel
def wp_M_started_J49 (v2 : Int64) (Q : Int64 → Prop) : Prop :=
  Q v2
def wp_M_started_L10 (m_yieldAbove : Nat → Int64) (m_yieldBelow : Nat → Int64) (Q : Int64 → Prop) : Nat → Int64 → Int32 → Prop
  | 0, _, _ => False
  | n10 + 1, v2, v3 =>
  ((v3 < 0) → wp_M_started_J49 v2 Q) ∧
  ((¬ v3 < 0) → ((1000000000 < v2) → wp_M_started_J49 v2 Q) ∧
  ((¬ 1000000000 < v2) → vp_in v3 8 ∧
  vp_in v3 8 ∧
  wp_M_up (v2 * (m_yieldBelow v3.toNatClampNeg)) (m_yieldAbove v3.toNatClampNeg) (fun r4 =>
  ∀ x5 : Int32, x5 = v3 + (-1) →
  (wp_M_started_L10 m_yieldAbove m_yieldBelow Q n10) r4 x5)))
def wp_M_started (p0 : Int64) (m_yields : Int32) (m_yieldAbove : Nat → Int64) (m_yieldBelow : Nat → Int64) (Q : Int64 → Prop) : Prop :=
  ∀ x1 : Int32, x1 = m_yields - 1 →
  ∃ n10 : Nat, wp_M_started_L10 m_yieldAbove m_yieldBelow Q n10 p0 x1
set_option maxHeartbeats 4000000 in
set_option maxRecDepth 100000 in
theorem k_M_started (g : GX) (hg : g.1.stackTraces = false) (a_t : Nat) (p0 : Int64) (m_thrown : Int32) (m_parts : Int32) (a_m_stepCount : Nat) (a_m_froms : Nat) (a_m_cents : Nat) (a_m_uses : Nat) (a_m_stocks : Nat) (a_m_alternates : Nat) (a_m_assemblies : Nat) (a_m_placings : Nat) (m_yields : Int32) (a_m_yieldAbove : Nat) (a_m_yieldBelow : Nat) (a_m_dayCount : Nat) (a_m_days : Nat) (a_m_rateAbove : Nat) (a_m_rateBelow : Nat) (m_tools : Int64) (m_can : Int32) (m_sum : Int64) (a_m_costs : Nat) (a_m_pieces : Nat) (a_m_maker : Nat) (a_m_partOf : Nat) (m_ran : Int32) (m_keptRows : Int32) (a_m_keptCosts : Nat) (a_m_keptPieces : Nat) (a_m_keptMaker : Nat) (a_m_keptPart : Nat) (a_m_oldCosts : Nat) (m_yieldAbove : Nat → Int64) (m_yieldBelow : Nat → Int64) (Q : Int64 → Prop) (hw : wp_M_started p0 m_yields m_yieldAbove m_yieldBelow Q) : CT g y_M_started c_M_started 6 (some .long) ({ frames := 1, cells := 0, slots := 0, locals := 23 } : Room) [.ref a_t, .long p0] [(a_t, .inr (6, [.int m_thrown, .int m_parts, .ref a_m_stepCount, .ref a_m_froms, .ref a_m_cents, .ref a_m_uses, .ref a_m_stocks, .ref a_m_alternates, .ref a_m_assemblies, .ref a_m_placings, .int m_yields, .ref a_m_yieldAbove, .ref a_m_yieldBelow, .ref a_m_dayCount, .ref a_m_days, .ref a_m_rateAbove, .ref a_m_rateBelow, .long m_tools, .int m_can, .long m_sum, .ref a_m_costs, .ref a_m_pieces, .ref a_m_maker, .ref a_m_partOf, .int m_ran, .int m_keptRows, .ref a_m_keptCosts, .ref a_m_keptPieces, .ref a_m_keptMaker, .ref a_m_keptPart, .ref a_m_oldCosts])), aJ g a_m_yieldAbove 8 m_yieldAbove, aJ g a_m_yieldBelow 8 m_yieldBelow] (QL g [(a_t, .inr (6, [.int m_thrown, .int m_parts, .ref a_m_stepCount, .ref a_m_froms, .ref a_m_cents, .ref a_m_uses, .ref a_m_stocks, .ref a_m_alternates, .ref a_m_assemblies, .ref a_m_placings, .int m_yields, .ref a_m_yieldAbove, .ref a_m_yieldBelow, .ref a_m_dayCount, .ref a_m_days, .ref a_m_rateAbove, .ref a_m_rateBelow, .long m_tools, .int m_can, .long m_sum, .ref a_m_costs, .ref a_m_pieces, .ref a_m_maker, .ref a_m_partOf, .int m_ran, .int m_keptRows, .ref a_m_keptCosts, .ref a_m_keptPieces, .ref a_m_keptMaker, .ref a_m_keptPart, .ref a_m_oldCosts])), aJ g a_m_yieldAbove 8 m_yieldAbove, aJ g a_m_yieldBelow 8 m_yieldBelow] (fun u : Unit => [(a_t, .inr (6, [.int m_thrown, .int m_parts, .ref a_m_stepCount, .ref a_m_froms, .ref a_m_cents, .ref a_m_uses, .ref a_m_stocks, .ref a_m_alternates, .ref a_m_assemblies, .ref a_m_placings, .int m_yields, .ref a_m_yieldAbove, .ref a_m_yieldBelow, .ref a_m_dayCount, .ref a_m_days, .ref a_m_rateAbove, .ref a_m_rateBelow, .long m_tools, .int m_can, .long m_sum, .ref a_m_costs, .ref a_m_pieces, .ref a_m_maker, .ref a_m_partOf, .int m_ran, .int m_keptRows, .ref a_m_keptCosts, .ref a_m_keptPieces, .ref a_m_keptMaker, .ref a_m_keptPart, .ref a_m_oldCosts])), aJ g a_m_yieldAbove 8 m_yieldAbove, aJ g a_m_yieldBelow 8 m_yieldBelow]) (fun r u => Q r)) := by
  refine ct_of hg (by decide) (Nat.le_of_ble_eq_true rfl) (fun sz C X hr => ?_)
  unfold wp_M_started at hw
  show ST g C [(a_t, .inr (6, [.int m_thrown, .int m_parts, .ref a_m_stepCount, .ref a_m_froms, .ref a_m_cents, .ref a_m_uses, .ref a_m_stocks, .ref a_m_alternates, .ref a_m_assemblies, .ref a_m_placings, .int m_yields, .ref a_m_yieldAbove, .ref a_m_yieldBelow, .ref a_m_dayCount, .ref a_m_days, .ref a_m_rateAbove, .ref a_m_rateBelow, .long m_tools, .int m_can, .long m_sum, .ref a_m_costs, .ref a_m_pieces, .ref a_m_maker, .ref a_m_partOf, .int m_ran, .int m_keptRows, .ref a_m_keptCosts, .ref a_m_keptPieces, .ref a_m_keptMaker, .ref a_m_keptPart, .ref a_m_oldCosts])), aJ g a_m_yieldAbove 8 m_yieldAbove, aJ g a_m_yieldBelow 8 m_yieldBelow] [(0, .ref a_t), (1, .long p0)] [] 0 0 0
  refine st_lload_n X 1 d_M_started_0 rfl rfl ?_
  refine st_lstore_n X (lv2 := [(3, .long p0), (0, .ref a_t), (1, .long p0)]) d_M_started_1 rfl (by decide) rfl ?_
  refine st_aload_n X 1 d_M_started_2 rfl rfl ?_
  refine st_get X (ci := 6) in_M 0 10 wf_M_113 rfl rfl (by decide) rfl d_M_started_3 ?_
  refine st_iconst X (v := 1) d_M_started_6 (by decide) ?_
  refine st_isub X d_M_started_7 ?_
  refine st_topi (fun x1 hx1 => ?_)
  replace hw := hw x1 hx1
  refine st_istore X (lv2 := [(5, .int x1), (3, .long p0), (0, .ref a_t), (1, .long p0)]) d_M_started_8 (by decide) rfl ?_
  have L10 : ∀ (n10 : Nat) (v2 : Int64) (v3 : Int32), wp_M_started_L10 m_yieldAbove m_yieldBelow Q n10 v2 v3 → ST g C [(a_t, .inr (6, [.int m_thrown, .int m_parts, .ref a_m_stepCount, .ref a_m_froms, .ref a_m_cents, .ref a_m_uses, .ref a_m_stocks, .ref a_m_alternates, .ref a_m_assemblies, .ref a_m_placings, .int m_yields, .ref a_m_yieldAbove, .ref a_m_yieldBelow, .ref a_m_dayCount, .ref a_m_days, .ref a_m_rateAbove, .ref a_m_rateBelow, .long m_tools, .int m_can, .long m_sum, .ref a_m_costs, .ref a_m_pieces, .ref a_m_maker, .ref a_m_partOf, .int m_ran, .int m_keptRows, .ref a_m_keptCosts, .ref a_m_keptPieces, .ref a_m_keptMaker, .ref a_m_keptPart, .ref a_m_oldCosts])), aJ g a_m_yieldAbove 8 m_yieldAbove, aJ g a_m_yieldBelow 8 m_yieldBelow] [(0, .ref a_t), (1, .long p0), (3, .long v2), (5, .int v3)] [] 10 0 0 := by
    intro n10
    induction n10 with
    | zero => intro v2 v3 hw; exact hw.elim
    | succ n10 ih10 =>
      intro v2 v3 hw
      rw [wp_M_started_L10] at hw
      refine st_iload X 3 d_M_started_10 rfl ?_
      have J49 : wp_M_started_J49 v2 Q → ST g C [(a_t, .inr (6, [.int m_thrown, .int m_parts, .ref a_m_stepCount, .ref a_m_froms, .ref a_m_cents, .ref a_m_uses, .ref a_m_stocks, .ref a_m_alternates, .ref a_m_assemblies, .ref a_m_placings, .int m_yields, .ref a_m_yieldAbove, .ref a_m_yieldBelow, .ref a_m_dayCount, .ref a_m_days, .ref a_m_rateAbove, .ref a_m_rateBelow, .long m_tools, .int m_can, .long m_sum, .ref a_m_costs, .ref a_m_pieces, .ref a_m_maker, .ref a_m_partOf, .int m_ran, .int m_keptRows, .ref a_m_keptCosts, .ref a_m_keptPieces, .ref a_m_keptMaker, .ref a_m_keptPart, .ref a_m_oldCosts])), aJ g a_m_yieldAbove 8 m_yieldAbove, aJ g a_m_yieldBelow 8 m_yieldBelow] [(0, .ref a_t), (1, .long p0), (3, .long v2), (5, .int v3)] [] 49 0 0 := by
        intro hw
        unfold wp_M_started_J49 at hw
        refine st_lload_n X 2 d_M_started_49 rfl rfl ?_
        exact st_lret X hr () hw rfl (by decide) (by decide) d_M_started_50
      refine st_if_lt X 49 d_M_started_12 (by decide) (fun hc => ?_) (fun hc => ?_)
      · replace hw := hw.1 hc
        refine st_lv [0, 1, 2, 3] rfl ?_
        exact J49 hw
      · replace hw := hw.2 hc
        refine st_lload_n X 2 d_M_started_15 rfl rfl ?_
        refine st_ldc2 X wv_M_87 d_M_started_16 ?_
        refine st_lcmp_gt X 49 d_M_started_19 d_M_started_20 (by decide) (fun hc => ?_) (fun hc => ?_)
        · replace hw := hw.1 hc
          refine st_lv [0, 1, 2, 3] rfl ?_
          exact J49 hw
        · replace hw := hw.2 hc
          refine st_lload_n X 2 d_M_started_23 rfl rfl ?_
          refine st_aload_n X 0 d_M_started_24 rfl rfl ?_
          refine st_get X (ci := 6) in_M 0 12 wf_M_38 rfl rfl (by decide) rfl d_M_started_25 ?_
          refine st_iload X 3 d_M_started_28 rfl ?_
          obtain ⟨hb1, hw⟩ := hw
          refine st_lald X 2 rfl hb1 d_M_started_30 ?_
          refine st_lmul X d_M_started_31 ?_
          refine st_aload_n X 0 d_M_started_32 rfl rfl ?_
          refine st_get X (ci := 6) in_M 0 11 wf_M_35 rfl rfl (by decide) rfl d_M_started_33 ?_
          refine st_iload X 3 d_M_started_36 rfl ?_
          obtain ⟨hb2, hw⟩ := hw
          refine st_lald X 1 rfl hb2 d_M_started_38 ?_
          have hR := rn_S (pc := 39) (k := 0) (n := 0) (As := [.long (v2 * (m_yieldBelow v3.toNatClampNeg)), .long (m_yieldAbove v3.toNatClampNeg)]) (rest := []) X (k_M_up g hg (v2 * (m_yieldBelow v3.toNatClampNeg)) (m_yieldAbove v3.toNatClampNeg) _ hw) wm_M_124 ws_M_up wz_M wc_M_up h9_M_up ⟨by decide, by decide⟩ (Nat.le_of_ble_eq_true rfl) ⟨by decide, by decide⟩ d_M_started_39
          refine st_calll X hR [] [0, 1, 2] (wr := [(a_t, .inr (6, [.int m_thrown, .int m_parts, .ref a_m_stepCount, .ref a_m_froms, .ref a_m_cents, .ref a_m_uses, .ref a_m_stocks, .ref a_m_alternates, .ref a_m_assemblies, .ref a_m_placings, .int m_yields, .ref a_m_yieldAbove, .ref a_m_yieldBelow, .ref a_m_dayCount, .ref a_m_days, .ref a_m_rateAbove, .ref a_m_rateBelow, .long m_tools, .int m_can, .long m_sum, .ref a_m_costs, .ref a_m_pieces, .ref a_m_maker, .ref a_m_partOf, .int m_ran, .int m_keptRows, .ref a_m_keptCosts, .ref a_m_keptPieces, .ref a_m_keptMaker, .ref a_m_keptPart, .ref a_m_oldCosts])), aJ g a_m_yieldAbove 8 m_yieldAbove, aJ g a_m_yieldBelow 8 m_yieldBelow]) rfl rfl (by decide) (by decide) (by decide) (fun r4 u9 hw => ?_)
          try dsimp only at hw
          refine st_widen (k2 := 0) (n2 := 0) (by decide) (by decide) ?_
          refine st_perm (ws2 := [(a_t, .inr (6, [.int m_thrown, .int m_parts, .ref a_m_stepCount, .ref a_m_froms, .ref a_m_cents, .ref a_m_uses, .ref a_m_stocks, .ref a_m_alternates, .ref a_m_assemblies, .ref a_m_placings, .int m_yields, .ref a_m_yieldAbove, .ref a_m_yieldBelow, .ref a_m_dayCount, .ref a_m_days, .ref a_m_rateAbove, .ref a_m_rateBelow, .long m_tools, .int m_can, .long m_sum, .ref a_m_costs, .ref a_m_pieces, .ref a_m_maker, .ref a_m_partOf, .int m_ran, .int m_keptRows, .ref a_m_keptCosts, .ref a_m_keptPieces, .ref a_m_keptMaker, .ref a_m_keptPart, .ref a_m_oldCosts])), aJ g a_m_yieldAbove 8 m_yieldAbove, aJ g a_m_yieldBelow 8 m_yieldBelow]) [0, 1, 2] rfl (by decide) ?_
          show ST g C [(a_t, .inr (6, [.int m_thrown, .int m_parts, .ref a_m_stepCount, .ref a_m_froms, .ref a_m_cents, .ref a_m_uses, .ref a_m_stocks, .ref a_m_alternates, .ref a_m_assemblies, .ref a_m_placings, .int m_yields, .ref a_m_yieldAbove, .ref a_m_yieldBelow, .ref a_m_dayCount, .ref a_m_days, .ref a_m_rateAbove, .ref a_m_rateBelow, .long m_tools, .int m_can, .long m_sum, .ref a_m_costs, .ref a_m_pieces, .ref a_m_maker, .ref a_m_partOf, .int m_ran, .int m_keptRows, .ref a_m_keptCosts, .ref a_m_keptPieces, .ref a_m_keptMaker, .ref a_m_keptPart, .ref a_m_oldCosts])), aJ g a_m_yieldAbove 8 m_yieldAbove, aJ g a_m_yieldBelow 8 m_yieldBelow] [(0, .ref a_t), (1, .long p0), (3, .long v2), (5, .int v3)] [.long r4] 42 0 0
          refine st_lstore_n X (lv2 := [(3, .long r4), (0, .ref a_t), (1, .long p0), (5, .int v3)]) d_M_started_42 rfl (by decide) rfl ?_
          obtain ⟨x5, hx5⟩ : ∃ z : Int32, z = v3 + (-1) := ⟨_, rfl⟩
          replace hw := hw x5 hx5
          refine st_iinc X (v := x5) (lv2 := [(5, .int x5), (3, .long r4), (0, .ref a_t), (1, .long p0)]) 3 d_M_started_43 rfl (by rw [hx5]; rfl) (by decide) rfl ?_
          refine st_goto X 10 d_M_started_46 (by decide) ?_
          refine st_lv [2, 3, 1, 0] rfl ?_
          exact ih10 r4 x5 hw
  obtain ⟨n10, hw⟩ := hw
  refine st_lv [2, 3, 1, 0] rfl ?_
  exact L10 n10 p0 x1 hw
