/-! the mathematics, part N: total, each, suppliers -/
theorem sp_L_total {y pc s : Nat} {szs rz : Nat → Nat} {p0 : Int64} {p1 : Int32} {p2 : Int64} {tooling : Int64} {a_dr : Nat} {a_la : Nat} {a_be : Nat} {used : Nat → Int64} {stock : Nat → Int64} {alts : Nat → Int32} {asm : Nat → Int64} {placed : Nat → Int64} {sp_froms_keys : Nat → Int64} {sp_froms_sizes : Nat → Int32} {sp_cents : Nat → Int64} {rt_days_keys : Nat → Int64} {rt_days_sizes : Nat → Int32} {rt_aboves : Nat → Int64} {rt_belows : Nat → Int64} {rt_aboveNow : Nat → Int64} {rt_belowNow : Nat → Int64} {yl_aboves : Nat → Int64} {yl_belows : Nat → Int64} {a_dr_costs : Nat} {a_dr_pieces : Nat} {a_dr_makers : Nat} {a_dr_parts : Nat} {dr_rowCount : Int32} {dr_costs : Nat → Int64} {dr_pieces : Nat → Int32} {dr_makers : Nat → Int32} {dr_parts : Nat → Int32} {a_la_costs : Nat} {a_la_pieces : Nat} {a_la_makers : Nat} {a_la_parts : Nat} {la_rowCount : Int32} {la_costs : Nat → Int64} {la_pieces : Nat → Int32} {la_makers : Nat → Int32} {la_parts : Nat → Int32} {a_be_costs : Nat} {a_be_pieces : Nat} {a_be_makers : Nat} {a_be_parts : Nat} {be_rowCount : Int32} {be_costs : Nat → Int64} {be_pieces : Nat → Int32} {be_makers : Nat → Int32} {be_parts : Nat → Int32} {out : Nat → Int64} {Q : Int32 → Nat → Nat → Nat → (Nat → Int64) → (Nat → Int64) → Nat → Nat → Nat → Nat → Int32 → (Nat → Int64) → (Nat → Int32) → (Nat → Int32) → (Nat → Int32) → Nat → Nat → Nat → Nat → Int32 → (Nat → Int64) → (Nat → Int32) → (Nat → Int32) → (Nat → Int32) → Nat → Nat → Nat → Nat → Int32 → (Nat → Int64) → (Nat → Int32) → (Nat → Int32) → (Nat → Int32) → (Nat → Int64) → Prop} (D : DAT pc szs rz stock sp_froms_keys rt_aboves rt_belows sp_froms_sizes rt_days_sizes) (Y : YS y yl_aboves yl_belows) (hs : s < 2 ^ 62) (hst : ∀ a, p0 = lN a → a ≤ 1000000 → stF yl_aboves yl_belows y (lN a) = lN s)
    (h1 : ¬ vM p1 → Q 1 a_dr a_la a_be rt_aboveNow rt_belowNow a_dr_costs a_dr_pieces a_dr_makers a_dr_parts dr_rowCount dr_costs dr_pieces dr_makers dr_parts a_la_costs a_la_pieces a_la_makers a_la_parts la_rowCount la_costs la_pieces la_makers la_parts a_be_costs a_be_pieces a_be_makers a_be_parts be_rowCount be_costs be_pieces be_makers be_parts out)
    (h2 : vM p1 → ¬ vQ p0 → Q 2 a_dr a_la a_be rt_aboveNow rt_belowNow a_dr_costs a_dr_pieces a_dr_makers a_dr_parts dr_rowCount dr_costs dr_pieces dr_makers dr_parts a_la_costs a_la_pieces a_la_makers a_la_parts la_rowCount la_costs la_pieces la_makers la_parts a_be_costs a_be_pieces a_be_makers a_be_parts be_rowCount be_costs be_pieces be_makers be_parts out)
    (h3 : ∀ m, m < 8 → p1 = nI m → vQ p0 → ¬ OKA s pc m szs rz p2 used stock sp_froms_keys sp_cents rt_days_keys rt_aboves rt_belows alts → ∀ a1 b1 rc c1 pi1 mk1 pt1, Q 0 a_dr a_la a_be a1 b1 a_dr_costs a_dr_pieces a_dr_makers a_dr_parts rc c1 pi1 mk1 pt1 a_la_costs a_la_pieces a_la_makers a_la_parts la_rowCount la_costs la_pieces la_makers la_parts a_be_costs a_be_pieces a_be_makers a_be_parts be_rowCount be_costs be_pieces be_makers be_parts (vp_updL out 0 (-1)))
    (h4 : ∀ m, m < 8 → p1 = nI m → vQ p0 → OKA s pc m szs rz p2 used stock sp_froms_keys sp_cents rt_days_keys rt_aboves rt_belows alts → ∀ a1 b1 c1 pi1 mk1 pt1, CRA s pc m szs rz p2 tooling used stock asm placed sp_froms_keys sp_cents rt_days_keys rt_aboves rt_belows alts c1 pi1 mk1 pt1 → Q 0 a_be a_dr a_la a1 b1 a_be_costs a_be_pieces a_be_makers a_be_parts be_rowCount be_costs be_pieces be_makers be_parts a_dr_costs a_dr_pieces a_dr_makers a_dr_parts (nI (3 + pc)) c1 pi1 mk1 pt1 a_la_costs a_la_pieces a_la_makers a_la_parts la_rowCount la_costs la_pieces la_makers la_parts (vp_updL out 0 (sumF c1 (3 + pc)))) :
    wp_L_total p0 p1 p2 (nI pc) tooling a_dr a_la a_be used stock alts asm placed sp_froms_keys sp_froms_sizes sp_cents rt_days_keys rt_days_sizes rt_aboves rt_belows rt_aboveNow rt_belowNow (nI y) yl_aboves yl_belows a_dr_costs a_dr_pieces a_dr_makers a_dr_parts dr_rowCount dr_costs dr_pieces dr_makers dr_parts a_la_costs a_la_pieces a_la_makers a_la_parts la_rowCount la_costs la_pieces la_makers la_parts a_be_costs a_be_pieces a_be_makers a_be_parts be_rowCount be_costs be_pieces be_makers be_parts out Q := by
  unfold wp_L_total wp_C_total
  refine sp_needIndex (fun a b => sp_needNumber (fun c d => ?_) (fun c => ⟨fun q => absurd q (by decide), fun _ => h2 ⟨a, b⟩ (fun z => c.elim z.1 (fun g => g z.2)), Or.inr rfl⟩)) (fun c => ⟨fun _ => h1 (fun z => c.elim z.1 (fun g => g z.2)), fun q => absurd q (by decide), Or.inl rfl⟩)
  obtain ⟨m, hm, em⟩ := vM_of ⟨a, b⟩
  obtain ⟨n, en, hn⟩ := vQ_of ⟨c, d⟩
  have h39 := h3 m hm em ⟨c, d⟩
  have h49 := h4 m hm em ⟨c, d⟩
  have hst9 := hst n en hn
  subst em; subst en
  unfold wp_C_keepDraft
  refine sp_drawD D Y hs hst9 hm (fun no a1 b1 rc c1 pi1 mk1 pt1 => ⟨fun q => absurd rfl q, fun _ => ⟨v01, fun f e => ?_⟩⟩) (fun ok a1 b1 c1 pi1 mk1 pt1 cr => ⟨fun _ => sp_Q_sum (by have := D.1; omega) ⟨v01, fun f e => ?_⟩, fun q => absurd q (by decide)⟩)
  · rw [z_c] at e; subst e; exact h39 no _ _ _ _ _ _ _
  · rw [z_c] at e; subst e; exact h49 ok _ _ _ _ _ _ cr
theorem sp_M_total {y pc s : Nat} {szs rz : Nat → Nat} {p0 : Int64} {p1 : Int32} {p2 : Int64} {m_tools : Int64} {m_can : Int32} {m_sum : Int64} {m_ran : Int32} {m_keptRows : Int32} {m_stepCount : Nat → Int32} {m_froms : Nat → Int64} {m_cents : Nat → Int64} {m_uses : Nat → Int64} {m_stocks : Nat → Int64} {m_alternates : Nat → Int32} {m_assemblies : Nat → Int64} {m_placings : Nat → Int64} {m_yieldAbove : Nat → Int64} {m_yieldBelow : Nat → Int64} {m_dayCount : Nat → Int32} {m_days : Nat → Int64} {m_rateAbove : Nat → Int64} {m_rateBelow : Nat → Int64} {m_costs : Nat → Int64} {m_pieces : Nat → Int64} {m_maker : Nat → Int32} {m_partOf : Nat → Int32} {m_keptCosts : Nat → Int64} {m_keptPieces : Nat → Int64} {m_keptMaker : Nat → Int32} {m_keptPart : Nat → Int32} {m_oldCosts : Nat → Int64} {Q : Int64 → Int32 → Int32 → Int64 → Int32 → Int32 → (Nat → Int64) → (Nat → Int64) → (Nat → Int32) → (Nat → Int32) → (Nat → Int64) → (Nat → Int64) → (Nat → Int32) → (Nat → Int32) → (Nat → Int64) → Prop} (D : DAT pc szs rz m_stocks m_froms m_rateAbove m_rateBelow m_stepCount m_dayCount) (Y : YS y m_yieldAbove m_yieldBelow) (hs : s < 2 ^ 62) (hst : ∀ a, p0 = lN a → a ≤ 1000000 → stF m_yieldAbove m_yieldBelow y (lN a) = lN s)
    (h1 : ¬ vM p1 → Q 0 1 m_can m_sum m_ran m_keptRows m_costs m_pieces m_maker m_partOf m_keptCosts m_keptPieces m_keptMaker m_keptPart m_oldCosts)
    (h2 : vM p1 → ¬ vQ p0 → Q 0 2 m_can m_sum m_ran m_keptRows m_costs m_pieces m_maker m_partOf m_keptCosts m_keptPieces m_keptMaker m_keptPart m_oldCosts)
    (h3 : ∀ m, m < 8 → p1 = nI m → vQ p0 → ¬ OKA s pc m szs rz p2 m_uses m_stocks m_froms m_cents m_days m_rateAbove m_rateBelow m_alternates → ∀ sm c1 q1 m1 t1, Q (-1) 0 0 sm m_ran m_keptRows c1 q1 m1 t1 m_keptCosts m_keptPieces m_keptMaker m_keptPart m_oldCosts)
    (h4 : ∀ m, m < 8 → p1 = nI m → vQ p0 → OKA s pc m szs rz p2 m_uses m_stocks m_froms m_cents m_days m_rateAbove m_rateBelow m_alternates → ∀ c1 q1 m1 t1, MRA s pc m szs rz p2 m_tools m_uses m_stocks m_assemblies m_placings m_froms m_cents m_days m_rateAbove m_rateBelow m_alternates c1 q1 m1 t1 → ∀ kc kp km kt oc, (∀ j, j < 33 → kc j = c1 j ∧ kp j = q1 j ∧ km j = m1 j ∧ kt j = t1 j ∧ oc j = m_keptCosts j) → Q (sumF c1 33) 0 1 (sumF c1 33) 1 (nI (3 + pc)) c1 q1 m1 t1 kc kp km kt oc) :
    wp_M_total p0 p1 p2 (nI pc) (nI y) m_tools m_can m_sum m_ran m_keptRows m_stepCount m_froms m_cents m_uses m_stocks m_alternates m_assemblies m_placings m_yieldAbove m_yieldBelow m_dayCount m_days m_rateAbove m_rateBelow m_costs m_pieces m_maker m_partOf m_keptCosts m_keptPieces m_keptMaker m_keptPart m_oldCosts Q := by
  unfold wp_M_total
  refine sp_refusal (fun n => ⟨fun q => absurd q (by decide), fun _ => h1 n⟩) (fun n n2 => ⟨fun q => absurd q (by decide), fun _ => h2 n n2⟩) (fun n n2 => ⟨fun _ => ?_, fun q => absurd rfl q⟩)
  obtain ⟨m, hm, em⟩ := vM_of n
  obtain ⟨w, en, hn⟩ := vQ_of n2
  have h39 := h3 m hm em n2
  have h49 := h4 m hm em n2
  have hst9 := hst w en hn
  subst em; subst en
  refine sp_reckonD D Y hs hst9 hm (fun no sm c1 q1 m1 t1 => ⟨fun q => absurd rfl q, fun _ => h39 no _ _ _ _ _⟩) (fun ok c1 q1 m1 t1 cr => ⟨fun _ => ⟨34, ?_⟩, fun q => absurd q (by decide)⟩)
  have h48 := h49 ok c1 q1 m1 t1 cr
  have loop : ∀ f j kc kp km kt oc, j + f = 33 → (∀ i, i < j → kc i = c1 i ∧ kp i = q1 i ∧ km i = m1 i ∧ kt i = t1 i ∧ oc i = m_keptCosts i) → (∀ i, j ≤ i → kc i = m_keptCosts i) → wp_M_total_L41 (nI pc) 0 1 (sumF c1 33) c1 q1 m1 t1 Q (f + 1) (nI j) kc kp km kt oc := by
    intro f
    induction f with
    | zero =>
      intro j kc kp km kt oc hj hi _
      have : j = 33 := by omega
      subst this
      rw [wp_M_total_L41]
      refine ⟨fun _ => ⟨Or.inr rfl, fun x hx => ?_⟩, fun hc => absurd (nI_le (a := 33) (Nat.le_refl _) (by decide)) hc⟩
      have hx : x = nI (3 + pc) := by rw [hx]; show nI 3 + nI pc = _; rw [nI_add]
      subst hx
      exact h48 _ _ _ _ _ hi
    | succ f ih =>
      intro j kc kp km kt oc hj hi hr
      rw [wp_M_total_L41, nI_clamp (by omega)]
      have vv : vp_in (nI j) 33 := vp_in_nI (by omega) (by decide)
      refine ⟨fun hc => by have := ge_c (k := 33) (by decide) (by omega) hc; omega, fun _ => ⟨vv, fun x1 e1 => ⟨vv, fun f1 g1 => ⟨vv, fun x2 e2 => ⟨vv, fun f2 g2 => ⟨vv, fun x3 e3 => ⟨vv, fun f3 g3 => ⟨vv, fun x4 e4 => ⟨vv, fun f4 g4 => ⟨vv, fun x5 e5 => ⟨vv, fun f5 g5 x6 e6 => ?_⟩⟩⟩⟩⟩⟩⟩⟩⟩⟩⟩
      rw [nI_1] at e6
      subst e1; subst g1; subst e2; subst g2; subst e3; subst g3; subst e4; subst g4; subst e5; subst g5; subst e6
      refine ih (j + 1) _ _ _ _ _ (by omega) (fun i hi2 => ?_) (fun i hi2 => ?_)
      · by_cases e : i = j
        · subst e; rw [up_at, up_at, ui_at, ui_at, up_at]; exact ⟨rfl, rfl, rfl, rfl, hr i (Nat.le_refl _)⟩
        · rw [up_ne e, up_ne e, ui_ne e, ui_ne e, up_ne e]; exact hi i (by omega)
      · rw [up_ne (by omega)]; exact hr i (by omega)
  exact loop 33 0 _ _ _ _ _ (by omega) (fun i hi => absurd hi (Nat.not_lt_zero i)) (fun i _ => rfl)
theorem sp_L_suppliers {y pc s : Nat} {szs rz : Nat → Nat} {p0 : Int64} {p1 : Int32} {tooling : Int64} {used : Nat → Int64} {stock : Nat → Int64} {alts : Nat → Int32} {asm : Nat → Int64} {placed : Nat → Int64} {sp_froms_keys : Nat → Int64} {sp_froms_sizes : Nat → Int32} {sp_cents : Nat → Int64} {rt_days_keys : Nat → Int64} {rt_days_sizes : Nat → Int32} {rt_aboves : Nat → Int64} {rt_belows : Nat → Int64} {rt_aboveNow : Nat → Int64} {rt_belowNow : Nat → Int64} {yl_aboves : Nat → Int64} {yl_belows : Nat → Int64} {dr_rowCount : Int32} {dr_costs : Nat → Int64} {dr_pieces : Nat → Int32} {dr_makers : Nat → Int32} {dr_parts : Nat → Int32} {out : Nat → Int64} {Q : Int32 → (Nat → Int64) → (Nat → Int64) → Int32 → (Nat → Int64) → (Nat → Int32) → (Nat → Int32) → (Nat → Int32) → (Nat → Int64) → Prop} (D : DAT pc szs rz stock sp_froms_keys rt_aboves rt_belows sp_froms_sizes rt_days_sizes) (Y : YS y yl_aboves yl_belows) (hs : s < 2 ^ 62) (hst : ∀ a, p0 = lN a → a ≤ 1000000 → stF yl_aboves yl_belows y (lN a) = lN s)
    (h1 : ¬ vM p1 → Q 1 rt_aboveNow rt_belowNow dr_rowCount dr_costs dr_pieces dr_makers dr_parts out)
    (h2 : vM p1 → ¬ vQ p0 → Q 2 rt_aboveNow rt_belowNow dr_rowCount dr_costs dr_pieces dr_makers dr_parts out)
    (h3 : ∀ m, m < 8 → p1 = nI m → vQ p0 → ¬ OKA s pc m szs rz 9223372036854775807 used stock sp_froms_keys sp_cents rt_days_keys rt_aboves rt_belows alts → ∀ a1 b1 rc c1 pi1 mk1 pt1, Q 0 a1 b1 rc c1 pi1 mk1 pt1 (vp_updL out 0 ((-1 : Int32).toInt64)))
    (h4 : ∀ m, m < 8 → p1 = nI m → vQ p0 → OKA s pc m szs rz 9223372036854775807 used stock sp_froms_keys sp_cents rt_days_keys rt_aboves rt_belows alts → ∀ a1 b1 rc c1 pi1 mk1 pt1, CRA s pc m szs rz 9223372036854775807 tooling used stock asm placed sp_froms_keys sp_cents rt_days_keys rt_aboves rt_belows alts c1 pi1 mk1 pt1 → Q 0 a1 b1 rc c1 pi1 mk1 pt1 (vp_updL out 0 ((bcF (mbF mk1 (3 + pc))).toInt64))) :
    wp_L_suppliers p0 p1 (nI pc) tooling used stock alts asm placed sp_froms_keys sp_froms_sizes sp_cents rt_days_keys rt_days_sizes rt_aboves rt_belows rt_aboveNow rt_belowNow (nI y) yl_aboves yl_belows dr_rowCount dr_costs dr_pieces dr_makers dr_parts out Q := by
  unfold wp_L_suppliers wp_C_suppliers
  refine sp_needIndex (fun a b => sp_needNumber (fun c d => ?_) (fun c => ⟨fun q => absurd q (by decide), fun _ => h2 ⟨a, b⟩ (fun z => c.elim z.1 (fun g => g z.2)), Or.inr rfl⟩)) (fun c => ⟨fun _ => h1 (fun z => c.elim z.1 (fun g => g z.2)), fun q => absurd q (by decide), Or.inl rfl⟩)
  obtain ⟨m, hm, em⟩ := vM_of ⟨a, b⟩
  obtain ⟨n, en, hn⟩ := vQ_of ⟨c, d⟩
  have h39 := h3 m hm em ⟨c, d⟩
  have h49 := h4 m hm em ⟨c, d⟩
  have hst9 := hst n en hn
  subst em; subst en
  refine sp_drawD D Y hs hst9 hm (fun no a1 b1 rc c1 pi1 mk1 pt1 => ⟨fun q => absurd rfl q, fun _ x hx => ⟨v01, fun f e => ?_⟩⟩) (fun ok a1 b1 c1 pi1 mk1 pt1 cr => ⟨fun _ => sp_makersBoughtOf (by have := D.1; omega) (fun x hx => ⟨v01, fun f e => ?_⟩), fun q => absurd q (by decide)⟩)
  · rw [z_c] at e; subst hx; subst e; exact h39 no _ _ _ _ _ _ _
  · rw [z_c] at e; subst hx; subst e; exact h49 ok _ _ _ _ _ _ _ cr
theorem MR_now {tool as : Int64} {qb : QD} {qp : Nat → QD} {pc : Nat} {d p : Nat → Int64} {m t : Nat → Int32} {c : Nat → Int64} {pi mk pt : Nat → Int32} (hc : CRows tool as qb qp pc c pi mk pt) (hm : MRows tool as qb qp pc d p m t) {Q : Int32 → Prop} (h : Q (bcF (mbF m 33))) : wp_M_makersNow p m Q := by
  have sm := rows_same hc hm
  exact sp_makersNow hm.1.1.2.2.1 (fun j hj => (sm j hj).2.2.2.2.1) (fun j hj => (sm j hj).2.2.2.2.2) h
theorem sp_M_suppliers {y pc s : Nat} {szs rz : Nat → Nat} {p0 : Int64} {p1 : Int32} {m_tools : Int64} {m_can : Int32} {m_sum : Int64} {m_stepCount : Nat → Int32} {m_froms : Nat → Int64} {m_cents : Nat → Int64} {m_uses : Nat → Int64} {m_stocks : Nat → Int64} {m_alternates : Nat → Int32} {m_assemblies : Nat → Int64} {m_placings : Nat → Int64} {m_yieldAbove : Nat → Int64} {m_yieldBelow : Nat → Int64} {m_dayCount : Nat → Int32} {m_days : Nat → Int64} {m_rateAbove : Nat → Int64} {m_rateBelow : Nat → Int64} {m_costs : Nat → Int64} {m_pieces : Nat → Int64} {m_maker : Nat → Int32} {m_partOf : Nat → Int32} {Q : Int32 → Int32 → Int32 → Int64 → (Nat → Int64) → (Nat → Int64) → (Nat → Int32) → (Nat → Int32) → Prop} (D : DAT pc szs rz m_stocks m_froms m_rateAbove m_rateBelow m_stepCount m_dayCount) (Y : YS y m_yieldAbove m_yieldBelow) (hs : s < 2 ^ 62) (hst : ∀ a, p0 = lN a → a ≤ 1000000 → stF m_yieldAbove m_yieldBelow y (lN a) = lN s)
    (h1 : ¬ vM p1 → Q 0 1 m_can m_sum m_costs m_pieces m_maker m_partOf)
    (h2 : vM p1 → ¬ vQ p0 → Q 0 2 m_can m_sum m_costs m_pieces m_maker m_partOf)
    (h3 : ∀ m, m < 8 → p1 = nI m → vQ p0 → ¬ OKA s pc m szs rz 9223372036854775807 m_uses m_stocks m_froms m_cents m_days m_rateAbove m_rateBelow m_alternates → ∀ sm c1 q1 m1 t1, Q (-1) 0 0 sm c1 q1 m1 t1)
    (h4 : ∀ m, m < 8 → p1 = nI m → vQ p0 → OKA s pc m szs rz 9223372036854775807 m_uses m_stocks m_froms m_cents m_days m_rateAbove m_rateBelow m_alternates → ∃ c pi mk pt, CRA s pc m szs rz 9223372036854775807 m_tools m_uses m_stocks m_assemblies m_placings m_froms m_cents m_days m_rateAbove m_rateBelow m_alternates c pi mk pt ∧ ∀ sm c1 q1 m1 t1, MRA s pc m szs rz 9223372036854775807 m_tools m_uses m_stocks m_assemblies m_placings m_froms m_cents m_days m_rateAbove m_rateBelow m_alternates c1 q1 m1 t1 → Q (bcF (mbF m1 33)) 0 1 sm c1 q1 m1 t1) :
    wp_M_suppliers p0 p1 (nI pc) (nI y) m_tools m_can m_sum m_stepCount m_froms m_cents m_uses m_stocks m_alternates m_assemblies m_placings m_yieldAbove m_yieldBelow m_dayCount m_days m_rateAbove m_rateBelow m_costs m_pieces m_maker m_partOf Q := by
  unfold wp_M_suppliers wp_M_suppliers_J43
  refine sp_refusal (fun n => ⟨fun q => absurd q (by decide), fun _ => h1 n⟩) (fun n n2 => ⟨fun q => absurd q (by decide), fun _ => h2 n n2⟩) (fun n n2 => ⟨fun _ => ?_, fun q => absurd rfl q⟩)
  obtain ⟨m, hm, em⟩ := vM_of n
  obtain ⟨w, en, hn⟩ := vQ_of n2
  have h39 := h3 m hm em n2
  have h49 := h4 m hm em n2
  have hst9 := hst w en hn
  subst em; subst en
  refine sp_reckonD D Y hs hst9 hm (fun no sm c1 q1 m1 t1 => ⟨fun _ => h39 no _ _ _ _ _, fun q => absurd rfl q⟩) (fun ok c1 q1 m1 t1 mr => ⟨fun q => absurd q (by decide), fun _ => ?_⟩)
  obtain ⟨c, pi, mk, pt, cr, h48⟩ := h49 ok
  exact MR_now cr mr (h48 _ _ _ _ _ mr)
abbrev vE (x w : Int32) : Prop := vM x ∧ (¬ w < 0 ∧ w < nI 2)
abbrev v1 (q : Int64) : Prop := ¬ q < 1 ∧ q ≤ 1000000
theorem v1_0 {q : Int64} (h : v1 q) : vQ q := by
  refine ⟨?_, h.2⟩
  have := h.1
  rw [i64_lt] at this ⊢
  have z : (0 : Int64).toInt = 0 := by decide
  have o : (1 : Int64).toInt = 1 := by decide
  omega
theorem v1_ne {q : Int64} (h : v1 q) : ¬ q = 0 := by
  intro e
  have := h.1
  rw [e] at this
  exact this (by decide)
def ech (q : Int64) (w : Int32) (t : Int64) : Int64 := if w = 0 then t / q else t - t / q * q
theorem sp_L_each {y pc s : Nat} {szs rz : Nat → Nat} {p0 : Int64} {p1 : Int32} {p2 : Int64} {p3 : Int32} {tooling : Int64} {used : Nat → Int64} {stock : Nat → Int64} {alts : Nat → Int32} {asm : Nat → Int64} {placed : Nat → Int64} {sp_froms_keys : Nat → Int64} {sp_froms_sizes : Nat → Int32} {sp_cents : Nat → Int64} {rt_days_keys : Nat → Int64} {rt_days_sizes : Nat → Int32} {rt_aboves : Nat → Int64} {rt_belows : Nat → Int64} {rt_aboveNow : Nat → Int64} {rt_belowNow : Nat → Int64} {yl_aboves : Nat → Int64} {yl_belows : Nat → Int64} {dr_rowCount : Int32} {dr_costs : Nat → Int64} {dr_pieces : Nat → Int32} {dr_makers : Nat → Int32} {dr_parts : Nat → Int32} {out : Nat → Int64} {Q : Int32 → (Nat → Int64) → (Nat → Int64) → Int32 → (Nat → Int64) → (Nat → Int32) → (Nat → Int32) → (Nat → Int32) → (Nat → Int64) → Prop} (D : DAT pc szs rz stock sp_froms_keys rt_aboves rt_belows sp_froms_sizes rt_days_sizes) (Y : YS y yl_aboves yl_belows) (hs : s < 2 ^ 62) (hst : ∀ a, p0 = lN a → a ≤ 1000000 → stF yl_aboves yl_belows y (lN a) = lN s)
    (h1 : ¬ vE p1 p3 → Q 1 rt_aboveNow rt_belowNow dr_rowCount dr_costs dr_pieces dr_makers dr_parts out)
    (h2 : vE p1 p3 → ¬ v1 p0 → Q 2 rt_aboveNow rt_belowNow dr_rowCount dr_costs dr_pieces dr_makers dr_parts out)
    (h3 : ∀ m, m < 8 → p1 = nI m → vE p1 p3 → v1 p0 → ¬ OKA s pc m szs rz p2 used stock sp_froms_keys sp_cents rt_days_keys rt_aboves rt_belows alts → ∀ a1 b1 rc c1 pi1 mk1 pt1, Q 0 a1 b1 rc c1 pi1 mk1 pt1 (vp_updL out 0 (-1)))
    (h4 : ∀ m, m < 8 → p1 = nI m → vE p1 p3 → v1 p0 → OKA s pc m szs rz p2 used stock sp_froms_keys sp_cents rt_days_keys rt_aboves rt_belows alts → ∀ a1 b1 rc c1 pi1 mk1 pt1, CRA s pc m szs rz p2 tooling used stock asm placed sp_froms_keys sp_cents rt_days_keys rt_aboves rt_belows alts c1 pi1 mk1 pt1 → Q 0 a1 b1 rc c1 pi1 mk1 pt1 (vp_updL out 0 (ech p0 p3 (sumF c1 (3 + pc))))) :
    wp_L_each p0 p1 p2 p3 (nI pc) tooling used stock alts asm placed sp_froms_keys sp_froms_sizes sp_cents rt_days_keys rt_days_sizes rt_aboves rt_belows rt_aboveNow rt_belowNow (nI y) yl_aboves yl_belows dr_rowCount dr_costs dr_pieces dr_makers dr_parts out Q := by
  unfold wp_L_each wp_C_each wp_C_each_J61
  refine sp_needIndex (fun a b => sp_needIndex (fun a2 b2 => sp_needNumber (fun c d => ?_) (fun c => ⟨fun q => absurd q (by decide), fun _ => h2 ⟨⟨a, b⟩, a2, b2⟩ (fun z => c.elim z.1 (fun g => g z.2)), Or.inr rfl⟩)) (fun c => ⟨fun _ => h1 (fun z => c.elim z.2.1 (fun g => g z.2.2)), fun q => absurd q (by decide), Or.inl rfl⟩)) (fun c => ⟨fun _ => h1 (fun z => c.elim z.1.1 (fun g => g z.1.2)), fun q => absurd q (by decide), Or.inl rfl⟩)
  obtain ⟨m, hm, em⟩ := vM_of ⟨a, b⟩
  obtain ⟨n, en, hn⟩ := vQ_of (v1_0 ⟨c, d⟩)
  have h39 := h3 m hm em ⟨⟨a, b⟩, a2, b2⟩ ⟨c, d⟩
  have h49 := h4 m hm em ⟨⟨a, b⟩, a2, b2⟩ ⟨c, d⟩
  have hst9 := hst n en hn
  have ne := v1_ne ⟨c, d⟩
  subst em; subst en
  unfold ech at h49
  refine sp_drawD D Y hs hst9 hm (fun no a1 b1 rc c1 pi1 mk1 pt1 => ⟨fun q => absurd rfl q, fun _ => ⟨v01, fun f e => ?_⟩⟩) (fun ok a1 b1 c1 pi1 mk1 pt1 cr => ⟨fun _ => ⟨fun g => sp_Q_sum (by have := D.1; omega) ⟨ne, v01, fun f e => ?_⟩, fun g => sp_Q_sum (by have := D.1; omega) ⟨ne, v01, fun f e => ?_⟩⟩, fun q => absurd q (by decide)⟩)
  · rw [z_c] at e; subst e; exact h39 no _ _ _ _ _ _ _
  · rw [z_c] at e; subst e; have h47 := h49 ok a1 b1 (nI (3 + pc)) _ _ _ _ cr; rw [if_neg g] at h47; exact h47
  · rw [z_c] at e; subst e; have h47 := h49 ok a1 b1 (nI (3 + pc)) _ _ _ _ cr; rw [if_pos g] at h47; exact h47
theorem w2 {w : Int32} (h0 : ¬ w = 0) (h1 : ¬ w = 1) : ¬ (¬ w < 0 ∧ w < nI 2) := by
  intro h
  obtain ⟨j, hj, e⟩ := ixv (n := 2) (by decide) h
  rcases (show j = 0 ∨ j = 1 by omega) with q | q
  · subst q; exact h0 e
  · subst q; exact h1 e
theorem sp_M_each {y pc s : Nat} {szs rz : Nat → Nat} {p0 : Int64} {p1 : Int32} {p2 : Int64} {p3 : Int32} {m_tools : Int64} {m_can : Int32} {m_sum : Int64} {m_stepCount : Nat → Int32} {m_froms : Nat → Int64} {m_cents : Nat → Int64} {m_uses : Nat → Int64} {m_stocks : Nat → Int64} {m_alternates : Nat → Int32} {m_assemblies : Nat → Int64} {m_placings : Nat → Int64} {m_yieldAbove : Nat → Int64} {m_yieldBelow : Nat → Int64} {m_dayCount : Nat → Int32} {m_days : Nat → Int64} {m_rateAbove : Nat → Int64} {m_rateBelow : Nat → Int64} {m_costs : Nat → Int64} {m_pieces : Nat → Int64} {m_maker : Nat → Int32} {m_partOf : Nat → Int32} {Q : Int64 → Int32 → Int32 → Int64 → (Nat → Int64) → (Nat → Int64) → (Nat → Int32) → (Nat → Int32) → Prop} (D : DAT pc szs rz m_stocks m_froms m_rateAbove m_rateBelow m_stepCount m_dayCount) (Y : YS y m_yieldAbove m_yieldBelow) (hs : s < 2 ^ 62) (hst : ∀ a, p0 = lN a → a ≤ 1000000 → stF m_yieldAbove m_yieldBelow y (lN a) = lN s)
    (h1 : ¬ vE p1 p3 → Q 0 1 m_can m_sum m_costs m_pieces m_maker m_partOf)
    (h2 : vE p1 p3 → ¬ v1 p0 → Q 0 2 m_can m_sum m_costs m_pieces m_maker m_partOf)
    (h3 : ∀ m, m < 8 → p1 = nI m → vE p1 p3 → v1 p0 → ¬ OKA s pc m szs rz p2 m_uses m_stocks m_froms m_cents m_days m_rateAbove m_rateBelow m_alternates → ∀ sm c1 q1 m1 t1, Q (-1) 0 0 sm c1 q1 m1 t1)
    (h4 : ∀ m, m < 8 → p1 = nI m → vE p1 p3 → v1 p0 → OKA s pc m szs rz p2 m_uses m_stocks m_froms m_cents m_days m_rateAbove m_rateBelow m_alternates → ∀ c1 q1 m1 t1, MRA s pc m szs rz p2 m_tools m_uses m_stocks m_assemblies m_placings m_froms m_cents m_days m_rateAbove m_rateBelow m_alternates c1 q1 m1 t1 → Q (ech p0 p3 (sumF c1 33)) 0 1 (sumF c1 33) c1 q1 m1 t1) :
    wp_M_each p0 p1 p2 p3 (nI pc) (nI y) m_tools m_can m_sum m_stepCount m_froms m_cents m_uses m_stocks m_alternates m_assemblies m_placings m_yieldAbove m_yieldBelow m_dayCount m_days m_rateAbove m_rateBelow m_costs m_pieces m_maker m_partOf Q := by
  have bad : ∀ v3 : Int32, ¬ v3 = 0 → Q 0 v3 m_can m_sum m_costs m_pieces m_maker m_partOf → wp_M_each_J53 p0 p1 p2 p3 (nI pc) (nI y) m_tools m_can m_sum m_stepCount m_froms m_cents m_uses m_stocks m_alternates m_assemblies m_placings m_yieldAbove m_yieldBelow m_dayCount m_days m_rateAbove m_rateBelow m_costs m_pieces m_maker m_partOf Q v3 := by
    intro v3 hv h
    unfold wp_M_each_J53
    exact ⟨fun q => absurd q hv, fun _ => h⟩
  have good : vE p1 p3 → wp_M_each_J23 p0 p1 p2 p3 (nI pc) (nI y) m_tools m_can m_sum m_stepCount m_froms m_cents m_uses m_stocks m_alternates m_assemblies m_placings m_yieldAbove m_yieldBelow m_dayCount m_days m_rateAbove m_rateBelow m_costs m_pieces m_maker m_partOf Q 1 := by
    intro ve
    unfold wp_M_each_J23 wp_M_each_J52
    refine ⟨fun _ => sp_isQuantity (fun c d => ⟨fun q => absurd q (by decide), fun _ => ⟨fun g => bad 2 (by decide) (h2 ve (fun z => ?_)), fun g => ?_⟩⟩) (fun c => ⟨fun _ => bad 2 (by decide) (h2 ve (fun z => c.elim (v1_0 z).1 (fun g => lt_nle.mp g z.2))), fun q => absurd rfl q⟩), fun q => absurd q (by decide)⟩
    · have := z.1
      rw [i64_lt] at this
      rw [i64_le] at g
      have zz : (0 : Int64).toInt = 0 := by decide
      have o : (1 : Int64).toInt = 1 := by decide
      omega
    · have n2 : v1 p0 := by
        refine ⟨?_, nlt_le.mp d⟩
        rw [i64_lt]
        rw [i64_le] at g
        have zz : (0 : Int64).toInt = 0 := by decide
        have o : (1 : Int64).toInt = 1 := by decide
        omega
      obtain ⟨m, hm, em⟩ := vM_of ve.1
      obtain ⟨w, en, hn⟩ := vQ_of (v1_0 n2)
      have h39 := h3 m hm em ve n2
      have h49 := h4 m hm em ve n2
      have hst9 := hst w en hn
      have ne := v1_ne n2
      unfold wp_M_each_J53
      refine ⟨fun _ => ?_, fun q => absurd rfl q⟩
      subst em; subst en
      unfold wp_M_each_J106
      unfold ech at h49
      refine sp_reckonD D Y hs hst9 hm (fun no sm c1 q1 m1 t1 => ⟨fun q => absurd rfl q, fun _ => h39 no _ _ _ _ _⟩) (fun ok c1 q1 m1 t1 mr => ⟨fun _ => ⟨fun g => ⟨ne, ?_⟩, fun g => ⟨ne, ?_⟩⟩, fun q => absurd q (by decide)⟩)
      · have h47 := h49 ok _ _ _ _ mr; rw [if_neg g] at h47; exact h47
      · have h47 := h49 ok _ _ _ _ mr; rw [if_pos g] at h47; exact h47
  have bad1 : ¬ vE p1 p3 → wp_M_each_J23 p0 p1 p2 p3 (nI pc) (nI y) m_tools m_can m_sum m_stepCount m_froms m_cents m_uses m_stocks m_alternates m_assemblies m_placings m_yieldAbove m_yieldBelow m_dayCount m_days m_rateAbove m_rateBelow m_costs m_pieces m_maker m_partOf Q 0 := by
    intro n
    unfold wp_M_each_J23
    exact ⟨fun q => absurd rfl q, fun _ => bad 1 (by decide) (h1 n)⟩
  unfold wp_M_each wp_M_each_J22 wp_M_each_J18
  refine sp_isMaker (fun a b => ⟨fun q => absurd q (by decide), fun _ => ⟨fun g => good ⟨vin (n := 8) a b, by rw [g]; exact ⟨by decide, by decide⟩⟩, fun g => ⟨fun g2 => bad1 (fun z => w2 g g2 z.2), fun g2 => good ⟨vin (n := 8) a b, by rw [g2]; exact ⟨by decide, by decide⟩⟩⟩⟩⟩) (fun c => ⟨fun _ => bad1 (fun z => c.elim z.1.1 (fun g => le_nlt.mp g z.1.2)), fun q => absurd rfl q⟩)
