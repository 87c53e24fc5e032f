/-! the invariant, and that each call keeps it -/
def KEPT (pc : Nat) (la_rowCount : Int32) (la_costs : Nat → Int64) (la_pieces : Nat → Int32) (la_makers : Nat → Int32) (la_parts : Nat → Int32) (be_costs : Nat → Int64) (m_ran : Int32) (m_keptRows : Int32) (m_keptCosts : Nat → Int64) (m_keptPieces : Nat → Int64) (m_keptMaker : Nat → Int32) (m_keptPart : Nat → Int32) (m_oldCosts : Nat → Int64) : Prop := ∃ rc, la_rowCount = nI rc ∧ rc ≤ 3 + pc ∧ (∀ j, j < 33 → la_costs j = m_keptCosts j ∧ be_costs j = m_oldCosts j) ∧ (∀ j, rc ≤ j → j < 33 → la_costs j = 0 ∧ be_costs j = 0) ∧ ((m_ran = 0 ∧ rc = 0) ∨ (m_ran = 1 ∧ m_keptRows = nI rc)) ∧ ∀ j, j < rc → la_pieces j = (m_keptPieces j).toInt32 ∧ la_makers j = m_keptMaker j ∧ la_parts j = m_keptPart j
def IV (partCount : Int32) (tooling : Int64) (used : Nat → Int64) (stock : Nat → Int64) (alts : Nat → Int32) (asm : Nat → Int64) (placed : Nat → Int64) (sp_froms_keys : Nat → Int64) (sp_froms_sizes : Nat → Int32) (sp_cents : Nat → Int64) (rt_days_keys : Nat → Int64) (rt_days_sizes : Nat → Int32) (rt_aboves : Nat → Int64) (rt_belows : Nat → Int64) (yl_count : Int32) (yl_aboves : Nat → Int64) (yl_belows : Nat → Int64) (la_rowCount : Int32) (la_costs : Nat → Int64) (la_pieces : Nat → Int32) (la_makers : Nat → Int32) (la_parts : Nat → Int32) (be_costs : Nat → Int64) (m_parts : Int32) (m_yields : Int32) (m_tools : Int64) (m_ran : Int32) (m_keptRows : Int32) (m_stepCount : Nat → Int32) (m_froms : Nat → Int64) (m_cents : Nat → Int64) (m_uses : Nat → Int64) (m_stocks : Nat → Int64) (m_alternates : Nat → Int32) (m_assemblies : Nat → Int64) (m_placings : Nat → Int64) (m_yieldAbove : Nat → Int64) (m_yieldBelow : Nat → Int64) (m_dayCount : Nat → Int32) (m_days : Nat → Int64) (m_rateAbove : Nat → Int64) (m_rateBelow : Nat → Int64) (m_keptCosts : Nat → Int64) (m_keptPieces : Nat → Int64) (m_keptMaker : Nat → Int32) (m_keptPart : Nat → Int32) (m_oldCosts : Nat → Int64) : Prop := ∃ (pc y : Nat) (szs rz : Nat → Nat), partCount = nI pc ∧ m_parts = nI pc ∧ yl_count = nI y ∧ m_yields = nI y ∧ tooling = m_tools ∧ used = m_uses ∧ stock = m_stocks ∧ alts = m_alternates ∧ asm = m_assemblies ∧ placed = m_placings ∧ sp_froms_keys = m_froms ∧ sp_froms_sizes = m_stepCount ∧ sp_cents = m_cents ∧ rt_days_keys = m_days ∧ rt_days_sizes = m_dayCount ∧ rt_aboves = m_rateAbove ∧ rt_belows = m_rateBelow ∧ yl_aboves = m_yieldAbove ∧ yl_belows = m_yieldBelow ∧ DAT pc szs rz stock sp_froms_keys rt_aboves rt_belows sp_froms_sizes rt_days_sizes ∧ CZ szs sp_cents ∧ YS y yl_aboves yl_belows ∧ KEPT pc la_rowCount la_costs la_pieces la_makers la_parts be_costs m_ran m_keptRows m_keptCosts m_keptPieces m_keptMaker m_keptPart m_oldCosts
abbrev KV (a_dr : Nat) (a_dr_costs : Nat) (a_dr_pieces : Nat) (a_dr_makers : Nat) (a_dr_parts : Nat) (a_la : Nat) (a_la_costs : Nat) (a_la_pieces : Nat) (a_la_makers : Nat) (a_la_parts : Nat) (a_be : Nat) (a_be_costs : Nat) (a_be_pieces : Nat) (a_be_makers : Nat) (a_be_parts : Nat) (partCount : Int32) (tooling : Int64) (used : Nat → Int64) (stock : Nat → Int64) (alts : Nat → Int32) (asm : Nat → Int64) (placed : Nat → Int64) (sp_froms_keys : Nat → Int64) (sp_froms_sizes : Nat → Int32) (sp_cents : Nat → Int64) (rt_days_keys : Nat → Int64) (rt_days_sizes : Nat → Int32) (rt_aboves : Nat → Int64) (rt_belows : Nat → Int64) (rt_aboveNow : Nat → Int64) (rt_belowNow : Nat → Int64) (yl_count : Int32) (yl_aboves : Nat → Int64) (yl_belows : Nat → Int64) (dr_rowCount : Int32) (dr_costs : Nat → Int64) (dr_pieces : Nat → Int32) (dr_makers : Nat → Int32) (dr_parts : Nat → Int32) (la_rowCount : Int32) (la_costs : Nat → Int64) (la_pieces : Nat → Int32) (la_makers : Nat → Int32) (la_parts : Nat → Int32) (be_rowCount : Int32) (be_costs : Nat → Int64) (be_pieces : Nat → Int32) (be_makers : Nat → Int32) (be_parts : Nat → Int32) (m_thrown : Int32) (m_parts : Int32) (m_yields : Int32) (m_tools : Int64) (m_can : Int32) (m_sum : Int64) (m_ran : Int32) (m_keptRows : Int32) (m_stepCount : Nat → Int32) (m_froms : Nat → Int64) (m_cents : Nat → Int64) (m_uses : Nat → Int64) (m_stocks : Nat → Int64) (m_alternates : Nat → Int32) (m_assemblies : Nat → Int64) (m_placings : Nat → Int64) (m_yieldAbove : Nat → Int64) (m_yieldBelow : Nat → Int64) (m_dayCount : Nat → Int32) (m_days : Nat → Int64) (m_rateAbove : Nat → Int64) (m_rateBelow : Nat → Int64) (m_costs : Nat → Int64) (m_pieces : Nat → Int64) (m_maker : Nat → Int32) (m_partOf : Nat → Int32) (m_keptCosts : Nat → Int64) (m_keptPieces : Nat → Int64) (m_keptMaker : Nat → Int32) (m_keptPart : Nat → Int32) (m_oldCosts : Nat → Int64) (out : Nat → Int64) : Prop := IV partCount tooling used stock alts asm placed sp_froms_keys sp_froms_sizes sp_cents rt_days_keys rt_days_sizes rt_aboves rt_belows yl_count yl_aboves yl_belows la_rowCount la_costs la_pieces la_makers la_parts be_costs m_parts m_yields m_tools m_ran m_keptRows m_stepCount m_froms m_cents m_uses m_stocks m_alternates m_assemblies m_placings m_yieldAbove m_yieldBelow m_dayCount m_days m_rateAbove m_rateBelow m_keptCosts m_keptPieces m_keptMaker m_keptPart m_oldCosts
theorem IV.mk {pc y : Nat} {szs rz : Nat → Nat} {tooling : Int64} {used : Nat → Int64} {stock : Nat → Int64} {alts : Nat → Int32} {asm : Nat → Int64} {placed : Nat → Int64} {sp_froms_keys : Nat → Int64} {sp_froms_sizes : Nat → Int32} {sp_cents : Nat → Int64} {rt_days_keys : Nat → Int64} {rt_days_sizes : Nat → Int32} {rt_aboves : Nat → Int64} {rt_belows : Nat → Int64} {yl_aboves : Nat → Int64} {yl_belows : Nat → Int64} {la_rowCount : Int32} {la_costs : Nat → Int64} {la_pieces : Nat → Int32} {la_makers : Nat → Int32} {la_parts : Nat → Int32} {be_costs : Nat → Int64} {m_ran : Int32} {m_keptRows : Int32} {m_keptCosts : Nat → Int64} {m_keptPieces : Nat → Int64} {m_keptMaker : Nat → Int32} {m_keptPart : Nat → Int32} {m_oldCosts : Nat → Int64} (D : DAT pc szs rz stock sp_froms_keys rt_aboves rt_belows sp_froms_sizes rt_days_sizes) (cz : CZ szs sp_cents) (Y : YS y yl_aboves yl_belows) (KP : KEPT pc la_rowCount la_costs la_pieces la_makers la_parts be_costs m_ran m_keptRows m_keptCosts m_keptPieces m_keptMaker m_keptPart m_oldCosts) : IV (nI pc) tooling used stock alts asm placed sp_froms_keys sp_froms_sizes sp_cents rt_days_keys rt_days_sizes rt_aboves rt_belows (nI y) yl_aboves yl_belows la_rowCount la_costs la_pieces la_makers la_parts be_costs (nI pc) (nI y) tooling m_ran m_keptRows sp_froms_sizes sp_froms_keys sp_cents used stock alts asm placed yl_aboves yl_belows rt_days_sizes rt_days_keys rt_aboves rt_belows m_keptCosts m_keptPieces m_keptMaker m_keptPart m_oldCosts :=
  ⟨pc, y, szs, rz, rfl, rfl, rfl, rfl, rfl, rfl, rfl, rfl, rfl, rfl, rfl, rfl, rfl, rfl, rfl, rfl, rfl, rfl, rfl, D, cz, Y, KP⟩
theorem KEPT.up {pc : Nat} {la_rowCount : Int32} {la_costs : Nat → Int64} {la_pieces : Nat → Int32} {la_makers : Nat → Int32} {la_parts : Nat → Int32} {be_costs : Nat → Int64} {m_ran : Int32} {m_keptRows : Int32} {m_keptCosts : Nat → Int64} {m_keptPieces : Nat → Int64} {m_keptMaker : Nat → Int32} {m_keptPart : Nat → Int32} {m_oldCosts : Nat → Int64} (h : KEPT pc la_rowCount la_costs la_pieces la_makers la_parts be_costs m_ran m_keptRows m_keptCosts m_keptPieces m_keptMaker m_keptPart m_oldCosts) : KEPT (pc + 1) la_rowCount la_costs la_pieces la_makers la_parts be_costs m_ran m_keptRows m_keptCosts m_keptPieces m_keptMaker m_keptPart m_oldCosts := by
  obtain ⟨rc, h1, h2, h3⟩ := h
  exact ⟨rc, h1, by omega, h3⟩
theorem KEPT.total {pc : Nat} {la_rowCount : Int32} {la_costs : Nat → Int64} {la_pieces : Nat → Int32} {la_makers : Nat → Int32} {la_parts : Nat → Int32} {be_costs : Nat → Int64} {m_ran : Int32} {m_keptRows : Int32} {m_keptCosts : Nat → Int64} {m_keptPieces : Nat → Int64} {m_keptMaker : Nat → Int32} {m_keptPart : Nat → Int32} {m_oldCosts : Nat → Int64} (hpc : pc ≤ 30) (h : KEPT pc la_rowCount la_costs la_pieces la_makers la_parts be_costs m_ran m_keptRows m_keptCosts m_keptPieces m_keptMaker m_keptPart m_oldCosts) {tool as : Int64} {qb : QD} {qp : Nat → QD} {c d p kc kp oc : Nat → Int64} {pi mk pt m t km kt : Nat → Int32} (hc : CRows tool as qb qp pc c pi mk pt) (hm : MRows tool as qb qp pc d p m t) (hk : ∀ j, j < 33 → kc j = d j ∧ kp j = p j ∧ km j = m j ∧ kt j = t j ∧ oc j = m_keptCosts j) : KEPT pc (nI (3 + pc)) c pi mk pt la_costs 1 (nI (3 + pc)) kc kp km kt oc := by
  obtain ⟨rc, h1, h2, h3, h4, h5, h6⟩ := h
  have sm := rows_same hc hm
  refine ⟨3 + pc, rfl, Nat.le_refl _, fun j hj => ⟨?_, ?_⟩, fun j q1 q2 => ⟨(hc.2.2.2.2 j q1 q2).1, (h4 j (by omega) q2).1⟩, Or.inr ⟨rfl, rfl⟩, fun j hj => ?_⟩
  · rw [(hk j hj).1]; exact (sm j hj).1
  · rw [(hk j hj).2.2.2.2]; exact (h3 j hj).1
  · have k := hk j (by omega)
    have q := sm j (by omega)
    rw [k.2.1, k.2.2.1, k.2.2.2.1]
    exact ⟨q.2.2.1, q.2.1, q.2.2.2.1⟩
theorem KEPT.ch {pc rc : Nat} {la_costs : Nat → Int64} {la_pieces : Nat → Int32} {la_makers : Nat → Int32} {la_parts : Nat → Int32} {be_costs : Nat → Int64} {m_ran : Int32} {m_keptRows : Int32} {m_keptCosts : Nat → Int64} {m_keptPieces : Nat → Int64} {m_keptMaker : Nat → Int32} {m_keptPart : Nat → Int32} {m_oldCosts : Nat → Int64} {k : Int32} (hpc : pc ≤ 30) (h : KEPT pc (nI rc) la_costs la_pieces la_makers la_parts be_costs m_ran m_keptRows m_keptCosts m_keptPieces m_keptMaker m_keptPart m_oldCosts) (hrc : rc ≤ 3 + pc) : (if k < 0 then -1 else chF la_costs be_costs rc 0 k) = (if k < 0 then -1 else if m_ran = 0 then -1 else chF m_keptCosts m_oldCosts 33 0 k) := by
  obtain ⟨rc2, h1, h2, h3, h4, h5, h6⟩ := h
  have e : rc = rc2 := (nI_eq (by omega) (by omega)).mp h1
  subst e
  by_cases g : k < 0
  · rw [if_pos g, if_pos g]
  · rw [if_neg g, if_neg g]
    by_cases r : m_ran = 0
    · rw [if_pos r]
      rcases h5 with ⟨_, q⟩ | ⟨q, _⟩
      · subst q; rfl
      · rw [q] at r; exact absurd r (by decide)
    · rw [if_neg r, ← chF_congr 33 0 k (fun i _ hi => h3 i (by omega))]
      have := chF_tail (a := la_costs) (b := be_costs) rc (33 - rc) 0 k (fun i q1 q2 => by rw [(h4 i (by omega) (by omega)).1, (h4 i (by omega) (by omega)).2])
      rw [show rc + (33 - rc) = 33 by omega] at this
      exact this.symm
theorem vofj {x : Int32} {n j : Nat} (hj : j < n) (hn : n < 2 ^ 31) (e : x = nI j) : ¬ x < 0 ∧ x < nI n := by
  subst e
  exact ⟨nI_nneg (by omega), nI_lt hj hn⟩
theorem jfin {a v : Int64} {P : Prop} (e : a = v) (h : P) : ((a = v) → P) ∧ ((¬ a = v) → False) := ⟨fun _ => h, fun q => q e⟩
theorem o_at {out : Nat → Int64} {x : Int64} : vp_updL out 0 x (0 : Int32).toNatClampNeg = x := by rw [z_c, up_at]
theorem b0 {c : Prop} [Decidable c] {out : Nat → Int64} (g : (if c then (0 : Int32) else 1) = 0) : vp_updL out 0 (if c then 0 else 1) (0 : Int32).toNatClampNeg = 0 := by
  rw [o_at]
  by_cases h : c
  · rw [if_pos h]
  · rw [if_neg h] at g; exact absurd g (by decide)
theorem b1 {c : Prop} [Decidable c] {out : Nat → Int64} (g : ¬ (if c then (0 : Int32) else 1) = 0) : vp_updL out 0 (if c then 0 else 1) (0 : Int32).toNatClampNeg = 1 := by
  rw [o_at]
  by_cases h : c
  · rw [if_pos h] at g; exact absurd rfl g
  · rw [if_neg h]
theorem c0 {r : Int32} {out : Nat → Int64} (g : r = 0) : vp_updL out 0 (if r = 0 then 0 else 1) (0 : Int32).toNatClampNeg = 0 := by rw [o_at, if_pos g]
theorem c1 {r : Int32} {out : Nat → Int64} (g : ¬ r = 0) : vp_updL out 0 (if r = 0 then 0 else 1) (0 : Int32).toNatClampNeg = 1 := by rw [o_at, if_neg g]
theorem okb_ex (P : Nat → Prop) : ∃ okb : Nat → Bool, ∀ m, okb m = true ↔ P m := ⟨fun m => @decide (P m) (Classical.propDecidable _), fun m => by simp⟩
theorem DAT.stock {pc : Nat} {szs rz : Nat → Nat} {stock keys ab be : Nat → Int64} {sizes ds : Nat → Int32} (D : DAT pc szs rz stock keys ab be sizes ds) {j : Nat} {v : Int64} (h : ¬ v < 0) : DAT pc szs rz (vp_updL stock j v) keys ab be sizes ds := by
  refine ⟨D.1, fun p hp => ?_, D.2.2⟩
  by_cases e : p = j
  · subst e; rw [up_at]; rw [i64_le]; rw [i64_lt] at h; omega
  · rw [up_ne e]; exact D.2.1 p hp
theorem YS.add {y : Nat} {yab ybe : Nat → Int64} (Y : YS y yab ybe) {a b : Int64} (n : nY a b) (h : y < 8) : YS (y + 1) (vp_updL yab y a) (vp_updL ybe y b) := by
  refine ⟨by omega, fun j hj => ?_⟩
  by_cases e : j = y
  · subst e
    have r := (nY_iff.mp n).1
    obtain ⟨c, c1, c2, c3⟩ := lOf (b := 1000) (by decide) r.1.1 r.1.2
    obtain ⟨d, d1, d2, d3⟩ := lOf (b := 1000) (by decide) r.2.1 r.2.2
    exact ⟨c, d, by rw [up_at]; exact c1, by rw [up_at]; exact d1, c2, c3, d2, d3⟩
  · rw [up_ne e, up_ne e]; exact Y.2 j (by omega)
theorem inv_c0 {L : Nat} {i : Int32} {a_dr : Nat} {a_dr_costs : Nat} {a_dr_pieces : Nat} {a_dr_makers : Nat} {a_dr_parts : Nat} {a_la : Nat} {a_la_costs : Nat} {a_la_pieces : Nat} {a_la_makers : Nat} {a_la_parts : Nat} {a_be : Nat} {a_be_costs : Nat} {a_be_pieces : Nat} {a_be_makers : Nat} {a_be_parts : Nat} {partCount : Int32} {tooling : Int64} {used : Nat → Int64} {stock : Nat → Int64} {alts : Nat → Int32} {asm : Nat → Int64} {placed : Nat → Int64} {sp_froms_keys : Nat → Int64} {sp_froms_sizes : Nat → Int32} {sp_cents : Nat → Int64} {rt_days_keys : Nat → Int64} {rt_days_sizes : Nat → Int32} {rt_aboves : Nat → Int64} {rt_belows : Nat → Int64} {rt_aboveNow : Nat → Int64} {rt_belowNow : Nat → Int64} {yl_count : Int32} {yl_aboves : Nat → Int64} {yl_belows : Nat → Int64} {dr_rowCount : Int32} {dr_costs : Nat → Int64} {dr_pieces : Nat → Int32} {dr_makers : Nat → Int32} {dr_parts : Nat → Int32} {la_rowCount : Int32} {la_costs : Nat → Int64} {la_pieces : Nat → Int32} {la_makers : Nat → Int32} {la_parts : Nat → Int32} {be_rowCount : Int32} {be_costs : Nat → Int64} {be_pieces : Nat → Int32} {be_makers : Nat → Int32} {be_parts : Nat → Int32} {m_parts : Int32} {m_yields : Int32} {m_tools : Int64} {m_can : Int32} {m_sum : Int64} {m_ran : Int32} {m_keptRows : Int32} {m_stepCount : Nat → Int32} {m_froms : Nat → Int64} {m_cents : Nat → Int64} {m_uses : Nat → Int64} {m_stocks : Nat → Int64} {m_alternates : Nat → Int32} {m_assemblies : Nat → Int64} {m_placings : Nat → Int64} {m_yieldAbove : Nat → Int64} {m_yieldBelow : Nat → Int64} {m_dayCount : Nat → Int32} {m_days : Nat → Int64} {m_rateAbove : Nat → Int64} {m_rateBelow : Nat → Int64} {m_costs : Nat → Int64} {m_pieces : Nat → Int64} {m_maker : Nat → Int32} {m_partOf : Nat → Int32} {m_keptCosts : Nat → Int64} {m_keptPieces : Nat → Int64} {m_keptMaker : Nat → Int32} {m_keptPart : Nat → Int32} {m_oldCosts : Nat → Int64} {out : Nat → Int64}  (hi : ∀ k, k < 8 → vp_in (i + nI k) L) (h : IV partCount tooling used stock alts asm placed sp_froms_keys sp_froms_sizes sp_cents rt_days_keys rt_days_sizes rt_aboves rt_belows yl_count yl_aboves yl_belows la_rowCount la_costs la_pieces la_makers la_parts be_costs m_parts m_yields m_tools m_ran m_keptRows m_stepCount m_froms m_cents m_uses m_stocks m_alternates m_assemblies m_placings m_yieldAbove m_yieldBelow m_dayCount m_days m_rateAbove m_rateBelow m_keptCosts m_keptPieces m_keptMaker m_keptPart m_oldCosts) : wp_law_c0 a_dr a_dr_costs a_dr_pieces a_dr_makers a_dr_parts a_la a_la_costs a_la_pieces a_la_makers a_la_parts a_be a_be_costs a_be_pieces a_be_makers a_be_parts partCount tooling used stock alts asm placed sp_froms_keys sp_froms_sizes sp_cents rt_days_keys rt_days_sizes rt_aboves rt_belows rt_aboveNow rt_belowNow yl_count yl_aboves yl_belows dr_rowCount dr_costs dr_pieces dr_makers dr_parts la_rowCount la_costs la_pieces la_makers la_parts be_rowCount be_costs be_pieces be_makers be_parts m_parts m_yields m_tools m_can m_sum m_ran m_keptRows m_stepCount m_froms m_cents m_uses m_stocks m_alternates m_assemblies m_placings m_yieldAbove m_yieldBelow m_dayCount m_days m_rateAbove m_rateBelow m_costs m_pieces m_maker m_partOf m_keptCosts m_keptPieces m_keptMaker m_keptPart m_oldCosts out KV := by
  obtain ⟨pc, y, szs, rz, rfl, rfl, rfl, rfl, rfl, rfl, rfl, rfl, rfl, rfl, rfl, rfl, rfl, rfl, rfl, rfl, rfl, rfl, rfl, D, cz, Y, KP⟩ := h
  have hpc := D.1
  unfold wp_law_c0
  refine sp_C_part hpc (fun g => sp_M_part hpc (fun _ => ⟨fun _ => IV.mk ⟨g, D.2⟩ cz Y KP.up, fun q => q rfl⟩) (fun e => by omega)) (fun e => sp_M_part hpc (fun g => by omega) (fun _ => ⟨fun _ => IV.mk D cz Y KP, fun q => q rfl⟩))
theorem inv_c2 {L : Nat} {xs : Nat → Int32} {i : Int32} {a_dr : Nat} {a_dr_costs : Nat} {a_dr_pieces : Nat} {a_dr_makers : Nat} {a_dr_parts : Nat} {a_la : Nat} {a_la_costs : Nat} {a_la_pieces : Nat} {a_la_makers : Nat} {a_la_parts : Nat} {a_be : Nat} {a_be_costs : Nat} {a_be_pieces : Nat} {a_be_makers : Nat} {a_be_parts : Nat} {partCount : Int32} {tooling : Int64} {used : Nat → Int64} {stock : Nat → Int64} {alts : Nat → Int32} {asm : Nat → Int64} {placed : Nat → Int64} {sp_froms_keys : Nat → Int64} {sp_froms_sizes : Nat → Int32} {sp_cents : Nat → Int64} {rt_days_keys : Nat → Int64} {rt_days_sizes : Nat → Int32} {rt_aboves : Nat → Int64} {rt_belows : Nat → Int64} {rt_aboveNow : Nat → Int64} {rt_belowNow : Nat → Int64} {yl_count : Int32} {yl_aboves : Nat → Int64} {yl_belows : Nat → Int64} {dr_rowCount : Int32} {dr_costs : Nat → Int64} {dr_pieces : Nat → Int32} {dr_makers : Nat → Int32} {dr_parts : Nat → Int32} {la_rowCount : Int32} {la_costs : Nat → Int64} {la_pieces : Nat → Int32} {la_makers : Nat → Int32} {la_parts : Nat → Int32} {be_rowCount : Int32} {be_costs : Nat → Int64} {be_pieces : Nat → Int32} {be_makers : Nat → Int32} {be_parts : Nat → Int32} {m_parts : Int32} {m_yields : Int32} {m_tools : Int64} {m_can : Int32} {m_sum : Int64} {m_ran : Int32} {m_keptRows : Int32} {m_stepCount : Nat → Int32} {m_froms : Nat → Int64} {m_cents : Nat → Int64} {m_uses : Nat → Int64} {m_stocks : Nat → Int64} {m_alternates : Nat → Int32} {m_assemblies : Nat → Int64} {m_placings : Nat → Int64} {m_yieldAbove : Nat → Int64} {m_yieldBelow : Nat → Int64} {m_dayCount : Nat → Int32} {m_days : Nat → Int64} {m_rateAbove : Nat → Int64} {m_rateBelow : Nat → Int64} {m_costs : Nat → Int64} {m_pieces : Nat → Int64} {m_maker : Nat → Int32} {m_partOf : Nat → Int32} {m_keptCosts : Nat → Int64} {m_keptPieces : Nat → Int64} {m_keptMaker : Nat → Int32} {m_keptPart : Nat → Int32} {m_oldCosts : Nat → Int64} {out : Nat → Int64}  (hi : ∀ k, k < 8 → vp_in (i + nI k) L) (h : IV partCount tooling used stock alts asm placed sp_froms_keys sp_froms_sizes sp_cents rt_days_keys rt_days_sizes rt_aboves rt_belows yl_count yl_aboves yl_belows la_rowCount la_costs la_pieces la_makers la_parts be_costs m_parts m_yields m_tools m_ran m_keptRows m_stepCount m_froms m_cents m_uses m_stocks m_alternates m_assemblies m_placings m_yieldAbove m_yieldBelow m_dayCount m_days m_rateAbove m_rateBelow m_keptCosts m_keptPieces m_keptMaker m_keptPart m_oldCosts) : wp_law_c2 L xs i a_dr a_dr_costs a_dr_pieces a_dr_makers a_dr_parts a_la a_la_costs a_la_pieces a_la_makers a_la_parts a_be a_be_costs a_be_pieces a_be_makers a_be_parts partCount tooling used stock alts asm placed sp_froms_keys sp_froms_sizes sp_cents rt_days_keys rt_days_sizes rt_aboves rt_belows rt_aboveNow rt_belowNow yl_count yl_aboves yl_belows dr_rowCount dr_costs dr_pieces dr_makers dr_parts la_rowCount la_costs la_pieces la_makers la_parts be_rowCount be_costs be_pieces be_makers be_parts m_parts m_yields m_tools m_can m_sum m_ran m_keptRows m_stepCount m_froms m_cents m_uses m_stocks m_alternates m_assemblies m_placings m_yieldAbove m_yieldBelow m_dayCount m_days m_rateAbove m_rateBelow m_costs m_pieces m_maker m_partOf m_keptCosts m_keptPieces m_keptMaker m_keptPart m_oldCosts out KV := by
  obtain ⟨pc, y, szs, rz, rfl, rfl, rfl, rfl, rfl, rfl, rfl, rfl, rfl, rfl, rfl, rfl, rfl, rfl, rfl, rfl, rfl, rfl, rfl, D, cz, Y, KP⟩ := h
  have hpc := D.1
  unfold wp_law_c2
  refine ⟨hi 1 (by decide), hi 2 (by decide), hi 3 (by decide), fun y1a e1a => ?_⟩
  refine sp_L_uses hpc (fun n => ?_) (fun n n2 => ?_) (fun j hj ej n2 => ?_)
  · refine ⟨hi 1 (by decide), hi 2 (by decide), hi 3 (by decide), fun y1b e1b => ?_⟩
    have q1 : y1b = y1a := e1b.trans e1a.symm
    subst q1
    refine sp_M_uses hpc (fun _ => ?_) (fun a _ => absurd a n) (fun j hj ej _ => absurd (vofj (n := pc) hj (by omega) ej) n)
    exact tl_bool v01 rfl (fun _ => IV.mk D cz Y KP) (fun q => absurd q (by decide)) (fun q => absurd q (by decide))
  · refine ⟨hi 1 (by decide), hi 2 (by decide), hi 3 (by decide), fun y1b e1b => ?_⟩
    have q1 : y1b = y1a := e1b.trans e1a.symm
    subst q1
    refine sp_M_uses hpc (fun a => absurd n a) (fun _ _ => ?_) (fun j hj ej a => absurd a n2)
    exact tl_bool v01 rfl (fun _ => IV.mk D cz Y KP) (fun q => absurd q (by decide)) (fun q => absurd q (by decide))
  · refine ⟨hi 1 (by decide), hi 2 (by decide), hi 3 (by decide), fun y1b e1b => ?_⟩
    have q1 : y1b = y1a := e1b.trans e1a.symm
    subst q1
    refine sp_M_uses hpc (fun a => absurd (vofj (n := pc) hj (by omega) ej) a) (fun _ a => absurd n2 a) (fun j2 hj2 ej2 _ => ?_)
    have ee : j2 = j := (nI_eq (by omega) (by omega)).mp (ej2.symm.trans ej)
    subst ee
    exact tl_bool v01 rfl (fun q => absurd rfl q) (fun _ g => jfin (b0 g) (IV.mk D cz Y KP)) (fun _ g => jfin (b1 g) (IV.mk D cz Y KP))
theorem inv_c4 {L : Nat} {xs : Nat → Int32} {i : Int32} {a_dr : Nat} {a_dr_costs : Nat} {a_dr_pieces : Nat} {a_dr_makers : Nat} {a_dr_parts : Nat} {a_la : Nat} {a_la_costs : Nat} {a_la_pieces : Nat} {a_la_makers : Nat} {a_la_parts : Nat} {a_be : Nat} {a_be_costs : Nat} {a_be_pieces : Nat} {a_be_makers : Nat} {a_be_parts : Nat} {partCount : Int32} {tooling : Int64} {used : Nat → Int64} {stock : Nat → Int64} {alts : Nat → Int32} {asm : Nat → Int64} {placed : Nat → Int64} {sp_froms_keys : Nat → Int64} {sp_froms_sizes : Nat → Int32} {sp_cents : Nat → Int64} {rt_days_keys : Nat → Int64} {rt_days_sizes : Nat → Int32} {rt_aboves : Nat → Int64} {rt_belows : Nat → Int64} {rt_aboveNow : Nat → Int64} {rt_belowNow : Nat → Int64} {yl_count : Int32} {yl_aboves : Nat → Int64} {yl_belows : Nat → Int64} {dr_rowCount : Int32} {dr_costs : Nat → Int64} {dr_pieces : Nat → Int32} {dr_makers : Nat → Int32} {dr_parts : Nat → Int32} {la_rowCount : Int32} {la_costs : Nat → Int64} {la_pieces : Nat → Int32} {la_makers : Nat → Int32} {la_parts : Nat → Int32} {be_rowCount : Int32} {be_costs : Nat → Int64} {be_pieces : Nat → Int32} {be_makers : Nat → Int32} {be_parts : Nat → Int32} {m_parts : Int32} {m_yields : Int32} {m_tools : Int64} {m_can : Int32} {m_sum : Int64} {m_ran : Int32} {m_keptRows : Int32} {m_stepCount : Nat → Int32} {m_froms : Nat → Int64} {m_cents : Nat → Int64} {m_uses : Nat → Int64} {m_stocks : Nat → Int64} {m_alternates : Nat → Int32} {m_assemblies : Nat → Int64} {m_placings : Nat → Int64} {m_yieldAbove : Nat → Int64} {m_yieldBelow : Nat → Int64} {m_dayCount : Nat → Int32} {m_days : Nat → Int64} {m_rateAbove : Nat → Int64} {m_rateBelow : Nat → Int64} {m_costs : Nat → Int64} {m_pieces : Nat → Int64} {m_maker : Nat → Int32} {m_partOf : Nat → Int32} {m_keptCosts : Nat → Int64} {m_keptPieces : Nat → Int64} {m_keptMaker : Nat → Int32} {m_keptPart : Nat → Int32} {m_oldCosts : Nat → Int64} {out : Nat → Int64}  (hi : ∀ k, k < 8 → vp_in (i + nI k) L) (h : IV partCount tooling used stock alts asm placed sp_froms_keys sp_froms_sizes sp_cents rt_days_keys rt_days_sizes rt_aboves rt_belows yl_count yl_aboves yl_belows la_rowCount la_costs la_pieces la_makers la_parts be_costs m_parts m_yields m_tools m_ran m_keptRows m_stepCount m_froms m_cents m_uses m_stocks m_alternates m_assemblies m_placings m_yieldAbove m_yieldBelow m_dayCount m_days m_rateAbove m_rateBelow m_keptCosts m_keptPieces m_keptMaker m_keptPart m_oldCosts) : wp_law_c4 L xs i a_dr a_dr_costs a_dr_pieces a_dr_makers a_dr_parts a_la a_la_costs a_la_pieces a_la_makers a_la_parts a_be a_be_costs a_be_pieces a_be_makers a_be_parts partCount tooling used stock alts asm placed sp_froms_keys sp_froms_sizes sp_cents rt_days_keys rt_days_sizes rt_aboves rt_belows rt_aboveNow rt_belowNow yl_count yl_aboves yl_belows dr_rowCount dr_costs dr_pieces dr_makers dr_parts la_rowCount la_costs la_pieces la_makers la_parts be_rowCount be_costs be_pieces be_makers be_parts m_parts m_yields m_tools m_can m_sum m_ran m_keptRows m_stepCount m_froms m_cents m_uses m_stocks m_alternates m_assemblies m_placings m_yieldAbove m_yieldBelow m_dayCount m_days m_rateAbove m_rateBelow m_costs m_pieces m_maker m_partOf m_keptCosts m_keptPieces m_keptMaker m_keptPart m_oldCosts out KV := by
  obtain ⟨pc, y, szs, rz, rfl, rfl, rfl, rfl, rfl, rfl, rfl, rfl, rfl, rfl, rfl, rfl, rfl, rfl, rfl, rfl, rfl, rfl, rfl, D, cz, Y, KP⟩ := h
  have hpc := D.1
  unfold wp_law_c4
  refine ⟨hi 1 (by decide), hi 2 (by decide), hi 3 (by decide), fun y1a e1a => ?_⟩
  refine sp_L_assembly (fun n => ?_) (fun n n2 => ?_) (fun j hj ej n2 => ?_)
  · refine ⟨hi 1 (by decide), hi 2 (by decide), hi 3 (by decide), fun y1b e1b => ?_⟩
    have q1 : y1b = y1a := e1b.trans e1a.symm
    subst q1
    refine sp_M_assembly (fun _ => ?_) (fun a _ => absurd a n) (fun j hj ej _ => absurd (vofj (n := 8) hj (by omega) ej) n)
    exact tl_bool v01 rfl (fun _ => IV.mk D cz Y KP) (fun q => absurd q (by decide)) (fun q => absurd q (by decide))
  · refine ⟨hi 1 (by decide), hi 2 (by decide), hi 3 (by decide), fun y1b e1b => ?_⟩
    have q1 : y1b = y1a := e1b.trans e1a.symm
    subst q1
    refine sp_M_assembly (fun a => absurd n a) (fun _ _ => ?_) (fun j hj ej a => absurd a n2)
    exact tl_bool v01 rfl (fun _ => IV.mk D cz Y KP) (fun q => absurd q (by decide)) (fun q => absurd q (by decide))
  · refine ⟨hi 1 (by decide), hi 2 (by decide), hi 3 (by decide), fun y1b e1b => ?_⟩
    have q1 : y1b = y1a := e1b.trans e1a.symm
    subst q1
    refine sp_M_assembly (fun a => absurd (vofj (n := 8) hj (by omega) ej) a) (fun _ a => absurd n2 a) (fun j2 hj2 ej2 _ => ?_)
    have ee : j2 = j := (nI_eq (by omega) (by omega)).mp (ej2.symm.trans ej)
    subst ee
    exact tl_bool v01 rfl (fun q => absurd rfl q) (fun _ g => jfin (b0 g) (IV.mk D cz Y KP)) (fun _ g => jfin (b1 g) (IV.mk D cz Y KP))
theorem inv_c5 {L : Nat} {xs : Nat → Int32} {i : Int32} {a_dr : Nat} {a_dr_costs : Nat} {a_dr_pieces : Nat} {a_dr_makers : Nat} {a_dr_parts : Nat} {a_la : Nat} {a_la_costs : Nat} {a_la_pieces : Nat} {a_la_makers : Nat} {a_la_parts : Nat} {a_be : Nat} {a_be_costs : Nat} {a_be_pieces : Nat} {a_be_makers : Nat} {a_be_parts : Nat} {partCount : Int32} {tooling : Int64} {used : Nat → Int64} {stock : Nat → Int64} {alts : Nat → Int32} {asm : Nat → Int64} {placed : Nat → Int64} {sp_froms_keys : Nat → Int64} {sp_froms_sizes : Nat → Int32} {sp_cents : Nat → Int64} {rt_days_keys : Nat → Int64} {rt_days_sizes : Nat → Int32} {rt_aboves : Nat → Int64} {rt_belows : Nat → Int64} {rt_aboveNow : Nat → Int64} {rt_belowNow : Nat → Int64} {yl_count : Int32} {yl_aboves : Nat → Int64} {yl_belows : Nat → Int64} {dr_rowCount : Int32} {dr_costs : Nat → Int64} {dr_pieces : Nat → Int32} {dr_makers : Nat → Int32} {dr_parts : Nat → Int32} {la_rowCount : Int32} {la_costs : Nat → Int64} {la_pieces : Nat → Int32} {la_makers : Nat → Int32} {la_parts : Nat → Int32} {be_rowCount : Int32} {be_costs : Nat → Int64} {be_pieces : Nat → Int32} {be_makers : Nat → Int32} {be_parts : Nat → Int32} {m_parts : Int32} {m_yields : Int32} {m_tools : Int64} {m_can : Int32} {m_sum : Int64} {m_ran : Int32} {m_keptRows : Int32} {m_stepCount : Nat → Int32} {m_froms : Nat → Int64} {m_cents : Nat → Int64} {m_uses : Nat → Int64} {m_stocks : Nat → Int64} {m_alternates : Nat → Int32} {m_assemblies : Nat → Int64} {m_placings : Nat → Int64} {m_yieldAbove : Nat → Int64} {m_yieldBelow : Nat → Int64} {m_dayCount : Nat → Int32} {m_days : Nat → Int64} {m_rateAbove : Nat → Int64} {m_rateBelow : Nat → Int64} {m_costs : Nat → Int64} {m_pieces : Nat → Int64} {m_maker : Nat → Int32} {m_partOf : Nat → Int32} {m_keptCosts : Nat → Int64} {m_keptPieces : Nat → Int64} {m_keptMaker : Nat → Int32} {m_keptPart : Nat → Int32} {m_oldCosts : Nat → Int64} {out : Nat → Int64}  (hi : ∀ k, k < 8 → vp_in (i + nI k) L) (h : IV partCount tooling used stock alts asm placed sp_froms_keys sp_froms_sizes sp_cents rt_days_keys rt_days_sizes rt_aboves rt_belows yl_count yl_aboves yl_belows la_rowCount la_costs la_pieces la_makers la_parts be_costs m_parts m_yields m_tools m_ran m_keptRows m_stepCount m_froms m_cents m_uses m_stocks m_alternates m_assemblies m_placings m_yieldAbove m_yieldBelow m_dayCount m_days m_rateAbove m_rateBelow m_keptCosts m_keptPieces m_keptMaker m_keptPart m_oldCosts) : wp_law_c5 L xs i a_dr a_dr_costs a_dr_pieces a_dr_makers a_dr_parts a_la a_la_costs a_la_pieces a_la_makers a_la_parts a_be a_be_costs a_be_pieces a_be_makers a_be_parts partCount tooling used stock alts asm placed sp_froms_keys sp_froms_sizes sp_cents rt_days_keys rt_days_sizes rt_aboves rt_belows rt_aboveNow rt_belowNow yl_count yl_aboves yl_belows dr_rowCount dr_costs dr_pieces dr_makers dr_parts la_rowCount la_costs la_pieces la_makers la_parts be_rowCount be_costs be_pieces be_makers be_parts m_parts m_yields m_tools m_can m_sum m_ran m_keptRows m_stepCount m_froms m_cents m_uses m_stocks m_alternates m_assemblies m_placings m_yieldAbove m_yieldBelow m_dayCount m_days m_rateAbove m_rateBelow m_costs m_pieces m_maker m_partOf m_keptCosts m_keptPieces m_keptMaker m_keptPart m_oldCosts out KV := by
  obtain ⟨pc, y, szs, rz, rfl, rfl, rfl, rfl, rfl, rfl, rfl, rfl, rfl, rfl, rfl, rfl, rfl, rfl, rfl, rfl, rfl, rfl, rfl, D, cz, Y, KP⟩ := h
  have hpc := D.1
  unfold wp_law_c5
  refine ⟨hi 1 (by decide), hi 2 (by decide), hi 3 (by decide), fun y1a e1a => ?_⟩
  refine sp_L_placed (fun n => ?_) (fun n n2 => ?_) (fun j hj ej n2 => ?_)
  · refine ⟨hi 1 (by decide), hi 2 (by decide), hi 3 (by decide), fun y1b e1b => ?_⟩
    have q1 : y1b = y1a := e1b.trans e1a.symm
    subst q1
    refine sp_M_placed (fun _ => ?_) (fun a _ => absurd a n) (fun j hj ej _ => absurd (vofj (n := 8) hj (by omega) ej) n)
    exact tl_bool v01 rfl (fun _ => IV.mk D cz Y KP) (fun q => absurd q (by decide)) (fun q => absurd q (by decide))
  · refine ⟨hi 1 (by decide), hi 2 (by decide), hi 3 (by decide), fun y1b e1b => ?_⟩
    have q1 : y1b = y1a := e1b.trans e1a.symm
    subst q1
    refine sp_M_placed (fun a => absurd n a) (fun _ _ => ?_) (fun j hj ej a => absurd a n2)
    exact tl_bool v01 rfl (fun _ => IV.mk D cz Y KP) (fun q => absurd q (by decide)) (fun q => absurd q (by decide))
  · refine ⟨hi 1 (by decide), hi 2 (by decide), hi 3 (by decide), fun y1b e1b => ?_⟩
    have q1 : y1b = y1a := e1b.trans e1a.symm
    subst q1
    refine sp_M_placed (fun a => absurd (vofj (n := 8) hj (by omega) ej) a) (fun _ a => absurd n2 a) (fun j2 hj2 ej2 _ => ?_)
    have ee : j2 = j := (nI_eq (by omega) (by omega)).mp (ej2.symm.trans ej)
    subst ee
    exact tl_bool v01 rfl (fun q => absurd rfl q) (fun _ g => jfin (b0 g) (IV.mk D cz Y KP)) (fun _ g => jfin (b1 g) (IV.mk D cz Y KP))
theorem inv_c9 {L : Nat} {xs : Nat → Int32} {i : Int32} {a_dr : Nat} {a_dr_costs : Nat} {a_dr_pieces : Nat} {a_dr_makers : Nat} {a_dr_parts : Nat} {a_la : Nat} {a_la_costs : Nat} {a_la_pieces : Nat} {a_la_makers : Nat} {a_la_parts : Nat} {a_be : Nat} {a_be_costs : Nat} {a_be_pieces : Nat} {a_be_makers : Nat} {a_be_parts : Nat} {partCount : Int32} {tooling : Int64} {used : Nat → Int64} {stock : Nat → Int64} {alts : Nat → Int32} {asm : Nat → Int64} {placed : Nat → Int64} {sp_froms_keys : Nat → Int64} {sp_froms_sizes : Nat → Int32} {sp_cents : Nat → Int64} {rt_days_keys : Nat → Int64} {rt_days_sizes : Nat → Int32} {rt_aboves : Nat → Int64} {rt_belows : Nat → Int64} {rt_aboveNow : Nat → Int64} {rt_belowNow : Nat → Int64} {yl_count : Int32} {yl_aboves : Nat → Int64} {yl_belows : Nat → Int64} {dr_rowCount : Int32} {dr_costs : Nat → Int64} {dr_pieces : Nat → Int32} {dr_makers : Nat → Int32} {dr_parts : Nat → Int32} {la_rowCount : Int32} {la_costs : Nat → Int64} {la_pieces : Nat → Int32} {la_makers : Nat → Int32} {la_parts : Nat → Int32} {be_rowCount : Int32} {be_costs : Nat → Int64} {be_pieces : Nat → Int32} {be_makers : Nat → Int32} {be_parts : Nat → Int32} {m_parts : Int32} {m_yields : Int32} {m_tools : Int64} {m_can : Int32} {m_sum : Int64} {m_ran : Int32} {m_keptRows : Int32} {m_stepCount : Nat → Int32} {m_froms : Nat → Int64} {m_cents : Nat → Int64} {m_uses : Nat → Int64} {m_stocks : Nat → Int64} {m_alternates : Nat → Int32} {m_assemblies : Nat → Int64} {m_placings : Nat → Int64} {m_yieldAbove : Nat → Int64} {m_yieldBelow : Nat → Int64} {m_dayCount : Nat → Int32} {m_days : Nat → Int64} {m_rateAbove : Nat → Int64} {m_rateBelow : Nat → Int64} {m_costs : Nat → Int64} {m_pieces : Nat → Int64} {m_maker : Nat → Int32} {m_partOf : Nat → Int32} {m_keptCosts : Nat → Int64} {m_keptPieces : Nat → Int64} {m_keptMaker : Nat → Int32} {m_keptPart : Nat → Int32} {m_oldCosts : Nat → Int64} {out : Nat → Int64}  (hi : ∀ k, k < 8 → vp_in (i + nI k) L) (h : IV partCount tooling used stock alts asm placed sp_froms_keys sp_froms_sizes sp_cents rt_days_keys rt_days_sizes rt_aboves rt_belows yl_count yl_aboves yl_belows la_rowCount la_costs la_pieces la_makers la_parts be_costs m_parts m_yields m_tools m_ran m_keptRows m_stepCount m_froms m_cents m_uses m_stocks m_alternates m_assemblies m_placings m_yieldAbove m_yieldBelow m_dayCount m_days m_rateAbove m_rateBelow m_keptCosts m_keptPieces m_keptMaker m_keptPart m_oldCosts) : wp_law_c9 L xs i a_dr a_dr_costs a_dr_pieces a_dr_makers a_dr_parts a_la a_la_costs a_la_pieces a_la_makers a_la_parts a_be a_be_costs a_be_pieces a_be_makers a_be_parts partCount tooling used stock alts asm placed sp_froms_keys sp_froms_sizes sp_cents rt_days_keys rt_days_sizes rt_aboves rt_belows rt_aboveNow rt_belowNow yl_count yl_aboves yl_belows dr_rowCount dr_costs dr_pieces dr_makers dr_parts la_rowCount la_costs la_pieces la_makers la_parts be_rowCount be_costs be_pieces be_makers be_parts m_parts m_yields m_tools m_can m_sum m_ran m_keptRows m_stepCount m_froms m_cents m_uses m_stocks m_alternates m_assemblies m_placings m_yieldAbove m_yieldBelow m_dayCount m_days m_rateAbove m_rateBelow m_costs m_pieces m_maker m_partOf m_keptCosts m_keptPieces m_keptMaker m_keptPart m_oldCosts out KV := by
  obtain ⟨pc, y, szs, rz, rfl, rfl, rfl, rfl, rfl, rfl, rfl, rfl, rfl, rfl, rfl, rfl, rfl, rfl, rfl, rfl, rfl, rfl, rfl, D, cz, Y, KP⟩ := h
  have hpc := D.1
  unfold wp_law_c9
  refine ⟨hi 1 (by decide), hi 2 (by decide), hi 3 (by decide), fun y1a e1a => ?_⟩
  refine sp_L_stock hpc (fun n => ?_) (fun n n2 => ?_) (fun j hj ej n2 => ?_)
  · refine ⟨hi 1 (by decide), hi 2 (by decide), hi 3 (by decide), fun y1b e1b => ?_⟩
    have q1 : y1b = y1a := e1b.trans e1a.symm
    subst q1
    refine sp_M_stock hpc (fun _ => ?_) (fun a _ => absurd a n) (fun j hj ej _ => absurd (vofj (n := pc) hj (by omega) ej) n)
    exact tl_bool v01 rfl (fun _ => IV.mk D cz Y KP) (fun q => absurd q (by decide)) (fun q => absurd q (by decide))
  · refine ⟨hi 1 (by decide), hi 2 (by decide), hi 3 (by decide), fun y1b e1b => ?_⟩
    have q1 : y1b = y1a := e1b.trans e1a.symm
    subst q1
    refine sp_M_stock hpc (fun a => absurd n a) (fun _ _ => ?_) (fun j hj ej a => absurd a n2)
    exact tl_bool v01 rfl (fun _ => IV.mk D cz Y KP) (fun q => absurd q (by decide)) (fun q => absurd q (by decide))
  · refine ⟨hi 1 (by decide), hi 2 (by decide), hi 3 (by decide), fun y1b e1b => ?_⟩
    have q1 : y1b = y1a := e1b.trans e1a.symm
    subst q1
    refine sp_M_stock hpc (fun a => absurd (vofj (n := pc) hj (by omega) ej) a) (fun _ a => absurd n2 a) (fun j2 hj2 ej2 _ => ?_)
    have ee : j2 = j := (nI_eq (by omega) (by omega)).mp (ej2.symm.trans ej)
    subst ee
    exact tl_bool v01 rfl (fun q => absurd rfl q) (fun _ g => jfin (b0 g) (IV.mk (D.stock n2.1) cz Y KP)) (fun _ g => jfin (b1 g) (IV.mk (D.stock n2.1) cz Y KP))
theorem inv_c1 {L : Nat} {xs : Nat → Int32} {i : Int32} {a_dr : Nat} {a_dr_costs : Nat} {a_dr_pieces : Nat} {a_dr_makers : Nat} {a_dr_parts : Nat} {a_la : Nat} {a_la_costs : Nat} {a_la_pieces : Nat} {a_la_makers : Nat} {a_la_parts : Nat} {a_be : Nat} {a_be_costs : Nat} {a_be_pieces : Nat} {a_be_makers : Nat} {a_be_parts : Nat} {partCount : Int32} {tooling : Int64} {used : Nat → Int64} {stock : Nat → Int64} {alts : Nat → Int32} {asm : Nat → Int64} {placed : Nat → Int64} {sp_froms_keys : Nat → Int64} {sp_froms_sizes : Nat → Int32} {sp_cents : Nat → Int64} {rt_days_keys : Nat → Int64} {rt_days_sizes : Nat → Int32} {rt_aboves : Nat → Int64} {rt_belows : Nat → Int64} {rt_aboveNow : Nat → Int64} {rt_belowNow : Nat → Int64} {yl_count : Int32} {yl_aboves : Nat → Int64} {yl_belows : Nat → Int64} {dr_rowCount : Int32} {dr_costs : Nat → Int64} {dr_pieces : Nat → Int32} {dr_makers : Nat → Int32} {dr_parts : Nat → Int32} {la_rowCount : Int32} {la_costs : Nat → Int64} {la_pieces : Nat → Int32} {la_makers : Nat → Int32} {la_parts : Nat → Int32} {be_rowCount : Int32} {be_costs : Nat → Int64} {be_pieces : Nat → Int32} {be_makers : Nat → Int32} {be_parts : Nat → Int32} {m_parts : Int32} {m_yields : Int32} {m_tools : Int64} {m_can : Int32} {m_sum : Int64} {m_ran : Int32} {m_keptRows : Int32} {m_stepCount : Nat → Int32} {m_froms : Nat → Int64} {m_cents : Nat → Int64} {m_uses : Nat → Int64} {m_stocks : Nat → Int64} {m_alternates : Nat → Int32} {m_assemblies : Nat → Int64} {m_placings : Nat → Int64} {m_yieldAbove : Nat → Int64} {m_yieldBelow : Nat → Int64} {m_dayCount : Nat → Int32} {m_days : Nat → Int64} {m_rateAbove : Nat → Int64} {m_rateBelow : Nat → Int64} {m_costs : Nat → Int64} {m_pieces : Nat → Int64} {m_maker : Nat → Int32} {m_partOf : Nat → Int32} {m_keptCosts : Nat → Int64} {m_keptPieces : Nat → Int64} {m_keptMaker : Nat → Int32} {m_keptPart : Nat → Int32} {m_oldCosts : Nat → Int64} {out : Nat → Int64}  (hi : ∀ k, k < 8 → vp_in (i + nI k) L) (h : IV partCount tooling used stock alts asm placed sp_froms_keys sp_froms_sizes sp_cents rt_days_keys rt_days_sizes rt_aboves rt_belows yl_count yl_aboves yl_belows la_rowCount la_costs la_pieces la_makers la_parts be_costs m_parts m_yields m_tools m_ran m_keptRows m_stepCount m_froms m_cents m_uses m_stocks m_alternates m_assemblies m_placings m_yieldAbove m_yieldBelow m_dayCount m_days m_rateAbove m_rateBelow m_keptCosts m_keptPieces m_keptMaker m_keptPart m_oldCosts) : wp_law_c1 L xs i a_dr a_dr_costs a_dr_pieces a_dr_makers a_dr_parts a_la a_la_costs a_la_pieces a_la_makers a_la_parts a_be a_be_costs a_be_pieces a_be_makers a_be_parts partCount tooling used stock alts asm placed sp_froms_keys sp_froms_sizes sp_cents rt_days_keys rt_days_sizes rt_aboves rt_belows rt_aboveNow rt_belowNow yl_count yl_aboves yl_belows dr_rowCount dr_costs dr_pieces dr_makers dr_parts la_rowCount la_costs la_pieces la_makers la_parts be_rowCount be_costs be_pieces be_makers be_parts m_parts m_yields m_tools m_can m_sum m_ran m_keptRows m_stepCount m_froms m_cents m_uses m_stocks m_alternates m_assemblies m_placings m_yieldAbove m_yieldBelow m_dayCount m_days m_rateAbove m_rateBelow m_costs m_pieces m_maker m_partOf m_keptCosts m_keptPieces m_keptMaker m_keptPart m_oldCosts out KV := by
  obtain ⟨pc, y, szs, rz, rfl, rfl, rfl, rfl, rfl, rfl, rfl, rfl, rfl, rfl, rfl, rfl, rfl, rfl, rfl, rfl, rfl, rfl, rfl, D, cz, Y, KP⟩ := h
  have hpc := D.1
  unfold wp_law_c1
  refine ⟨hi 1 (by decide), hi 2 (by decide), hi 3 (by decide), hi 4 (by decide), fun y1a e1a => ⟨hi 5 (by decide), hi 6 (by decide), fun y2a e2a => ?_⟩⟩
  refine sp_L_price hpc D.2.2.1 cz (fun n => ?_) (fun n n2 => ?_) (fun p m hp hm ep em n2 => ?_)
  · refine ⟨hi 1 (by decide), hi 2 (by decide), hi 3 (by decide), hi 4 (by decide), fun y1b e1b => ⟨hi 5 (by decide), hi 6 (by decide), fun y2b e2b => ?_⟩⟩
    have q1 : y1b = y1a := e1b.trans e1a.symm
    subst q1
    have q2 : y2b = y2a := e2b.trans e2a.symm
    subst q2
    refine sp_M_price hpc D.2.2.1 (fun _ => ?_) (fun a _ => absurd a n) (fun p m hp hm ep em _ => absurd ⟨vofj hp (by omega) ep, vofj hm (by decide) em⟩ n)
    exact tl_bool v01 rfl (fun _ => IV.mk D cz Y KP) (fun q => absurd q (by decide)) (fun q => absurd q (by decide))
  · refine ⟨hi 1 (by decide), hi 2 (by decide), hi 3 (by decide), hi 4 (by decide), fun y1b e1b => ⟨hi 5 (by decide), hi 6 (by decide), fun y2b e2b => ?_⟩⟩
    have q1 : y1b = y1a := e1b.trans e1a.symm
    subst q1
    have q2 : y2b = y2a := e2b.trans e2a.symm
    subst q2
    refine sp_M_price hpc D.2.2.1 (fun a => absurd n a) (fun _ _ => ?_) (fun p m hp hm ep em a => absurd a n2)
    exact tl_bool v01 rfl (fun _ => IV.mk D cz Y KP) (fun q => absurd q (by decide)) (fun q => absurd q (by decide))
  · refine ⟨hi 1 (by decide), hi 2 (by decide), hi 3 (by decide), hi 4 (by decide), fun y1b e1b => ⟨hi 5 (by decide), hi 6 (by decide), fun y2b e2b => ?_⟩⟩
    have q1 : y1b = y1a := e1b.trans e1a.symm
    subst q1
    have q2 : y2b = y2a := e2b.trans e2a.symm
    subst q2
    refine sp_M_price hpc D.2.2.1 (fun a => absurd ⟨vofj hp (by omega) ep, vofj hm (by decide) em⟩ a) (fun _ a => absurd n2 a) (fun p2 m2 hp2 hm2 ep2 em2 _ => ?_)
    have ee : p2 = p := (nI_eq (by omega) (by omega)).mp (ep2.symm.trans ep)
    have ff : m2 = m := (nI_eq (by omega) (by omega)).mp (em2.symm.trans em)
    subst ee; subst ff
    obtain ⟨f, f0, f1, f2⟩ := lOf (b := 1000000000) (by decide) n2.1.1 n2.1.2
    obtain ⟨szs2, L2, cz2⟩ := LI_tell (c := y2b) D.2.2.1 cz (show 8 * p2 + m2 < 248 by omega) f0 f1 f2
    exact tl_bool v01 rfl (fun q => absurd rfl q) (fun _ g => jfin (c0 g) (IV.mk ⟨D.1, D.2.1, L2, D.2.2.2⟩ cz2 Y KP)) (fun _ g => jfin (c1 g) (IV.mk ⟨D.1, D.2.1, L2, D.2.2.2⟩ cz2 Y KP))
theorem inv_c3 {L : Nat} {xs : Nat → Int32} {i : Int32} {a_dr : Nat} {a_dr_costs : Nat} {a_dr_pieces : Nat} {a_dr_makers : Nat} {a_dr_parts : Nat} {a_la : Nat} {a_la_costs : Nat} {a_la_pieces : Nat} {a_la_makers : Nat} {a_la_parts : Nat} {a_be : Nat} {a_be_costs : Nat} {a_be_pieces : Nat} {a_be_makers : Nat} {a_be_parts : Nat} {partCount : Int32} {tooling : Int64} {used : Nat → Int64} {stock : Nat → Int64} {alts : Nat → Int32} {asm : Nat → Int64} {placed : Nat → Int64} {sp_froms_keys : Nat → Int64} {sp_froms_sizes : Nat → Int32} {sp_cents : Nat → Int64} {rt_days_keys : Nat → Int64} {rt_days_sizes : Nat → Int32} {rt_aboves : Nat → Int64} {rt_belows : Nat → Int64} {rt_aboveNow : Nat → Int64} {rt_belowNow : Nat → Int64} {yl_count : Int32} {yl_aboves : Nat → Int64} {yl_belows : Nat → Int64} {dr_rowCount : Int32} {dr_costs : Nat → Int64} {dr_pieces : Nat → Int32} {dr_makers : Nat → Int32} {dr_parts : Nat → Int32} {la_rowCount : Int32} {la_costs : Nat → Int64} {la_pieces : Nat → Int32} {la_makers : Nat → Int32} {la_parts : Nat → Int32} {be_rowCount : Int32} {be_costs : Nat → Int64} {be_pieces : Nat → Int32} {be_makers : Nat → Int32} {be_parts : Nat → Int32} {m_parts : Int32} {m_yields : Int32} {m_tools : Int64} {m_can : Int32} {m_sum : Int64} {m_ran : Int32} {m_keptRows : Int32} {m_stepCount : Nat → Int32} {m_froms : Nat → Int64} {m_cents : Nat → Int64} {m_uses : Nat → Int64} {m_stocks : Nat → Int64} {m_alternates : Nat → Int32} {m_assemblies : Nat → Int64} {m_placings : Nat → Int64} {m_yieldAbove : Nat → Int64} {m_yieldBelow : Nat → Int64} {m_dayCount : Nat → Int32} {m_days : Nat → Int64} {m_rateAbove : Nat → Int64} {m_rateBelow : Nat → Int64} {m_costs : Nat → Int64} {m_pieces : Nat → Int64} {m_maker : Nat → Int32} {m_partOf : Nat → Int32} {m_keptCosts : Nat → Int64} {m_keptPieces : Nat → Int64} {m_keptMaker : Nat → Int32} {m_keptPart : Nat → Int32} {m_oldCosts : Nat → Int64} {out : Nat → Int64}  (hi : ∀ k, k < 8 → vp_in (i + nI k) L) (h : IV partCount tooling used stock alts asm placed sp_froms_keys sp_froms_sizes sp_cents rt_days_keys rt_days_sizes rt_aboves rt_belows yl_count yl_aboves yl_belows la_rowCount la_costs la_pieces la_makers la_parts be_costs m_parts m_yields m_tools m_ran m_keptRows m_stepCount m_froms m_cents m_uses m_stocks m_alternates m_assemblies m_placings m_yieldAbove m_yieldBelow m_dayCount m_days m_rateAbove m_rateBelow m_keptCosts m_keptPieces m_keptMaker m_keptPart m_oldCosts) : wp_law_c3 L xs i a_dr a_dr_costs a_dr_pieces a_dr_makers a_dr_parts a_la a_la_costs a_la_pieces a_la_makers a_la_parts a_be a_be_costs a_be_pieces a_be_makers a_be_parts partCount tooling used stock alts asm placed sp_froms_keys sp_froms_sizes sp_cents rt_days_keys rt_days_sizes rt_aboves rt_belows rt_aboveNow rt_belowNow yl_count yl_aboves yl_belows dr_rowCount dr_costs dr_pieces dr_makers dr_parts la_rowCount la_costs la_pieces la_makers la_parts be_rowCount be_costs be_pieces be_makers be_parts m_parts m_yields m_tools m_can m_sum m_ran m_keptRows m_stepCount m_froms m_cents m_uses m_stocks m_alternates m_assemblies m_placings m_yieldAbove m_yieldBelow m_dayCount m_days m_rateAbove m_rateBelow m_costs m_pieces m_maker m_partOf m_keptCosts m_keptPieces m_keptMaker m_keptPart m_oldCosts out KV := by
  obtain ⟨pc, y, szs, rz, rfl, rfl, rfl, rfl, rfl, rfl, rfl, rfl, rfl, rfl, rfl, rfl, rfl, rfl, rfl, rfl, rfl, rfl, rfl, D, cz, Y, KP⟩ := h
  have hpc := D.1
  unfold wp_law_c3
  refine ⟨hi 1 (by decide), hi 2 (by decide), hi 3 (by decide), fun y1a e1a => ⟨hi 4 (by decide), hi 5 (by decide), fun y2a e2a => ?_⟩⟩
  refine sp_L_board D.2.2.1 cz (fun n => ?_) (fun n n2 => ?_) (fun m hm em n2 => ?_)
  · refine ⟨hi 1 (by decide), hi 2 (by decide), hi 3 (by decide), fun y1b e1b => ⟨hi 4 (by decide), hi 5 (by decide), fun y2b e2b => ?_⟩⟩
    have q1 : y1b = y1a := e1b.trans e1a.symm
    subst q1
    have q2 : y2b = y2a := e2b.trans e2a.symm
    subst q2
    refine sp_M_board D.2.2.1 (fun _ => ?_) (fun a _ => absurd a n) (fun m hm em _ => absurd (vofj hm (by decide) em) n)
    exact tl_bool v01 rfl (fun _ => IV.mk D cz Y KP) (fun q => absurd q (by decide)) (fun q => absurd q (by decide))
  · refine ⟨hi 1 (by decide), hi 2 (by decide), hi 3 (by decide), fun y1b e1b => ⟨hi 4 (by decide), hi 5 (by decide), fun y2b e2b => ?_⟩⟩
    have q1 : y1b = y1a := e1b.trans e1a.symm
    subst q1
    have q2 : y2b = y2a := e2b.trans e2a.symm
    subst q2
    refine sp_M_board D.2.2.1 (fun a => absurd n a) (fun _ _ => ?_) (fun m hm em a => absurd a n2)
    exact tl_bool v01 rfl (fun _ => IV.mk D cz Y KP) (fun q => absurd q (by decide)) (fun q => absurd q (by decide))
  · refine ⟨hi 1 (by decide), hi 2 (by decide), hi 3 (by decide), fun y1b e1b => ⟨hi 4 (by decide), hi 5 (by decide), fun y2b e2b => ?_⟩⟩
    have q1 : y1b = y1a := e1b.trans e1a.symm
    subst q1
    have q2 : y2b = y2a := e2b.trans e2a.symm
    subst q2
    refine sp_M_board D.2.2.1 (fun a => absurd (vofj hm (by decide) em) a) (fun _ a => absurd n2 a) (fun m2 hm2 em2 _ => ?_)
    have ff : m2 = m := (nI_eq (by omega) (by omega)).mp (em2.symm.trans em)
    subst ff
    obtain ⟨f, f0, f1, f2⟩ := lOf (b := 1000000000) (by decide) n2.1.1 n2.1.2
    obtain ⟨szs2, L2, cz2⟩ := LI_tell (c := y2b) D.2.2.1 cz (show 8 * 30 + m2 < 248 by omega) f0 f1 f2
    exact tl_bool v01 rfl (fun q => absurd rfl q) (fun _ g => jfin (c0 g) (IV.mk ⟨D.1, D.2.1, L2, D.2.2.2⟩ cz2 Y KP)) (fun _ g => jfin (c1 g) (IV.mk ⟨D.1, D.2.1, L2, D.2.2.2⟩ cz2 Y KP))
theorem inv_c6 {L : Nat} {xs : Nat → Int32} {i : Int32} {a_dr : Nat} {a_dr_costs : Nat} {a_dr_pieces : Nat} {a_dr_makers : Nat} {a_dr_parts : Nat} {a_la : Nat} {a_la_costs : Nat} {a_la_pieces : Nat} {a_la_makers : Nat} {a_la_parts : Nat} {a_be : Nat} {a_be_costs : Nat} {a_be_pieces : Nat} {a_be_makers : Nat} {a_be_parts : Nat} {partCount : Int32} {tooling : Int64} {used : Nat → Int64} {stock : Nat → Int64} {alts : Nat → Int32} {asm : Nat → Int64} {placed : Nat → Int64} {sp_froms_keys : Nat → Int64} {sp_froms_sizes : Nat → Int32} {sp_cents : Nat → Int64} {rt_days_keys : Nat → Int64} {rt_days_sizes : Nat → Int32} {rt_aboves : Nat → Int64} {rt_belows : Nat → Int64} {rt_aboveNow : Nat → Int64} {rt_belowNow : Nat → Int64} {yl_count : Int32} {yl_aboves : Nat → Int64} {yl_belows : Nat → Int64} {dr_rowCount : Int32} {dr_costs : Nat → Int64} {dr_pieces : Nat → Int32} {dr_makers : Nat → Int32} {dr_parts : Nat → Int32} {la_rowCount : Int32} {la_costs : Nat → Int64} {la_pieces : Nat → Int32} {la_makers : Nat → Int32} {la_parts : Nat → Int32} {be_rowCount : Int32} {be_costs : Nat → Int64} {be_pieces : Nat → Int32} {be_makers : Nat → Int32} {be_parts : Nat → Int32} {m_parts : Int32} {m_yields : Int32} {m_tools : Int64} {m_can : Int32} {m_sum : Int64} {m_ran : Int32} {m_keptRows : Int32} {m_stepCount : Nat → Int32} {m_froms : Nat → Int64} {m_cents : Nat → Int64} {m_uses : Nat → Int64} {m_stocks : Nat → Int64} {m_alternates : Nat → Int32} {m_assemblies : Nat → Int64} {m_placings : Nat → Int64} {m_yieldAbove : Nat → Int64} {m_yieldBelow : Nat → Int64} {m_dayCount : Nat → Int32} {m_days : Nat → Int64} {m_rateAbove : Nat → Int64} {m_rateBelow : Nat → Int64} {m_costs : Nat → Int64} {m_pieces : Nat → Int64} {m_maker : Nat → Int32} {m_partOf : Nat → Int32} {m_keptCosts : Nat → Int64} {m_keptPieces : Nat → Int64} {m_keptMaker : Nat → Int32} {m_keptPart : Nat → Int32} {m_oldCosts : Nat → Int64} {out : Nat → Int64}  (hi : ∀ k, k < 8 → vp_in (i + nI k) L) (h : IV partCount tooling used stock alts asm placed sp_froms_keys sp_froms_sizes sp_cents rt_days_keys rt_days_sizes rt_aboves rt_belows yl_count yl_aboves yl_belows la_rowCount la_costs la_pieces la_makers la_parts be_costs m_parts m_yields m_tools m_ran m_keptRows m_stepCount m_froms m_cents m_uses m_stocks m_alternates m_assemblies m_placings m_yieldAbove m_yieldBelow m_dayCount m_days m_rateAbove m_rateBelow m_keptCosts m_keptPieces m_keptMaker m_keptPart m_oldCosts) : wp_law_c6 L xs i a_dr a_dr_costs a_dr_pieces a_dr_makers a_dr_parts a_la a_la_costs a_la_pieces a_la_makers a_la_parts a_be a_be_costs a_be_pieces a_be_makers a_be_parts partCount tooling used stock alts asm placed sp_froms_keys sp_froms_sizes sp_cents rt_days_keys rt_days_sizes rt_aboves rt_belows rt_aboveNow rt_belowNow yl_count yl_aboves yl_belows dr_rowCount dr_costs dr_pieces dr_makers dr_parts la_rowCount la_costs la_pieces la_makers la_parts be_rowCount be_costs be_pieces be_makers be_parts m_parts m_yields m_tools m_can m_sum m_ran m_keptRows m_stepCount m_froms m_cents m_uses m_stocks m_alternates m_assemblies m_placings m_yieldAbove m_yieldBelow m_dayCount m_days m_rateAbove m_rateBelow m_costs m_pieces m_maker m_partOf m_keptCosts m_keptPieces m_keptMaker m_keptPart m_oldCosts out KV := by
  obtain ⟨pc, y, szs, rz, rfl, rfl, rfl, rfl, rfl, rfl, rfl, rfl, rfl, rfl, rfl, rfl, rfl, rfl, rfl, rfl, rfl, rfl, rfl, D, cz, Y, KP⟩ := h
  have hpc := D.1
  unfold wp_law_c6
  refine ⟨hi 1 (by decide), hi 2 (by decide), fun y1a e1a => ⟨hi 3 (by decide), hi 4 (by decide), fun y2a e2a => ?_⟩⟩
  refine sp_L_yieldOf Y.1 (fun n => ?_) (fun n e8 => ?_) (fun n l8 => ?_)
  · refine ⟨hi 1 (by decide), hi 2 (by decide), fun y1b e1b => ⟨hi 3 (by decide), hi 4 (by decide), fun y2b e2b => ?_⟩⟩
    have q1 : y1b = y1a := e1b.trans e1a.symm
    subst q1
    have q2 : y2b = y2a := e2b.trans e2a.symm
    subst q2
    refine sp_M_yieldOf Y.1 (fun _ => ?_) (fun a _ => absurd a n) (fun a _ => absurd a n)
    exact tl_bool v01 rfl (fun _ => IV.mk D cz Y KP) (fun q => absurd q (by decide)) (fun q => absurd q (by decide))
  · refine ⟨hi 1 (by decide), hi 2 (by decide), fun y1b e1b => ⟨hi 3 (by decide), hi 4 (by decide), fun y2b e2b => ?_⟩⟩
    have q1 : y1b = y1a := e1b.trans e1a.symm
    subst q1
    have q2 : y2b = y2a := e2b.trans e2a.symm
    subst q2
    refine sp_M_yieldOf Y.1 (fun a => absurd n a) (fun _ _ => ?_) (fun _ g => by omega)
    exact tl_bool v01 rfl (fun q => absurd rfl q) (fun _ _ => jfin o_at (IV.mk D cz Y KP)) (fun _ g => absurd rfl g)
  · refine ⟨hi 1 (by decide), hi 2 (by decide), fun y1b e1b => ⟨hi 3 (by decide), hi 4 (by decide), fun y2b e2b => ?_⟩⟩
    have q1 : y1b = y1a := e1b.trans e1a.symm
    subst q1
    have q2 : y2b = y2a := e2b.trans e2a.symm
    subst q2
    refine sp_M_yieldOf Y.1 (fun a => absurd n a) (fun _ g => by omega) (fun _ _ => ?_)
    exact tl_bool v01 rfl (fun q => absurd rfl q) (fun _ g => absurd g (by decide)) (fun _ _ => jfin o_at (IV.mk D cz (Y.add n l8) KP))
theorem inv_c7 {L : Nat} {xs : Nat → Int32} {i : Int32} {a_dr : Nat} {a_dr_costs : Nat} {a_dr_pieces : Nat} {a_dr_makers : Nat} {a_dr_parts : Nat} {a_la : Nat} {a_la_costs : Nat} {a_la_pieces : Nat} {a_la_makers : Nat} {a_la_parts : Nat} {a_be : Nat} {a_be_costs : Nat} {a_be_pieces : Nat} {a_be_makers : Nat} {a_be_parts : Nat} {partCount : Int32} {tooling : Int64} {used : Nat → Int64} {stock : Nat → Int64} {alts : Nat → Int32} {asm : Nat → Int64} {placed : Nat → Int64} {sp_froms_keys : Nat → Int64} {sp_froms_sizes : Nat → Int32} {sp_cents : Nat → Int64} {rt_days_keys : Nat → Int64} {rt_days_sizes : Nat → Int32} {rt_aboves : Nat → Int64} {rt_belows : Nat → Int64} {rt_aboveNow : Nat → Int64} {rt_belowNow : Nat → Int64} {yl_count : Int32} {yl_aboves : Nat → Int64} {yl_belows : Nat → Int64} {dr_rowCount : Int32} {dr_costs : Nat → Int64} {dr_pieces : Nat → Int32} {dr_makers : Nat → Int32} {dr_parts : Nat → Int32} {la_rowCount : Int32} {la_costs : Nat → Int64} {la_pieces : Nat → Int32} {la_makers : Nat → Int32} {la_parts : Nat → Int32} {be_rowCount : Int32} {be_costs : Nat → Int64} {be_pieces : Nat → Int32} {be_makers : Nat → Int32} {be_parts : Nat → Int32} {m_parts : Int32} {m_yields : Int32} {m_tools : Int64} {m_can : Int32} {m_sum : Int64} {m_ran : Int32} {m_keptRows : Int32} {m_stepCount : Nat → Int32} {m_froms : Nat → Int64} {m_cents : Nat → Int64} {m_uses : Nat → Int64} {m_stocks : Nat → Int64} {m_alternates : Nat → Int32} {m_assemblies : Nat → Int64} {m_placings : Nat → Int64} {m_yieldAbove : Nat → Int64} {m_yieldBelow : Nat → Int64} {m_dayCount : Nat → Int32} {m_days : Nat → Int64} {m_rateAbove : Nat → Int64} {m_rateBelow : Nat → Int64} {m_costs : Nat → Int64} {m_pieces : Nat → Int64} {m_maker : Nat → Int32} {m_partOf : Nat → Int32} {m_keptCosts : Nat → Int64} {m_keptPieces : Nat → Int64} {m_keptMaker : Nat → Int32} {m_keptPart : Nat → Int32} {m_oldCosts : Nat → Int64} {out : Nat → Int64}  (hi : ∀ k, k < 8 → vp_in (i + nI k) L) (h : IV partCount tooling used stock alts asm placed sp_froms_keys sp_froms_sizes sp_cents rt_days_keys rt_days_sizes rt_aboves rt_belows yl_count yl_aboves yl_belows la_rowCount la_costs la_pieces la_makers la_parts be_costs m_parts m_yields m_tools m_ran m_keptRows m_stepCount m_froms m_cents m_uses m_stocks m_alternates m_assemblies m_placings m_yieldAbove m_yieldBelow m_dayCount m_days m_rateAbove m_rateBelow m_keptCosts m_keptPieces m_keptMaker m_keptPart m_oldCosts) : wp_law_c7 L xs i a_dr a_dr_costs a_dr_pieces a_dr_makers a_dr_parts a_la a_la_costs a_la_pieces a_la_makers a_la_parts a_be a_be_costs a_be_pieces a_be_makers a_be_parts partCount tooling used stock alts asm placed sp_froms_keys sp_froms_sizes sp_cents rt_days_keys rt_days_sizes rt_aboves rt_belows rt_aboveNow rt_belowNow yl_count yl_aboves yl_belows dr_rowCount dr_costs dr_pieces dr_makers dr_parts la_rowCount la_costs la_pieces la_makers la_parts be_rowCount be_costs be_pieces be_makers be_parts m_parts m_yields m_tools m_can m_sum m_ran m_keptRows m_stepCount m_froms m_cents m_uses m_stocks m_alternates m_assemblies m_placings m_yieldAbove m_yieldBelow m_dayCount m_days m_rateAbove m_rateBelow m_costs m_pieces m_maker m_partOf m_keptCosts m_keptPieces m_keptMaker m_keptPart m_oldCosts out KV := by
  obtain ⟨pc, y, szs, rz, rfl, rfl, rfl, rfl, rfl, rfl, rfl, rfl, rfl, rfl, rfl, rfl, rfl, rfl, rfl, rfl, rfl, rfl, rfl, D, cz, Y, KP⟩ := h
  have hpc := D.1
  unfold wp_law_c7
  refine ⟨hi 1 (by decide), hi 2 (by decide), hi 3 (by decide), fun y1a e1a => ⟨hi 4 (by decide), hi 5 (by decide), fun y2a e2a => ⟨hi 6 (by decide), hi 7 (by decide), fun y3a e3a => ?_⟩⟩⟩
  refine sp_L_currency D.2.2.2 (fun n => ?_) (fun n n2 => ?_) (fun m hm em n2 => ?_)
  · refine ⟨hi 1 (by decide), hi 2 (by decide), hi 3 (by decide), fun y1b e1b => ⟨hi 4 (by decide), hi 5 (by decide), fun y2b e2b => ⟨hi 6 (by decide), hi 7 (by decide), fun y3b e3b => ?_⟩⟩⟩
    have q1 : y1b = y1a := e1b.trans e1a.symm
    subst q1
    have q2 : y2b = y2a := e2b.trans e2a.symm
    subst q2
    have q3 : y3b = y3a := e3b.trans e3a.symm
    subst q3
    refine sp_M_currency D.2.2.2 (fun _ => ?_) (fun a _ => absurd a n) (fun m hm em _ => absurd (vofj hm (by decide) em) n)
    exact tl_bool v01 rfl (fun _ => IV.mk D cz Y KP) (fun q => absurd q (by decide)) (fun q => absurd q (by decide))
  · refine ⟨hi 1 (by decide), hi 2 (by decide), hi 3 (by decide), fun y1b e1b => ⟨hi 4 (by decide), hi 5 (by decide), fun y2b e2b => ⟨hi 6 (by decide), hi 7 (by decide), fun y3b e3b => ?_⟩⟩⟩
    have q1 : y1b = y1a := e1b.trans e1a.symm
    subst q1
    have q2 : y2b = y2a := e2b.trans e2a.symm
    subst q2
    have q3 : y3b = y3a := e3b.trans e3a.symm
    subst q3
    refine sp_M_currency D.2.2.2 (fun a => absurd n a) (fun _ _ => ?_) (fun m hm em a => absurd a n2)
    exact tl_bool v01 rfl (fun _ => IV.mk D cz Y KP) (fun q => absurd q (by decide)) (fun q => absurd q (by decide))
  · refine ⟨hi 1 (by decide), hi 2 (by decide), hi 3 (by decide), fun y1b e1b => ⟨hi 4 (by decide), hi 5 (by decide), fun y2b e2b => ⟨hi 6 (by decide), hi 7 (by decide), fun y3b e3b => ?_⟩⟩⟩
    have q1 : y1b = y1a := e1b.trans e1a.symm
    subst q1
    have q2 : y2b = y2a := e2b.trans e2a.symm
    subst q2
    have q3 : y3b = y3a := e3b.trans e3a.symm
    subst q3
    refine sp_M_currency D.2.2.2 (fun a => absurd (vofj hm (by decide) em) a) (fun _ a => absurd n2 a) (fun m2 hm2 em2 _ => ?_)
    have ff : m2 = m := (nI_eq (by omega) (by omega)).mp (em2.symm.trans em)
    subst ff
    obtain ⟨rz2, R2⟩ := DI_tell (dk := rt_days_keys) (day := y1b) (a := y2b) D.2.2.2 hm n2.2.1
    exact tl_bool v01 rfl (fun q => absurd rfl q) (fun _ g => jfin (c0 g) (IV.mk ⟨D.1, D.2.1, D.2.2.1, R2⟩ cz Y KP)) (fun _ g => jfin (c1 g) (IV.mk ⟨D.1, D.2.1, D.2.2.1, R2⟩ cz Y KP))
theorem inv_c8 {L : Nat} {xs : Nat → Int32} {i : Int32} {a_dr : Nat} {a_dr_costs : Nat} {a_dr_pieces : Nat} {a_dr_makers : Nat} {a_dr_parts : Nat} {a_la : Nat} {a_la_costs : Nat} {a_la_pieces : Nat} {a_la_makers : Nat} {a_la_parts : Nat} {a_be : Nat} {a_be_costs : Nat} {a_be_pieces : Nat} {a_be_makers : Nat} {a_be_parts : Nat} {partCount : Int32} {tooling : Int64} {used : Nat → Int64} {stock : Nat → Int64} {alts : Nat → Int32} {asm : Nat → Int64} {placed : Nat → Int64} {sp_froms_keys : Nat → Int64} {sp_froms_sizes : Nat → Int32} {sp_cents : Nat → Int64} {rt_days_keys : Nat → Int64} {rt_days_sizes : Nat → Int32} {rt_aboves : Nat → Int64} {rt_belows : Nat → Int64} {rt_aboveNow : Nat → Int64} {rt_belowNow : Nat → Int64} {yl_count : Int32} {yl_aboves : Nat → Int64} {yl_belows : Nat → Int64} {dr_rowCount : Int32} {dr_costs : Nat → Int64} {dr_pieces : Nat → Int32} {dr_makers : Nat → Int32} {dr_parts : Nat → Int32} {la_rowCount : Int32} {la_costs : Nat → Int64} {la_pieces : Nat → Int32} {la_makers : Nat → Int32} {la_parts : Nat → Int32} {be_rowCount : Int32} {be_costs : Nat → Int64} {be_pieces : Nat → Int32} {be_makers : Nat → Int32} {be_parts : Nat → Int32} {m_parts : Int32} {m_yields : Int32} {m_tools : Int64} {m_can : Int32} {m_sum : Int64} {m_ran : Int32} {m_keptRows : Int32} {m_stepCount : Nat → Int32} {m_froms : Nat → Int64} {m_cents : Nat → Int64} {m_uses : Nat → Int64} {m_stocks : Nat → Int64} {m_alternates : Nat → Int32} {m_assemblies : Nat → Int64} {m_placings : Nat → Int64} {m_yieldAbove : Nat → Int64} {m_yieldBelow : Nat → Int64} {m_dayCount : Nat → Int32} {m_days : Nat → Int64} {m_rateAbove : Nat → Int64} {m_rateBelow : Nat → Int64} {m_costs : Nat → Int64} {m_pieces : Nat → Int64} {m_maker : Nat → Int32} {m_partOf : Nat → Int32} {m_keptCosts : Nat → Int64} {m_keptPieces : Nat → Int64} {m_keptMaker : Nat → Int32} {m_keptPart : Nat → Int32} {m_oldCosts : Nat → Int64} {out : Nat → Int64}  (hi : ∀ k, k < 8 → vp_in (i + nI k) L) (h : IV partCount tooling used stock alts asm placed sp_froms_keys sp_froms_sizes sp_cents rt_days_keys rt_days_sizes rt_aboves rt_belows yl_count yl_aboves yl_belows la_rowCount la_costs la_pieces la_makers la_parts be_costs m_parts m_yields m_tools m_ran m_keptRows m_stepCount m_froms m_cents m_uses m_stocks m_alternates m_assemblies m_placings m_yieldAbove m_yieldBelow m_dayCount m_days m_rateAbove m_rateBelow m_keptCosts m_keptPieces m_keptMaker m_keptPart m_oldCosts) : wp_law_c8 L xs i a_dr a_dr_costs a_dr_pieces a_dr_makers a_dr_parts a_la a_la_costs a_la_pieces a_la_makers a_la_parts a_be a_be_costs a_be_pieces a_be_makers a_be_parts partCount tooling used stock alts asm placed sp_froms_keys sp_froms_sizes sp_cents rt_days_keys rt_days_sizes rt_aboves rt_belows rt_aboveNow rt_belowNow yl_count yl_aboves yl_belows dr_rowCount dr_costs dr_pieces dr_makers dr_parts la_rowCount la_costs la_pieces la_makers la_parts be_rowCount be_costs be_pieces be_makers be_parts m_parts m_yields m_tools m_can m_sum m_ran m_keptRows m_stepCount m_froms m_cents m_uses m_stocks m_alternates m_assemblies m_placings m_yieldAbove m_yieldBelow m_dayCount m_days m_rateAbove m_rateBelow m_costs m_pieces m_maker m_partOf m_keptCosts m_keptPieces m_keptMaker m_keptPart m_oldCosts out KV := by
  obtain ⟨pc, y, szs, rz, rfl, rfl, rfl, rfl, rfl, rfl, rfl, rfl, rfl, rfl, rfl, rfl, rfl, rfl, rfl, rfl, rfl, rfl, rfl, D, cz, Y, KP⟩ := h
  have hpc := D.1
  unfold wp_law_c8
  refine ⟨hi 1 (by decide), hi 2 (by decide), fun y1a e1a => ?_⟩
  refine sp_L_tooling (fun n => ?_) (fun n => ?_)
  · refine ⟨hi 1 (by decide), hi 2 (by decide), fun y1b e1b => ?_⟩
    have q1 : y1b = y1a := e1b.trans e1a.symm
    subst q1
    refine sp_M_tooling (fun _ => ?_) (fun a => absurd a n)
    exact tl_bool v01 rfl (fun _ => IV.mk D cz Y KP) (fun q => absurd q (by decide)) (fun q => absurd q (by decide))
  · refine ⟨hi 1 (by decide), hi 2 (by decide), fun y1b e1b => ?_⟩
    have q1 : y1b = y1a := e1b.trans e1a.symm
    subst q1
    refine sp_M_tooling (fun a => absurd n a) (fun _ => ?_)
    exact tl_bool v01 rfl (fun q => absurd rfl q) (fun _ g => jfin (b0 g) (IV.mk D cz Y KP)) (fun _ g => jfin (b1 g) (IV.mk D cz Y KP))
theorem inv_c10 {L : Nat} {xs : Nat → Int32} {i : Int32} {a_dr : Nat} {a_dr_costs : Nat} {a_dr_pieces : Nat} {a_dr_makers : Nat} {a_dr_parts : Nat} {a_la : Nat} {a_la_costs : Nat} {a_la_pieces : Nat} {a_la_makers : Nat} {a_la_parts : Nat} {a_be : Nat} {a_be_costs : Nat} {a_be_pieces : Nat} {a_be_makers : Nat} {a_be_parts : Nat} {partCount : Int32} {tooling : Int64} {used : Nat → Int64} {stock : Nat → Int64} {alts : Nat → Int32} {asm : Nat → Int64} {placed : Nat → Int64} {sp_froms_keys : Nat → Int64} {sp_froms_sizes : Nat → Int32} {sp_cents : Nat → Int64} {rt_days_keys : Nat → Int64} {rt_days_sizes : Nat → Int32} {rt_aboves : Nat → Int64} {rt_belows : Nat → Int64} {rt_aboveNow : Nat → Int64} {rt_belowNow : Nat → Int64} {yl_count : Int32} {yl_aboves : Nat → Int64} {yl_belows : Nat → Int64} {dr_rowCount : Int32} {dr_costs : Nat → Int64} {dr_pieces : Nat → Int32} {dr_makers : Nat → Int32} {dr_parts : Nat → Int32} {la_rowCount : Int32} {la_costs : Nat → Int64} {la_pieces : Nat → Int32} {la_makers : Nat → Int32} {la_parts : Nat → Int32} {be_rowCount : Int32} {be_costs : Nat → Int64} {be_pieces : Nat → Int32} {be_makers : Nat → Int32} {be_parts : Nat → Int32} {m_parts : Int32} {m_yields : Int32} {m_tools : Int64} {m_can : Int32} {m_sum : Int64} {m_ran : Int32} {m_keptRows : Int32} {m_stepCount : Nat → Int32} {m_froms : Nat → Int64} {m_cents : Nat → Int64} {m_uses : Nat → Int64} {m_stocks : Nat → Int64} {m_alternates : Nat → Int32} {m_assemblies : Nat → Int64} {m_placings : Nat → Int64} {m_yieldAbove : Nat → Int64} {m_yieldBelow : Nat → Int64} {m_dayCount : Nat → Int32} {m_days : Nat → Int64} {m_rateAbove : Nat → Int64} {m_rateBelow : Nat → Int64} {m_costs : Nat → Int64} {m_pieces : Nat → Int64} {m_maker : Nat → Int32} {m_partOf : Nat → Int32} {m_keptCosts : Nat → Int64} {m_keptPieces : Nat → Int64} {m_keptMaker : Nat → Int32} {m_keptPart : Nat → Int32} {m_oldCosts : Nat → Int64} {out : Nat → Int64}  (hi : ∀ k, k < 8 → vp_in (i + nI k) L) (h : IV partCount tooling used stock alts asm placed sp_froms_keys sp_froms_sizes sp_cents rt_days_keys rt_days_sizes rt_aboves rt_belows yl_count yl_aboves yl_belows la_rowCount la_costs la_pieces la_makers la_parts be_costs m_parts m_yields m_tools m_ran m_keptRows m_stepCount m_froms m_cents m_uses m_stocks m_alternates m_assemblies m_placings m_yieldAbove m_yieldBelow m_dayCount m_days m_rateAbove m_rateBelow m_keptCosts m_keptPieces m_keptMaker m_keptPart m_oldCosts) : wp_law_c10 L xs i a_dr a_dr_costs a_dr_pieces a_dr_makers a_dr_parts a_la a_la_costs a_la_pieces a_la_makers a_la_parts a_be a_be_costs a_be_pieces a_be_makers a_be_parts partCount tooling used stock alts asm placed sp_froms_keys sp_froms_sizes sp_cents rt_days_keys rt_days_sizes rt_aboves rt_belows rt_aboveNow rt_belowNow yl_count yl_aboves yl_belows dr_rowCount dr_costs dr_pieces dr_makers dr_parts la_rowCount la_costs la_pieces la_makers la_parts be_rowCount be_costs be_pieces be_makers be_parts m_parts m_yields m_tools m_can m_sum m_ran m_keptRows m_stepCount m_froms m_cents m_uses m_stocks m_alternates m_assemblies m_placings m_yieldAbove m_yieldBelow m_dayCount m_days m_rateAbove m_rateBelow m_costs m_pieces m_maker m_partOf m_keptCosts m_keptPieces m_keptMaker m_keptPart m_oldCosts out KV := by
  obtain ⟨pc, y, szs, rz, rfl, rfl, rfl, rfl, rfl, rfl, rfl, rfl, rfl, rfl, rfl, rfl, rfl, rfl, rfl, rfl, rfl, rfl, rfl, D, cz, Y, KP⟩ := h
  have hpc := D.1
  unfold wp_law_c10
  refine ⟨hi 1 (by decide), hi 2 (by decide), fun y1a e1a => ⟨hi 3 (by decide), hi 4 (by decide), hi 5 (by decide), fun y2a e2a => ?_⟩⟩
  obtain ⟨s, hs, hst⟩ := st_ex Y y1a
  refine sp_L_total D Y hs hst (fun n => ?_) (fun n n2 => ?_) (fun m hm em n2 no a1 b1 rc c1 pi1 mk1 pt1 => ?_) (fun m hm em n2 ok a1 b1 c1 pi1 mk1 pt1 cr => ?_)
  · refine ⟨hi 1 (by decide), hi 2 (by decide), fun y1b e1b => ⟨hi 3 (by decide), hi 4 (by decide), hi 5 (by decide), fun y2b e2b => ?_⟩⟩
    have q1 : y1b = y1a := e1b.trans e1a.symm
    subst q1
    have q2 : y2b = y2a := e2b.trans e2a.symm
    subst q2
    refine sp_M_total D Y hs hst (fun _ => ?_) (fun a _ => absurd a n) (fun m hm em _ => absurd (vofj hm (by decide) em) n) (fun m hm em _ => absurd (vofj hm (by decide) em) n)
    exact tl_num v01 rfl (fun _ => IV.mk D cz Y KP) (fun q => absurd q (by decide))
  · refine ⟨hi 1 (by decide), hi 2 (by decide), fun y1b e1b => ⟨hi 3 (by decide), hi 4 (by decide), hi 5 (by decide), fun y2b e2b => ?_⟩⟩
    have q1 : y1b = y1a := e1b.trans e1a.symm
    subst q1
    have q2 : y2b = y2a := e2b.trans e2a.symm
    subst q2
    refine sp_M_total D Y hs hst (fun a => absurd n a) (fun _ _ => ?_) (fun m hm em a => absurd a n2) (fun m hm em a => absurd a n2)
    exact tl_num v01 rfl (fun _ => IV.mk D cz Y KP) (fun q => absurd q (by decide))
  · refine ⟨hi 1 (by decide), hi 2 (by decide), fun y1b e1b => ⟨hi 3 (by decide), hi 4 (by decide), hi 5 (by decide), fun y2b e2b => ?_⟩⟩
    have q1 : y1b = y1a := e1b.trans e1a.symm
    subst q1
    have q2 : y2b = y2a := e2b.trans e2a.symm
    subst q2
    refine sp_M_total D Y hs hst (fun a => absurd (vofj hm (by decide) em) a) (fun _ a => absurd n2 a) (fun m2 hm2 em2 _ no2 sm d1 q1 m1 t1 => ?_) (fun m2 hm2 em2 _ ok => ?_)
    · exact tl_num v01 rfl (fun q => absurd rfl q) (fun _ => jfin (o_at) (IV.mk D cz Y KP))
    · have ff : m2 = m := (nI_eq (by omega) (by omega)).mp (em2.symm.trans em)
      subst ff
      exact absurd ok no
  · refine ⟨hi 1 (by decide), hi 2 (by decide), fun y1b e1b => ⟨hi 3 (by decide), hi 4 (by decide), hi 5 (by decide), fun y2b e2b => ?_⟩⟩
    have q1 : y1b = y1a := e1b.trans e1a.symm
    subst q1
    have q2 : y2b = y2a := e2b.trans e2a.symm
    subst q2
    refine sp_M_total D Y hs hst (fun a => absurd (vofj hm (by decide) em) a) (fun _ a => absurd n2 a) (fun m2 hm2 em2 _ no => ?_) (fun m2 hm2 em2 _ ok2 d1 q1 m1 t1 mr kc kp km kt oc hk => ?_)
    · have ff : m2 = m := (nI_eq (by omega) (by omega)).mp (em2.symm.trans em)
      subst ff
      exact absurd ok no
    · have ff : m2 = m := (nI_eq (by omega) (by omega)).mp (em2.symm.trans em)
      subst ff
      exact tl_num v01 rfl (fun q => absurd rfl q) (fun _ => jfin (o_at.trans (sums_same hpc cr mr)) (IV.mk D cz Y (KEPT.total hpc KP cr mr hk)))
theorem inv_c11 {L : Nat} {xs : Nat → Int32} {i : Int32} {a_dr : Nat} {a_dr_costs : Nat} {a_dr_pieces : Nat} {a_dr_makers : Nat} {a_dr_parts : Nat} {a_la : Nat} {a_la_costs : Nat} {a_la_pieces : Nat} {a_la_makers : Nat} {a_la_parts : Nat} {a_be : Nat} {a_be_costs : Nat} {a_be_pieces : Nat} {a_be_makers : Nat} {a_be_parts : Nat} {partCount : Int32} {tooling : Int64} {used : Nat → Int64} {stock : Nat → Int64} {alts : Nat → Int32} {asm : Nat → Int64} {placed : Nat → Int64} {sp_froms_keys : Nat → Int64} {sp_froms_sizes : Nat → Int32} {sp_cents : Nat → Int64} {rt_days_keys : Nat → Int64} {rt_days_sizes : Nat → Int32} {rt_aboves : Nat → Int64} {rt_belows : Nat → Int64} {rt_aboveNow : Nat → Int64} {rt_belowNow : Nat → Int64} {yl_count : Int32} {yl_aboves : Nat → Int64} {yl_belows : Nat → Int64} {dr_rowCount : Int32} {dr_costs : Nat → Int64} {dr_pieces : Nat → Int32} {dr_makers : Nat → Int32} {dr_parts : Nat → Int32} {la_rowCount : Int32} {la_costs : Nat → Int64} {la_pieces : Nat → Int32} {la_makers : Nat → Int32} {la_parts : Nat → Int32} {be_rowCount : Int32} {be_costs : Nat → Int64} {be_pieces : Nat → Int32} {be_makers : Nat → Int32} {be_parts : Nat → Int32} {m_parts : Int32} {m_yields : Int32} {m_tools : Int64} {m_can : Int32} {m_sum : Int64} {m_ran : Int32} {m_keptRows : Int32} {m_stepCount : Nat → Int32} {m_froms : Nat → Int64} {m_cents : Nat → Int64} {m_uses : Nat → Int64} {m_stocks : Nat → Int64} {m_alternates : Nat → Int32} {m_assemblies : Nat → Int64} {m_placings : Nat → Int64} {m_yieldAbove : Nat → Int64} {m_yieldBelow : Nat → Int64} {m_dayCount : Nat → Int32} {m_days : Nat → Int64} {m_rateAbove : Nat → Int64} {m_rateBelow : Nat → Int64} {m_costs : Nat → Int64} {m_pieces : Nat → Int64} {m_maker : Nat → Int32} {m_partOf : Nat → Int32} {m_keptCosts : Nat → Int64} {m_keptPieces : Nat → Int64} {m_keptMaker : Nat → Int32} {m_keptPart : Nat → Int32} {m_oldCosts : Nat → Int64} {out : Nat → Int64}  (hi : ∀ k, k < 8 → vp_in (i + nI k) L) (h : IV partCount tooling used stock alts asm placed sp_froms_keys sp_froms_sizes sp_cents rt_days_keys rt_days_sizes rt_aboves rt_belows yl_count yl_aboves yl_belows la_rowCount la_costs la_pieces la_makers la_parts be_costs m_parts m_yields m_tools m_ran m_keptRows m_stepCount m_froms m_cents m_uses m_stocks m_alternates m_assemblies m_placings m_yieldAbove m_yieldBelow m_dayCount m_days m_rateAbove m_rateBelow m_keptCosts m_keptPieces m_keptMaker m_keptPart m_oldCosts) : wp_law_c11 L xs i a_dr a_dr_costs a_dr_pieces a_dr_makers a_dr_parts a_la a_la_costs a_la_pieces a_la_makers a_la_parts a_be a_be_costs a_be_pieces a_be_makers a_be_parts partCount tooling used stock alts asm placed sp_froms_keys sp_froms_sizes sp_cents rt_days_keys rt_days_sizes rt_aboves rt_belows rt_aboveNow rt_belowNow yl_count yl_aboves yl_belows dr_rowCount dr_costs dr_pieces dr_makers dr_parts la_rowCount la_costs la_pieces la_makers la_parts be_rowCount be_costs be_pieces be_makers be_parts m_parts m_yields m_tools m_can m_sum m_ran m_keptRows m_stepCount m_froms m_cents m_uses m_stocks m_alternates m_assemblies m_placings m_yieldAbove m_yieldBelow m_dayCount m_days m_rateAbove m_rateBelow m_costs m_pieces m_maker m_partOf m_keptCosts m_keptPieces m_keptMaker m_keptPart m_oldCosts out KV := by
  obtain ⟨pc, y, szs, rz, rfl, rfl, rfl, rfl, rfl, rfl, rfl, rfl, rfl, rfl, rfl, rfl, rfl, rfl, rfl, rfl, rfl, rfl, rfl, D, cz, Y, KP⟩ := h
  have hpc := D.1
  unfold wp_law_c11
  refine ⟨hi 1 (by decide), hi 2 (by decide), fun y1a e1a => ⟨hi 3 (by decide), hi 4 (by decide), fun y2a e2a => ?_⟩⟩
  obtain ⟨s, hs, hst⟩ := st_ex Y y1a
  obtain ⟨okb, hok⟩ := okb_ex (fun m => OKA s pc m szs rz y2a used stock sp_froms_keys sp_cents rt_days_keys rt_aboves rt_belows alts)
  refine sp_L_best D Y hs hst hok (fun m => rfl) (fun m => rfl) (fun n => ?_) (fun n hex a1 b1 rc c1 pi1 mk1 pt1 => ?_)
  · refine ⟨hi 1 (by decide), hi 2 (by decide), fun y1b e1b => ⟨hi 3 (by decide), hi 4 (by decide), fun y2b e2b => ?_⟩⟩
    have q1 : y1b = y1a := e1b.trans e1a.symm
    subst q1
    have q2 : y2b = y2a := e2b.trans e2a.symm
    subst q2
    refine sp_M_best D Y hs hst hok (fun m => rfl) (fun m => rfl) (fun a => absurd a n) (fun _ => ?_) (fun a => absurd a n)
    exact tl_num v01 rfl (fun _ => IV.mk D cz Y KP) (fun q => absurd q (by decide))
  · refine ⟨hi 1 (by decide), hi 2 (by decide), fun y1b e1b => ⟨hi 3 (by decide), hi 4 (by decide), fun y2b e2b => ?_⟩⟩
    have q1 : y1b = y1a := e1b.trans e1a.symm
    subst q1
    have q2 : y2b = y2a := e2b.trans e2a.symm
    subst q2
    refine sp_M_best D Y hs hst hok (fun m => rfl) (fun m => rfl) (fun _ => hex) (fun a => absurd n a) (fun _ can sm d1 q1 m1 t1 => ?_)
    exact tl_num v01 rfl (fun q => absurd rfl q) (fun _ => jfin (o_at) (IV.mk D cz Y KP))
theorem inv_c12 {L : Nat} {xs : Nat → Int32} {i : Int32} {a_dr : Nat} {a_dr_costs : Nat} {a_dr_pieces : Nat} {a_dr_makers : Nat} {a_dr_parts : Nat} {a_la : Nat} {a_la_costs : Nat} {a_la_pieces : Nat} {a_la_makers : Nat} {a_la_parts : Nat} {a_be : Nat} {a_be_costs : Nat} {a_be_pieces : Nat} {a_be_makers : Nat} {a_be_parts : Nat} {partCount : Int32} {tooling : Int64} {used : Nat → Int64} {stock : Nat → Int64} {alts : Nat → Int32} {asm : Nat → Int64} {placed : Nat → Int64} {sp_froms_keys : Nat → Int64} {sp_froms_sizes : Nat → Int32} {sp_cents : Nat → Int64} {rt_days_keys : Nat → Int64} {rt_days_sizes : Nat → Int32} {rt_aboves : Nat → Int64} {rt_belows : Nat → Int64} {rt_aboveNow : Nat → Int64} {rt_belowNow : Nat → Int64} {yl_count : Int32} {yl_aboves : Nat → Int64} {yl_belows : Nat → Int64} {dr_rowCount : Int32} {dr_costs : Nat → Int64} {dr_pieces : Nat → Int32} {dr_makers : Nat → Int32} {dr_parts : Nat → Int32} {la_rowCount : Int32} {la_costs : Nat → Int64} {la_pieces : Nat → Int32} {la_makers : Nat → Int32} {la_parts : Nat → Int32} {be_rowCount : Int32} {be_costs : Nat → Int64} {be_pieces : Nat → Int32} {be_makers : Nat → Int32} {be_parts : Nat → Int32} {m_parts : Int32} {m_yields : Int32} {m_tools : Int64} {m_can : Int32} {m_sum : Int64} {m_ran : Int32} {m_keptRows : Int32} {m_stepCount : Nat → Int32} {m_froms : Nat → Int64} {m_cents : Nat → Int64} {m_uses : Nat → Int64} {m_stocks : Nat → Int64} {m_alternates : Nat → Int32} {m_assemblies : Nat → Int64} {m_placings : Nat → Int64} {m_yieldAbove : Nat → Int64} {m_yieldBelow : Nat → Int64} {m_dayCount : Nat → Int32} {m_days : Nat → Int64} {m_rateAbove : Nat → Int64} {m_rateBelow : Nat → Int64} {m_costs : Nat → Int64} {m_pieces : Nat → Int64} {m_maker : Nat → Int32} {m_partOf : Nat → Int32} {m_keptCosts : Nat → Int64} {m_keptPieces : Nat → Int64} {m_keptMaker : Nat → Int32} {m_keptPart : Nat → Int32} {m_oldCosts : Nat → Int64} {out : Nat → Int64}  (hi : ∀ k, k < 8 → vp_in (i + nI k) L) (h : IV partCount tooling used stock alts asm placed sp_froms_keys sp_froms_sizes sp_cents rt_days_keys rt_days_sizes rt_aboves rt_belows yl_count yl_aboves yl_belows la_rowCount la_costs la_pieces la_makers la_parts be_costs m_parts m_yields m_tools m_ran m_keptRows m_stepCount m_froms m_cents m_uses m_stocks m_alternates m_assemblies m_placings m_yieldAbove m_yieldBelow m_dayCount m_days m_rateAbove m_rateBelow m_keptCosts m_keptPieces m_keptMaker m_keptPart m_oldCosts) : wp_law_c12 L xs i a_dr a_dr_costs a_dr_pieces a_dr_makers a_dr_parts a_la a_la_costs a_la_pieces a_la_makers a_la_parts a_be a_be_costs a_be_pieces a_be_makers a_be_parts partCount tooling used stock alts asm placed sp_froms_keys sp_froms_sizes sp_cents rt_days_keys rt_days_sizes rt_aboves rt_belows rt_aboveNow rt_belowNow yl_count yl_aboves yl_belows dr_rowCount dr_costs dr_pieces dr_makers dr_parts la_rowCount la_costs la_pieces la_makers la_parts be_rowCount be_costs be_pieces be_makers be_parts m_parts m_yields m_tools m_can m_sum m_ran m_keptRows m_stepCount m_froms m_cents m_uses m_stocks m_alternates m_assemblies m_placings m_yieldAbove m_yieldBelow m_dayCount m_days m_rateAbove m_rateBelow m_costs m_pieces m_maker m_partOf m_keptCosts m_keptPieces m_keptMaker m_keptPart m_oldCosts out KV := by
  obtain ⟨pc, y, szs, rz, rfl, rfl, rfl, rfl, rfl, rfl, rfl, rfl, rfl, rfl, rfl, rfl, rfl, rfl, rfl, rfl, rfl, rfl, rfl, D, cz, Y, KP⟩ := h
  have hpc := D.1
  unfold wp_law_c12
  refine ⟨hi 1 (by decide), hi 2 (by decide), fun y1a e1a => ⟨hi 3 (by decide), hi 4 (by decide), hi 5 (by decide), fun y2a e2a => ⟨hi 6 (by decide), ?_⟩⟩⟩
  obtain ⟨s, hs, hst⟩ := st_ex Y y1a
  refine sp_L_each D Y hs hst (fun n => ?_) (fun n n2 => ?_) (fun m hm em n n2 no a1 b1 rc c1 pi1 mk1 pt1 => ?_) (fun m hm em n n2 ok a1 b1 rc c1 pi1 mk1 pt1 cr => ?_)
  · refine ⟨hi 1 (by decide), hi 2 (by decide), fun y1b e1b => ⟨hi 3 (by decide), hi 4 (by decide), hi 5 (by decide), fun y2b e2b => ⟨hi 6 (by decide), ?_⟩⟩⟩
    have q1 : y1b = y1a := e1b.trans e1a.symm
    subst q1
    have q2 : y2b = y2a := e2b.trans e2a.symm
    subst q2
    refine sp_M_each D Y hs hst (fun _ => ?_) (fun a _ => absurd a n) (fun m hm em a => absurd a n) (fun m hm em a => absurd a n)
    exact tl_num v01 rfl (fun _ => IV.mk D cz Y KP) (fun q => absurd q (by decide))
  · refine ⟨hi 1 (by decide), hi 2 (by decide), fun y1b e1b => ⟨hi 3 (by decide), hi 4 (by decide), hi 5 (by decide), fun y2b e2b => ⟨hi 6 (by decide), ?_⟩⟩⟩
    have q1 : y1b = y1a := e1b.trans e1a.symm
    subst q1
    have q2 : y2b = y2a := e2b.trans e2a.symm
    subst q2
    refine sp_M_each D Y hs hst (fun a => absurd n a) (fun _ _ => ?_) (fun m hm em _ a => absurd a n2) (fun m hm em _ a => absurd a n2)
    exact tl_num v01 rfl (fun _ => IV.mk D cz Y KP) (fun q => absurd q (by decide))
  · refine ⟨hi 1 (by decide), hi 2 (by decide), fun y1b e1b => ⟨hi 3 (by decide), hi 4 (by decide), hi 5 (by decide), fun y2b e2b => ⟨hi 6 (by decide), ?_⟩⟩⟩
    have q1 : y1b = y1a := e1b.trans e1a.symm
    subst q1
    have q2 : y2b = y2a := e2b.trans e2a.symm
    subst q2
    refine sp_M_each D Y hs hst (fun a => absurd n a) (fun _ a => absurd n2 a) (fun m2 hm2 em2 _ _ no2 sm d1 q1 m1 t1 => ?_) (fun m2 hm2 em2 _ _ ok => ?_)
    · exact tl_num v01 rfl (fun q => absurd rfl q) (fun _ => jfin (o_at) (IV.mk D cz Y KP))
    · have ff : m2 = m := (nI_eq (by omega) (by omega)).mp (em2.symm.trans em)
      subst ff
      exact absurd ok no
  · refine ⟨hi 1 (by decide), hi 2 (by decide), fun y1b e1b => ⟨hi 3 (by decide), hi 4 (by decide), hi 5 (by decide), fun y2b e2b => ⟨hi 6 (by decide), ?_⟩⟩⟩
    have q1 : y1b = y1a := e1b.trans e1a.symm
    subst q1
    have q2 : y2b = y2a := e2b.trans e2a.symm
    subst q2
    refine sp_M_each D Y hs hst (fun a => absurd n a) (fun _ a => absurd n2 a) (fun m2 hm2 em2 _ _ no => ?_) (fun m2 hm2 em2 _ _ ok2 d1 q1 m1 t1 mr => ?_)
    · have ff : m2 = m := (nI_eq (by omega) (by omega)).mp (em2.symm.trans em)
      subst ff
      exact absurd ok no
    · have ff : m2 = m := (nI_eq (by omega) (by omega)).mp (em2.symm.trans em)
      subst ff
      exact tl_num v01 rfl (fun q => absurd rfl q) (fun _ => jfin (o_at.trans (congrArg _ (sums_same hpc cr mr))) (IV.mk D cz Y KP))
theorem inv_c13 {L : Nat} {xs : Nat → Int32} {i : Int32} {a_dr : Nat} {a_dr_costs : Nat} {a_dr_pieces : Nat} {a_dr_makers : Nat} {a_dr_parts : Nat} {a_la : Nat} {a_la_costs : Nat} {a_la_pieces : Nat} {a_la_makers : Nat} {a_la_parts : Nat} {a_be : Nat} {a_be_costs : Nat} {a_be_pieces : Nat} {a_be_makers : Nat} {a_be_parts : Nat} {partCount : Int32} {tooling : Int64} {used : Nat → Int64} {stock : Nat → Int64} {alts : Nat → Int32} {asm : Nat → Int64} {placed : Nat → Int64} {sp_froms_keys : Nat → Int64} {sp_froms_sizes : Nat → Int32} {sp_cents : Nat → Int64} {rt_days_keys : Nat → Int64} {rt_days_sizes : Nat → Int32} {rt_aboves : Nat → Int64} {rt_belows : Nat → Int64} {rt_aboveNow : Nat → Int64} {rt_belowNow : Nat → Int64} {yl_count : Int32} {yl_aboves : Nat → Int64} {yl_belows : Nat → Int64} {dr_rowCount : Int32} {dr_costs : Nat → Int64} {dr_pieces : Nat → Int32} {dr_makers : Nat → Int32} {dr_parts : Nat → Int32} {la_rowCount : Int32} {la_costs : Nat → Int64} {la_pieces : Nat → Int32} {la_makers : Nat → Int32} {la_parts : Nat → Int32} {be_rowCount : Int32} {be_costs : Nat → Int64} {be_pieces : Nat → Int32} {be_makers : Nat → Int32} {be_parts : Nat → Int32} {m_parts : Int32} {m_yields : Int32} {m_tools : Int64} {m_can : Int32} {m_sum : Int64} {m_ran : Int32} {m_keptRows : Int32} {m_stepCount : Nat → Int32} {m_froms : Nat → Int64} {m_cents : Nat → Int64} {m_uses : Nat → Int64} {m_stocks : Nat → Int64} {m_alternates : Nat → Int32} {m_assemblies : Nat → Int64} {m_placings : Nat → Int64} {m_yieldAbove : Nat → Int64} {m_yieldBelow : Nat → Int64} {m_dayCount : Nat → Int32} {m_days : Nat → Int64} {m_rateAbove : Nat → Int64} {m_rateBelow : Nat → Int64} {m_costs : Nat → Int64} {m_pieces : Nat → Int64} {m_maker : Nat → Int32} {m_partOf : Nat → Int32} {m_keptCosts : Nat → Int64} {m_keptPieces : Nat → Int64} {m_keptMaker : Nat → Int32} {m_keptPart : Nat → Int32} {m_oldCosts : Nat → Int64} {out : Nat → Int64}  (hi : ∀ k, k < 8 → vp_in (i + nI k) L) (h : IV partCount tooling used stock alts asm placed sp_froms_keys sp_froms_sizes sp_cents rt_days_keys rt_days_sizes rt_aboves rt_belows yl_count yl_aboves yl_belows la_rowCount la_costs la_pieces la_makers la_parts be_costs m_parts m_yields m_tools m_ran m_keptRows m_stepCount m_froms m_cents m_uses m_stocks m_alternates m_assemblies m_placings m_yieldAbove m_yieldBelow m_dayCount m_days m_rateAbove m_rateBelow m_keptCosts m_keptPieces m_keptMaker m_keptPart m_oldCosts) : wp_law_c13 L xs i a_dr a_dr_costs a_dr_pieces a_dr_makers a_dr_parts a_la a_la_costs a_la_pieces a_la_makers a_la_parts a_be a_be_costs a_be_pieces a_be_makers a_be_parts partCount tooling used stock alts asm placed sp_froms_keys sp_froms_sizes sp_cents rt_days_keys rt_days_sizes rt_aboves rt_belows rt_aboveNow rt_belowNow yl_count yl_aboves yl_belows dr_rowCount dr_costs dr_pieces dr_makers dr_parts la_rowCount la_costs la_pieces la_makers la_parts be_rowCount be_costs be_pieces be_makers be_parts m_parts m_yields m_tools m_can m_sum m_ran m_keptRows m_stepCount m_froms m_cents m_uses m_stocks m_alternates m_assemblies m_placings m_yieldAbove m_yieldBelow m_dayCount m_days m_rateAbove m_rateBelow m_costs m_pieces m_maker m_partOf m_keptCosts m_keptPieces m_keptMaker m_keptPart m_oldCosts out KV := by
  obtain ⟨pc, y, szs, rz, rfl, rfl, rfl, rfl, rfl, rfl, rfl, rfl, rfl, rfl, rfl, rfl, rfl, rfl, rfl, rfl, rfl, rfl, rfl, D, cz, Y, KP⟩ := h
  have hpc := D.1
  unfold wp_law_c13
  refine ⟨hi 1 (by decide), hi 2 (by decide), fun y1a e1a => ⟨hi 3 (by decide), ?_⟩⟩
  obtain ⟨s, hs, hst⟩ := st_ex Y y1a
  refine sp_L_suppliers D Y hs hst (fun n => ?_) (fun n n2 => ?_) (fun m hm em n2 no a1 b1 rc c1 pi1 mk1 pt1 => ?_) (fun m hm em n2 ok a1 b1 rc c1 pi1 mk1 pt1 cr => ?_)
  · refine ⟨hi 1 (by decide), hi 2 (by decide), fun y1b e1b => ⟨hi 3 (by decide), ?_⟩⟩
    have q1 : y1b = y1a := e1b.trans e1a.symm
    subst q1
    refine sp_M_suppliers D Y hs hst (fun _ => ?_) (fun a _ => absurd a n) (fun m hm em _ => absurd (vofj hm (by decide) em) n) (fun m hm em _ => absurd (vofj hm (by decide) em) n)
    exact tl_num v01 rfl (fun _ => IV.mk D cz Y KP) (fun q => absurd q (by decide))
  · refine ⟨hi 1 (by decide), hi 2 (by decide), fun y1b e1b => ⟨hi 3 (by decide), ?_⟩⟩
    have q1 : y1b = y1a := e1b.trans e1a.symm
    subst q1
    refine sp_M_suppliers D Y hs hst (fun a => absurd n a) (fun _ _ => ?_) (fun m hm em a => absurd a n2) (fun m hm em a => absurd a n2)
    exact tl_num v01 rfl (fun _ => IV.mk D cz Y KP) (fun q => absurd q (by decide))
  · refine ⟨hi 1 (by decide), hi 2 (by decide), fun y1b e1b => ⟨hi 3 (by decide), ?_⟩⟩
    have q1 : y1b = y1a := e1b.trans e1a.symm
    subst q1
    refine sp_M_suppliers D Y hs hst (fun a => absurd (vofj hm (by decide) em) a) (fun _ a => absurd n2 a) (fun m2 hm2 em2 _ no2 sm d1 q1 m1 t1 => ?_) (fun m2 hm2 em2 _ ok => ?_)
    · exact tl_num v01 rfl (fun q => absurd rfl q) (fun _ => jfin (o_at) (IV.mk D cz Y KP))
    · have ff : m2 = m := (nI_eq (by omega) (by omega)).mp (em2.symm.trans em)
      subst ff
      exact absurd ok no
  · refine ⟨hi 1 (by decide), hi 2 (by decide), fun y1b e1b => ⟨hi 3 (by decide), ?_⟩⟩
    have q1 : y1b = y1a := e1b.trans e1a.symm
    subst q1
    refine sp_M_suppliers D Y hs hst (fun a => absurd (vofj hm (by decide) em) a) (fun _ a => absurd n2 a) (fun m2 hm2 em2 _ no => ?_) (fun m2 hm2 em2 _ ok2 => ?_)
    · have ff : m2 = m := (nI_eq (by omega) (by omega)).mp (em2.symm.trans em)
      subst ff
      exact absurd ok no
    · have ff : m2 = m := (nI_eq (by omega) (by omega)).mp (em2.symm.trans em)
      subst ff
      refine ⟨_, _, _, _, cr, fun sm d1 q1 m1 t1 mr => ?_⟩
      exact tl_num v01 rfl (fun q => absurd rfl q) (fun _ => jfin (o_at.trans (congrArg (fun z => (bcF z).toInt64) (makers_same hpc cr mr))) (IV.mk D cz Y KP))
theorem inv_c14 {L : Nat} {xs : Nat → Int32} {i : Int32} {a_dr : Nat} {a_dr_costs : Nat} {a_dr_pieces : Nat} {a_dr_makers : Nat} {a_dr_parts : Nat} {a_la : Nat} {a_la_costs : Nat} {a_la_pieces : Nat} {a_la_makers : Nat} {a_la_parts : Nat} {a_be : Nat} {a_be_costs : Nat} {a_be_pieces : Nat} {a_be_makers : Nat} {a_be_parts : Nat} {partCount : Int32} {tooling : Int64} {used : Nat → Int64} {stock : Nat → Int64} {alts : Nat → Int32} {asm : Nat → Int64} {placed : Nat → Int64} {sp_froms_keys : Nat → Int64} {sp_froms_sizes : Nat → Int32} {sp_cents : Nat → Int64} {rt_days_keys : Nat → Int64} {rt_days_sizes : Nat → Int32} {rt_aboves : Nat → Int64} {rt_belows : Nat → Int64} {rt_aboveNow : Nat → Int64} {rt_belowNow : Nat → Int64} {yl_count : Int32} {yl_aboves : Nat → Int64} {yl_belows : Nat → Int64} {dr_rowCount : Int32} {dr_costs : Nat → Int64} {dr_pieces : Nat → Int32} {dr_makers : Nat → Int32} {dr_parts : Nat → Int32} {la_rowCount : Int32} {la_costs : Nat → Int64} {la_pieces : Nat → Int32} {la_makers : Nat → Int32} {la_parts : Nat → Int32} {be_rowCount : Int32} {be_costs : Nat → Int64} {be_pieces : Nat → Int32} {be_makers : Nat → Int32} {be_parts : Nat → Int32} {m_parts : Int32} {m_yields : Int32} {m_tools : Int64} {m_can : Int32} {m_sum : Int64} {m_ran : Int32} {m_keptRows : Int32} {m_stepCount : Nat → Int32} {m_froms : Nat → Int64} {m_cents : Nat → Int64} {m_uses : Nat → Int64} {m_stocks : Nat → Int64} {m_alternates : Nat → Int32} {m_assemblies : Nat → Int64} {m_placings : Nat → Int64} {m_yieldAbove : Nat → Int64} {m_yieldBelow : Nat → Int64} {m_dayCount : Nat → Int32} {m_days : Nat → Int64} {m_rateAbove : Nat → Int64} {m_rateBelow : Nat → Int64} {m_costs : Nat → Int64} {m_pieces : Nat → Int64} {m_maker : Nat → Int32} {m_partOf : Nat → Int32} {m_keptCosts : Nat → Int64} {m_keptPieces : Nat → Int64} {m_keptMaker : Nat → Int32} {m_keptPart : Nat → Int32} {m_oldCosts : Nat → Int64} {out : Nat → Int64}  (hi : ∀ k, k < 8 → vp_in (i + nI k) L) (h : IV partCount tooling used stock alts asm placed sp_froms_keys sp_froms_sizes sp_cents rt_days_keys rt_days_sizes rt_aboves rt_belows yl_count yl_aboves yl_belows la_rowCount la_costs la_pieces la_makers la_parts be_costs m_parts m_yields m_tools m_ran m_keptRows m_stepCount m_froms m_cents m_uses m_stocks m_alternates m_assemblies m_placings m_yieldAbove m_yieldBelow m_dayCount m_days m_rateAbove m_rateBelow m_keptCosts m_keptPieces m_keptMaker m_keptPart m_oldCosts) : wp_law_c14 L xs i a_dr a_dr_costs a_dr_pieces a_dr_makers a_dr_parts a_la a_la_costs a_la_pieces a_la_makers a_la_parts a_be a_be_costs a_be_pieces a_be_makers a_be_parts partCount tooling used stock alts asm placed sp_froms_keys sp_froms_sizes sp_cents rt_days_keys rt_days_sizes rt_aboves rt_belows rt_aboveNow rt_belowNow yl_count yl_aboves yl_belows dr_rowCount dr_costs dr_pieces dr_makers dr_parts la_rowCount la_costs la_pieces la_makers la_parts be_rowCount be_costs be_pieces be_makers be_parts m_parts m_yields m_tools m_can m_sum m_ran m_keptRows m_stepCount m_froms m_cents m_uses m_stocks m_alternates m_assemblies m_placings m_yieldAbove m_yieldBelow m_dayCount m_days m_rateAbove m_rateBelow m_costs m_pieces m_maker m_partOf m_keptCosts m_keptPieces m_keptMaker m_keptPart m_oldCosts out KV := by
  obtain ⟨pc, y, szs, rz, rfl, rfl, rfl, rfl, rfl, rfl, rfl, rfl, rfl, rfl, rfl, rfl, rfl, rfl, rfl, rfl, rfl, rfl, rfl, D, cz, Y, KP⟩ := h
  have hpc := D.1
  unfold wp_law_c14
  refine ⟨hi 1 (by decide), hi 2 (by decide), ?_⟩
  refine sp_L_alternate hpc (fun n => ?_) (fun p o hp ho ep eo g => ?_) (fun p o hp ho ep eo g => ?_)
  · refine ⟨hi 1 (by decide), hi 2 (by decide), ?_⟩
    refine sp_M_alternate hpc (fun _ => ?_) (fun p o hp ho ep eo _ => absurd ⟨vofj hp (by omega) ep, vofj ho (by omega) eo⟩ n) (fun p o hp ho ep eo _ => absurd ⟨vofj hp (by omega) ep, vofj ho (by omega) eo⟩ n)
    exact tl_bool v01 rfl (fun _ => IV.mk D cz Y KP) (fun q => absurd q (by decide)) (fun q => absurd q (by decide))
  · refine ⟨hi 1 (by decide), hi 2 (by decide), ?_⟩
    refine sp_M_alternate hpc (fun a => absurd ⟨vofj hp (by omega) ep, vofj ho (by omega) eo⟩ a) (fun p2 o2 hp2 ho2 ep2 eo2 g2 => ?_) (fun p2 o2 hp2 ho2 ep2 eo2 g2 => ?_)
    · exact tl_bool v01 rfl (fun q => absurd rfl q) (fun _ _ => jfin o_at (IV.mk D cz Y KP)) (fun _ z => absurd rfl z)
    · have ee : p2 = p := (nI_eq (by omega) (by omega)).mp (ep2.symm.trans ep)
      have ff : o2 = o := (nI_eq (by omega) (by omega)).mp (eo2.symm.trans eo)
      subst ee; subst ff
      exact absurd g g2
  · refine ⟨hi 1 (by decide), hi 2 (by decide), ?_⟩
    refine sp_M_alternate hpc (fun a => absurd ⟨vofj hp (by omega) ep, vofj ho (by omega) eo⟩ a) (fun p2 o2 hp2 ho2 ep2 eo2 g2 => ?_) (fun p2 o2 hp2 ho2 ep2 eo2 g2 => ?_)
    · have ee : p2 = p := (nI_eq (by omega) (by omega)).mp (ep2.symm.trans ep)
      have ff : o2 = o := (nI_eq (by omega) (by omega)).mp (eo2.symm.trans eo)
      subst ee; subst ff
      exact absurd g2 g
    · have ee : p2 = p := (nI_eq (by omega) (by omega)).mp (ep2.symm.trans ep)
      have ff : o2 = o := (nI_eq (by omega) (by omega)).mp (eo2.symm.trans eo)
      subst ee; subst ff
      exact tl_bool v01 rfl (fun q => absurd rfl q) (fun _ z => absurd z (by decide)) (fun _ _ => jfin o_at (IV.mk D cz Y KP))
theorem inv_c15 {L : Nat} {xs : Nat → Int32} {i : Int32} {a_dr : Nat} {a_dr_costs : Nat} {a_dr_pieces : Nat} {a_dr_makers : Nat} {a_dr_parts : Nat} {a_la : Nat} {a_la_costs : Nat} {a_la_pieces : Nat} {a_la_makers : Nat} {a_la_parts : Nat} {a_be : Nat} {a_be_costs : Nat} {a_be_pieces : Nat} {a_be_makers : Nat} {a_be_parts : Nat} {partCount : Int32} {tooling : Int64} {used : Nat → Int64} {stock : Nat → Int64} {alts : Nat → Int32} {asm : Nat → Int64} {placed : Nat → Int64} {sp_froms_keys : Nat → Int64} {sp_froms_sizes : Nat → Int32} {sp_cents : Nat → Int64} {rt_days_keys : Nat → Int64} {rt_days_sizes : Nat → Int32} {rt_aboves : Nat → Int64} {rt_belows : Nat → Int64} {rt_aboveNow : Nat → Int64} {rt_belowNow : Nat → Int64} {yl_count : Int32} {yl_aboves : Nat → Int64} {yl_belows : Nat → Int64} {dr_rowCount : Int32} {dr_costs : Nat → Int64} {dr_pieces : Nat → Int32} {dr_makers : Nat → Int32} {dr_parts : Nat → Int32} {la_rowCount : Int32} {la_costs : Nat → Int64} {la_pieces : Nat → Int32} {la_makers : Nat → Int32} {la_parts : Nat → Int32} {be_rowCount : Int32} {be_costs : Nat → Int64} {be_pieces : Nat → Int32} {be_makers : Nat → Int32} {be_parts : Nat → Int32} {m_parts : Int32} {m_yields : Int32} {m_tools : Int64} {m_can : Int32} {m_sum : Int64} {m_ran : Int32} {m_keptRows : Int32} {m_stepCount : Nat → Int32} {m_froms : Nat → Int64} {m_cents : Nat → Int64} {m_uses : Nat → Int64} {m_stocks : Nat → Int64} {m_alternates : Nat → Int32} {m_assemblies : Nat → Int64} {m_placings : Nat → Int64} {m_yieldAbove : Nat → Int64} {m_yieldBelow : Nat → Int64} {m_dayCount : Nat → Int32} {m_days : Nat → Int64} {m_rateAbove : Nat → Int64} {m_rateBelow : Nat → Int64} {m_costs : Nat → Int64} {m_pieces : Nat → Int64} {m_maker : Nat → Int32} {m_partOf : Nat → Int32} {m_keptCosts : Nat → Int64} {m_keptPieces : Nat → Int64} {m_keptMaker : Nat → Int32} {m_keptPart : Nat → Int32} {m_oldCosts : Nat → Int64} {out : Nat → Int64}  (hi : ∀ k, k < 8 → vp_in (i + nI k) L) (h : IV partCount tooling used stock alts asm placed sp_froms_keys sp_froms_sizes sp_cents rt_days_keys rt_days_sizes rt_aboves rt_belows yl_count yl_aboves yl_belows la_rowCount la_costs la_pieces la_makers la_parts be_costs m_parts m_yields m_tools m_ran m_keptRows m_stepCount m_froms m_cents m_uses m_stocks m_alternates m_assemblies m_placings m_yieldAbove m_yieldBelow m_dayCount m_days m_rateAbove m_rateBelow m_keptCosts m_keptPieces m_keptMaker m_keptPart m_oldCosts) : wp_law_c15 L xs i a_dr a_dr_costs a_dr_pieces a_dr_makers a_dr_parts a_la a_la_costs a_la_pieces a_la_makers a_la_parts a_be a_be_costs a_be_pieces a_be_makers a_be_parts partCount tooling used stock alts asm placed sp_froms_keys sp_froms_sizes sp_cents rt_days_keys rt_days_sizes rt_aboves rt_belows rt_aboveNow rt_belowNow yl_count yl_aboves yl_belows dr_rowCount dr_costs dr_pieces dr_makers dr_parts la_rowCount la_costs la_pieces la_makers la_parts be_rowCount be_costs be_pieces be_makers be_parts m_parts m_yields m_tools m_can m_sum m_ran m_keptRows m_stepCount m_froms m_cents m_uses m_stocks m_alternates m_assemblies m_placings m_yieldAbove m_yieldBelow m_dayCount m_days m_rateAbove m_rateBelow m_costs m_pieces m_maker m_partOf m_keptCosts m_keptPieces m_keptMaker m_keptPart m_oldCosts out KV := by
  obtain ⟨pc, y, szs, rz, rfl, rfl, rfl, rfl, rfl, rfl, rfl, rfl, rfl, rfl, rfl, rfl, rfl, rfl, rfl, rfl, rfl, rfl, rfl, D, cz, Y, KP⟩ := h
  have hpc := D.1
  unfold wp_law_c15
  obtain ⟨rc, e, h2, h3⟩ := id KP
  subst e
  refine ⟨hi 1 (by decide), sp_C_changed (by omega) ⟨hi 1 (by decide), sp_M_changed ⟨fun _ => IV.mk D cz Y KP, fun q => q (KEPT.ch hpc KP h2)⟩⟩⟩
theorem inv_c16 {L : Nat} {xs : Nat → Int32} {i : Int32} {a_dr : Nat} {a_dr_costs : Nat} {a_dr_pieces : Nat} {a_dr_makers : Nat} {a_dr_parts : Nat} {a_la : Nat} {a_la_costs : Nat} {a_la_pieces : Nat} {a_la_makers : Nat} {a_la_parts : Nat} {a_be : Nat} {a_be_costs : Nat} {a_be_pieces : Nat} {a_be_makers : Nat} {a_be_parts : Nat} {partCount : Int32} {tooling : Int64} {used : Nat → Int64} {stock : Nat → Int64} {alts : Nat → Int32} {asm : Nat → Int64} {placed : Nat → Int64} {sp_froms_keys : Nat → Int64} {sp_froms_sizes : Nat → Int32} {sp_cents : Nat → Int64} {rt_days_keys : Nat → Int64} {rt_days_sizes : Nat → Int32} {rt_aboves : Nat → Int64} {rt_belows : Nat → Int64} {rt_aboveNow : Nat → Int64} {rt_belowNow : Nat → Int64} {yl_count : Int32} {yl_aboves : Nat → Int64} {yl_belows : Nat → Int64} {dr_rowCount : Int32} {dr_costs : Nat → Int64} {dr_pieces : Nat → Int32} {dr_makers : Nat → Int32} {dr_parts : Nat → Int32} {la_rowCount : Int32} {la_costs : Nat → Int64} {la_pieces : Nat → Int32} {la_makers : Nat → Int32} {la_parts : Nat → Int32} {be_rowCount : Int32} {be_costs : Nat → Int64} {be_pieces : Nat → Int32} {be_makers : Nat → Int32} {be_parts : Nat → Int32} {m_parts : Int32} {m_yields : Int32} {m_tools : Int64} {m_can : Int32} {m_sum : Int64} {m_ran : Int32} {m_keptRows : Int32} {m_stepCount : Nat → Int32} {m_froms : Nat → Int64} {m_cents : Nat → Int64} {m_uses : Nat → Int64} {m_stocks : Nat → Int64} {m_alternates : Nat → Int32} {m_assemblies : Nat → Int64} {m_placings : Nat → Int64} {m_yieldAbove : Nat → Int64} {m_yieldBelow : Nat → Int64} {m_dayCount : Nat → Int32} {m_days : Nat → Int64} {m_rateAbove : Nat → Int64} {m_rateBelow : Nat → Int64} {m_costs : Nat → Int64} {m_pieces : Nat → Int64} {m_maker : Nat → Int32} {m_partOf : Nat → Int32} {m_keptCosts : Nat → Int64} {m_keptPieces : Nat → Int64} {m_keptMaker : Nat → Int32} {m_keptPart : Nat → Int32} {m_oldCosts : Nat → Int64} {out : Nat → Int64}  (hi : ∀ k, k < 8 → vp_in (i + nI k) L) (h : IV partCount tooling used stock alts asm placed sp_froms_keys sp_froms_sizes sp_cents rt_days_keys rt_days_sizes rt_aboves rt_belows yl_count yl_aboves yl_belows la_rowCount la_costs la_pieces la_makers la_parts be_costs m_parts m_yields m_tools m_ran m_keptRows m_stepCount m_froms m_cents m_uses m_stocks m_alternates m_assemblies m_placings m_yieldAbove m_yieldBelow m_dayCount m_days m_rateAbove m_rateBelow m_keptCosts m_keptPieces m_keptMaker m_keptPart m_oldCosts) : wp_law_c16 L xs i a_dr a_dr_costs a_dr_pieces a_dr_makers a_dr_parts a_la a_la_costs a_la_pieces a_la_makers a_la_parts a_be a_be_costs a_be_pieces a_be_makers a_be_parts partCount tooling used stock alts asm placed sp_froms_keys sp_froms_sizes sp_cents rt_days_keys rt_days_sizes rt_aboves rt_belows rt_aboveNow rt_belowNow yl_count yl_aboves yl_belows dr_rowCount dr_costs dr_pieces dr_makers dr_parts la_rowCount la_costs la_pieces la_makers la_parts be_rowCount be_costs be_pieces be_makers be_parts m_parts m_yields m_tools m_can m_sum m_ran m_keptRows m_stepCount m_froms m_cents m_uses m_stocks m_alternates m_assemblies m_placings m_yieldAbove m_yieldBelow m_dayCount m_days m_rateAbove m_rateBelow m_costs m_pieces m_maker m_partOf m_keptCosts m_keptPieces m_keptMaker m_keptPart m_oldCosts out KV := by
  obtain ⟨pc, y, szs, rz, rfl, rfl, rfl, rfl, rfl, rfl, rfl, rfl, rfl, rfl, rfl, rfl, rfl, rfl, rfl, rfl, rfl, rfl, rfl, D, cz, Y, KP⟩ := h
  have hpc := D.1
  unfold wp_law_c16
  obtain ⟨rc, e, h2, h3, h4, h5, h6⟩ := id KP
  subst e
  refine ⟨hi 1 (by decide), hi 2 (by decide), sp_L_row (by omega) (fun n => ?_) (fun j hj ej n => ?_)⟩
  · refine ⟨hi 1 (by decide), hi 2 (by decide), sp_M_row (rc := rc) (by omega) h5 (fun _ => ?_) (fun j hj ej a => absurd a n)⟩
    exact tl_num v01 rfl (fun _ => IV.mk D cz Y KP) (fun q => absurd q (by decide))
  · refine ⟨hi 1 (by decide), hi 2 (by decide), sp_M_row (rc := rc) (by omega) h5 (fun a => absurd n a) (fun j2 hj2 ej2 a => ?_)⟩
    have ee : j2 = j := (nI_eq (by omega) (by omega)).mp (ej2.symm.trans ej)
    subst ee
    have k := h6 j2 hj
    exact tl_num v01 rfl (fun q => absurd rfl q) (fun _ => jfin (by rw [o_at, k.1, k.2.1, k.2.2]) (IV.mk D cz Y KP))
