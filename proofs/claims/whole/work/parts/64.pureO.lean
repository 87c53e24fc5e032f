/-! the mathematics, part O: part, changed, row, best -/
theorem sp_C_part {pc : Nat} {Q : Int32 → Int32 → Prop} (hpc : pc ≤ 30) (h1 : pc < 30 → Q (nI pc) (nI (pc + 1))) (h2 : pc = 30 → Q (-1) (nI pc)) : wp_C_part (nI pc) Q := by
  unfold wp_C_part
  refine ⟨fun g x hx => ?_, fun g => h2 ?_⟩
  · rw [nI_1] at hx; subst hx
    exact h1 (lt_c (m := 30) (by omega) (by decide) g)
  · have := nlt_c (m := 30) (by omega) (by decide) g
    omega
theorem sp_M_part {pc : Nat} {Q : Int32 → Int32 → Int32 → Prop} (hpc : pc ≤ 30) (h1 : pc < 30 → Q (nI pc) 0 (nI (pc + 1))) (h2 : pc = 30 → Q (-1) 0 (nI pc)) : wp_M_part (nI pc) Q := by
  unfold wp_M_part
  refine ⟨fun g x hx => ?_, fun g => h2 ((nI_eq (b := 30) (by omega) (by decide)).mp g)⟩
  have e : x - 1 = nI pc := by subst hx; exact Int32.add_sub_cancel _ _
  rw [e]
  rw [nI_1] at hx; subst hx
  refine h1 ?_
  rcases Nat.lt_or_ge pc 30 with q | q
  · exact q
  · exact absurd (show nI pc = nI 30 by rw [show pc = 30 by omega]) g
def chF (a b : Nat → Int64) : Nat → Nat → Int32 → Int32
  | 0, _, _ => -1
  | f + 1, j, v => if a j = b j then chF a b f (j + 1) v else if v = 0 then nI j else chF a b f (j + 1) (v + (-1))
theorem chF_eq {a b : Nat → Int64} : ∀ f j v, (∀ i, j ≤ i → i < j + f → a i = b i) → chF a b f j v = -1
  | 0, _, _, _ => rfl
  | f + 1, j, v, h => by
    unfold chF
    rw [if_pos (h j (Nat.le_refl _) (by omega))]
    exact chF_eq f (j + 1) v (fun i h1 h2 => h i (by omega) (by omega))
theorem chF_tail {a b : Nat → Int64} : ∀ f e j v, (∀ i, j + f ≤ i → i < j + f + e → a i = b i) → chF a b (f + e) j v = chF a b f j v
  | 0, e, j, v, h => by
    rw [Nat.zero_add]
    rw [chF_eq e j v (fun i h1 h2 => h i (by omega) (by omega))]
    rfl
  | f + 1, e, j, v, h => by
    have t : ∀ w, chF a b (f + e) (j + 1) w = chF a b f (j + 1) w := fun w => chF_tail f e (j + 1) w (fun i h1 h2 => h i (by omega) (by omega))
    rw [show f + 1 + e = f + e + 1 by omega]
    unfold chF
    rw [t, t]
theorem chF_congr {a b c d : Nat → Int64} : ∀ f j v, (∀ i, j ≤ i → i < j + f → a i = c i ∧ b i = d i) → chF a b f j v = chF c d f j v
  | 0, _, _, _ => rfl
  | f + 1, j, v, h => by
    unfold chF
    have h0 := h j (Nat.le_refl _) (by omega)
    rw [h0.1, h0.2, chF_congr f (j + 1) v (fun i h1 h2 => h i (by omega) (by omega)), chF_congr f (j + 1) (v + (-1)) (fun i h1 h2 => h i (by omega) (by omega))]
theorem sp_C_changed {k : Int32} {rc : Nat} {la be : Nat → Int64} {Q : Int32 → Prop} (hrc : rc ≤ 33) (h : Q (if k < 0 then -1 else chF la be rc 0 k)) : wp_C_changed k (nI rc) la be Q := by
  unfold wp_C_changed
  refine ⟨fun g => ⟨rc + 1, ?_⟩, fun g => ?_⟩
  · have g2 : ¬ k < 0 := le_nlt.mp g
    rw [if_neg g2] at h
    have loop : ∀ f j v, j + f = rc → Q (chF la be f j v) → wp_C_changed_L10 (nI rc) la be Q (f + 1) v (nI j) := by
      intro f
      induction f with
      | zero =>
        intro j v hj hq
        have : j = rc := by omega
        subst this
        rw [wp_C_changed_L10]
        exact ⟨fun _ => hq, fun hc => absurd (nI_le (Nat.le_refl _) (by omega)) hc⟩
      | succ f ih =>
        intro j v hj hq
        rw [wp_C_changed_L10, nI_clamp (by omega)]
        unfold chF at hq
        unfold wp_C_changed_J55
        have vv : vp_in (nI j) 33 := vp_in_nI (by omega) (by decide)
        refine ⟨fun hc => by have := ge_c (by omega) (by omega) hc; omega, fun _ => ⟨vv, vv, fun ne => ⟨fun nz x hx x2 hx2 => ?_, fun z => ?_⟩, fun e x2 hx2 => ?_⟩⟩
        · rw [if_neg ne, if_neg nz] at hq
          rw [nI_1] at hx2; subst hx; subst hx2
          exact ih (j + 1) _ (by omega) hq
        · rw [if_neg ne, if_pos z] at hq; exact hq
        · rw [if_pos e] at hq
          rw [nI_1] at hx2; subst hx2
          exact ih (j + 1) _ (by omega) hq
    exact loop rc 0 k (by omega) h
  · have g2 : k < 0 := by
      by_cases q : k < 0
      · exact q
      · exact absurd (le_nlt.mpr q) g
    rw [if_pos g2] at h; exact h
theorem sp_M_changed {k ran : Int32} {kc oc : Nat → Int64} {Q : Int32 → Int32 → Prop} (h : Q (if k < 0 then -1 else if ran = 0 then -1 else chF kc oc 33 0 k) 0) : wp_M_changed k ran kc oc Q := by
  unfold wp_M_changed
  refine ⟨34, ?_⟩
  by_cases g : k < 0
  · rw [if_pos g] at h
    rw [wp_M_changed_L9]
    unfold wp_M_changed_J60
    exact ⟨fun _ => h, fun _ => ⟨fun _ => h, fun q => absurd g q⟩⟩
  · rw [if_neg g] at h
    by_cases r : ran = 0
    · rw [if_pos r] at h
      rw [wp_M_changed_L9]
      unfold wp_M_changed_J60
      exact ⟨fun _ => h, fun _ => ⟨fun _ => h, fun _ => ⟨fun _ => h, fun q => absurd r q⟩⟩⟩
    · rw [if_neg r] at h
      have loop : ∀ f j v, j + f = 33 → Q (chF kc oc f j v) 0 → wp_M_changed_L9 k ran kc oc Q (f + 1) v (nI j) := by
        intro f
        induction f with
        | zero =>
          intro j v hj hq
          have : j = 33 := by omega
          subst this
          rw [wp_M_changed_L9]
          exact ⟨fun _ => hq, fun hc => absurd (nI_le (a := 33) (Nat.le_refl _) (by decide)) hc⟩
        | succ f ih =>
          intro j v hj hq
          rw [wp_M_changed_L9, nI_clamp (by omega)]
          unfold chF at hq
          unfold wp_M_changed_J54
          have vv : vp_in (nI j) 33 := vp_in_nI (by omega) (by decide)
          refine ⟨fun hc => by have := ge_c (k := 33) (by decide) (by omega) hc; omega, fun _ => ⟨fun q => absurd q g, fun _ => ⟨fun q => absurd q r, fun _ => ⟨vv, vv, fun ne => ⟨fun nz x hx x2 hx2 => ?_, fun z => ?_⟩, fun e x2 hx2 => ?_⟩⟩⟩⟩
          · rw [if_neg ne, if_neg nz] at hq
            rw [nI_1] at hx2; subst hx; subst hx2
            exact ih (j + 1) _ (by omega) hq
          · rw [if_neg ne, if_pos z] at hq; exact hq
          · rw [if_pos e] at hq
            rw [nI_1] at hx2; subst hx2
            exact ih (j + 1) _ (by omega) hq
      exact loop 33 0 k (by omega) h
abbrev vR (k w rc : Int32) : Prop := (¬ k < 0 ∧ k < rc) ∧ (¬ w < 0 ∧ w < nI 3)
theorem sp_L_row {k w : Int32} {rc : Nat} {pi mk pt : Nat → Int32} {out : Nat → Int64} {Q : Int32 → (Nat → Int64) → Prop} (hrc : rc ≤ 33) (h1 : ¬ vR k w (nI rc) → Q 1 out) (h2 : ∀ j, j < rc → k = nI j → vR k w (nI rc) → Q 0 (vp_updL out 0 (if w = 0 then pi j else if w = 1 then mk j else pt j).toInt64)) : wp_L_row k w (nI rc) pi mk pt out Q := by
  unfold wp_L_row wp_C_row wp_C_row_J56
  refine sp_needIndex (fun a b => sp_needIndex (fun c d => ?_) (fun c => ⟨fun _ => h1 (fun z => c.elim z.2.1 (fun g => g z.2.2)), rfl⟩)) (fun c => ⟨fun _ => h1 (fun z => c.elim z.1.1 (fun g => g z.1.2)), rfl⟩)
  obtain ⟨j, hj, rfl⟩ := ix_lt (n := rc) (by omega) a b
  have h := h2 j hj rfl ⟨⟨a, b⟩, c, d⟩
  have vv : vp_in (nI j) 33 := vp_in_nI (by omega) (by decide)
  rw [nI_clamp (by omega)]
  refine ⟨fun g => ⟨fun g2 => ⟨vv, fun x hx => ⟨v01, fun f e => ?_⟩⟩, fun g2 => ⟨vv, fun x hx => ⟨v01, fun f e => ?_⟩⟩⟩, fun g => ⟨vv, fun x hx => ⟨v01, fun f e => ?_⟩⟩⟩
  · rw [z_c] at e; subst hx; subst e; rw [if_neg g, if_neg g2] at h; exact h
  · rw [z_c] at e; subst hx; subst e; rw [if_neg g, if_pos g2] at h; exact h
  · rw [z_c] at e; subst hx; subst e; rw [if_pos g] at h; exact h
theorem sp_M_row {k w ran kr : Int32} {rc : Nat} {kp : Nat → Int64} {km kt : Nat → Int32} {Q : Int32 → Int32 → Prop} (hrc : rc ≤ 33) (hr : (ran = 0 ∧ rc = 0) ∨ (ran = 1 ∧ kr = nI rc)) (h1 : ¬ vR k w (nI rc) → Q 0 1) (h2 : ∀ j, j < rc → k = nI j → vR k w (nI rc) → Q (if w = 0 then (kp j).toInt32 else if w = 1 then km j else kt j) 0) : wp_M_row k w ran kr kp km kt Q := by
  have bad : ¬ vR k w (nI rc) → wp_M_row_J33 k w kp km kt Q := by
    intro n
    unfold wp_M_row_J33 wp_M_row_J34
    exact ⟨fun q => absurd q (by decide), fun _ => h1 n⟩
  unfold wp_M_row
  refine ⟨fun z => bad (fun q => ?_), fun nz => ?_⟩
  · rcases hr with ⟨r1, r2⟩ | ⟨r1, r2⟩
    · rw [r2] at q; obtain ⟨j, hj, _⟩ := ixv (n := 0) (by decide) q.1; omega
    · rw [r1] at z; exact absurd z (by decide)
  · have e : kr = nI rc := by
      rcases hr with ⟨r1, r2⟩ | ⟨r1, r2⟩
      · exact absurd r1 nz
      · exact r2
    subst e
    refine ⟨fun g => bad (fun z => z.1.1 g), fun a => ⟨fun g => bad (fun z => le_nlt.mp g z.1.2), fun b => ⟨fun g => bad (fun z => z.2.1 g), fun c => ⟨fun g => bad (fun z => le_nlt.mp g z.2.2), fun d => ?_⟩⟩⟩⟩
    have v : vR k w (nI rc) := ⟨vin a b, vin (n := 3) c d⟩
    obtain ⟨j, hj, rfl⟩ := ixv (n := rc) (by omega) v.1
    have h := h2 j hj rfl v
    have vv : vp_in (nI j) 33 := vp_in_nI (by omega) (by decide)
    unfold wp_M_row_J34 wp_M_row_J80
    rw [nI_clamp (by omega)]
    refine ⟨fun _ => ⟨fun g => ⟨fun g2 => ⟨vv, ?_⟩, fun g2 => ⟨vv, ?_⟩⟩, fun g => ⟨vv, ?_⟩⟩, fun q => absurd rfl q⟩
    · rw [if_neg g, if_neg g2] at h; exact h
    · rw [if_neg g, if_pos g2] at h; exact h
    · rw [if_pos g] at h; exact h
def cb (tool as : Int64) (qb : QD) (qp : Nat → QD) (pc j : Nat) : Int64 := if j = 0 then tool else if j = 1 then qb.1 else if j = 2 then as else if j < 3 + pc then (qp (j - 3)).1 else 0
def mb (qb : QD) (qp : Nat → QD) (pc j : Nat) : Int32 := if j = 0 then -1 else if j = 1 then qb.2.2.1 else if j = 2 then -1 else if j < 3 + pc then (qp (j - 3)).2.2.1 else -1
theorem CR_cb {tool as : Int64} {qb : QD} {qp : Nat → QD} {pc : Nat} {c : Nat → Int64} {pi mk pt : Nat → Int32} (h : CRows tool as qb qp pc c pi mk pt) : ∀ j, j < 33 → c j = cb tool as qb qp pc j ∧ mk j = mb qb qp pc j := by
  obtain ⟨h0, h1, h2, h3, h4⟩ := h
  intro j hj
  unfold cb mb
  by_cases e0 : j = 0
  · subst e0; exact ⟨h0.1, h0.2.2.1⟩
  · rw [if_neg e0, if_neg e0]
    by_cases e1 : j = 1
    · subst e1; exact ⟨h1.1, h1.2.1⟩
    · rw [if_neg e1, if_neg e1]
      by_cases e2 : j = 2
      · subst e2; exact ⟨h2.1, h2.2.2.1⟩
      · rw [if_neg e2, if_neg e2]
        by_cases e3 : j < 3 + pc
        · rw [if_pos e3, if_pos e3]
          have := h3 (j - 3) (by omega)
          rw [show 3 + (j - 3) = j by omega] at this
          exact ⟨this.1, this.2.1⟩
        · rw [if_neg e3, if_neg e3]
          have := h4 j (by omega) hj
          exact ⟨this.1, this.2.2.1⟩
theorem CR_sum {tool as : Int64} {qb : QD} {qp : Nat → QD} {pc : Nat} {c : Nat → Int64} {pi mk pt : Nat → Int32} (hpc : pc ≤ 30) (h : CRows tool as qb qp pc c pi mk pt) : sumF c (3 + pc) = sumF (cb tool as qb qp pc) 33 ∧ mbF mk (3 + pc) = mbF (mb qb qp pc) 33 := by
  have e := CR_cb h
  constructor
  · rw [← sumF_congr 33 (fun j hj => (e j hj).1)]
    have := sumF_tail (c := c) (n := 3 + pc) (fun j q1 q2 => (h.2.2.2.2 j q1 q2).1) (30 - pc) (by omega)
    rw [show 3 + pc + (30 - pc) = 33 by omega] at this
    exact this.symm
  · rw [← mbF_congr 33 (fun j hj => (e j hj).2)]
    have := mbF_tail (mk := mk) (n := 3 + pc) (fun j q1 q2 => (h.2.2.2.2 j q1 q2).2.2.1) (30 - pc) (by omega)
    rw [show 3 + pc + (30 - pc) = 33 by omega] at this
    exact this.symm
def bst (okb : Nat → Bool) (T : Nat → Int64) (N : Nat → Int32) : Nat → Int32 × Int64 × Int32
  | 0 => (-1, 0, 0)
  | m + 1 => if okb m = true then (if (bst okb T N m).1 = -1 ∨ T m < (bst okb T N m).2.1 ∨ (T m = (bst okb T N m).2.1 ∧ N m < (bst okb T N m).2.2) then (nI m, T m, N m) else bst okb T N m) else bst okb T N m
theorem bst_no {okb : Nat → Bool} {T : Nat → Int64} {N : Nat → Int32} : ∀ n, (∀ m, m < n → ¬ okb m = true) → bst okb T N n = (-1, 0, 0)
  | 0, _ => rfl
  | n + 1, h => by
    unfold bst
    rw [if_neg (h n (by omega)), bst_no n (fun m hm => h m (by omega))]
theorem sp_L_best {y pc s : Nat} {szs rz : Nat → Nat} {okb : Nat → Bool} {T : Nat → Int64} {N : Nat → Int32} {p0 : Int64} {p1 : Int64} {tooling : Int64} {used : Nat → Int64} {stock : Nat → Int64} {alts : Nat → Int32} {asm : Nat → Int64} {placed : Nat → Int64} {sp_froms_keys : Nat → Int64} {sp_froms_sizes : Nat → Int32} {sp_cents : Nat → Int64} {rt_days_keys : Nat → Int64} {rt_days_sizes : Nat → Int32} {rt_aboves : Nat → Int64} {rt_belows : Nat → Int64} {rt_aboveNow : Nat → Int64} {rt_belowNow : Nat → Int64} {yl_aboves : Nat → Int64} {yl_belows : Nat → Int64} {dr_rowCount : Int32} {dr_costs : Nat → Int64} {dr_pieces : Nat → Int32} {dr_makers : Nat → Int32} {dr_parts : Nat → Int32} {out : Nat → Int64} {Q : Int32 → (Nat → Int64) → (Nat → Int64) → Int32 → (Nat → Int64) → (Nat → Int32) → (Nat → Int32) → (Nat → Int32) → (Nat → Int64) → Prop} (D : DAT pc szs rz stock sp_froms_keys rt_aboves rt_belows sp_froms_sizes rt_days_sizes) (Y : YS y yl_aboves yl_belows) (hs : s < 2 ^ 62) (hst : ∀ a, p0 = lN a → a ≤ 1000000 → stF yl_aboves yl_belows y (lN a) = lN s) (hok : ∀ m, okb m = true ↔ OKA s pc m szs rz p1 used stock sp_froms_keys sp_cents rt_days_keys rt_aboves rt_belows alts) (hT : ∀ m, T m = sumF (cb tooling (asmF (lN s) asm placed 8) (rowB (lN s) (rAF rt_aboves rt_days_keys rz p1) (rAF rt_belows rt_days_keys rz p1) sp_froms_keys sp_cents szs m) (rowP (lN s) (rAF rt_aboves rt_days_keys rz p1) (rAF rt_belows rt_days_keys rz p1) used stock sp_froms_keys sp_cents alts szs pc) pc) 33) (hN : ∀ m, N m = bcF (mbF (mb (rowB (lN s) (rAF rt_aboves rt_days_keys rz p1) (rAF rt_belows rt_days_keys rz p1) sp_froms_keys sp_cents szs m) (rowP (lN s) (rAF rt_aboves rt_days_keys rz p1) (rAF rt_belows rt_days_keys rz p1) used stock sp_froms_keys sp_cents alts szs pc) pc) 33))
    (h1 : ¬ vQ p0 → Q 1 rt_aboveNow rt_belowNow dr_rowCount dr_costs dr_pieces dr_makers dr_parts out)
    (h2 : vQ p0 → (∀ m, m < 8 → OKA s pc m szs rz p1 used stock sp_froms_keys sp_cents rt_days_keys rt_aboves rt_belows alts → ∃ c pi mk pt, CRA s pc m szs rz p1 tooling used stock asm placed sp_froms_keys sp_cents rt_days_keys rt_aboves rt_belows alts c pi mk pt) → ∀ a1 b1 rc c1 pi1 mk1 pt1, Q 0 a1 b1 rc c1 pi1 mk1 pt1 (vp_updL out 0 (bst okb T N 8).1.toInt64)) :
    wp_L_best p0 p1 (nI pc) tooling used stock alts asm placed sp_froms_keys sp_froms_sizes sp_cents rt_days_keys rt_days_sizes rt_aboves rt_belows rt_aboveNow rt_belowNow (nI y) yl_aboves yl_belows dr_rowCount dr_costs dr_pieces dr_makers dr_parts out Q := by
  unfold wp_L_best wp_C_best
  refine sp_needNumber (fun c d => ?_) (fun c => ⟨fun _ => h1 (fun z => c.elim z.1 (fun g => g z.2)), rfl⟩)
  obtain ⟨n, en, hn⟩ := vQ_of ⟨c, d⟩
  have h29 := h2 ⟨c, d⟩
  have hst9 := hst n en hn
  subst en
  refine sp_Y_startedFor Y.1 (YS_pos Y) ?_
  rw [hst9]
  have hB := rB_pos D.2.2.2 (dk := rt_days_keys) (day := p1)
  refine sp_drawAll D.1 D.2.2.1 D.2.2.2.1 hB (fun no a1 b1 rc c1 pi1 mk1 pt1 => ⟨fun q => absurd rfl q, fun _ x hx => ⟨v01, fun f e => ?_⟩⟩) (fun k1 k2 a1 b1 c1 pi1 mk1 pt1 hab cr => ⟨fun _ => ⟨9, ?_⟩, fun q => absurd q (by decide)⟩)
  · have nok : ∀ m, m < 8 → ¬ okb m = true := fun m _ z => no ⟨((hok m).mp z).1, ((hok m).mp z).2.2⟩
    have h28 := h29 (fun m hm z => absurd ((hok m).mpr z) (nok m hm)) a1 b1 rc c1 pi1 mk1 pt1
    rw [bst_no 8 nok] at h28
    rw [z_c] at e; subst hx; subst e; exact h28
  · have hs9 : s ≤ 1000000000 := (pk_lLE (b := 1000000000) (by omega) (by decide)).mp k1
    have loop : ∀ f j qb c2 pi2 mk2 pt2, j + f = 8 → (∀ m, m < j → OKA s pc m szs rz p1 used stock sp_froms_keys sp_cents rt_days_keys rt_aboves rt_belows alts → ∃ c pi mk pt, CRA s pc m szs rz p1 tooling used stock asm placed sp_froms_keys sp_cents rt_days_keys rt_aboves rt_belows alts c pi mk pt) → CRows tooling (asmF (lN s) asm placed 8) qb (rowP (lN s) (rAF rt_aboves rt_days_keys rz p1) (rAF rt_belows rt_days_keys rz p1) used stock sp_froms_keys sp_cents alts szs pc) pc c2 pi2 mk2 pt2 → wp_C_best_L42 sp_froms_keys sp_froms_sizes sp_cents (lN s) a1 b1 (nI (3 + pc)) (fun r8 u1 u2 u3 u4 u5 u6 u7 => ∀ x10 : Int64, x10 = r8.toInt64 → vp_in (0 : Int32) 1 ∧ ∀ f11 : Nat → Int64, f11 = vp_updL out (0 : Int32).toNatClampNeg x10 → Q 0 u1 u2 u3 u4 u5 u6 u7 f11) (f + 1) (bst okb T N j).1 (bst okb T N j).2.1 (bst okb T N j).2.2 (nI j) c2 pi2 mk2 pt2 := by
      intro f
      induction f with
      | zero =>
        intro j qb c2 pi2 mk2 pt2 hj hex _
        have : j = 8 := by omega
        subst this
        rw [wp_C_best_L42]
        refine ⟨fun _ x hx => ⟨v01, fun f e => ?_⟩, fun hc => absurd (nI_le (a := 8) (Nat.le_refl _) (by decide)) hc⟩
        rw [z_c] at e; subst hx; subst e
        exact h29 hex _ _ _ _ _ _ _
      | succ f ih =>
        intro j qb c2 pi2 mk2 pt2 hj hex cr2
        have jl : j < 8 := by omega
        rw [wp_C_best_L42]
        refine ⟨fun hc => by have := ge_c (k := 8) (by decide) (by omega) hc; omega, fun _ => ?_⟩
        refine sp_drawBoards hs9 jl D.2.2.1 (hab j jl) (hB j jl) cr2 (fun n c3 pi3 mk3 pt3 cr3 => ⟨fun q => absurd rfl q, fun _ => ?_⟩) (fun n c3 pi3 mk3 pt3 cr3 => ⟨fun _ => sp_Q_sum (by have := D.1; omega) (sp_makersBoughtOf (by have := D.1; omega) ?_), fun q => absurd q (by decide)⟩)
        · have nj : ¬ okb j = true := fun z => n ((hok j).mp z).2.1
          have ih9 := ih (j + 1) _ _ _ _ _ (by omega) (fun m hm z => by
            rcases Nat.lt_or_ge m j with q | q
            · exact hex m q z
            · have : m = j := by omega
              subst this; exact absurd ((hok m).mpr z) nj) cr3
          unfold bst at ih9
          rw [if_neg nj] at ih9
          unfold wp_C_best_J134
          intro x hx
          rw [nI_1] at hx; subst hx
          exact ih9
        · have oj : okb j = true := (hok j).mpr ⟨k1, n, k2⟩
          have ih9 := ih (j + 1) _ _ _ _ _ (by omega) (fun m hm z => by
            rcases Nat.lt_or_ge m j with q | q
            · exact hex m q z
            · have : m = j := by omega
              subst this; exact ⟨_, _, _, _, cr3⟩) cr3
          have sm := CR_sum D.1 cr3
          rw [sm.1, sm.2, ← hT j, ← hN j]
          unfold bst at ih9
          rw [if_pos oj] at ih9
          have take : ((bst okb T N j).1 = -1 ∨ T j < (bst okb T N j).2.1 ∨ (T j = (bst okb T N j).2.1 ∧ N j < (bst okb T N j).2.2)) → wp_C_best_J122 (nI j) c3 pi3 mk3 pt3 (T j) (N j) (wp_C_best_L42 sp_froms_keys sp_froms_sizes sp_cents (lN s) a1 b1 (nI (3 + pc)) (fun r8 u1 u2 u3 u4 u5 u6 u7 => ∀ x10 : Int64, x10 = r8.toInt64 → vp_in (0 : Int32) 1 ∧ ∀ f11 : Nat → Int64, f11 = vp_updL out (0 : Int32).toNatClampNeg x10 → Q 0 u1 u2 u3 u4 u5 u6 u7 f11) (f + 1)) := by
            intro g
            rw [if_pos g] at ih9
            unfold wp_C_best_J122 wp_C_best_J134
            intro x hx
            rw [nI_1] at hx; subst hx
            exact ih9
          have keep : ¬ ((bst okb T N j).1 = -1 ∨ T j < (bst okb T N j).2.1 ∨ (T j = (bst okb T N j).2.1 ∧ N j < (bst okb T N j).2.2)) → wp_C_best_J134 (nI j) c3 pi3 mk3 pt3 (wp_C_best_L42 sp_froms_keys sp_froms_sizes sp_cents (lN s) a1 b1 (nI (3 + pc)) (fun r8 u1 u2 u3 u4 u5 u6 u7 => ∀ x10 : Int64, x10 = r8.toInt64 → vp_in (0 : Int32) 1 ∧ ∀ f11 : Nat → Int64, f11 = vp_updL out (0 : Int32).toNatClampNeg x10 → Q 0 u1 u2 u3 u4 u5 u6 u7 f11) (f + 1)) (bst okb T N j).1 (bst okb T N j).2.1 (bst okb T N j).2.2 := by
            intro g
            rw [if_neg g] at ih9
            unfold wp_C_best_J134
            intro x hx
            rw [nI_1] at hx; subst hx
            exact ih9
          unfold wp_C_best_J104 wp_C_best_J108 wp_C_best_J109
          refine ⟨fun g => ⟨fun g2 => take (Or.inl g2), fun g2 => ⟨fun z => absurd z (by decide), fun _ => take (Or.inr (Or.inl g))⟩⟩, fun g => ⟨fun g3 => ⟨fun g2 => take (Or.inl g2), fun g2 => ⟨fun _ => keep (fun z => ?_), fun z => absurd rfl z⟩⟩, fun g3 => ⟨fun g4 => ⟨fun g2 => take (Or.inl g2), fun g2 => ⟨fun _ => keep (fun z => ?_), fun z => absurd rfl z⟩⟩, fun g4 => ⟨fun g2 => take (Or.inl g2), fun g2 => ⟨fun z => absurd z (by decide), fun _ => take (Or.inr (Or.inr ⟨g3, ?_⟩))⟩⟩⟩⟩⟩
          · rcases z with z | z | z
            · exact g2 z
            · exact g z
            · exact g3 z.1
          · rcases z with z | z | z
            · exact g2 z
            · exact g z
            · exact le_nlt.mp g4 z.2
          · by_cases q : N j < (bst okb T N j).2.2
            · exact q
            · exact absurd (le_nlt.mpr q) g4
    exact loop 8 0 _ c1 pi1 mk1 pt1 (by omega) (fun m hm => absurd hm (Nat.not_lt_zero m)) cr
theorem sp_M_best {y pc s : Nat} {szs rz : Nat → Nat} {okb : Nat → Bool} {T : Nat → Int64} {N : Nat → Int32} {p0 : Int64} {p1 : Int64} {m_tools : Int64} {m_can : Int32} {m_sum : Int64} {m_stepCount : Nat → Int32} {m_froms : Nat → Int64} {m_cents : Nat → Int64} {m_uses : Nat → Int64} {m_stocks : Nat → Int64} {m_alternates : Nat → Int32} {m_assemblies : Nat → Int64} {m_placings : Nat → Int64} {m_yieldAbove : Nat → Int64} {m_yieldBelow : Nat → Int64} {m_dayCount : Nat → Int32} {m_days : Nat → Int64} {m_rateAbove : Nat → Int64} {m_rateBelow : Nat → Int64} {m_costs : Nat → Int64} {m_pieces : Nat → Int64} {m_maker : Nat → Int32} {m_partOf : Nat → Int32} {Q : Int32 → Int32 → Int32 → Int64 → (Nat → Int64) → (Nat → Int64) → (Nat → Int32) → (Nat → Int32) → Prop} (D : DAT pc szs rz m_stocks m_froms m_rateAbove m_rateBelow m_stepCount m_dayCount) (Y : YS y m_yieldAbove m_yieldBelow) (hs : s < 2 ^ 62) (hst : ∀ a, p0 = lN a → a ≤ 1000000 → stF m_yieldAbove m_yieldBelow y (lN a) = lN s) (hok : ∀ m, okb m = true ↔ OKA s pc m szs rz p1 m_uses m_stocks m_froms m_cents m_days m_rateAbove m_rateBelow m_alternates) (hT : ∀ m, T m = sumF (cb m_tools (asmF (lN s) m_assemblies m_placings 8) (rowB (lN s) (rAF m_rateAbove m_days rz p1) (rAF m_rateBelow m_days rz p1) m_froms m_cents szs m) (rowP (lN s) (rAF m_rateAbove m_days rz p1) (rAF m_rateBelow m_days rz p1) m_uses m_stocks m_froms m_cents m_alternates szs pc) pc) 33) (hN : ∀ m, N m = bcF (mbF (mb (rowB (lN s) (rAF m_rateAbove m_days rz p1) (rAF m_rateBelow m_days rz p1) m_froms m_cents szs m) (rowP (lN s) (rAF m_rateAbove m_days rz p1) (rAF m_rateBelow m_days rz p1) m_uses m_stocks m_froms m_cents m_alternates szs pc) pc) 33))
    (hex : vQ p0 → ∀ m, m < 8 → OKA s pc m szs rz p1 m_uses m_stocks m_froms m_cents m_days m_rateAbove m_rateBelow m_alternates → ∃ c pi mk pt, CRA s pc m szs rz p1 m_tools m_uses m_stocks m_assemblies m_placings m_froms m_cents m_days m_rateAbove m_rateBelow m_alternates c pi mk pt)
    (h1 : ¬ vQ p0 → Q 0 1 m_can m_sum m_costs m_pieces m_maker m_partOf)
    (h2 : vQ p0 → ∀ can sm c1 q1 m1 t1, Q (bst okb T N 8).1 0 can sm c1 q1 m1 t1) :
    wp_M_best p0 p1 (nI pc) (nI y) m_tools m_can m_sum m_stepCount m_froms m_cents m_uses m_stocks m_alternates m_assemblies m_placings m_yieldAbove m_yieldBelow m_dayCount m_days m_rateAbove m_rateBelow m_costs m_pieces m_maker m_partOf Q := by
  unfold wp_M_best wp_M_best_J13
  refine sp_isQuantity (fun a b => ⟨fun q => absurd q (by decide), fun _ => ⟨9, ?_⟩⟩) (fun c => ⟨fun _ => ⟨1, ?_⟩, fun q => absurd rfl q⟩)
  · have vq : vQ p0 := ⟨a, nlt_le.mp b⟩
    obtain ⟨w, en, hn⟩ := vQ_of vq
    have h29 := h2 vq
    have hex9 := hex vq
    have hst9 := hst w en hn
    subst en
    have loop : ∀ f j can sm c2 q2 m2 t2, j + f = 8 → wp_M_best_L28 (lN w) p1 (nI pc) (nI y) m_tools m_stepCount m_froms m_cents m_uses m_stocks m_alternates m_assemblies m_placings m_yieldAbove m_yieldBelow m_dayCount m_days m_rateAbove m_rateBelow 0 Q (f + 1) (bst okb T N j).1 (bst okb T N j).2.1 (bst okb T N j).2.2 (nI j) can sm c2 q2 m2 t2 := by
      intro f
      induction f with
      | zero =>
        intro j can sm c2 q2 m2 t2 hj
        have : j = 8 := by omega
        subst this
        rw [wp_M_best_L28]
        unfold wp_M_best_J122 wp_M_best_J135
        exact ⟨fun _ => ⟨fun q => absurd rfl q, fun _ => h29 _ _ _ _ _ _⟩, fun hc => absurd (nI_le (a := 8) (Nat.le_refl _) (by decide)) hc⟩
      | succ f ih =>
        intro j can sm c2 q2 m2 t2 hj
        have jl : j < 8 := by omega
        have ih := fun can sm c2 q2 m2 t2 => ih (j + 1) can sm c2 q2 m2 t2 (by omega)
        rw [wp_M_best_L28]
        unfold bst at ih
        refine ⟨fun hc => by have := ge_c (k := 8) (by decide) (by omega) hc; omega, fun _ => ⟨fun q => absurd rfl q, fun _ => sp_reckonD D Y hs hst9 jl (fun no sm3 c3 q3 m3 t3 => ⟨fun q => absurd rfl q, fun _ => ?_⟩) (fun ok c3 q3 m3 t3 mr => ⟨fun _ => ?_, fun q => absurd q (by decide)⟩)⟩⟩
        · have nj : ¬ okb j = true := fun z => no ((hok j).mp z)
          rw [if_neg nj] at ih
          unfold wp_M_best_J116
          intro x hx
          rw [nI_1] at hx; subst hx
          exact ih _ _ _ _ _ _
        · have oj : okb j = true := (hok j).mpr ok
          obtain ⟨c4, pi4, mk4, pt4, cr⟩ := hex9 j jl ok
          rw [if_pos oj] at ih
          have e1 : sumF c3 33 = T j := by rw [hT j, ← (CR_sum D.1 cr).1]; exact (sums_same D.1 cr mr).symm
          have e2 : bcF (mbF m3 33) = N j := by rw [hN j, ← (CR_sum D.1 cr).2, makers_same D.1 cr mr]
          refine MR_now cr mr ?_
          rw [e1, e2]
          have take : ((bst okb T N j).1 = -1 ∨ T j < (bst okb T N j).2.1 ∨ (T j = (bst okb T N j).2.1 ∧ N j < (bst okb T N j).2.2)) → wp_M_best_J102 (nI j) 1 (T j) c3 q3 m3 t3 (N j) (wp_M_best_L28 (lN w) p1 (nI pc) (nI y) m_tools m_stepCount m_froms m_cents m_uses m_stocks m_alternates m_assemblies m_placings m_yieldAbove m_yieldBelow m_dayCount m_days m_rateAbove m_rateBelow 0 Q (f + 1)) := by
            intro g
            rw [if_pos g] at ih
            unfold wp_M_best_J102 wp_M_best_J116
            intro x hx
            rw [nI_1] at hx; subst hx
            exact ih _ _ _ _ _ _
          have keep : ¬ ((bst okb T N j).1 = -1 ∨ T j < (bst okb T N j).2.1 ∨ (T j = (bst okb T N j).2.1 ∧ N j < (bst okb T N j).2.2)) → wp_M_best_J116 (nI j) 1 (T j) c3 q3 m3 t3 (wp_M_best_L28 (lN w) p1 (nI pc) (nI y) m_tools m_stepCount m_froms m_cents m_uses m_stocks m_alternates m_assemblies m_placings m_yieldAbove m_yieldBelow m_dayCount m_days m_rateAbove m_rateBelow 0 Q (f + 1)) (bst okb T N j).1 (bst okb T N j).2.1 (bst okb T N j).2.2 := by
            intro g
            rw [if_neg g] at ih
            unfold wp_M_best_J116
            intro x hx
            rw [nI_1] at hx; subst hx
            exact ih _ _ _ _ _ _
          refine ⟨fun g => take (Or.inl g), fun g => ⟨fun g2 => keep (fun z => ?_), fun g2 => ⟨fun g3 => take (Or.inr (Or.inl ?_)), fun g3 => ⟨fun g4 => take (Or.inr (Or.inr ⟨g3, g4⟩)), fun g4 => keep (fun z => ?_)⟩⟩⟩⟩
          · rcases z with z | z | z
            · exact g z
            · rw [i64_lt] at z g2; omega
            · rw [z.1] at g2; rw [i64_lt] at g2; omega
          · rw [i64_lt] at g2 ⊢
            have : ¬ (T j).toInt = (bst okb T N j).2.1.toInt := fun e => g3 (i64_eq.mpr e)
            omega
          · rcases z with z | z | z
            · exact g z
            · rw [g3] at z; rw [i64_lt] at z; omega
            · exact g4 z.2
    exact loop 8 0 _ _ _ _ _ _ (by omega)
  · have nq : ¬ vQ p0 := fun z => c.elim z.1 (fun g => lt_nle.mp g z.2)
    rw [wp_M_best_L28]
    unfold wp_M_best_J122 wp_M_best_J135
    have h := h1 nq
    exact ⟨fun _ => ⟨fun _ => h, fun q => absurd q (by decide)⟩, fun _ => ⟨fun _ => ⟨fun _ => h, fun q => absurd q (by decide)⟩, fun q => absurd q (by decide)⟩⟩
