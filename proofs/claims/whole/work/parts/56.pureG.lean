/-! the mathematics, part G: a whole reckoning -/
theorem nI_30 : nI 30 = (30 : Int32) := rfl
def asmF (st : Int64) (asm placed : Nat → Int64) : Nat → Int64
  | 0 => 0
  | k + 1 => asmF st asm placed k + (st * placed k * asm k + 1000 - 1) / 1000
theorem asm0 (asm placed : Nat → Int64) : ∀ k, asmF (lN 0) asm placed k = 0
  | 0 => rfl
  | k + 1 => by
    unfold asmF
    rw [asm0 asm placed k]
    have e : lN 0 * placed k * asm k = 0 := by
      show (0 : Int64) * placed k * asm k = 0
      rw [Int64.zero_mul, Int64.zero_mul]
    rw [e]
    decide
theorem sp_asm {st : Int64} {asm placed : Nat → Int64} {Q : Int64 → Prop} (h : Q (asmF st asm placed 8)) : wp_C_assemblyCost st asm placed Q := by
  unfold wp_C_assemblyCost
  refine ⟨9, ?_⟩
  have key9 : ∀ f j, j + f = 8 → wp_C_assemblyCost_L5 st asm placed Q (f + 1) (asmF st asm placed j) (nI j) := by
    intro f
    induction f with
    | zero =>
      intro j hj
      have : j = 8 := by omega
      subst this
      rw [wp_C_assemblyCost_L5]
      exact ⟨fun _ => h, fun hc => absurd (nI_le (a := 8) (Nat.le_refl _) (by decide)) hc⟩
    | succ f ih =>
      intro j hj
      rw [wp_C_assemblyCost_L5]
      refine ⟨fun hc => by have := ge_c (k := 8) (by decide) (by omega) hc; omega, fun _ => ⟨vp_in_nI (by omega) (by decide), vp_in_nI (by omega) (by decide), ?_⟩⟩
      rw [nI_clamp (by omega)]
      refine sp_divideUp (by decide) (fun x4 hx4 x5 hx5 => ?_)
      rw [nI_1] at hx5; subst hx5; subst hx4
      exact ih (j + 1) (by omega)
  exact key9 8 0 (by omega)
def ZR (c : Nat → Int64) (pi mk pt : Nat → Int32) (j : Nat) : Prop := c j = 0 ∧ pi j = 0 ∧ mk j = -1 ∧ pt j = -1
theorem ZR.rq {c : Nat → Int64} {pi mk pt : Nat → Int32} {j : Nat} (b : Bool) (h : ZR c pi mk pt j) : RQ b (c j) (pi j) (mk j) (pt j) zq := by
  obtain ⟨h1, h2, h3, h4⟩ := h
  rw [h1, h2, h3, h4]
  exact RQ_z b
theorem sp_clearRow {r : Nat} {c0 : Nat → Int64} {pi0 mk0 pt0 : Nat → Int32} {Q : (Nat → Int64) → (Nat → Int32) → (Nat → Int32) → (Nat → Int32) → Prop} (hr : r < 33) (h : Q (vp_updL c0 r 0) (upd pi0 r 0) (upd mk0 r (-1)) (upd pt0 r (-1))) : wp_Q_clearRow (nI r) c0 pi0 mk0 pt0 Q := by
  unfold wp_Q_clearRow
  refine ⟨vp_in_nI hr (by decide), fun f1 e1 => ⟨vp_in_nI hr (by decide), fun f2 e2 => ⟨vp_in_nI hr (by decide), fun f3 e3 => ⟨vp_in_nI hr (by decide), fun f4 e4 => ?_⟩⟩⟩⟩
  rw [nI_clamp (by omega)] at e1 e2 e3 e4
  subst e1; subst e2; subst e3; subst e4
  exact h
theorem ZR_clear {r j : Nat} {c0 : Nat → Int64} {pi0 mk0 pt0 : Nat → Int32} (h : j ≠ r → ZR c0 pi0 mk0 pt0 j) : ZR (vp_updL c0 r 0) (upd pi0 r 0) (upd mk0 r (-1)) (upd pt0 r (-1)) j := by
  unfold ZR
  by_cases e : j = r
  · subst e; rw [up_at, ui_at, ui_at, ui_at]; exact ⟨rfl, rfl, rfl, rfl⟩
  · rw [up_ne e, ui_ne e, ui_ne e, ui_ne e]; exact h e
theorem sp_begin {rows : Int32} {c0 : Nat → Int64} {pi0 mk0 pt0 : Nat → Int32} {Q : Int32 → (Nat → Int64) → (Nat → Int32) → (Nat → Int32) → (Nat → Int32) → Prop} (h : ∀ c1 pi1 mk1 pt1, (∀ j, j < 33 → ZR c1 pi1 mk1 pt1 j) → Q rows c1 pi1 mk1 pt1) : wp_Q_begin rows c0 pi0 mk0 pt0 Q := by
  unfold wp_Q_begin
  refine ⟨34, ?_⟩
  have key9 : ∀ f j c1 pi1 mk1 pt1, j + f = 33 → (∀ i, i < j → ZR c1 pi1 mk1 pt1 i) → wp_Q_begin_L7 rows Q (f + 1) (nI j) c1 pi1 mk1 pt1 := by
    intro f
    induction f with
    | zero =>
      intro j c1 pi1 mk1 pt1 hj hi
      have : j = 33 := by omega
      subst this
      rw [wp_Q_begin_L7]
      exact ⟨fun _ => h c1 pi1 mk1 pt1 hi, fun hc => absurd (nI_le (a := 33) (Nat.le_refl _) (by decide)) hc⟩
    | succ f ih =>
      intro j c1 pi1 mk1 pt1 hj hi
      rw [wp_Q_begin_L7]
      refine ⟨fun hc => by have := ge_c (k := 33) (by decide) (by omega) hc; omega, fun _ => sp_clearRow (by omega) (fun x hx => ?_)⟩
      rw [nI_1] at hx; subst hx
      exact ih (j + 1) _ _ _ _ (by omega) (fun i hi2 => ZR_clear (fun hne => hi i (by omega)))
  exact key9 33 0 c0 pi0 mk0 pt0 (by omega) (fun i hi => absurd hi (Nat.not_lt_zero i))
def FR (v : Int64) (c : Nat → Int64) (pi mk pt : Nat → Int32) (j : Nat) : Prop := c j = v ∧ pi j = 0 ∧ mk j = -1 ∧ pt j = -1
def CRows (tool as : Int64) (qb : QD) (qp : Nat → QD) (pc : Nat) (c : Nat → Int64) (pi mk pt : Nat → Int32) : Prop :=
  FR tool c pi mk pt 0 ∧ RQ true (c 1) (pi 1) (mk 1) (pt 1) qb ∧ FR as c pi mk pt 2 ∧ (∀ p, p < pc → RQ false (c (3 + p)) (pi (3 + p)) (mk (3 + p)) (pt (3 + p)) (qp p)) ∧ ∀ j, 3 + pc ≤ j → j < 33 → ZR c pi mk pt j
def rowP (st : Int64) (A B used stock keys cents : Nat → Int64) (alts : Nat → Int32) (szs : Nat → Nat) (pc p : Nat) : QD := if 0 < st * used p - stock p then ptQ (st * used p - stock p) A B (alts p) p keys cents szs pc zq else zq
def okP (st : Int64) (A B used stock keys cents : Nat → Int64) (alts : Nat → Int32) (szs : Nat → Nat) (pc p : Nat) : Prop := ¬ 0 < st * used p - stock p ∨ (st * used p - stock p ≤ 1000000000 ∧ ¬ (ptQ (st * used p - stock p) A B (alts p) p keys cents szs pc zq).2.1 = 0)
def rowB (st : Int64) (A B keys cents : Nat → Int64) (szs : Nat → Nat) (m : Nat) : QD := if 0 < st then offQ st (A m) (B m) (nI 30) (nI m) keys cents (6 * (8 * 30 + m)) (szs (8 * 30 + m)) zq else zq
def okB (st : Int64) (A B keys cents : Nat → Int64) (szs : Nat → Nat) (m : Nat) : Prop := ¬ 0 < st ∨ ¬ (rowB st A B keys cents szs m).2.1 = 0
theorem sp_drawAll {s pc : Nat} {szs rz : Nat → Nat} {day tooling : Int64} {used stock asm placed keys cents dk ab be an bn c0 : Nat → Int64} {alts sizes ds pi0 mk0 pt0 : Nat → Int32} {Q : Int32 → (Nat → Int64) → (Nat → Int64) → Int32 → (Nat → Int64) → (Nat → Int32) → (Nat → Int32) → (Nat → Int32) → Prop}
    (hpc : pc ≤ 30) (hL : LIs szs sizes keys) (hd : ∀ j, j < 8 → ds j = nI (rz j) ∧ rz j ≤ 6) (hB : ∀ m, m < 8 → 0 < rAF be dk rz day m)
    (hno : ¬ (lN s ≤ 1000000000 ∧ ∀ p, p < pc → okP (lN s) (rAF ab dk rz day) (rAF be dk rz day) used stock keys cents alts szs pc p) → ∀ a1 b1 rc c1 pi1 mk1 pt1, Q 0 a1 b1 rc c1 pi1 mk1 pt1)
    (hyes : lN s ≤ 1000000000 → (∀ p, p < pc → okP (lN s) (rAF ab dk rz day) (rAF be dk rz day) used stock keys cents alts szs pc p) → ∀ a1 b1 c1 pi1 mk1 pt1, (∀ m, m < 8 → a1 m = rAF ab dk rz day m ∧ b1 m = rAF be dk rz day m) → CRows tooling (asmF (lN s) asm placed 8) zq (rowP (lN s) (rAF ab dk rz day) (rAF be dk rz day) used stock keys cents alts szs pc) pc c1 pi1 mk1 pt1 → Q 1 a1 b1 (nI (3 + pc)) c1 pi1 mk1 pt1) :
    wp_C_drawAllButBoards (lN s) day (nI pc) tooling used stock alts asm placed keys sizes cents dk ds ab be an bn c0 pi0 mk0 pt0 Q := by
  unfold wp_C_drawAllButBoards
  refine sp_begin (fun c1 pi1 mk1 pt1 hz => ⟨fun g => ?_, fun g => ⟨Or.inl rfl, hno (fun z => g z.1) _ _ _ _ _ _ _⟩⟩)
  refine sp_Ra_turnTo hd (fun a1 b1 hab => ⟨vp_in_nI (n := 0) (by decide) (by decide), fun f8 h8 => sp_asm ⟨vp_in_nI (n := 2) (by decide) (by decide), fun f10 h10 => ?_⟩⟩)
  have e3 : 3 + nI pc = nI (3 + pc) := by show nI 3 + nI pc = _; rw [nI_add]
  have z0 : (0 : Int32).toNatClampNeg = 0 := by decide
  have z2 : (2 : Int32).toNatClampNeg = 2 := by decide
  rw [z0] at h8
  rw [z2] at h10
  refine ⟨pc + 1, ?_⟩
  rw [e3]
  have start : CRows tooling (asmF (lN s) asm placed 8) zq (rowP (lN s) (rAF ab dk rz day) (rAF be dk rz day) used stock keys cents alts szs pc) 0 f10 pi1 mk1 pt1 := by
    subst h8; subst h10
    have k : ∀ j, j ≠ 0 → j ≠ 2 → vp_updL (vp_updL c1 0 tooling) 2 (asmF (lN s) asm placed 8) j = c1 j := fun j q1 q2 => by rw [up_ne q2, up_ne q1]
    refine ⟨⟨by rw [up_ne (by decide), up_at], (hz 0 (by decide)).2⟩, ?_, ⟨by rw [up_at], (hz 2 (by decide)).2⟩, fun p hp => absurd hp (Nat.not_lt_zero p), fun j q1 q2 => ?_⟩
    · rw [k 1 (by decide) (by decide)]; exact (hz 1 (by decide)).rq true
    · refine ⟨?_, (hz j q2).2⟩
      rw [k j (by omega) (by omega)]; exact (hz j q2).1
  have loop : ∀ f p c2 pi2 mk2 pt2, p + f = pc → (∀ i, i < p → okP (lN s) (rAF ab dk rz day) (rAF be dk rz day) used stock keys cents alts szs pc i) → CRows tooling (asmF (lN s) asm placed 8) zq (rowP (lN s) (rAF ab dk rz day) (rAF be dk rz day) used stock keys cents alts szs pc) p c2 pi2 mk2 pt2 →
      wp_C_drawAllButBoards_L61 (lN s) (nI pc) used stock alts keys sizes cents (nI (3 + pc)) a1 b1 Q (f + 1) (nI p) c2 pi2 mk2 pt2 := by
    intro f
    induction f with
    | zero =>
      intro p c2 pi2 mk2 pt2 hp hok hc
      have : p = pc := by omega
      subst this
      rw [wp_C_drawAllButBoards_L61]
      exact ⟨fun _ => ⟨Or.inr rfl, hyes g hok a1 b1 c2 pi2 mk2 pt2 hab hc⟩, fun q => absurd (nI_le (Nat.le_refl _) (by omega)) q⟩
    | succ f ih =>
      intro p c2 pi2 mk2 pt2 hp hok hc
      obtain ⟨hc0, hc1, hc2, hc3, hc4⟩ := hc
      rw [wp_C_drawAllButBoards_L61]
      have next : ∀ c3 pi3 mk3 pt3, okP (lN s) (rAF ab dk rz day) (rAF be dk rz day) used stock keys cents alts szs pc p → RQ false (c3 (3 + p)) (pi3 (3 + p)) (mk3 (3 + p)) (pt3 (3 + p)) (rowP (lN s) (rAF ab dk rz day) (rAF be dk rz day) used stock keys cents alts szs pc p) → (∀ j, j ≠ 3 + p → c3 j = c2 j ∧ pi3 j = pi2 j ∧ mk3 j = mk2 j ∧ pt3 j = pt2 j) → wp_C_drawAllButBoards_L61 (lN s) (nI pc) used stock alts keys sizes cents (nI (3 + pc)) a1 b1 Q (f + 1) (nI (p + 1)) c3 pi3 mk3 pt3 := by
        intro c3 pi3 mk3 pt3 ok rq oth
        refine ih (p + 1) _ _ _ _ (by omega) (fun i hi => ?_) ?_
        · rcases Nat.lt_or_ge i p with q | q
          · exact hok i q
          · rw [show i = p by omega]; exact ok
        · have o0 := oth 0 (by omega); have o1 := oth 1 (by omega); have o2 := oth 2 (by omega)
          refine ⟨?_, ?_, ?_, fun i hi => ?_, fun j q1 q2 => ?_⟩
          · unfold FR; rw [o0.1, o0.2.1, o0.2.2.1, o0.2.2.2]; exact hc0
          · rw [o1.1, o1.2.1, o1.2.2.1, o1.2.2.2]; exact hc1
          · unfold FR; rw [o2.1, o2.2.1, o2.2.2.1, o2.2.2.2]; exact hc2
          · by_cases hip : i = p
            · subst hip; exact rq
            · have oi := oth (3 + i) (by omega)
              rw [oi.1, oi.2.1, oi.2.2.1, oi.2.2.2]; exact hc3 i (by omega)
          · have oj := oth j (by omega)
            unfold ZR
            rw [oj.1, oj.2.1, oj.2.2.1, oj.2.2.2]; exact hc4 j (by omega) q2
      have zr := hc4 (3 + p) (by omega) (by omega)
      refine ⟨fun q => by have := ge_c (by omega) (by omega) q; omega, fun _ => sp_C_drawPart hpc (by omega) hL (fun m hm => ⟨(hab m hm).1, (hab m hm).2, hB m hm⟩) (zr.rq false) (fun n1 => ?_) (fun n1 n2 => ?_) (fun n1 n2 c3 pi3 mk3 pt3 rq oth => ?_)⟩
      · refine ⟨fun _ x21 hx => ?_, fun q => absurd q (by decide)⟩
        rw [nI_1] at hx; subst hx
        exact next c2 pi2 mk2 pt2 (Or.inl n1) (by unfold rowP; rw [if_neg n1]; exact zr.rq false) (fun j _ => ⟨rfl, rfl, rfl, rfl⟩)
      · exact ⟨fun q => absurd rfl q, fun _ => ⟨Or.inl rfl, hno (fun z => Or.elim (z.2 p (by omega)) (fun y => y n1) (fun y => n2 y.1)) _ _ _ _ _ _ _⟩⟩
      · by_cases t0 : (ptQ (lN s * used p - stock p) (rAF ab dk rz day) (rAF be dk rz day) (alts p) p keys cents szs pc zq).2.1 = 0
        · rw [if_pos t0]
          exact ⟨fun q => absurd rfl q, fun _ => ⟨Or.inl rfl, hno (fun z => Or.elim (z.2 p (by omega)) (fun y => y n1) (fun y => y.2 t0)) _ _ _ _ _ _ _⟩⟩
        · rw [if_neg t0]
          refine ⟨fun _ x21 hx => ?_, fun q => absurd q (by decide)⟩
          rw [nI_1] at hx; subst hx
          exact next c3 pi3 mk3 pt3 (Or.inr ⟨n2, t0⟩) (by unfold rowP; rw [if_pos n1]; exact rq) oth
  exact loop pc 0 f10 pi1 mk1 pt1 (by omega) (fun i hi => absurd hi (Nat.not_lt_zero i)) start
theorem sp_drawBoards {s pc m : Nat} {szs : Nat → Nat} {tool as : Int64} {qb : QD} {qp : Nat → QD} {A B keys cents an bn c0 : Nat → Int64} {sizes pi0 mk0 pt0 : Nat → Int32} {Q : Int32 → (Nat → Int64) → (Nat → Int32) → (Nat → Int32) → (Nat → Int32) → Prop}
    (hs : s ≤ 1000000000) (hm : m < 8) (hL : LIs szs sizes keys) (hab : an m = A m ∧ bn m = B m) (hB : 0 < B m) (hc : CRows tool as qb qp pc c0 pi0 mk0 pt0)
    (hno : ¬ okB (lN s) A B keys cents szs m → ∀ c1 pi1 mk1 pt1, CRows tool as (rowB (lN s) A B keys cents szs m) qp pc c1 pi1 mk1 pt1 → Q 0 c1 pi1 mk1 pt1)
    (hyes : okB (lN s) A B keys cents szs m → ∀ c1 pi1 mk1 pt1, CRows tool as (rowB (lN s) A B keys cents szs m) qp pc c1 pi1 mk1 pt1 → Q 1 c1 pi1 mk1 pt1) :
    wp_C_drawBoards (lN s) (nI m) keys sizes cents an bn c0 pi0 mk0 pt0 Q := by
  unfold wp_C_drawBoards
  obtain ⟨hc0, hc1, hc2, hc3, hc4⟩ := hc
  refine sp_clearRow (r := 1) (by decide) ?_
  have other : ∀ c1 pi1 mk1 pt1 q, RQ true (c1 1) (pi1 1) (mk1 1) (pt1 1) q → (∀ j, j ≠ 1 → c1 j = vp_updL c0 1 0 j ∧ pi1 j = upd pi0 1 0 j ∧ mk1 j = upd mk0 1 (-1) j ∧ pt1 j = upd pt0 1 (-1) j) → CRows tool as q qp pc c1 pi1 mk1 pt1 := by
    intro c1 pi1 mk1 pt1 q rq oth
    have o : ∀ j, j ≠ 1 → c1 j = c0 j ∧ pi1 j = pi0 j ∧ mk1 j = mk0 j ∧ pt1 j = pt0 j := fun j hj => by
      have := oth j hj
      rw [up_ne hj, ui_ne hj, ui_ne hj, ui_ne hj] at this
      exact this
    have o0 := o 0 (by omega); have o2 := o 2 (by omega)
    refine ⟨?_, rq, ?_, fun i hi => ?_, fun j q1 q2 => ?_⟩
    · unfold FR; rw [o0.1, o0.2.1, o0.2.2.1, o0.2.2.2]; exact hc0
    · unfold FR; rw [o2.1, o2.2.1, o2.2.2.1, o2.2.2.2]; exact hc2
    · have oi := o (3 + i) (by omega)
      rw [oi.1, oi.2.1, oi.2.2.1, oi.2.2.2]; exact hc3 i hi
    · have oj := o j (by omega)
      unfold ZR
      rw [oj.1, oj.2.1, oj.2.2.1, oj.2.2.2]; exact hc4 j q1 q2
  have z1 : ZR (vp_updL c0 1 0) (upd pi0 1 0) (upd mk0 1 (-1)) (upd pt0 1 (-1)) 1 := ZR_clear (fun h => absurd rfl h)
  refine ⟨fun g => ?_, fun g => ⟨Or.inr rfl, ?_⟩⟩
  · have e30 : wp_C_offerSteps (1 : Int32) (lN s) (30 : Int32) = wp_C_offerSteps (nI 1) (lN s) (nI 30) := rfl
    rw [e30]
    refine sp_C_offerSteps (b := true) (by decide) (by decide) ⟨fun _ => rfl, fun _ => rfl⟩ hm hL hs (by rw [hab.2]; exact hB) (z1.rq true) (ORD_z _ _ _) (fun c1 pi1 mk1 pt1 rq _ oth => ?_)
    rw [hab.1, hab.2] at rq
    have eB : rowB (lN s) A B keys cents szs m = offQ (lN s) (A m) (B m) (nI 30) (nI m) keys cents (6 * (8 * 30 + m)) (szs (8 * 30 + m)) zq := by unfold rowB; rw [if_pos g]
    rw [← eB] at rq
    have cr := other c1 pi1 mk1 pt1 _ rq oth
    refine sp_isBought (r := 1) (by decide) ?_
    rw [RQ_b rq]
    by_cases t0 : (rowB (lN s) A B keys cents szs m).2.1 = 0
    · rw [if_pos t0]
      exact ⟨Or.inl rfl, hno (fun z => Or.elim z (fun z => z g) (fun z => z t0)) _ _ _ _ cr⟩
    · rw [if_neg t0]
      exact ⟨Or.inr rfl, hyes (Or.inr t0) _ _ _ _ cr⟩
  · refine hyes (Or.inl g) _ _ _ _ (other _ _ _ _ _ ?_ (fun j _ => ⟨rfl, rfl, rfl, rfl⟩))
    unfold rowB
    rw [if_neg g]
    exact z1.rq true
/-- CostSteps.draw -/
theorem sp_draw {y pc m a : Nat} {szs rz : Nat → Nat} {day tooling : Int64} {used stock asm placed keys cents dk ab be an bn yab ybe c0 : Nat → Int64} {alts sizes ds pi0 mk0 pt0 : Nat → Int32} {Q : Int32 → (Nat → Int64) → (Nat → Int64) → Int32 → (Nat → Int64) → (Nat → Int32) → (Nat → Int32) → (Nat → Int32) → Prop} {s : Nat}
    (hy : y ≤ 8) (hyp : ∀ j, j < y → 0 < yab j) (hst : stF yab ybe y (lN a) = lN s) (hpc : pc ≤ 30) (hm : m < 8) (hL : LIs szs sizes keys) (hd : ∀ j, j < 8 → ds j = nI (rz j) ∧ rz j ≤ 6) (hB : ∀ m, m < 8 → 0 < rAF be dk rz day m) (hs63 : s < 2 ^ 62)
    (hno : ¬ (lN s ≤ 1000000000 ∧ okB (lN s) (rAF ab dk rz day) (rAF be dk rz day) keys cents szs m ∧ ∀ p, p < pc → okP (lN s) (rAF ab dk rz day) (rAF be dk rz day) used stock keys cents alts szs pc p) → ∀ a1 b1 rc c1 pi1 mk1 pt1, Q 0 a1 b1 rc c1 pi1 mk1 pt1)
    (hyes : (lN s ≤ 1000000000 ∧ okB (lN s) (rAF ab dk rz day) (rAF be dk rz day) keys cents szs m ∧ ∀ p, p < pc → okP (lN s) (rAF ab dk rz day) (rAF be dk rz day) used stock keys cents alts szs pc p) → ∀ a1 b1 c1 pi1 mk1 pt1, CRows tooling (asmF (lN s) asm placed 8) (rowB (lN s) (rAF ab dk rz day) (rAF be dk rz day) keys cents szs m) (rowP (lN s) (rAF ab dk rz day) (rAF be dk rz day) used stock keys cents alts szs pc) pc c1 pi1 mk1 pt1 → Q 1 a1 b1 (nI (3 + pc)) c1 pi1 mk1 pt1) :
    wp_C_draw (lN a) (nI m) day (nI pc) tooling used stock alts asm placed keys sizes cents dk ds ab be an bn (nI y) yab ybe c0 pi0 mk0 pt0 Q := by
  unfold wp_C_draw
  refine sp_Y_startedFor hy hyp ?_
  rw [hst]
  refine sp_drawAll hpc hL hd hB (fun hn a1 b1 rc c1 pi1 mk1 pt1 => ⟨fun _ => ⟨Or.inl rfl, hno (fun z => hn ⟨z.1, z.2.2⟩) _ _ _ _ _ _ _⟩, fun q => absurd rfl q⟩) (fun h1 h2 a1 b1 c1 pi1 mk1 pt1 hab cr => ⟨fun q => absurd q (by decide), fun _ => ?_⟩)
  have hs : s ≤ 1000000000 := (pk_lLE (b := 1000000000) (by omega) (by decide)).mp h1
  refine sp_drawBoards hs hm hL (hab m hm) (hB m hm) cr (fun n c2 pi2 mk2 pt2 cr2 => ⟨fun _ => ⟨Or.inl rfl, hno (fun z => n z.2.1) _ _ _ _ _ _ _⟩, fun q => absurd rfl q⟩) (fun n c2 pi2 mk2 pt2 cr2 => ⟨fun q => absurd q (by decide), fun _ => ⟨Or.inr rfl, hyes ⟨h1, n, h2⟩ _ _ _ _ _ _ cr2⟩⟩)
