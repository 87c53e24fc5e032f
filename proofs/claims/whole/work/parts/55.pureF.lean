/-! the mathematics, part F: a part bought -/
def stB (x : Int32) (p part : Nat) : Bool := decide (p = part) || bt x p
theorem sp_mayStandIn {o part : Nat} {alts : Nat → Int32} {Q : Int32 → Prop} (ho : o < 30) (hp : part < 30) (h : Q (if stB (alts part) o part = true then 1 else 0)) : wp_C_mayStandIn (nI o) (nI part) alts Q := by
  unfold wp_C_mayStandIn wp_C_mayStandIn_J18 wp_C_mayStandIn_J23
  rw [nI_clamp (by omega)]
  refine ⟨fun g => ⟨Or.inr rfl, ?_⟩, fun g => ⟨vp_in_nI hp (by decide), fun g2 => ⟨Or.inl rfl, ?_⟩, fun g2 => ⟨Or.inr rfl, ?_⟩⟩⟩
  · have : o = part := (nI_eq (by omega) (by omega)).mp g
    rw [if_pos (by simp [stB, this])] at h
    exact h
  · have hne : ¬ o = part := fun e => g (by rw [e])
    have := (bit_l (by omega)).mp g2
    rw [if_neg (by simp [stB, hne, this])] at h
    exact h
  · have : bt (alts part) o = true := by
      cases hb : bt (alts part) o with
      | true => rfl
      | false => exact absurd ((bit_l (by omega)).mpr hb) g2
    rw [if_pos (by simp [stB, this])] at h
    exact h
def mkQ (need : Int64) (A B : Nat → Int64) (p : Nat) (keys cents : Nat → Int64) (szs : Nat → Nat) : Nat → QD → QD
  | 0, q => q
  | m + 1, q => offQ need (A m) (B m) (nI p) (nI m) keys cents (6 * (8 * p + m)) (szs (8 * p + m)) (mkQ need A B p keys cents szs m q)
def ptQ (need : Int64) (A B : Nat → Int64) (alt : Int32) (part : Nat) (keys cents : Nat → Int64) (szs : Nat → Nat) : Nat → QD → QD
  | 0, q => q
  | p + 1, q => if stB alt p part = true then mkQ need A B p keys cents szs 8 (ptQ need A B alt part keys cents szs p q) else ptQ need A B alt part keys cents szs p q
theorem RQ_b {b : Bool} {c : Int64} {pi mk pt : Int32} {q : QD} (h : RQ b c pi mk pt q) : (if mk = -1 then (0 : Int32) else 1) = if q.2.1 = 0 then 0 else 1 := by
  obtain ⟨-, e2, -, -, e5⟩ := h
  subst e2
  rcases e5 with ⟨z1, z2⟩ | ⟨t9, m9, z1, z2, z3, z4, z5⟩
  · rw [if_pos z2, if_pos z1]
  · rw [if_neg (by rw [z5]; exact nI_m1 (by omega)), if_neg (fun o => by rw [z1] at o; have := (pk_lEQ (a := t9) (b := 0) (by omega) (by omega)).mp o; omega)]
theorem sp_C_drawPart {p pc : Nat} {szs : Nat → Nat} {started : Int64} {used stock keys cents an bn A B c0 : Nat → Int64} {alts sizes pi0 mk0 pt0 : Nat → Int32} {Q : Int32 → (Nat → Int64) → (Nat → Int32) → (Nat → Int32) → (Nat → Int32) → Prop}
    (hpc : pc ≤ 30) (hp : p < pc) (hL : LIs szs sizes keys) (hAB : ∀ m, m < 8 → an m = A m ∧ bn m = B m ∧ 0 < B m) (hz : RQ false (c0 (3 + p)) (pi0 (3 + p)) (mk0 (3 + p)) (pt0 (3 + p)) zq)
    (h1 : ¬ 0 < started * used p - stock p → Q 1 c0 pi0 mk0 pt0)
    (h2 : 0 < started * used p - stock p → ¬ started * used p - stock p ≤ 1000000000 → Q 0 c0 pi0 mk0 pt0)
    (h3 : 0 < started * used p - stock p → started * used p - stock p ≤ 1000000000 → ∀ c1 pi1 mk1 pt1, RQ false (c1 (3 + p)) (pi1 (3 + p)) (mk1 (3 + p)) (pt1 (3 + p)) (ptQ (started * used p - stock p) A B (alts p) p keys cents szs pc zq) → (∀ j, j ≠ 3 + p → c1 j = c0 j ∧ pi1 j = pi0 j ∧ mk1 j = mk0 j ∧ pt1 j = pt0 j) → Q (if (ptQ (started * used p - stock p) A B (alts p) p keys cents szs pc zq).2.1 = 0 then 0 else 1) c1 pi1 mk1 pt1) :
    wp_C_drawPart (nI p) started (nI pc) used stock alts keys sizes cents an bn c0 pi0 mk0 pt0 Q := by
  unfold wp_C_drawPart
  rw [nI_clamp (by omega)]
  refine ⟨vp_in_nI (by omega) (by decide), vp_in_nI (by omega) (by decide), fun x1 hx1 => ⟨fun g1 => ⟨fun g2 x2 hx2 => ?_, fun g2 => ⟨Or.inl rfl, ?_⟩⟩, fun g1 => ⟨Or.inr rfl, ?_⟩⟩⟩
  · rw [← hx1] at h3
    have h3 := h3 g1 g2
    obtain ⟨nn, n1, n2⟩ := pk_lOf (x := x1) (by rw [i64_lt]; rw [i64_lt] at g1; have : (0 : Int64).toInt = 0 := by decide
                                                omega)
    have hn2 : nn ≤ 1000000000 := by rw [n2] at g2; exact (pk_lLE (b := 1000000000) n1 (by decide)).mp g2
    have hx2 : x2 = nI (3 + p) := by rw [hx2]; show nI 3 + nI p = _; rw [nI_add]
    subst hx2
    rw [n2] at h3 ⊢
    clear h1 h2 hx1 g1 g2 n2
    refine ⟨pc + 1, ?_⟩
    have outer : ∀ f o c1 pi1 mk1 pt1, o + f = pc → RQ false (c1 (3 + p)) (pi1 (3 + p)) (mk1 (3 + p)) (pt1 (3 + p)) (ptQ (lN nn) A B (alts p) p keys cents szs o zq) → ORD false (ptQ (lN nn) A B (alts p) p keys cents szs o zq) o 0 → (∀ j, j ≠ 3 + p → c1 j = c0 j ∧ pi1 j = pi0 j ∧ mk1 j = mk0 j ∧ pt1 j = pt0 j) →
        wp_C_drawPart_L45 (nI p) (nI pc) alts keys sizes cents an bn (lN nn) (nI (3 + p)) Q (f + 1) (nI o) c1 pi1 mk1 pt1 := by
      intro f
      induction f with
      | zero =>
        intro o c1 pi1 mk1 pt1 hj q1 q2 q3
        have : o = pc := by omega
        subst this
        rw [wp_C_drawPart_L45]
        refine ⟨fun _ => sp_isBought (by omega) ?_, fun hc => absurd (nI_le (Nat.le_refl _) (by omega)) hc⟩
        rw [RQ_b q1]
        exact ⟨by split <;> simp, h3 c1 pi1 mk1 pt1 q1 q3⟩
      | succ f ih =>
        intro o c1 pi1 mk1 pt1 hj q1 q2 q3
        rw [wp_C_drawPart_L45]
        refine ⟨fun hc => by have := ge_c (by omega) (by omega) hc; omega, fun _ => sp_mayStandIn (by omega) (by omega) ?_⟩
        by_cases hs : stB (alts p) o p = true
        · rw [if_pos hs]
          refine ⟨fun _ => ⟨9, ?_⟩, fun g => absurd g (by decide)⟩
          have eo : ptQ (lN nn) A B (alts p) p keys cents szs (o + 1) zq = mkQ (lN nn) A B o keys cents szs 8 (ptQ (lN nn) A B (alts p) p keys cents szs o zq) := by
            conv => lhs; unfold ptQ
            rw [if_pos hs]
          have inner : ∀ f2 m c2 pi2 mk2 pt2, m + f2 = 8 → RQ false (c2 (3 + p)) (pi2 (3 + p)) (mk2 (3 + p)) (pt2 (3 + p)) (mkQ (lN nn) A B o keys cents szs m (ptQ (lN nn) A B (alts p) p keys cents szs o zq)) → ORD false (mkQ (lN nn) A B o keys cents szs m (ptQ (lN nn) A B (alts p) p keys cents szs o zq)) o m → (∀ j, j ≠ 3 + p → c2 j = c0 j ∧ pi2 j = pi0 j ∧ mk2 j = mk0 j ∧ pt2 j = pt0 j) →
              wp_C_drawPart_L70 keys sizes cents an bn (lN nn) (nI (3 + p)) (nI o) (wp_C_drawPart_L45 (nI p) (nI pc) alts keys sizes cents an bn (lN nn) (nI (3 + p)) Q (f + 1)) (f2 + 1) (nI m) c2 pi2 mk2 pt2 := by
            intro f2
            induction f2 with
            | zero =>
              intro m c2 pi2 mk2 pt2 hm w1 w2 w3
              have : m = 8 := by omega
              subst this
              rw [wp_C_drawPart_L70]
              refine ⟨fun _ => ?_, fun hc => absurd (nI_le (a := 8) (Nat.le_refl _) (by decide)) hc⟩
              unfold wp_C_drawPart_J95
              intro x14 hx14
              rw [nI_1] at hx14; subst hx14
              exact ih (o + 1) _ _ _ _ (by omega) (by rw [eo]; exact w1) (by rw [eo]; exact w2.next (by omega)) w3
            | succ f2 ih2 =>
              intro m c2 pi2 mk2 pt2 hm w1 w2 w3
              rw [wp_C_drawPart_L70]
              refine ⟨fun hc => by have := ge_c (k := 8) (by decide) (by omega) hc; omega, fun _ => ?_⟩
              have ab := hAB m (by omega)
              refine sp_C_offerSteps (b := false) (by omega) (by omega) ⟨fun e => (by cases e), fun e => by omega⟩ (by omega) hL hn2 (by rw [ab.2.1]; exact ab.2.2) w1 w2 (fun c3 pi3 mk3 pt3 v1 v2 v3 x24 hx24 => ?_)
              rw [nI_1] at hx24; subst hx24
              rw [ab.1, ab.2.1] at v1 v2
              refine ih2 (m + 1) _ _ _ _ (by omega) v1 (v2.up (by omega)) (fun j hj => ?_)
              have a1 := v3 j hj
              have a2 := w3 j hj
              exact ⟨a1.1.trans a2.1, a1.2.1.trans a2.2.1, a1.2.2.1.trans a2.2.2.1, a1.2.2.2.trans a2.2.2.2⟩
          exact inner 8 0 c1 pi1 mk1 pt1 (by omega) q1 q2 q3
        · rw [if_neg hs]
          refine ⟨fun g => absurd rfl g, fun _ => ?_⟩
          have eo : ptQ (lN nn) A B (alts p) p keys cents szs (o + 1) zq = ptQ (lN nn) A B (alts p) p keys cents szs o zq := by
            conv => lhs; unfold ptQ
            rw [if_neg hs]
          unfold wp_C_drawPart_J95
          intro x14 hx14
          rw [nI_1] at hx14; subst hx14
          exact ih (o + 1) _ _ _ _ (by omega) (by rw [eo]; exact q1) (by rw [eo]; exact q2.next (by omega)) q3
    exact outer pc 0 c0 pi0 mk0 pt0 (by omega) hz (ORD_z _ _ _) (fun j _ => ⟨rfl, rfl, rfl, rfl⟩)
  · rw [hx1] at g1 g2
    exact h2 g1 g2
  · rw [hx1] at g1
    exact h1 g1
/-- the reference's buyPart -/
theorem sp_M_buyPart {p pc : Nat} {szs rz : Nat → Nat} {started day : Int64} {can : Int32} {uses stocks keys cents ab be dk c0 p0 : Nat → Int64} {alts sizes ds m0 t0 : Nat → Int32} {Q : Int32 → (Nat → Int64) → (Nat → Int64) → (Nat → Int32) → (Nat → Int32) → Prop}
    (hpc : pc ≤ 30) (hp : p < pc) (hL : LIs szs sizes keys) (hd : ∀ j, j < 8 → ds j = nI (rz j) ∧ rz j ≤ 6) (hbe : ∀ j k, j < 8 → k < rz j → 0 < be (6 * j + k)) (hz : (c0 (3 + p), p0 (3 + p), m0 (3 + p), t0 (3 + p)) = zq)
    (h1 : ¬ 0 < started * uses p - stocks p → Q can c0 p0 m0 t0)
    (h2 : 0 < started * uses p - stocks p → ¬ started * uses p - stocks p ≤ 1000000000 → Q 0 c0 p0 m0 t0)
    (h3 : 0 < started * uses p - stocks p → started * uses p - stocks p ≤ 1000000000 → ∀ c1 p1 m1 t1, (c1 (3 + p), p1 (3 + p), m1 (3 + p), t1 (3 + p)) = ptQ (started * uses p - stocks p) (rAF ab dk rz day) (rAF be dk rz day) (alts p) p keys cents szs pc zq → (∀ j, j ≠ 3 + p → c1 j = c0 j ∧ p1 j = p0 j ∧ m1 j = m0 j ∧ t1 j = t0 j) → Q (if p1 (3 + p) ≤ 0 then 0 else 1) c1 p1 m1 t1) :
    wp_M_buyPart (nI p) started day (nI pc) can sizes keys cents uses stocks alts ds dk ab be c0 p0 m0 t0 Q := by
  unfold wp_M_buyPart
  rw [nI_clamp (by omega)]
  refine ⟨vp_in_nI (by omega) (by decide), vp_in_nI (by omega) (by decide), fun x1 hx1 => ⟨fun g1 => ⟨fun g2 => ?_, fun g2 => ⟨Or.inl rfl, ?_⟩⟩, fun g1 => ?_⟩⟩
  · rw [← hx1] at h3
    have h3 := h3 g1 g2
    have e3 : 3 + nI p = nI (3 + p) := by show nI 3 + nI p = _; rw [nI_add]
    refine ⟨pc + 1, ?_⟩
    have outer : ∀ f o c1 p1 m1 t1, o + f = pc → (c1 (3 + p), p1 (3 + p), m1 (3 + p), t1 (3 + p)) = ptQ x1 (rAF ab dk rz day) (rAF be dk rz day) (alts p) p keys cents szs o zq → (∀ j, j ≠ 3 + p → c1 j = c0 j ∧ p1 j = p0 j ∧ m1 j = m0 j ∧ t1 j = t0 j) →
        wp_M_buyPart_L43 (nI p) day (nI pc) sizes keys cents alts ds dk ab be x1 Q (f + 1) (nI o) c1 p1 m1 t1 := by
      intro f
      induction f with
      | zero =>
        intro o c1 p1 m1 t1 hj q1 q3
        have : o = pc := by omega
        subst this
        rw [wp_M_buyPart_L43]
        refine ⟨fun _ => ?_, fun hc => absurd (nI_le (Nat.le_refl _) (by omega)) hc⟩
        rw [e3, nI_clamp (by omega)]
        have h4 := h3 c1 p1 m1 t1 q1 q3
        unfold wp_M_buyPart_J131
        refine ⟨vp_in_nI (by omega) (by decide), fun g => ⟨Or.inl rfl, ?_⟩, fun g => ⟨Or.inr rfl, ?_⟩⟩
        · rw [if_pos g] at h4; exact h4
        · rw [if_neg g] at h4; exact h4
      | succ f ih =>
        intro o c1 p1 m1 t1 hj q1 q3
        have yes : stB (alts p) o p = true → wp_M_buyPart_J75 (nI p) day sizes keys cents ds dk ab be x1 (nI o) c1 p1 m1 t1 (wp_M_buyPart_L43 (nI p) day (nI pc) sizes keys cents alts ds dk ab be x1 Q (f + 1)) := by
          intro hs
          have eo : ptQ x1 (rAF ab dk rz day) (rAF be dk rz day) (alts p) p keys cents szs (o + 1) zq = mkQ x1 (rAF ab dk rz day) (rAF be dk rz day) o keys cents szs 8 (ptQ x1 (rAF ab dk rz day) (rAF be dk rz day) (alts p) p keys cents szs o zq) := by
            conv => lhs; unfold ptQ
            rw [if_pos hs]
          unfold wp_M_buyPart_J75
          refine ⟨9, ?_⟩
          have inner : ∀ f2 m c2 p2 m2 t2, m + f2 = 8 → (c2 (3 + p), p2 (3 + p), m2 (3 + p), t2 (3 + p)) = mkQ x1 (rAF ab dk rz day) (rAF be dk rz day) o keys cents szs m (ptQ x1 (rAF ab dk rz day) (rAF be dk rz day) (alts p) p keys cents szs o zq) → (∀ j, j ≠ 3 + p → c2 j = c0 j ∧ p2 j = p0 j ∧ m2 j = m0 j ∧ t2 j = t0 j) →
              wp_M_buyPart_L78 (nI p) day sizes keys cents ds dk ab be x1 (nI o) (wp_M_buyPart_L43 (nI p) day (nI pc) sizes keys cents alts ds dk ab be x1 Q (f + 1)) (f2 + 1) (nI m) c2 p2 m2 t2 := by
            intro f2
            induction f2 with
            | zero =>
              intro m c2 p2 m2 t2 hm w1 w3
              have : m = 8 := by omega
              subst this
              rw [wp_M_buyPart_L78]
              refine ⟨fun _ => ?_, fun hc => absurd (nI_le (a := 8) (Nat.le_refl _) (by decide)) hc⟩
              unfold wp_M_buyPart_J106
              intro x14 hx14
              rw [nI_1] at hx14; subst hx14
              exact ih (o + 1) _ _ _ _ (by omega) (by rw [eo]; exact w1) w3
            | succ f2 ih2 =>
              intro m c2 p2 m2 t2 hm w1 w3
              rw [wp_M_buyPart_L78]
              refine ⟨fun hc => by have := ge_c (k := 8) (by decide) (by omega) hc; omega, fun _ => ?_⟩
              obtain ⟨hs1, hs2, -⟩ := hL (8 * o + m) (by omega)
              rw [e3]
              refine sp_M_offer (by omega) (by omega) (by omega) hs1 hs2 hd hbe (fun c3 p3 m3 t3 v1 v3 x24 hx24 => ?_)
              rw [nI_1] at hx24; subst hx24
              rw [w1] at v1
              refine ih2 (m + 1) _ _ _ _ (by omega) v1 (fun j hj => ?_)
              have a1 := v3 j hj
              have a2 := w3 j hj
              exact ⟨a1.1.trans a2.1, a1.2.1.trans a2.2.1, a1.2.2.1.trans a2.2.2.1, a1.2.2.2.trans a2.2.2.2⟩
          exact inner 8 0 c1 p1 m1 t1 (by omega) q1 q3
        rw [wp_M_buyPart_L43]
        refine ⟨fun hc => by have := ge_c (by omega) (by omega) hc; omega, fun _ => ⟨fun g => yes ?_, fun g => ?_⟩⟩
        · have : o = p := (nI_eq (by omega) (by omega)).mp g
          simp [stB, this]
        · rw [nI_clamp (n := p) (by omega)]
          refine ⟨vp_in_nI (by omega) (by decide), fun g2 => yes ?_, fun g2 => ?_⟩
          · have : bt (alts p) o = true := by
              cases hb : bt (alts p) o with
              | true => rfl
              | false => exact absurd ((bit_r (by omega)).mpr hb) g2
            simp [stB, this]
          · have hb := (bit_r (by omega)).mp g2
            have hne : ¬ o = p := fun e => g (by rw [e])
            have eo : ptQ x1 (rAF ab dk rz day) (rAF be dk rz day) (alts p) p keys cents szs (o + 1) zq = ptQ x1 (rAF ab dk rz day) (rAF be dk rz day) (alts p) p keys cents szs o zq := by
              conv => lhs; unfold ptQ
              rw [if_neg (by simp [stB, hne, hb])]
            unfold wp_M_buyPart_J106
            intro x14 hx14
            rw [nI_1] at hx14; subst hx14
            exact ih (o + 1) _ _ _ _ (by omega) (by rw [eo]; exact q1) q3
    exact outer pc 0 c0 p0 m0 t0 (by omega) hz (fun j _ => ⟨rfl, rfl, rfl, rfl⟩)
  · rw [hx1] at g1 g2
    exact h2 g1 g2
  · rw [hx1] at g1
    exact h1 g1
