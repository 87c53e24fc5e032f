/-! the mathematics, part D: boards started, rates turned to, a row's best offer -/
theorem sp_divideUp {a d : Int64} {Q : Int64 → Prop} (hd : 0 < d) (h : Q ((a + d - 1) / d)) : wp_C_divideUp a d Q := by
  unfold wp_C_divideUp
  exact ⟨fun _ => ⟨fun e => by rw [e] at hd; exact absurd hd (by decide), h⟩, fun q => absurd hd q⟩
theorem sp_M_up {a d : Int64} {Q : Int64 → Prop} (hd : 0 < d) (h : Q ((a + d - 1) / d)) : wp_M_up a d Q := by
  unfold wp_M_up
  exact ⟨fun e => by rw [e] at hd; exact absurd hd (by decide), h⟩
def stF (yab ybe : Nat → Int64) : Nat → Int64 → Int64
  | 0, n => n
  | k + 1, n => if 1000000000 < n then n else stF yab ybe k ((n * ybe k + yab k - 1) / yab k)
theorem nI_dec (k : Nat) : nI k + (-1) = nI k - 1 := by
  rw [Int32.sub_eq_add_neg]
theorem sp_Y_startedFor {q : Int64} {y : Nat} {yab ybe : Nat → Int64} {Q : Int64 → Prop} (hy : y ≤ 8) (hpos : ∀ j, j < y → 0 < yab j) (h : Q (stF yab ybe y q)) : wp_Y_startedFor q (nI y) yab ybe Q := by
  unfold wp_Y_startedFor
  intro x1 hx1
  subst hx1
  refine ⟨y + 1, ?_⟩
  have key9 : ∀ k n, k ≤ y → Q (stF yab ybe k n) → wp_Y_startedFor_L10 yab ybe Q (k + 1) n (nI k - 1) := by
    intro k
    induction k with
    | zero =>
      intro n _ hq
      rw [wp_Y_startedFor_L10]
      refine ⟨fun _ => hq, fun q => absurd (by decide) q⟩
    | succ k ih =>
      intro n hk hq
      rw [wp_Y_startedFor_L10, nI_pred]
      refine ⟨fun q => absurd q (nI_pos (by omega)), fun _ => ⟨fun g => ?_, fun g => ⟨vp_in_nI (by omega) (by decide), vp_in_nI (by omega) (by decide), ?_⟩⟩⟩
      · unfold stF at hq
        rw [if_pos g] at hq
        exact hq
      · rw [nI_clamp (by omega)]
        refine sp_divideUp (hpos k (by omega)) (fun x5 hx5 => ?_)
        rw [nI_dec] at hx5
        subst hx5
        unfold stF at hq
        rw [if_neg g] at hq
        exact ih _ (by omega) hq
  exact key9 y q (Nat.le_refl _) h
theorem sp_M_started {q : Int64} {y : Nat} {yab ybe : Nat → Int64} {Q : Int64 → Prop} (hy : y ≤ 8) (hpos : ∀ j, j < y → 0 < yab j) (h : Q (stF yab ybe y q)) : wp_M_started q (nI y) yab ybe Q := by
  unfold wp_M_started
  intro x1 hx1
  subst hx1
  refine ⟨y + 1, ?_⟩
  have key9 : ∀ k n, k ≤ y → Q (stF yab ybe k n) → wp_M_started_L10 yab ybe Q (k + 1) n (nI k - 1) := by
    intro k
    induction k with
    | zero =>
      intro n _ hq
      rw [wp_M_started_L10]
      refine ⟨fun _ => hq, fun q => absurd (by decide) q⟩
    | succ k ih =>
      intro n hk hq
      rw [wp_M_started_L10, nI_pred]
      refine ⟨fun q => absurd q (nI_pos (by omega)), fun _ => ⟨fun g => ?_, fun g => ⟨vp_in_nI (by omega) (by decide), vp_in_nI (by omega) (by decide), ?_⟩⟩⟩
      · unfold stF at hq
        rw [if_pos g] at hq
        exact hq
      · rw [nI_clamp (by omega)]
        refine sp_M_up (hpos k (by omega)) (fun x5 hx5 => ?_)
        rw [nI_dec] at hx5
        subst hx5
        unfold stF at hq
        rw [if_neg g] at hq
        exact ih _ (by omega) hq
  exact key9 y q (Nat.le_refl _) h
/-- boards started are a natural number -/
theorem stF_nat {yab ybe : Nat → Int64} : ∀ (k a : Nat), (∀ j, j < k → ∃ c b, yab j = lN c ∧ ybe j = lN b ∧ 1 ≤ c ∧ c ≤ 1000 ∧ 1 ≤ b ∧ b ≤ 1000) → a ≤ 2000000000000 → ∃ r, r ≤ 2000000000000 ∧ stF yab ybe k (lN a) = lN r
  | 0, a, _, ha => ⟨a, ha, rfl⟩
  | k + 1, a, h, ha => by
    unfold stF
    by_cases g : (1000000000 : Int64) < lN a
    · rw [if_pos g]; exact ⟨a, ha, rfl⟩
    · rw [if_neg g]
      obtain ⟨c, b, e1, e2, c1, c2, b1, b2⟩ := h k (by omega)
      have ga : a ≤ 1000000000 := by
        rcases Nat.lt_or_ge 1000000000 a with q | q
        · exact absurd ((pk_lLT (a := 1000000000) (by decide) (by omega)).mpr q) g
        · exact q
      have hab : a * b ≤ 1000000000 * 1000 := Nat.mul_le_mul ga b2
      have e3 : (lN a * ybe k + yab k - 1) / yab k = lN ((a * b + c - 1) / c) := by
        rw [e1, e2, lN_mul, lN_add, show (1 : Int64) = lN 1 from rfl, lN_sub (by omega), pk_lDiv (by omega) (by omega) (by omega)]
      rw [e3]
      have hd : (a * b + c - 1) / c ≤ a * b + c - 1 := Nat.div_le_self _ _
      exact stF_nat k _ (fun j hj => h j (by omega)) (by omega)
def rAF (tab keys : Nat → Int64) (sz : Nat → Nat) (day : Int64) (m : Nat) : Int64 := if latF keys day (6 * m) (sz m) = -1 then 1 else tab (latF keys day (6 * m) (sz m)).toNatClampNeg
theorem sp_Ra_turnTo {sz : Nat → Nat} {day : Int64} {keys ab be an bn : Nat → Int64} {sizes : Nat → Int32} {Q : (Nat → Int64) → (Nat → Int64) → Prop} (hs : ∀ m, m < 8 → sizes m = nI (sz m) ∧ sz m ≤ 6)
    (h : ∀ f g, (∀ m, m < 8 → f m = rAF ab keys sz day m ∧ g m = rAF be keys sz day m) → Q f g) : wp_Ra_turnTo day keys sizes ab be an bn Q := by
  unfold wp_Ra_turnTo
  refine ⟨9, ?_⟩
  have key9 : ∀ f j an bn, j + f = 8 → (∀ m, m < j → an m = rAF ab keys sz day m ∧ bn m = rAF be keys sz day m) → wp_Ra_turnTo_L2 day keys sizes ab be Q (f + 1) (nI j) an bn := by
    intro f
    induction f with
    | zero =>
      intro j an bn hj hi
      rw [wp_Ra_turnTo_L2]
      exact ⟨fun _ => h an bn (fun m hm => hi m (by omega)), fun q => absurd (nI_le (a := 8) (by omega) (by omega)) q⟩
    | succ f ih =>
      intro j an bn hj hi
      rw [wp_Ra_turnTo_L2]
      refine ⟨fun q => by have := ge_c (k := 8) (by omega) (by omega) q; omega, fun _ => sp_Ra_latestSlot (by omega) (hs j (by omega)).1 (hs j (by omega)).2 ?_⟩
      have fin : ∀ x y, x = rAF ab keys sz day j → y = rAF be keys sz day j → wp_Ra_turnTo_L2 day keys sizes ab be Q (f + 1) (nI (j + 1)) (vp_updL an j x) (vp_updL bn j y) := by
        intro x y hx hy
        refine ih (j + 1) _ _ (by omega) (fun m hm => ?_)
        unfold vp_updL
        by_cases hmj : m = j
        · subst hmj; rw [if_pos rfl, if_pos rfl]; exact ⟨hx, hy⟩
        · rw [if_neg hmj, if_neg hmj]; exact hi m (by omega)
      have hz := hs j (by omega)
      rcases latF_in keys day (6 * j) (sz j) with q | ⟨i, q1, q2⟩
      · refine ⟨fun g => absurd q g, fun _ => ?_⟩
        unfold wp_Ra_turnTo_J38 wp_Ra_turnTo_J61
        refine ⟨vp_in_nI (by omega) (by decide), fun f6 hf6 => ⟨fun g => absurd q g, fun _ => ⟨vp_in_nI (by omega) (by decide), fun f8 hf8 x9 hx9 => ?_⟩⟩⟩
        rw [nI_clamp (by omega)] at hf6 hf8
        rw [nI_1] at hx9
        subst hf6; subst hf8; subst hx9
        exact fin 1 1 (by unfold rAF; rw [if_pos q]) (by unfold rAF; rw [if_pos q])
      · have hn : ¬ latF keys day (6 * j) (sz j) = -1 := by rw [q2]; exact nI_m1 (by omega)
        refine ⟨fun _ => ⟨by rw [q2]; exact vp_in_nI (by omega) (by decide), ?_⟩, fun g => absurd g hn⟩
        unfold wp_Ra_turnTo_J38 wp_Ra_turnTo_J61
        refine ⟨vp_in_nI (by omega) (by decide), fun f6 hf6 => ⟨fun _ => ⟨by rw [q2]; exact vp_in_nI (by omega) (by decide), vp_in_nI (by omega) (by decide), fun f8 hf8 x9 hx9 => ?_⟩, fun g => absurd g hn⟩⟩
        rw [nI_clamp (n := j) (by omega)] at hf6 hf8
        rw [nI_1] at hx9
        subst hf6; subst hf8; subst hx9
        exact fin _ _ (by unfold rAF; rw [if_neg hn]) (by unfold rAF; rw [if_neg hn])
  exact key9 8 0 an bn (by omega) (fun m hm => absurd hm (Nat.not_lt_zero m))
/-! a row: cost, pieces, maker, part -/
abbrev QD : Type := Int64 × Int64 × Int32 × Int32
def zq : QD := (0, 0, -1, -1)
def tof (need frm : Int64) : Int64 := if frm < need then need else frm
def cof (a b t cts : Int64) : Int64 := (t * cts * a + b - 1) / b
def stp (need a b : Int64) (p m : Int32) (frm cts : Int64) (q : QD) : QD :=
  if q.2.1 = 0 ∨ cof a b (tof need frm) cts < q.1 ∨ (cof a b (tof need frm) cts = q.1 ∧ q.2.2.1 = m ∧ q.2.2.2 = p ∧ tof need frm < q.2.1) then (cof a b (tof need frm) cts, tof need frm, m, p) else q
def offQ (need a b : Int64) (p m : Int32) (keys cents : Nat → Int64) (base : Nat) : Nat → QD → QD
  | 0, q => q
  | k + 1, q => stp need a b p m (keys (base + k)) (cents (base + k)) (offQ need a b p m keys cents base k q)
theorem cof1 (t cts : Int64) : cof 1 1 t cts = t * cts := by
  unfold cof
  rw [Int64.mul_one, Int64.add_sub_cancel, Int64.div_one]
theorem up_at {f : Nat → Int64} {k : Nat} {x : Int64} : vp_updL f k x k = x := by simp [vp_updL]
theorem up_ne {f : Nat → Int64} {k j : Nat} {x : Int64} (h : j ≠ k) : vp_updL f k x j = f j := by simp [vp_updL, h]
theorem ui_at {f : Nat → Int32} {k : Nat} {x : Int32} : upd f k x k = x := pk_us
theorem ui_ne {f : Nat → Int32} {k j : Nat} {x : Int32} (h : j ≠ k) : upd f k x j = f j := pk_un h
/-- the reference's offer -/
theorem sp_M_offer {r p m sz : Nat} {rz : Nat → Nat} {need day : Int64} {keys cents ab be dk c0 p0 : Nat → Int64} {sizes ds m0 t0 : Nat → Int32} {Q : (Nat → Int64) → (Nat → Int64) → (Nat → Int32) → (Nat → Int32) → Prop}
    (hr : r < 33) (hp : p ≤ 30) (hm : m < 8) (hs : sizes (8 * p + m) = nI sz) (hsz : sz ≤ 6) (hd : ∀ j, j < 8 → ds j = nI (rz j) ∧ rz j ≤ 6) (hbe : ∀ j k, j < 8 → k < rz j → 0 < be (6 * j + k))
    (h : ∀ c1 p1 m1 t1, (c1 r, p1 r, m1 r, t1 r) = offQ need (rAF ab dk rz day m) (rAF be dk rz day m) (nI p) (nI m) keys cents (6 * (8 * p + m)) sz (c0 r, p0 r, m0 r, t0 r) → (∀ j, j ≠ r → c1 j = c0 j ∧ p1 j = p0 j ∧ m1 j = m0 j ∧ t1 j = t0 j) → Q c1 p1 m1 t1) :
    wp_M_offer (nI r) (nI p) (nI m) need day sizes keys cents ds dk ab be c0 p0 m0 t0 Q := by
  unfold wp_M_offer
  intro x1 hx1
  have e1 : x1 = nI (8 * p + m) := by
    rw [hx1]; show nI 8 * nI p + nI m = _
    rw [pk_mul, nI_add]
  subst e1
  have hz := hd m hm
  refine sp_M_rateOf hm hz.1 hz.2 (fun x3 hx3 => ?_)
  rw [nI_6mul] at hx3
  subst hx3
  refine ⟨sz + 1, ?_⟩
  have e : 6 * nI (8 * p + m) + sizes (nI (8 * p + m)).toNatClampNeg = nI (6 * (8 * p + m) + sz) := by rw [nI_clamp (by omega), hs, nI_6mul, nI_add]
  have key9 : ∀ f j c1 p1 m1 t1, j + f = sz → (c1 r, p1 r, m1 r, t1 r) = offQ need (rAF ab dk rz day m) (rAF be dk rz day m) (nI p) (nI m) keys cents (6 * (8 * p + m)) j (c0 r, p0 r, m0 r, t0 r) → (∀ j, j ≠ r → c1 j = c0 j ∧ p1 j = p0 j ∧ m1 j = m0 j ∧ t1 j = t0 j) →
      wp_M_offer_L24 (nI r) (nI p) (nI m) need sizes keys cents ab be (nI (8 * p + m)) (latF dk day (6 * m) (rz m)) Q (f + 1) (nI (6 * (8 * p + m) + j)) c1 p1 m1 t1 := by
    intro f
    induction f with
    | zero =>
      intro j c1 p1 m1 t1 hj hq ho
      rw [wp_M_offer_L24, e]
      refine ⟨vp_in_nI (by omega) (by decide), fun _ => h c1 p1 m1 t1 (by rw [hq, show j = sz by omega]) ho, fun hc => absurd (nI_le (by omega) (by omega)) hc⟩
    | succ f ih =>
      intro j c1 p1 m1 t1 hj hq ho
      have fin : wp_M_offer_J67 (nI r) (nI p) (nI m) cents ab be (latF dk day (6 * m) (rz m)) (nI (6 * (8 * p + m) + j)) c1 p1 m1 t1 (wp_M_offer_L24 (nI r) (nI p) (nI m) need sizes keys cents ab be (nI (8 * p + m)) (latF dk day (6 * m) (rz m)) Q (f + 1)) (tof need (keys (6 * (8 * p + m) + j))) := by
        have tail : wp_M_offer_J116 (nI r) (nI p) (nI m) (nI (6 * (8 * p + m) + j)) c1 p1 m1 t1 (tof need (keys (6 * (8 * p + m) + j))) (wp_M_offer_L24 (nI r) (nI p) (nI m) need sizes keys cents ab be (nI (8 * p + m)) (latF dk day (6 * m) (rz m)) Q (f + 1)) (cof (rAF ab dk rz day m) (rAF be dk rz day m) (tof need (keys (6 * (8 * p + m) + j))) (cents (6 * (8 * p + m) + j))) := by
          generalize hC : cof (rAF ab dk rz day m) (rAF be dk rz day m) (tof need (keys (6 * (8 * p + m) + j))) (cents (6 * (8 * p + m) + j)) = cc
          generalize hT : tof need (keys (6 * (8 * p + m) + j)) = tt
          have take : (p1 r = 0 ∨ cc < c1 r ∨ (cc = c1 r ∧ m1 r = nI m ∧ t1 r = nI p ∧ tt < p1 r)) → wp_M_offer_J185 (nI r) (nI p) (nI m) (nI (6 * (8 * p + m) + j)) c1 p1 m1 t1 tt cc (wp_M_offer_L24 (nI r) (nI p) (nI m) need sizes keys cents ab be (nI (8 * p + m)) (latF dk day (6 * m) (rz m)) Q (f + 1)) := by
            intro hk
            unfold wp_M_offer_J185 wp_M_offer_J190 wp_M_offer_J230
            refine ⟨fun _ => ⟨vp_in_nI hr (by decide), fun f17 h17 => ⟨vp_in_nI hr (by decide), fun f18 h18 => ⟨vp_in_nI hr (by decide), fun f19 h19 => ⟨vp_in_nI hr (by decide), fun f20 h20 x16 hx16 => ?_⟩⟩⟩⟩, fun q => absurd q (by decide)⟩
            rw [nI_clamp (by omega)] at h17 h18 h19 h20
            rw [nI_1] at hx16
            subst h17; subst h18; subst h19; subst h20; subst hx16
            refine ih (j + 1) _ _ _ _ (by omega) ?_ (fun i hi => ?_)
            · rw [up_at, up_at, ui_at, ui_at]
              show _ = stp _ _ _ _ _ _ _ (offQ _ _ _ _ _ _ _ _ j _)
              rw [← hq]
              unfold stp
              rw [hC, hT, if_pos hk]
            · rw [up_ne hi, up_ne hi, ui_ne hi, ui_ne hi]
              exact ho i hi
          have leave : ¬ (p1 r = 0 ∨ cc < c1 r ∨ (cc = c1 r ∧ m1 r = nI m ∧ t1 r = nI p ∧ tt < p1 r)) → wp_M_offer_J189 (nI r) (nI p) (nI m) (nI (6 * (8 * p + m) + j)) c1 p1 m1 t1 tt cc (wp_M_offer_L24 (nI r) (nI p) (nI m) need sizes keys cents ab be (nI (8 * p + m)) (latF dk day (6 * m) (rz m)) Q (f + 1)) := by
            intro hk
            unfold wp_M_offer_J189 wp_M_offer_J190 wp_M_offer_J230
            refine ⟨fun q => absurd rfl q, fun _ x16 hx16 => ?_⟩
            rw [nI_1] at hx16
            subst hx16
            refine ih (j + 1) _ _ _ _ (by omega) ?_ ho
            show _ = stp _ _ _ _ _ _ _ (offQ _ _ _ _ _ _ _ _ j _)
            rw [← hq]
            unfold stp
            rw [hC, hT, if_neg hk]
          unfold wp_M_offer_J116
          rw [nI_clamp (n := r) (by omega)]
          refine ⟨vp_in_nI hr (by decide), fun g => take (Or.inl g), fun g0 => ⟨vp_in_nI hr (by decide), fun g => take (Or.inr (Or.inl g)), fun g1 => ⟨vp_in_nI hr (by decide), fun g => leave (fun z => ?_), fun g2 => ⟨vp_in_nI hr (by decide), fun g => leave (fun z => ?_), fun g3 => ⟨vp_in_nI hr (by decide), fun g => leave (fun z => ?_), fun g4 => ⟨vp_in_nI hr (by decide), fun g => leave (fun z => ?_), fun g => take (Or.inr (Or.inr ⟨g2, g3, g4, ?_⟩))⟩⟩⟩⟩⟩⟩
          · rcases z with z | z | z
            · exact g0 z
            · exact g1 z
            · exact g z.1
          · rcases z with z | z | z
            · exact g0 z
            · exact g1 z
            · exact g z.2.1
          · rcases z with z | z | z
            · exact g0 z
            · exact g1 z
            · exact g z.2.2.1
          · rcases z with z | z | z
            · exact g0 z
            · exact g1 z
            · have := z.2.2.2
              rw [i64_lt] at this
              rw [i64_le] at g
              omega
          · rw [i64_lt]
            rw [i64_le] at g
            omega
        unfold wp_M_offer_J67
        rw [nI_clamp (n := 6 * (8 * p + m) + j) (by omega)]
        rcases latF_in dk day (6 * m) (rz m) with q | ⟨i, q1, q2⟩
        · refine ⟨fun g => absurd q g, fun _ => ⟨vp_in_nI (by omega) (by decide), ?_⟩⟩
          have ea : rAF ab dk rz day m = 1 := by unfold rAF; rw [if_pos q]
          have eb : rAF be dk rz day m = 1 := by unfold rAF; rw [if_pos q]
          rw [ea, eb, cof1] at tail
          exact tail
        · have hn : ¬ latF dk day (6 * m) (rz m) = -1 := by rw [q2]; exact nI_m1 (by omega)
          have ea : rAF ab dk rz day m = ab (6 * m + i) := by unfold rAF; rw [if_neg hn, q2, nI_clamp (by omega)]
          have eb : rAF be dk rz day m = be (6 * m + i) := by unfold rAF; rw [if_neg hn, q2, nI_clamp (by omega)]
          refine ⟨fun _ => ⟨vp_in_nI (by omega) (by decide), by rw [q2]; exact vp_in_nI (by omega) (by decide), by rw [q2]; exact vp_in_nI (by omega) (by decide), ?_⟩, fun g => absurd g hn⟩
          have eq9 : (latF dk day (6 * m) (rz m)).toNatClampNeg = 6 * m + i := by rw [q2, nI_clamp (by omega)]
          rw [eq9]
          refine sp_M_up (hbe m i hm q1) ?_
          rw [ea, eb] at tail
          exact tail
      rw [wp_M_offer_L24, e]
      refine ⟨vp_in_nI (by omega) (by decide), fun hc => ?_, fun _ => ⟨vp_in_nI (by omega) (by decide), fun g => ?_, fun g => ⟨vp_in_nI (by omega) (by decide), ?_⟩⟩⟩
      · have := ge_c (by omega) (by omega) hc
        omega
      · rw [nI_clamp (by omega)] at g
        have et : tof need (keys (6 * (8 * p + m) + j)) = need := by
          unfold tof
          by_cases g2 : keys (6 * (8 * p + m) + j) < need
          · rw [if_pos g2]
          · rw [if_neg g2]
            rw [i64_lt] at g2
            rw [i64_le] at g
            exact Int64.toInt_inj.mp (by omega)
        rw [et] at fin
        exact fin
      · rw [nI_clamp (by omega)] at g ⊢
        have et : tof need (keys (6 * (8 * p + m) + j)) = keys (6 * (8 * p + m) + j) := by
          unfold tof
          rw [if_neg (fun g2 => g (by rw [i64_lt] at g2; rw [i64_le]; omega))]
        rw [et] at fin
        exact fin
  exact key9 sz 0 c0 p0 m0 t0 (by omega) rfl (fun j _ => ⟨rfl, rfl, rfl, rfl⟩)
