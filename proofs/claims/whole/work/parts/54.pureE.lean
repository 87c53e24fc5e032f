/-! the mathematics, part E: bits (a family of kit/laws/BITS.to-paste), a row of the class beside the reference's -/
/-! ===== Int32 by its bits: bt x i ===== -/
def bt (x : Int32) (i : Nat) : Bool := x.toBitVec.getLsbD i
theorem b_ext {x y : Int32} (h : ∀ i, i < 32 → bt x i = bt y i) : x = y := Int32.toBitVec_inj.mp (BitVec.eq_of_getLsbD_eq (fun i hi => h i hi))
theorem b_or (x y : Int32) (i : Nat) : bt (x ||| y) i = (bt x i || bt y i) := by unfold bt; rw [Int32.toBitVec_or, BitVec.getLsbD_or]
theorem b_and (x y : Int32) (i : Nat) : bt (x &&& y) i = (bt x i && bt y i) := by unfold bt; rw [Int32.toBitVec_and, BitVec.getLsbD_and]
theorem b_xor (x y : Int32) (i : Nat) : bt (x ^^^ y) i = (bt x i ^^ bt y i) := by unfold bt; rw [Int32.toBitVec_xor, BitVec.getLsbD_xor]
theorem b_big {x : Int32} {i : Nat} (h : 32 ≤ i) : bt x i = false := BitVec.getLsbD_of_ge _ _ h
theorem b_255 (i : Nat) : bt 255 i = decide (i < 8) := by
  rcases Nat.lt_or_ge i 32 with h | h
  · exact (by decide +kernel : ∀ i, i < 32 → bt 255 i = decide (i < 8)) i h
  · rw [b_big h, decide_eq_false (by omega)]
theorem b_65535 (i : Nat) : bt 65535 i = decide (i < 16) := by
  rcases Nat.lt_or_ge i 32 with h | h
  · exact (by decide +kernel : ∀ i, i < 32 → bt 65535 i = decide (i < 16)) i h
  · rw [b_big h, decide_eq_false (by omega)]
theorem b_m1 : ∀ i, i < 32 → bt (-1) i = true := by decide +kernel
theorem b_0 (i : Nat) : bt 0 i = false := BitVec.getLsbD_zero
theorem s_l : ∀ n, n < 32 → ((nI n &&& 31).toBitVec.smod 32).toNat = n := by decide +kernel
theorem s_u : ∀ n, n < 32 → (((nI n).toUInt32 &&& Int32.toUInt32 31).toBitVec % 32).toNat = n := by decide +kernel
theorem b_shl (n : Nat) (hn : n < 32) (x : Int32) {i : Nat} (hi : i < 32) : bt (x <<< (nI n &&& 31)) i = (decide (n ≤ i) && bt x (i - n)) := by
  unfold bt
  rw [Int32.toBitVec_shiftLeft]
  show (x.toBitVec <<< ((nI n &&& 31).toBitVec.smod 32).toNat).getLsbD i = _
  rw [s_l n hn, BitVec.getLsbD_shiftLeft]
  rcases Nat.lt_or_ge i n with h | h
  · simp [h, Nat.not_le.mpr h]
  · simp [hi, h, Nat.not_lt.mpr h]
theorem b_ushr (n : Nat) (hn : n < 32) (x : Int32) (i : Nat) : bt ((x.toUInt32 >>> ((nI n).toUInt32 &&& Int32.toUInt32 31)).toInt32) i = bt x (n + i) := by
  show (x.toUInt32 >>> ((nI n).toUInt32 &&& Int32.toUInt32 31)).toBitVec.getLsbD i = x.toUInt32.toBitVec.getLsbD (n + i)
  rw [UInt32.toBitVec_shiftRight]
  show (x.toUInt32.toBitVec >>> (((nI n).toUInt32 &&& Int32.toUInt32 31).toBitVec % 32).toNat).getLsbD i = _
  rw [s_u n hn, BitVec.getLsbD_ushiftRight]
theorem b_sshr (n : Nat) (hn : n < 32) (x : Int32) {i : Nat} (hi : i < 32) : bt (x >>> (nI n &&& 31)) i = if n + i < 32 then bt x (n + i) else bt x 31 := by
  unfold bt
  rw [Int32.toBitVec_shiftRight]
  show (x.toBitVec.sshiftRight ((nI n &&& 31).toBitVec.smod 32).toNat).getLsbD i = _
  rw [s_l n hn, BitVec.getLsbD_sshiftRight, BitVec.msb_eq_getLsbD_last]
  simp [hi]
theorem b_1 (i : Nat) : bt 1 i = decide (i = 0) := by
  rcases Nat.lt_or_ge i 32 with h | h
  · exact (by decide +kernel : ∀ i, i < 32 → bt 1 i = decide (i = 0)) i h
  · rw [b_big h, decide_eq_false (by omega)]
theorem bit_r {x : Int32} {l : Nat} (hl : l < 32) : ((x >>> (nI l &&& 31)) &&& 1) = 0 ↔ bt x l = false := by
  constructor
  · intro h
    have h1 : bt ((x >>> (nI l &&& 31)) &&& 1) 0 = bt 0 0 := by rw [h]
    rw [b_and, b_sshr l hl x (by decide), b_1, b_0, if_pos (by omega)] at h1
    simpa using h1
  · intro h
    refine b_ext (fun i hi => ?_)
    rw [b_and, b_sshr l hl x hi, b_1, b_0]
    by_cases h0 : i = 0
    · subst h0; rw [if_pos (by omega)]; simp [h]
    · simp [h0]
theorem bit_r1 {x : Int32} {l : Nat} (hl : l < 32) : ((x >>> (nI l &&& 31)) &&& 1) = 1 ↔ bt x l = true := by
  constructor
  · intro h
    cases hb : bt x l with
    | true => rfl
    | false => rw [(bit_r hl).mpr hb] at h; exact absurd h (by decide)
  · intro h
    refine b_ext (fun i hi => ?_)
    rw [b_and, b_sshr l hl x hi, b_1]
    by_cases h0 : i = 0
    · subst h0; rw [if_pos (by omega)]; simp [h]
    · simp [h0]
theorem bit_l {x : Int32} {l : Nat} (hl : l < 32) : (x &&& (1 <<< (nI l &&& 31))) = 0 ↔ bt x l = false := by
  constructor
  · intro h
    have h1 : bt (x &&& (1 <<< (nI l &&& 31))) l = bt 0 l := by rw [h]
    rw [b_and, b_shl l hl 1 hl, b_1, b_0] at h1
    simpa using h1
  · intro h
    refine b_ext (fun i hi => ?_)
    rw [b_and, b_shl l hl 1 hi, b_1, b_0]
    by_cases h0 : i = l
    · subst h0; simp [h]
    · rcases Nat.lt_or_ge i l with q | q
      · simp [Nat.not_le.mpr q]
      · have : ¬ i - l = 0 := by omega
        simp [this]
/-! a row of the class beside the reference's -/
def RQ (b : Bool) (c : Int64) (pi mk pt : Int32) (q : QD) : Prop :=
  c = q.1 ∧ mk = q.2.2.1 ∧ pi = q.2.1.toInt32 ∧ pt = (if b then -1 else q.2.2.2) ∧ ((q.2.1 = 0 ∧ q.2.2.1 = -1) ∨ ∃ tt mm : Nat, q.2.1 = lN tt ∧ 1 ≤ tt ∧ tt ≤ 1000000000 ∧ mm < 8 ∧ q.2.2.1 = nI mm)
def ORD (b : Bool) (q : QD) (p m : Nat) : Prop := q.2.1 = 0 ∨ ∃ pp mm : Nat, q.2.2.2 = nI pp ∧ q.2.2.1 = nI mm ∧ pp ≤ p ∧ mm < 8 ∧ (pp = p → mm ≤ m) ∧ (b = true → pp = p)
theorem RQ_z (b : Bool) : RQ b 0 0 (-1) (-1) zq := ⟨rfl, rfl, by decide, by cases b <;> rfl, Or.inl ⟨rfl, rfl⟩⟩
theorem ORD_z (b : Bool) (p m : Nat) : ORD b zq p m := Or.inl rfl
theorem ORD.up {b : Bool} {q : QD} {p m m2 : Nat} (h : ORD b q p m) (hm : m ≤ m2) : ORD b q p m2 := by
  rcases h with h | ⟨pp, mm, h1, h2, h3, h4, h5, h6⟩
  · exact Or.inl h
  · exact Or.inr ⟨pp, mm, h1, h2, h3, h4, fun e => Nat.le_trans (h5 e) hm, h6⟩
theorem ORD.next {q : QD} {p m p2 m2 : Nat} (h : ORD false q p m) (hp : p < p2) : ORD false q p2 m2 := by
  rcases h with h | ⟨pp, mm, h1, h2, h3, h4, h5, h6⟩
  · exact Or.inl h
  · exact Or.inr ⟨pp, mm, h1, h2, by omega, h4, fun e => by omega, fun e => by cases e⟩
theorem sp_isBought {r : Nat} {mk : Nat → Int32} {Q : Int32 → Prop} (hr : r < 33) (h : Q (if mk r = -1 then 0 else 1)) : wp_Q_isBought (nI r) mk Q := by
  unfold wp_Q_isBought wp_Q_isBought_J15
  rw [nI_clamp (by omega)]
  refine ⟨vp_in_nI hr (by decide), fun g => ⟨Or.inl rfl, ?_⟩, fun g => ⟨Or.inr rfl, ?_⟩⟩
  · rw [if_pos g] at h; exact h
  · rw [if_neg g] at h; exact h
def takes (cost : Int64) (part maker count : Int32) (c : Int64) (pi mk pt : Int32) : Prop := mk = -1 ∨ cost < c ∨ (cost = c ∧ (part < pt ∨ (part = pt ∧ (maker < mk ∨ (maker = mk ∧ count < pi)))))
theorem i32_lt {a b : Int32} : a < b ↔ a.toInt < b.toInt := Int32.lt_iff_toInt_lt
theorem i32_le {a b : Int32} : a ≤ b ↔ a.toInt ≤ b.toInt := Int32.le_iff_toInt_le
theorem i32_eq {a b : Int32} : a = b ↔ a.toInt = b.toInt := Int32.toInt_inj.symm
theorem i64_eq {a b : Int64} : a = b ↔ a.toInt = b.toInt := Int64.toInt_inj.symm
theorem sp_consider {r : Nat} {cost : Int64} {part maker count : Int32} {c0 : Nat → Int64} {pi0 mk0 pt0 : Nat → Int32} {Q : (Nat → Int64) → (Nat → Int32) → (Nat → Int32) → (Nat → Int32) → Prop} (hr : r < 33)
    (h1 : takes cost part maker count (c0 r) (pi0 r) (mk0 r) (pt0 r) → Q (vp_updL c0 r cost) (upd pi0 r count) (upd mk0 r maker) (upd pt0 r part))
    (h2 : ¬ takes cost part maker count (c0 r) (pi0 r) (mk0 r) (pt0 r) → Q c0 pi0 mk0 pt0) : wp_Q_consider (nI r) cost part maker count c0 pi0 mk0 pt0 Q := by
  have tk : takes cost part maker count (c0 r) (pi0 r) (mk0 r) (pt0 r) → wp_Q_consider_J24 (nI r) cost part maker count c0 pi0 mk0 pt0 Q := by
    intro h
    unfold wp_Q_consider_J24
    refine ⟨vp_in_nI hr (by decide), fun f2 e2 => ⟨vp_in_nI hr (by decide), fun f3 e3 => ⟨vp_in_nI hr (by decide), fun f4 e4 => ⟨vp_in_nI hr (by decide), fun f5 e5 => ?_⟩⟩⟩⟩
    rw [nI_clamp (by omega)] at e2 e3 e4 e5
    subst e2; subst e3; subst e4; subst e5
    exact h1 h
  unfold wp_Q_consider
  refine sp_isBought hr ?_
  by_cases hb : mk0 r = -1
  · rw [if_pos hb]
    exact ⟨fun _ => tk (Or.inl hb), fun q => absurd rfl q⟩
  · rw [if_neg hb]
    refine ⟨fun q => absurd q (by decide), fun _ => ?_⟩
    have yes : takes cost part maker count (c0 r) (pi0 r) (mk0 r) (pt0 r) → (¬ (1 : Int32) = 0 → wp_Q_consider_J24 (nI r) cost part maker count c0 pi0 mk0 pt0 Q) ∧ ((1 : Int32) = 0 → Q c0 pi0 mk0 pt0) := fun h => ⟨fun _ => tk h, fun q => absurd q (by decide)⟩
    have no : ¬ takes cost part maker count (c0 r) (pi0 r) (mk0 r) (pt0 r) → (¬ (0 : Int32) = 0 → wp_Q_consider_J24 (nI r) cost part maker count c0 pi0 mk0 pt0 Q) ∧ ((0 : Int32) = 0 → Q c0 pi0 mk0 pt0) := fun h => ⟨fun q => absurd rfl q, fun _ => h2 h⟩
    unfold wp_Q_isBetter wp_Q_isBetter_J27 wp_Q_isBetter_J55 wp_Q_isBetter_J83 wp_Q_isBetter_J100
    rw [nI_clamp (by omega)]
    have V : vp_in (nI r) 33 := vp_in_nI hr (by decide)
    unfold takes at yes no
    refine ⟨V, fun g1 => ⟨V, fun g2 => ⟨V, fun g3 => ⟨V, fun g4 => ⟨Or.inl rfl, no (fun z => ?_)⟩, fun g4 => ⟨Or.inr rfl, yes (Or.inr (Or.inr ⟨g1, Or.inr ⟨g2, Or.inr ⟨g3, ?_⟩⟩⟩))⟩⟩, fun g3 => ⟨V, fun g4 => ⟨Or.inl rfl, no (fun z => ?_)⟩, fun g4 => ⟨Or.inr rfl, yes (Or.inr (Or.inr ⟨g1, Or.inr ⟨g2, Or.inl ?_⟩⟩))⟩⟩⟩, fun g2 => ⟨V, fun g4 => ⟨Or.inl rfl, no (fun z => ?_)⟩, fun g4 => ⟨Or.inr rfl, yes (Or.inr (Or.inr ⟨g1, Or.inl ?_⟩))⟩⟩⟩, fun g1 => ⟨V, fun g4 => ⟨Or.inl rfl, no (fun z => ?_)⟩, fun g4 => ⟨Or.inr rfl, yes (Or.inr (Or.inl ?_))⟩⟩⟩
    · rcases z with z | z | ⟨_, z | ⟨_, z | ⟨_, z⟩⟩⟩
      · exact hb z
      · rw [g1, i64_lt] at z; omega
      · rw [g2, i32_lt] at z; omega
      · rw [g3, i32_lt] at z; omega
      · rw [i32_lt] at z; rw [i32_le] at g4; omega
    · rw [i32_lt]; rw [i32_le] at g4; omega
    · rcases z with z | z | ⟨_, z | ⟨_, z | ⟨z, _⟩⟩⟩
      · exact hb z
      · rw [g1, i64_lt] at z; omega
      · rw [g2, i32_lt] at z; omega
      · rw [i32_lt] at z; rw [i32_le] at g4; omega
      · exact g3 z
    · rw [i32_lt]; rw [i32_le] at g4; omega
    · rcases z with z | z | ⟨_, z | ⟨z, _⟩⟩
      · exact hb z
      · rw [g1, i64_lt] at z; omega
      · rw [i32_lt] at z; rw [i32_le] at g4; omega
      · exact g2 z
    · rw [i32_lt]; rw [i32_le] at g4; omega
    · rcases z with z | z | ⟨z, _⟩
      · exact hb z
      · rw [i64_lt] at z; rw [i64_le] at g4; omega
      · exact g1 z
    · rw [i64_lt]; rw [i64_le] at g4; omega
theorem lN_i32_lt {a b : Nat} (ha : a ≤ 1000000000) (hb : b ≤ 1000000000) : (lN a).toInt32 < (lN b).toInt32 ↔ lN a < lN b := by
  rw [lN_i, lN_i, nI_ltI (by omega) (by omega), pk_lLT (by omega) (by omega)]
theorem tof_nat {nn ff : Nat} (hn : nn ≤ 1000000000) (hf : ff ≤ 1000000000) (h1 : 1 ≤ ff) : ∃ tt, tof (lN nn) (lN ff) = lN tt ∧ 1 ≤ tt ∧ tt ≤ 1000000000 := by
  unfold tof
  by_cases h : lN ff < lN nn
  · rw [if_pos h]; exact ⟨nn, rfl, by have := (pk_lLT (by omega) (by omega)).mp h; omega, hn⟩
  · rw [if_neg h]; exact ⟨ff, rfl, h1, hf⟩
/-- one step considered: the class as the reference -/
theorem step_one {b : Bool} {p m : Nat} {cost : Int64} {tt : Nat} {c : Int64} {pi mk pt : Int32} {q : QD} (hp : p ≤ 30) (hm : m < 8) (ht1 : 1 ≤ tt) (ht2 : tt ≤ 1000000000) (hq : RQ b c pi mk pt q) (ho : ORD b q p m) :
    takes cost (if b then -1 else nI p) (nI m) (lN tt).toInt32 c pi mk pt ↔ (q.2.1 = 0 ∨ cost < q.1 ∨ (cost = q.1 ∧ q.2.2.1 = nI m ∧ q.2.2.2 = nI p ∧ lN tt < q.2.1)) := by
  obtain ⟨e1, e2, e3, e4, e5⟩ := hq
  subst e1; subst e2; subst e3; subst e4
  unfold takes
  rcases e5 with ⟨z1, z2⟩ | ⟨t9, m9, z1, z2, z3, z4, z5⟩
  · exact ⟨fun _ => Or.inl z1, fun _ => Or.inl z2⟩
  · rcases ho with o | ⟨pp, mm, o1, o2, o3, o4, o5, o6⟩
    · rw [z1] at o
      have := (pk_lEQ (a := t9) (b := 0) (by omega) (by omega)).mp o
      omega
    · have hn1 : ¬ q.2.2.1 = -1 := by rw [o2]; exact nI_m1 (by omega)
      have hn0 : ¬ q.2.1 = 0 := by
        intro o; rw [z1] at o
        have := (pk_lEQ (a := t9) (b := 0) (by omega) (by omega)).mp o
        omega
      have hlt : (lN tt).toInt32 < q.2.1.toInt32 ↔ lN tt < q.2.1 := by rw [z1]; exact lN_i32_lt ht2 z3
      constructor
      · intro h
        rcases h with h | h | ⟨h, g⟩
        · exact absurd h hn1
        · exact Or.inr (Or.inl h)
        · refine Or.inr (Or.inr ⟨h, ?_⟩)
          have hpp : pp = p ∧ (nI m < q.2.2.1 ∨ (nI m = q.2.2.1 ∧ (lN tt).toInt32 < q.2.1.toInt32)) := by
            cases b with
            | true =>
              rcases g with g | ⟨_, g⟩
              · have g : (-1 : Int32) < -1 := g
                exact absurd g (by decide)
              · exact ⟨o6 rfl, g⟩
            | false =>
              rcases g with g | ⟨g1, g⟩
              · rw [o1] at g
                have := lt_c (by omega) (by omega) g
                omega
              · rw [o1] at g1
                exact ⟨((nI_eq (by omega) (by omega)).mp g1).symm, g⟩
          obtain ⟨hpp, g⟩ := hpp
          rcases g with g | ⟨g1, g2⟩
          · rw [o2] at g
            have := lt_c (by omega) (by omega) g
            have := o5 hpp
            omega
          · exact ⟨g1.symm, by rw [o1, hpp], hlt.mp g2⟩
      · intro h
        rcases h with h | h | ⟨h, g1, g2, g3⟩
        · exact absurd h hn0
        · exact Or.inr (Or.inl h)
        · refine Or.inr (Or.inr ⟨h, Or.inr ⟨?_, Or.inr ⟨g1.symm, hlt.mpr g3⟩⟩⟩)
          cases b with
          | true => rfl
          | false => exact g2.symm
def LIs (szs : Nat → Nat) (sizes : Nat → Int32) (keys : Nat → Int64) : Prop := ∀ li, li < 248 → sizes li = nI (szs li) ∧ szs li ≤ 6 ∧ ∀ k, k < szs li → ∃ f : Nat, keys (6 * li + k) = lN f ∧ 1 ≤ f ∧ f ≤ 1000000000
/-- CostSteps.offerSteps -/
theorem sp_C_offerSteps {b : Bool} {r th m nn : Nat} {szs : Nat → Nat} {keys cents an bn c0 : Nat → Int64} {sizes pi0 mk0 pt0 : Nat → Int32} {q0 : QD} {Q : (Nat → Int64) → (Nat → Int32) → (Nat → Int32) → (Nat → Int32) → Prop}
    (hr : r < 33) (hth : th ≤ 30) (hb : b = true ↔ th = 30) (hm : m < 8) (hL : LIs szs sizes keys) (hn2 : nn ≤ 1000000000) (hB : 0 < bn m) (hq : RQ b (c0 r) (pi0 r) (mk0 r) (pt0 r) q0) (ho : ORD b q0 th m)
    (h : ∀ c1 pi1 mk1 pt1, RQ b (c1 r) (pi1 r) (mk1 r) (pt1 r) (offQ (lN nn) (an m) (bn m) (nI th) (nI m) keys cents (6 * (8 * th + m)) (szs (8 * th + m)) q0) → ORD b (offQ (lN nn) (an m) (bn m) (nI th) (nI m) keys cents (6 * (8 * th + m)) (szs (8 * th + m)) q0) th m → (∀ j, j ≠ r → c1 j = c0 j ∧ pi1 j = pi0 j ∧ mk1 j = mk0 j ∧ pt1 j = pt0 j) → Q c1 pi1 mk1 pt1) :
    wp_C_offerSteps (nI r) (lN nn) (nI th) (nI m) keys sizes cents an bn c0 pi0 mk0 pt0 Q := by
  obtain ⟨hs, hsz, hk⟩ := hL (8 * th + m) (by omega)
  have e8 : nI th * 8 + nI m = nI (8 * th + m) := by
    show nI th * nI 8 + nI m = _
    rw [pk_mul, nI_add, Nat.mul_comm]
  have main : wp_C_offerSteps_J13 (nI r) (lN nn) (nI th) (nI m) keys sizes cents an bn c0 pi0 mk0 pt0 Q (if b then -1 else nI th) := by
    unfold wp_C_offerSteps_J13 wp_St_endSlot wp_St_firstSlot
    rw [e8]
    refine sp_K_endSlot (by omega) (by decide) hs (sp_K_firstSlot ⟨szs (8 * th + m) + 1, ?_⟩)
    generalize szs (8 * th + m) = sz at *
    have key9 : ∀ f j c1 pi1 mk1 pt1, j + f = sz → RQ b (c1 r) (pi1 r) (mk1 r) (pt1 r) (offQ (lN nn) (an m) (bn m) (nI th) (nI m) keys cents (6 * (8 * th + m)) j q0) → ORD b (offQ (lN nn) (an m) (bn m) (nI th) (nI m) keys cents (6 * (8 * th + m)) j q0) th m → (∀ j, j ≠ r → c1 j = c0 j ∧ pi1 j = pi0 j ∧ mk1 j = mk0 j ∧ pt1 j = pt0 j) →
        wp_C_offerSteps_L41 (nI r) (lN nn) (nI m) keys cents an bn (if b then -1 else nI th) (nI (6 * (8 * th + m) + sz)) Q (f + 1) (nI (6 * (8 * th + m) + j)) c1 pi1 mk1 pt1 := by
      intro f
      induction f with
      | zero =>
        intro j c1 pi1 mk1 pt1 hj h1 h2 h3
        rw [wp_C_offerSteps_L41]
        have : j = sz := by omega
        subst this
        exact ⟨fun _ => h c1 pi1 mk1 pt1 h1 h2 h3, fun hc => absurd (nI_le (by omega) (by omega)) hc⟩
      | succ f ih =>
        intro j c1 pi1 mk1 pt1 hj h1 h2 h3
        rw [wp_C_offerSteps_L41]
        refine ⟨fun hc => by have := ge_c (by omega) (by omega) hc; omega, fun _ => ?_⟩
        unfold wp_St_fromAt
        refine ⟨vp_in_nI (by omega) (by decide), fun x10 hx10 => ⟨vp_in_nI (by omega) (by decide), ?_⟩⟩
        rw [nI_clamp (by omega)] at hx10 ⊢
        obtain ⟨ff, k1, k2, k3⟩ := hk j (by omega)
        obtain ⟨tt, t1, t2, t3⟩ := tof_nat (nn := nn) (ff := ff) hn2 k3 k2
        have hx : x10 = tof (lN nn) (keys (6 * (8 * th + m) + j)) := hx10
        have hx2 : x10 = lN tt := by rw [hx, k1, t1]
        unfold wp_Ra_exchange
        rw [nI_clamp (n := m) (by omega)]
        refine ⟨vp_in_nI hm (by decide), vp_in_nI hm (by decide), sp_divideUp hB ?_⟩
        have hc9 : (x10 * cents (6 * (8 * th + m) + j) * an m + bn m - 1) / bn m = cof (an m) (bn m) (tof (lN nn) (keys (6 * (8 * th + m) + j))) (cents (6 * (8 * th + m) + j)) := by rw [hx]; rfl
        rw [hc9]
        have st := step_one (cost := cof (an m) (bn m) (tof (lN nn) (keys (6 * (8 * th + m) + j))) (cents (6 * (8 * th + m) + j))) hth hm t2 t3 h1 h2
        have tq : tof (lN nn) (keys (6 * (8 * th + m) + j)) = lN tt := by rw [k1, t1]
        refine sp_consider hr (fun tk x16 hx16 => ?_) (fun tk x16 hx16 => ?_)
        · rw [nI_1] at hx16; subst hx16
          rw [hx2] at tk ⊢
          have tk2 := st.mp tk
          have e9 : offQ (lN nn) (an m) (bn m) (nI th) (nI m) keys cents (6 * (8 * th + m)) (j + 1) q0 = (cof (an m) (bn m) (tof (lN nn) (keys (6 * (8 * th + m) + j))) (cents (6 * (8 * th + m) + j)), lN tt, nI m, nI th) := by
            show stp _ _ _ _ _ _ _ _ = _
            unfold stp
            rw [tq] at tk2 ⊢
            rw [if_pos tk2]
          refine ih (j + 1) _ _ _ _ (by omega) ?_ ?_ (fun i hi => ?_)
          · rw [e9, up_at, ui_at, ui_at, ui_at]
            exact ⟨rfl, rfl, rfl, rfl, Or.inr ⟨tt, m, rfl, t2, t3, hm, rfl⟩⟩
          · rw [e9]
            exact Or.inr ⟨th, m, rfl, rfl, Nat.le_refl _, hm, fun _ => Nat.le_refl _, fun _ => rfl⟩
          · rw [up_ne hi, ui_ne hi, ui_ne hi, ui_ne hi]
            exact h3 i hi
        · rw [nI_1] at hx16; subst hx16
          rw [hx2] at tk
          have tk2 := fun z => tk (st.mpr z)
          have e9 : offQ (lN nn) (an m) (bn m) (nI th) (nI m) keys cents (6 * (8 * th + m)) (j + 1) q0 = offQ (lN nn) (an m) (bn m) (nI th) (nI m) keys cents (6 * (8 * th + m)) j q0 := by
            show stp _ _ _ _ _ _ _ _ = _
            unfold stp
            rw [tq] at tk2 ⊢
            rw [if_neg tk2]
          exact ih (j + 1) _ _ _ _ (by omega) (by rw [e9]; exact h1) (by rw [e9]; exact h2) h3
    exact key9 sz 0 c0 pi0 mk0 pt0 (by omega) hq ho (fun j _ => ⟨rfl, rfl, rfl, rfl⟩)
  unfold wp_C_offerSteps
  refine ⟨fun g => ?_, fun g => ?_⟩
  · have : b = false := by
      cases b with
      | false => rfl
      | true => exact absurd (show nI th = nI 30 by rw [hb.mp rfl]) g
    subst this
    exact main
  · have : b = true := hb.mpr ((nI_eq (b := 30) (by omega) (by decide)).mp g)
    subst this
    exact main
