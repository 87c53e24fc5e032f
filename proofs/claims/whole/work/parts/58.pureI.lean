/-! the mathematics, part I: makers counted; rows of both sides -/
def bcF (p0 : Int32) : Int32 :=
  let x1 := p0 - ((((p0).toUInt32 >>> ((1 : Int32).toUInt32 &&& Int32.toUInt32 31)).toInt32) &&& 1431655765)
  let x2 := (x1 &&& 858993459) + ((((x1).toUInt32 >>> ((2 : Int32).toUInt32 &&& Int32.toUInt32 31)).toInt32) &&& 858993459)
  let x3 := (x2 + (((x2).toUInt32 >>> ((4 : Int32).toUInt32 &&& Int32.toUInt32 31)).toInt32)) &&& 252645135
  let x4 := x3 + (((x3).toUInt32 >>> ((8 : Int32).toUInt32 &&& Int32.toUInt32 31)).toInt32)
  let x5 := x4 + (((x4).toUInt32 >>> ((16 : Int32).toUInt32 &&& Int32.toUInt32 31)).toInt32)
  x5 &&& 63
theorem sp_bitCount {x : Int32} {Q : Int32 → Prop} (h : Q (bcF x)) : wp_JI_bitCount x Q := by
  unfold wp_JI_bitCount
  intro x1 h1 x2 h2 x3 h3 x4 h4 x5 h5
  subst h1; subst h2; subst h3; subst h4; subst h5
  exact h
def mbF (mk : Nat → Int32) : Nat → Int32
  | 0 => 0
  | k + 1 => if mk k = -1 then mbF mk k else mbF mk k ||| (1 <<< (mk k &&& 31))
theorem nx_or (a b : Nat) : nI a ||| nI b = nI (a ||| b) := by
  apply Int32.toBitVec_inj.1
  show BitVec.ofNat 32 a ||| BitVec.ofNat 32 b = BitVec.ofNat 32 (a ||| b)
  apply BitVec.eq_of_getLsbD_eq
  intro i hi
  simp [hi]
theorem sh8 : ∀ m, m < 8 → (1 : Int32) <<< (nI m &&& 31) = nI (2 ^ m) := by decide +kernel
theorem mbF_nat {mk : Nat → Int32} : ∀ n, (∀ j, j < n → mk j = -1 ∨ ∃ mm, mm < 8 ∧ mk j = nI mm) → ∃ b, b < 256 ∧ mbF mk n = nI b
  | 0, _ => ⟨0, by decide, rfl⟩
  | n + 1, h => by
    obtain ⟨b, hb, e⟩ := mbF_nat n (fun j hj => h j (by omega))
    unfold mbF
    split
    · exact ⟨b, hb, e⟩
    · rename_i hne
      rcases h n (by omega) with q | ⟨mm, q1, q2⟩
      · exact absurd q hne
      · refine ⟨b ||| 2 ^ mm, Nat.or_lt_two_pow (n := 8) hb (Nat.pow_lt_pow_right (by decide) q1), ?_⟩
        rw [e, q2, sh8 mm q1, nx_or]
theorem sp_makersBoughtOf {n : Nat} {mk : Nat → Int32} {Q : Int32 → Prop} (hn : n ≤ 33) (h : Q (bcF (mbF mk n))) : wp_Q_makersBoughtOf (nI n) mk Q := by
  unfold wp_Q_makersBoughtOf
  refine ⟨n + 1, ?_⟩
  have key9 : ∀ f j, j + f = n → wp_Q_makersBoughtOf_L4 (nI n) mk Q (f + 1) (mbF mk j) (nI j) := by
    intro f
    induction f with
    | zero =>
      intro j hj
      have : j = n := by omega
      subst this
      rw [wp_Q_makersBoughtOf_L4]
      exact ⟨fun _ => sp_bitCount h, fun hc => absurd (nI_le (Nat.le_refl _) (by omega)) hc⟩
    | succ f ih =>
      intro j hj
      have ih := ih (j + 1) (by omega)
      rw [wp_Q_makersBoughtOf_L4]
      refine ⟨fun hc => by have := ge_c (by omega) (by omega) hc; omega, fun _ => sp_isBought (by omega) ?_⟩
      unfold mbF at ih
      unfold wp_Q_makersBoughtOf_J31
      by_cases e : mk j = -1
      · rw [if_pos e] at ih ⊢
        exact ⟨fun _ x6 h6 => by rw [nI_1] at h6; subst h6; exact ih, fun q => absurd rfl q⟩
      · rw [if_neg e] at ih ⊢
        refine ⟨fun q => absurd q (by decide), fun _ => ⟨vp_in_nI (by omega) (by decide), fun x7 h7 x6 h6 => ?_⟩⟩
        rw [nI_clamp (by omega)] at h7
        rw [nI_1] at h6; subst h6; subst h7
        exact ih
  exact key9 n 0 (by omega)
def popM : Nat → Int32 → Int32 → Option Int32
  | 0, _, _ => none
  | n + 1, v3, v4 => if v3 = 0 then some v4 else popM n (v3 >>> (1 &&& 31)) (v4 + (v3 &&& 1))
theorem popM_L {Q : Int32 → Prop} : ∀ n v3 v4 r, popM n v3 v4 = some r → Q r → wp_M_makersNow_L44 Q n v3 v4
  | 0, _, _, _, h, _ => by simp [popM] at h
  | n + 1, v3, v4, r, h, q => by
    rw [wp_M_makersNow_L44]
    unfold popM at h
    refine ⟨fun g => ?_, fun g x5 h5 x6 h6 => ?_⟩
    · rw [if_pos g] at h
      cases h; exact q
    · rw [if_neg g] at h
      subst h5; subst h6
      exact popM_L n _ _ r h q
theorem popM_ok : ∀ b, b < 256 → popM 10 (nI b) 0 = some (bcF (nI b)) := by decide +kernel
theorem sp_makersNow {p : Nat → Int64} {m : Nat → Int32} {Q : Int32 → Prop} (h0 : m 0 = -1) (hpm : ∀ j, j < 33 → (p j ≤ 0 ↔ m j = -1)) (hm : ∀ j, j < 33 → m j = -1 ∨ ∃ mm, mm < 8 ∧ m j = nI mm) (h : Q (bcF (mbF m 33))) : wp_M_makersNow p m Q := by
  unfold wp_M_makersNow
  refine ⟨33, ?_⟩
  have key9 : ∀ f j, j + f = 33 → wp_M_makersNow_L4 p m Q (f + 1) (mbF m j) (nI j) := by
    intro f
    induction f with
    | zero =>
      intro j hj
      have : j = 33 := by omega
      subst this
      rw [wp_M_makersNow_L4]
      refine ⟨fun _ => ⟨10, ?_⟩, fun hc => absurd (nI_le (a := 33) (Nat.le_refl _) (by decide)) hc⟩
      obtain ⟨b, hb, e⟩ := mbF_nat 33 hm
      rw [e] at h ⊢
      exact popM_L 10 _ _ _ (popM_ok b hb) h
    | succ f ih =>
      intro j hj
      have ih := ih (j + 1) (by omega)
      rw [wp_M_makersNow_L4, nI_clamp (by omega)]
      unfold mbF at ih
      unfold wp_M_makersNow_J35
      refine ⟨fun hc => by have := ge_c (k := 33) (by decide) (by omega) hc; omega, fun _ => ⟨vp_in_nI (by omega) (by decide), fun g x8 h8 => ?_, fun g => ⟨vp_in_nI (by omega) (by decide), fun x8 h8 => ?_⟩⟩⟩
      · rw [nI_1] at h8; subst h8
        rw [if_pos ((hpm j (by omega)).mp g)] at ih
        exact ih
      · rw [nI_1] at h8; subst h8
        rw [if_neg (fun e => g ((hpm j (by omega)).mpr e))] at ih
        exact ih
  have s1 : mbF m 1 = 0 := by show (if m 0 = -1 then mbF m 0 else _) = 0; rw [if_pos h0]; rfl
  have := key9 32 1 (by omega)
  rw [s1] at this
  exact this
theorem mbF_tail {mk : Nat → Int32} {n : Nat} (h : ∀ j, n ≤ j → j < 33 → mk j = -1) : ∀ k, n + k ≤ 33 → mbF mk (n + k) = mbF mk n
  | 0, _ => rfl
  | k + 1, hk => by
    show (if mk (n + k) = -1 then mbF mk (n + k) else _) = _
    rw [if_pos (h (n + k) (by omega) (by omega)), mbF_tail h k (by omega)]
theorem mbF_congr {mk m : Nat → Int32} : ∀ n, (∀ j, j < n → mk j = m j) → mbF mk n = mbF m n
  | 0, _ => rfl
  | n + 1, h => by
    unfold mbF
    rw [mbF_congr n (fun j hj => h j (by omega)), h n (by omega)]
theorem sumF_congr {c d : Nat → Int64} : ∀ n, (∀ j, j < n → c j = d j) → sumF c n = sumF d n
  | 0, _ => rfl
  | n + 1, h => by
    unfold sumF
    rw [sumF_congr n (fun j hj => h j (by omega)), h n (by omega)]
def SAME (c : Nat → Int64) (pi mk pt : Nat → Int32) (d p : Nat → Int64) (m t : Nat → Int32) (j : Nat) : Prop := c j = d j ∧ mk j = m j ∧ pi j = (p j).toInt32 ∧ pt j = t j ∧ (p j ≤ 0 ↔ m j = -1) ∧ (m j = -1 ∨ ∃ mm, mm < 8 ∧ m j = nI mm)
theorem RQ_bt {b : Bool} {c : Int64} {pi mk pt : Int32} {q : QD} (h : RQ b c pi mk pt q) : (q.2.1 ≤ 0 ↔ q.2.2.1 = -1) ∧ (q.2.2.1 = -1 ∨ ∃ mm, mm < 8 ∧ q.2.2.1 = nI mm) := by
  rcases h.2.2.2.2 with ⟨z1, z2⟩ | ⟨t9, m9, z1, z2, z3, z4, z5⟩
  · exact ⟨⟨fun _ => z2, fun _ => by rw [z1]; decide⟩, Or.inl z2⟩
  · refine ⟨⟨fun g => ?_, fun g => ?_⟩, Or.inr ⟨m9, z4, z5⟩⟩
    · rw [z1] at g
      have := (pk_lLE (a := t9) (b := 0) (by omega) (by decide)).mp g
      omega
    · rw [z5] at g
      exact absurd g (nI_m1 (by omega))
theorem rows_same {tool as : Int64} {qb : QD} {qp : Nat → QD} {pc : Nat} {c d p : Nat → Int64} {pi mk pt m t : Nat → Int32} (hc : CRows tool as qb qp pc c pi mk pt) (hm : MRows tool as qb qp pc d p m t) : ∀ j, j < 33 → SAME c pi mk pt d p m t j := by
  obtain ⟨c0, c1, c2, c3, c4⟩ := hc
  obtain ⟨⟨m0, m1, m2, m3, m4⟩, mt⟩ := hm
  have z0 : (0 : Int64).toInt32 = 0 := by decide
  intro j hj
  unfold SAME
  have fz : ∀ (v : Int64) j, FR v c pi mk pt j → MZ v d p m t j → c j = d j ∧ mk j = m j ∧ pi j = (p j).toInt32 ∧ pt j = t j ∧ (p j ≤ 0 ↔ m j = -1) ∧ (m j = -1 ∨ ∃ mm, mm < 8 ∧ m j = nI mm) := by
    intro v j f z
    rw [f.1, f.2.1, f.2.2.1, f.2.2.2, z.1, z.2.1, z.2.2.1, z.2.2.2, z0]
    exact ⟨rfl, rfl, rfl, rfl, ⟨fun _ => rfl, fun _ => by decide⟩, Or.inl rfl⟩
  rcases Nat.lt_or_ge j 3 with q | q
  · rcases (show j = 0 ∨ j = 1 ∨ j = 2 by omega) with rfl | rfl | rfl
    · exact fz _ _ c0 m0
    · obtain ⟨e1, e2, e3, e4, e5⟩ := id c1
      rw [e1, e2, e3, e4, m1.1, m1.2.1, m1.2.2, mt]
      exact ⟨rfl, rfl, rfl, rfl, RQ_bt c1⟩
    · exact fz _ _ c2 m2
  · obtain ⟨i, rfl⟩ : ∃ i, j = 3 + i := ⟨j - 3, by omega⟩
    rcases Nat.lt_or_ge i pc with hi | hi
    · have r := c3 i hi
      have w := m3 i hi
      obtain ⟨e1, e2, e3, e4, e5⟩ := id r
      have bt9 := RQ_bt r
      rw [← w] at e1 e2 e3 e4 bt9
      rw [e1, e2, e3, e4]
      exact ⟨rfl, rfl, rfl, rfl, bt9⟩
    · exact fz 0 _ (c4 _ (by omega) hj) (m4 _ (by omega) hj)
theorem sums_same {tool as : Int64} {qb : QD} {qp : Nat → QD} {pc : Nat} {c d p : Nat → Int64} {pi mk pt m t : Nat → Int32} (hpc : pc ≤ 30) (hc : CRows tool as qb qp pc c pi mk pt) (hm : MRows tool as qb qp pc d p m t) : sumF c (3 + pc) = sumF d 33 := by
  have s := rows_same hc hm
  rw [← sumF_congr 33 (fun j hj => (s j hj).1)]
  have := sumF_tail (c := c) (n := 3 + pc) (fun j q1 q2 => (hc.2.2.2.2 j q1 q2).1) (30 - pc) (by omega)
  rw [show 3 + pc + (30 - pc) = 33 by omega] at this
  exact this.symm
theorem makers_same {tool as : Int64} {qb : QD} {qp : Nat → QD} {pc : Nat} {c d p : Nat → Int64} {pi mk pt m t : Nat → Int32} (hpc : pc ≤ 30) (hc : CRows tool as qb qp pc c pi mk pt) (hm : MRows tool as qb qp pc d p m t) : mbF mk (3 + pc) = mbF m 33 := by
  have s := rows_same hc hm
  rw [← mbF_congr 33 (fun j hj => (s j hj).2.1)]
  have := mbF_tail (mk := mk) (n := 3 + pc) (fun j q1 q2 => (hc.2.2.2.2 j q1 q2).2.2.1) (30 - pc) (by omega)
  rw [show 3 + pc + (30 - pc) = 33 by omega] at this
  exact this.symm
