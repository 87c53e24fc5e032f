/-! the mathematics, part L -/
def ctR (keys ab be : Nat → Int64) (day a b : Int64) (base sz : Nat) : Int32 := if fnd keys day base sz 0 < sz then (if ab (base + fnd keys day base sz 0) = a ∧ be (base + fnd keys day base sz 0) = b then 0 else 1) else if sz < 6 then 1 else 0
theorem ctR_01 {keys ab be : Nat → Int64} {day a b : Int64} {base sz : Nat} : ctR keys ab be day a b base sz = 0 ∨ ctR keys ab be day a b base sz = 1 := by
  unfold ctR
  repeat' split
  all_goals simp
theorem sp_Ra_tell2 {m sz : Nat} {day a b : Int64} {keys ab be : Nat → Int64} {sizes : Nat → Int32} {Q : Int32 → (Nat → Int64) → (Nat → Int32) → (Nat → Int64) → (Nat → Int64) → Prop} (hm : m < 8) (hs : sizes m = nI sz) (hsz : sz ≤ 6) (h0 : sz < 6 → ¬ ab (6 * m + sz) = a)
    (h : Q (ctR keys ab be day a b (6 * m) sz) (tlK keys day (6 * m) sz) (tlS sizes keys day (6 * m) m sz) (tlC ab keys day a (6 * m) sz) (tlC be keys day b (6 * m) sz)) : wp_Ra_tell (nI m) day a b keys sizes ab be Q := by
  unfold ctR tlK tlS tlC at h
  refine sp_Ra_tell hm hs hsz h0 (fun q g1 g2 => ?_) (fun q g => ?_) (fun q g => ?_) (fun q g => ?_)
  · rw [if_pos q, if_pos q, if_pos q, if_pos q, if_pos q, if_pos ⟨g1, g2⟩, upL_same g1, upL_same g2] at h; exact h
  · rw [if_pos q, if_pos q, if_pos q, if_pos q, if_pos q, if_neg g] at h; exact h
  · have n := fnd_end q; rw [if_neg n, if_neg n, if_neg n, if_neg n, if_neg n, if_pos g, if_pos g, if_pos g, if_pos g, if_pos g] at h; exact h
  · have n := fnd_end q; have b2 : ¬ sz < 6 := by omega
    rw [if_neg n, if_neg n, if_neg n, if_neg n, if_neg n, if_neg b2, if_neg b2, if_neg b2, if_neg b2, if_neg b2] at h; exact h
theorem sp_M_cur2 {m sz : Nat} {day a b : Int64} {keys ab be : Nat → Int64} {sizes : Nat → Int32} {Q : Int32 → Int32 → (Nat → Int32) → (Nat → Int64) → (Nat → Int64) → (Nat → Int64) → Prop} (hm : m < 8) (hs : sizes m = nI sz) (hsz : sz ≤ 6)
    (h : Q (ctR keys ab be day a b (6 * m) sz) 0 (tlS sizes keys day (6 * m) m sz) (tlK keys day (6 * m) sz) (tlC ab keys day a (6 * m) sz) (tlC be keys day b (6 * m) sz)) : wp_M_currency_J53 (nI m) day a b sizes keys ab be Q 0 := by
  unfold ctR tlK tlS tlC at h
  refine sp_M_currency9 hm hs hsz (fun q g1 g2 => ?_) (fun q g => ?_) (fun q g => ?_) (fun q g => ?_)
  · rw [if_pos q, if_pos q, if_pos q, if_pos q, if_pos q, if_pos ⟨g1, g2⟩, upL_same g1, upL_same g2] at h; exact h
  · rw [if_pos q, if_pos q, if_pos q, if_pos q, if_pos q, if_neg g] at h; exact h
  · have n := fnd_end q; rw [if_neg n, if_neg n, if_neg n, if_neg n, if_neg n, if_pos g, if_pos g, if_pos g, if_pos g, if_pos g] at h; exact h
  · have n := fnd_end q; have b2 : ¬ sz < 6 := by omega
    rw [if_neg n, if_neg n, if_neg n, if_neg n, if_neg n, if_neg b2, if_neg b2, if_neg b2, if_neg b2, if_neg b2] at h; exact h
def DIs (rz : Nat → Nat) (ds : Nat → Int32) (ab be : Nat → Int64) : Prop := (∀ m, m < 8 → ds m = nI (rz m) ∧ rz m ≤ 6) ∧ (∀ m k, m < 8 → k < rz m → 0 < be (6 * m + k)) ∧ ∀ m k, m < 8 → rz m ≤ k → k < 6 → ab (6 * m + k) = 0
theorem DI_tell {rz : Nat → Nat} {ds : Nat → Int32} {dk ab be : Nat → Int64} {day a b : Int64} {m : Nat} (hD : DIs rz ds ab be) (hm : m < 8) (hb : ¬ b < 1) :
    ∃ rz2, DIs rz2 (tlS ds dk day (6 * m) m (rz m)) (tlC ab dk day a (6 * m) (rz m)) (tlC be dk day b (6 * m) (rz m)) := by
  obtain ⟨d1, d2, d3⟩ := hD
  have h6 := (d1 m hm).2
  have hb0 : 0 < b := by rw [i64_lt] at hb ⊢; have z : (0 : Int64).toInt = 0 := by decide
                         have o : (1 : Int64).toInt = 1 := by decide
                         omega
  unfold tlS tlC
  have fl := fnd_le dk day (6 * m) (rz m) 0
  by_cases q : fnd dk day (6 * m) (rz m) 0 < rz m
  · rw [if_pos q, if_pos q, if_pos q]
    refine ⟨rz, d1, fun l k h1 h2 => ?_, fun l k h1 h2 h3 => ?_⟩
    · by_cases e : 6 * l + k = 6 * m + fnd dk day (6 * m) (rz m) 0
      · rw [e, up_at]; exact hb0
      · rw [up_ne e]; exact d2 l k h1 h2
    · have hl := (d1 l h1).2
      rw [up_ne (by rcases Nat.lt_or_ge l m with z | z
                    · omega
                    · rcases Nat.lt_or_ge m l with z2 | z2
                      · omega
                      · have : l = m := by omega
                        subst this; omega)]
      exact d3 l k h1 h2 h3
  · rw [if_neg q, if_neg q, if_neg q]
    by_cases g : rz m < 6
    · rw [if_pos g, if_pos g, if_pos g]
      refine ⟨fun l => if l = m then rz m + 1 else rz l, fun l hl => ?_, fun l k h1 h2 => ?_, fun l k h1 h2 h3 => ?_⟩
      · by_cases e : l = m
        · subst e; simp only [if_true]; exact ⟨ui_at, by omega⟩
        · simp only [if_neg e]; rw [ui_ne e]; exact d1 l hl
      · by_cases e : l = m
        · subst e; simp only [if_true] at h2
          by_cases ek : k = rz l
          · subst ek; rw [up_at]; exact hb0
          · rw [up_ne (by omega)]; exact d2 l k h1 (by omega)
        · simp only [if_neg e] at h2
          have := (d1 l h1).2
          rw [up_ne (by omega)]; exact d2 l k h1 h2
      · by_cases e : l = m
        · subst e; simp only [if_true] at h2
          rw [up_ne (by omega)]; exact d3 l k h1 (by omega) h3
        · simp only [if_neg e] at h2
          rw [up_ne (by omega)]; exact d3 l k h1 h2 h3
    · rw [if_neg g, if_neg g, if_neg g]
      exact ⟨rz, d1, d2, d3⟩
theorem rB_pos {rz : Nat → Nat} {ds : Nat → Int32} {dk ab be : Nat → Int64} {day : Int64} (hD : DIs rz ds ab be) : ∀ m, m < 8 → 0 < rAF be dk rz day m := by
  intro m hm
  unfold rAF
  rcases latF_in dk day (6 * m) (rz m) with q | ⟨i, q1, q2⟩
  · rw [if_pos q]; decide
  · have h6 := (hD.1 m hm).2
    rw [if_neg (by rw [q2]; exact nI_m1 (by omega)), q2, nI_clamp (by omega)]
    exact hD.2.1 m i hm q1
abbrev nR (a b : Int64) : Prop := (¬ a < 1 ∧ a ≤ 1000) ∧ (¬ b < 1 ∧ b ≤ 1000)
theorem sp_needRatio {a b : Int64} {Q : Prop} {XE : String → Prop} (h1 : nR a b → Q) (h2 : ¬ nR a b → XE eA) : wp_C_needRatio a b Q XE := by
  unfold wp_C_needRatio
  exact sp_needNumber (fun p q => sp_needNumber (fun c d => h1 ⟨⟨p, q⟩, ⟨c, d⟩⟩) (fun c => h2 (fun z => c.elim z.2.1 (fun g => g z.2.2)))) (fun c => h2 (fun z => c.elim z.1.1 (fun g => g z.1.2)))
theorem sp_L_currency {x : Int32} {day a b : Int64} {rz : Nat → Nat} {dk ab be out : Nat → Int64} {ds : Nat → Int32} {Q : Int32 → (Nat → Int64) → (Nat → Int32) → (Nat → Int64) → (Nat → Int64) → (Nat → Int64) → Prop} (hD : DIs rz ds ab be)
    (h1 : ¬ (¬ x < 0 ∧ x < nI 8) → Q 1 dk ds ab be out)
    (h2 : (¬ x < 0 ∧ x < nI 8) → ¬ nR a b → Q 2 dk ds ab be out)
    (h3 : ∀ m, m < 8 → x = nI m → nR a b → Q 0 (tlK dk day (6 * m) (rz m)) (tlS ds dk day (6 * m) m (rz m)) (tlC ab dk day a (6 * m) (rz m)) (tlC be dk day b (6 * m) (rz m)) (vp_updL out 0 (if ctR dk ab be day a b (6 * m) (rz m) = 0 then 0 else 1))) : wp_L_currency x day a b dk ds ab be out Q := by
  unfold wp_L_currency wp_C_currency
  refine sp_needIndex (fun c d => sp_needRatio (fun n => ?_) (fun n => ?_)) (fun c => ?_)
  · obtain ⟨m, hm, rfl⟩ := ix_lt (n := 8) (by decide) c d
    have hh := hD.1 m hm
    refine sp_Ra_tell2 hm hh.1 hh.2 (fun g e => ?_) ⟨ctR_01, ?_⟩
    · rw [hD.2.2 m (rz m) hm (Nat.le_refl _) g] at e
      have := n.1.1
      rw [← e] at this
      exact this (by decide)
    · have h := h3 m hm rfl n
      refine ⟨fun g => ⟨v01, fun f e => ?_⟩, fun g => ⟨v01, fun f e => ?_⟩⟩
      · rw [z_c] at e; subst e; rw [if_pos g] at h; exact h
      · rw [z_c] at e; subst e; rw [if_neg g] at h; exact h
  · exact ⟨fun q => absurd q (by decide), fun _ => h2 ⟨c, d⟩ n, Or.inr rfl⟩
  · exact ⟨fun _ => h1 (fun z => c.elim z.1 (fun g => g z.2)), fun q => absurd q (by decide), Or.inl rfl⟩
theorem sp_M_currency {x : Int32} {day a b : Int64} {rz : Nat → Nat} {dk ab be : Nat → Int64} {ds : Nat → Int32} {Q : Int32 → Int32 → (Nat → Int32) → (Nat → Int64) → (Nat → Int64) → (Nat → Int64) → Prop} (hD : DIs rz ds ab be)
    (h1 : ¬ (¬ x < 0 ∧ x < nI 8) → Q 0 1 ds dk ab be)
    (h2 : (¬ x < 0 ∧ x < nI 8) → ¬ nR a b → Q 0 2 ds dk ab be)
    (h3 : ∀ m, m < 8 → x = nI m → nR a b → Q (ctR dk ab be day a b (6 * m) (rz m)) 0 (tlS ds dk day (6 * m) m (rz m)) (tlK dk day (6 * m) (rz m)) (tlC ab dk day a (6 * m) (rz m)) (tlC be dk day b (6 * m) (rz m))) : wp_M_currency x day a b ds dk ab be Q := by
  have bad : ∀ w : Int32, ¬ w = 0 → Q 0 w ds dk ab be → wp_M_currency_J53 x day a b ds dk ab be Q w := by
    intro w hw h
    unfold wp_M_currency_J53
    exact ⟨fun q => absurd q hw, fun _ => ⟨Or.inl rfl, h⟩⟩
  have all : ∀ v2 : Int32, (v2 = 0 → ¬ nR a b) → (¬ v2 = 0 → nR a b) → wp_M_currency_J29 x day a b ds dk ab be Q v2 := by
    intro v2 n0 n1
    unfold wp_M_currency_J29
    refine sp_isMaker (fun c d => ⟨fun _ => ⟨fun g => bad 2 (by decide) (h2 (vin (n := 8) c d) (n0 g)), fun g => ?_⟩, fun q => absurd q (by decide)⟩) (fun c => ⟨fun q => absurd rfl q, fun _ => bad 1 (by decide) (h1 (fun z => c.elim z.1 (fun g => le_nlt.mp g z.2)))⟩)
    obtain ⟨m, hm, rfl⟩ := ixv (n := 8) (by decide) (vin (n := 8) c d)
    exact sp_M_cur2 hm (hD.1 m hm).1 (hD.1 m hm).2 (h3 m hm rfl (n1 g))
  unfold wp_M_currency wp_M_currency_J28
  refine sp_within (fun p q => ⟨fun z => absurd z (by decide), fun _ => sp_within (fun c d => ⟨fun z => absurd z (by decide), fun _ => all 1 (fun z => absurd z (by decide)) (fun _ => ⟨⟨p, nlt_le.mp q⟩, c, nlt_le.mp d⟩)⟩) (fun c => ⟨fun _ => all 0 (fun _ z => c.elim z.2.1 (fun g => lt_nle.mp g z.2.2)) (fun z => absurd rfl z), fun z => absurd rfl z⟩)⟩) (fun c => ⟨fun _ => all 0 (fun _ z => c.elim z.1.1 (fun g => lt_nle.mp g z.1.2)) (fun z => absurd rfl z), fun z => absurd rfl z⟩)
abbrev nY (a b : Int64) : Prop := ¬ a < 1 ∧ a ≤ b ∧ b ≤ 1000
theorem nY_iff {a b : Int64} : nY a b ↔ nR a b ∧ (¬ a < 1 ∧ a ≤ b) := by
  unfold nY nR
  simp only [i64_lt, i64_le]
  have o : (1 : Int64).toInt = 1 := by decide
  have t : (1000 : Int64).toInt = 1000 := by decide
  rw [o, t]
  omega
theorem sp_L_yieldOf {a b : Int64} {y : Nat} {yab ybe out : Nat → Int64} {Q : Int32 → Int32 → (Nat → Int64) → (Nat → Int64) → (Nat → Int64) → Prop} (hy : y ≤ 8)
    (h1 : ¬ nY a b → Q 1 (nI y) yab ybe out)
    (h2 : nY a b → y = 8 → Q 0 (nI y) yab ybe (vp_updL out 0 0))
    (h3 : nY a b → y < 8 → Q 0 (nI (y + 1)) (vp_updL yab y a) (vp_updL ybe y b) (vp_updL out 0 1)) : wp_L_yieldOf a b (nI y) yab ybe out Q := by
  unfold wp_L_yieldOf wp_C_yieldOf
  refine sp_needRatio (fun n => sp_needNumber (fun c d => ?_) (fun c => ⟨fun _ => h1 (fun z => ?_), rfl⟩)) (fun n => ⟨fun _ => h1 (fun z => n (nY_iff.mp z).1), rfl⟩)
  · have ny := nY_iff.mpr ⟨n, c, d⟩
    unfold wp_Y_add
    refine ⟨fun g => ?_, fun g => ?_⟩
    · have hy2 : y < 8 := lt_c (m := 8) (by omega) (by decide) g
      refine ⟨vp_in_nI hy2 (by decide), fun f1 e1 => ⟨vp_in_nI hy2 (by decide), fun f2 e2 x3 h3' => ⟨Or.inr rfl, Or.inr rfl, fun q => absurd q (by decide), fun _ => ⟨v01, fun f e => ?_⟩⟩⟩⟩
      rw [nI_clamp (by omega)] at e1 e2
      rw [nI_1] at h3'
      rw [z_c] at e
      subst e1; subst e2; subst h3'; subst e
      exact h3 ny hy2
    · have hy2 : y = 8 := by have := nlt_c (m := 8) (by omega) (by decide) g; omega
      refine ⟨Or.inl rfl, Or.inl rfl, fun _ => ⟨v01, fun f e => ?_⟩, fun q => absurd rfl q⟩
      rw [z_c] at e; subst e
      exact h2 ny hy2
  · have := nY_iff.mp z
    exact c.elim this.2.1 (fun g => g this.2.2)
theorem sp_M_yieldOf {a b : Int64} {y : Nat} {yab ybe : Nat → Int64} {Q : Int32 → Int32 → Int32 → (Nat → Int64) → (Nat → Int64) → Prop} (hy : y ≤ 8)
    (h1 : ¬ nY a b → Q 0 1 (nI y) yab ybe)
    (h2 : nY a b → y = 8 → Q 0 0 (nI y) yab ybe)
    (h3 : nY a b → y < 8 → Q 1 0 (nI (y + 1)) (vp_updL yab y a) (vp_updL ybe y b)) : wp_M_yieldOf a b (nI y) yab ybe Q := by
  have bad : ¬ nY a b → wp_M_yieldOf_J25 a b (nI y) yab ybe Q := by
    intro n
    unfold wp_M_yieldOf_J25 wp_M_yieldOf_J26 wp_M_yieldOf_J45
    exact ⟨fun _ => ⟨Or.inl rfl, h1 n⟩, fun q => absurd q (by decide)⟩
  unfold wp_M_yieldOf
  refine ⟨fun g => bad (fun z => z.1 g), fun g1 => ⟨fun g => bad (fun z => lt_nle.mp g z.2.1), fun g2 => ⟨fun g => bad (fun z => lt_nle.mp g z.2.2), fun g3 => ?_⟩⟩⟩
  have ny : nY a b := ⟨g1, nlt_le.mp g2, nlt_le.mp g3⟩
  unfold wp_M_yieldOf_J26 wp_M_yieldOf_J45
  refine ⟨fun q => absurd rfl q, fun _ => ⟨fun g => ?_, fun g => ?_⟩⟩
  · have hy2 : y < 8 := by
      rcases Nat.lt_or_ge y 8 with q | q
      · exact q
      · exact absurd (show nI y = nI 8 by rw [show y = 8 by omega]) g
    refine ⟨vp_in_nI hy2 (by decide), fun f1 e1 => ⟨vp_in_nI hy2 (by decide), fun f2 e2 x3 h3' => ⟨Or.inr rfl, ?_⟩⟩⟩
    rw [nI_clamp (by omega)] at e1 e2
    rw [nI_1] at h3'
    subst e1; subst e2; subst h3'
    exact h3 ny hy2
  · have hy2 : y = 8 := (nI_eq (b := 8) (by omega) (by decide)).mp g
    exact ⟨Or.inl rfl, h2 ny hy2⟩
abbrev nT (c : Int64) : Prop := ¬ c < 0 ∧ c ≤ 1000000000
theorem sp_L_tooling {c t : Int64} {out : Nat → Int64} {Q : Int32 → Int64 → (Nat → Int64) → Prop} (h1 : ¬ nT c → Q 1 t out) (h2 : nT c → Q 0 c (vp_updL out 0 (if t = c then 0 else 1))) : wp_L_tooling c t out Q := by
  unfold wp_L_tooling wp_C_tooling
  refine sp_needNumber (fun p q => ?_) (fun p => ⟨fun _ => h1 (fun z => p.elim z.1 (fun g => g z.2)), rfl⟩)
  have h := h2 ⟨p, q⟩
  refine ⟨fun g => ⟨Or.inl rfl, fun _ => ⟨v01, fun f e => ?_⟩, fun q => absurd rfl q⟩, fun g => ⟨Or.inr rfl, fun q => absurd q (by decide), fun _ => ⟨v01, fun f e => ?_⟩⟩⟩
  · rw [z_c] at e; subst e; rw [if_pos g] at h; exact h
  · rw [z_c] at e; subst e; rw [if_neg g] at h; exact h
theorem sp_M_tooling {c t : Int64} {Q : Int32 → Int32 → Int64 → Prop} (h1 : ¬ nT c → Q 0 1 t) (h2 : nT c → Q (if t = c then 0 else 1) 0 c) : wp_M_tooling c t Q := by
  unfold wp_M_tooling
  refine sp_within (fun p q => ⟨fun z => absurd z (by decide), fun _ => ?_⟩) (fun p => ⟨fun _ => ?_, fun z => absurd rfl z⟩)
  · have h := h2 ⟨p, nlt_le.mp q⟩
    unfold wp_M_tooling_J17 wp_M_tooling_J36
    refine ⟨fun z => absurd rfl z, fun _ => ⟨fun g => ⟨Or.inr rfl, ?_⟩, fun g => ⟨Or.inl rfl, ?_⟩⟩⟩
    · rw [if_neg g] at h; exact h
    · rw [if_pos g] at h; rw [g]; exact h
  · unfold wp_M_tooling_J17 wp_M_tooling_J36
    exact ⟨fun _ => ⟨Or.inl rfl, h1 (fun z => p.elim z.1 (fun g => lt_nle.mp g z.2))⟩, fun z => absurd z (by decide)⟩
theorem sp_L_alternate {x0 x1 : Int32} {pc : Nat} {alts : Nat → Int32} {out : Nat → Int64} {Q : Int32 → (Nat → Int32) → (Nat → Int64) → Prop} (hpc : pc ≤ 30)
    (h1 : ¬ ((¬ x0 < 0 ∧ x0 < nI pc) ∧ (¬ x1 < 0 ∧ x1 < nI pc)) → Q 1 alts out)
    (h2 : ∀ p o, p < pc → o < pc → x0 = nI p → x1 = nI o → stB (alts p) o p = true → Q 0 alts (vp_updL out 0 0))
    (h3 : ∀ p o, p < pc → o < pc → x0 = nI p → x1 = nI o → ¬ stB (alts p) o p = true → Q 0 (upd alts p (alts p ||| (1 <<< (nI o &&& 31)))) (vp_updL out 0 1)) : wp_L_alternate x0 x1 (nI pc) alts out Q := by
  unfold wp_L_alternate wp_C_alternate
  refine sp_needIndex (fun a b => sp_needIndex (fun c d => ?_) (fun c => ⟨fun _ => h1 (fun z => c.elim z.2.1 (fun g => g z.2.2)), rfl⟩)) (fun c => ⟨fun _ => h1 (fun z => c.elim z.1.1 (fun g => g z.1.2)), rfl⟩)
  obtain ⟨p, hp, rfl⟩ := ix_lt (n := pc) (by omega) a b
  obtain ⟨o, ho, rfl⟩ := ix_lt (n := pc) (by omega) c d
  refine sp_mayStandIn (by omega) (by omega) ?_
  by_cases hs : stB (alts p) o p = true
  · rw [if_pos hs]
    refine ⟨fun q => absurd q (by decide), fun _ => ⟨Or.inl rfl, fun _ => ⟨v01, fun f e => ?_⟩, fun q => absurd rfl q⟩⟩
    rw [z_c] at e; subst e
    exact h2 p o hp ho rfl rfl hs
  · rw [if_neg hs]
    refine ⟨fun _ => ⟨vp_in_nI (by omega) (by decide), fun x2 e2 => ⟨vp_in_nI (by omega) (by decide), fun f3 e3 => ⟨Or.inr rfl, fun q => absurd q (by decide), fun _ => ⟨v01, fun f e => ?_⟩⟩⟩⟩, fun q => absurd rfl q⟩
    rw [nI_clamp (by omega)] at e2 e3
    rw [z_c] at e; subst e2; subst e3; subst e
    exact h3 p o hp ho rfl rfl hs
theorem sp_M_alternate {x0 x1 : Int32} {pc : Nat} {alts : Nat → Int32} {Q : Int32 → Int32 → (Nat → Int32) → Prop} (hpc : pc ≤ 30)
    (h1 : ¬ ((¬ x0 < 0 ∧ x0 < nI pc) ∧ (¬ x1 < 0 ∧ x1 < nI pc)) → Q 0 1 alts)
    (h2 : ∀ p o, p < pc → o < pc → x0 = nI p → x1 = nI o → stB (alts p) o p = true → Q 0 0 alts)
    (h3 : ∀ p o, p < pc → o < pc → x0 = nI p → x1 = nI o → ¬ stB (alts p) o p = true → Q 1 0 (upd alts p (alts p ||| (1 <<< (nI o &&& 31))))) : wp_M_alternate x0 x1 (nI pc) alts Q := by
  have bad : ¬ ((¬ x0 < 0 ∧ x0 < nI pc) ∧ (¬ x1 < 0 ∧ x1 < nI pc)) → wp_M_alternate_J21 x0 x1 alts Q := by
    intro n
    unfold wp_M_alternate_J21 wp_M_alternate_J22 wp_M_alternate_J51
    exact ⟨fun _ => ⟨Or.inl rfl, h1 n⟩, fun q => absurd q (by decide)⟩
  unfold wp_M_alternate
  refine sp_isPart (fun a b => ⟨fun q => absurd q (by decide), fun _ => sp_isPart (fun c d => ⟨fun q => absurd q (by decide), fun _ => ?_⟩) (fun c => ⟨fun _ => bad (fun z => c.elim z.2.1 (fun g => le_nlt.mp g z.2.2)), fun q => absurd rfl q⟩)⟩) (fun c => ⟨fun _ => bad (fun z => c.elim z.1.1 (fun g => le_nlt.mp g z.1.2)), fun q => absurd rfl q⟩)
  obtain ⟨p, hp, rfl⟩ := ixv (n := pc) (by omega) (vin a b)
  obtain ⟨o, ho, rfl⟩ := ixv (n := pc) (by omega) (vin c d)
  unfold wp_M_alternate_J22 wp_M_alternate_J51
  rw [nI_clamp (n := p) (by omega)]
  refine ⟨fun q => absurd rfl q, fun _ => ⟨fun g => ⟨Or.inl rfl, h2 p o hp ho rfl rfl ?_⟩, fun g => ⟨vp_in_nI (by omega) (by decide), fun g2 => ⟨vp_in_nI (by omega) (by decide), fun x3 e3 => ⟨vp_in_nI (by omega) (by decide), fun f4 e4 => ⟨Or.inr rfl, ?_⟩⟩⟩, fun g2 => ⟨Or.inl rfl, h2 p o hp ho rfl rfl ?_⟩⟩⟩⟩
  · have : p = o := (nI_eq (by omega) (by omega)).mp g
    simp [stB, this]
  · subst e3; subst e4
    refine h3 p o hp ho rfl rfl (fun z => ?_)
    have hne : ¬ o = p := fun e => g (by rw [e])
    have hb : bt (alts p) o = true := by simpa [stB, hne] using z
    exact g2 ((bit_r1 (by omega)).mpr hb)
  · have hb := (bit_r1 (by omega)).mp g2
    simp [stB, hb]
