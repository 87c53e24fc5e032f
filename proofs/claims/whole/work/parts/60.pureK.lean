/-! the mathematics, part K: steps, rates, yields, tooling, alternates told -/
def tlR (keys cents : Nat → Int64) (key c : Int64) (base sz : Nat) : Int32 := if fnd keys key base sz 0 < sz then (if cents (base + fnd keys key base sz 0) = c then 0 else 1) else if sz < 6 then 1 else 0
def tlK (keys : Nat → Int64) (key : Int64) (base sz : Nat) : Nat → Int64 := if fnd keys key base sz 0 < sz then keys else if sz < 6 then vp_updL keys (base + sz) key else keys
def tlS (sizes : Nat → Int32) (keys : Nat → Int64) (key : Int64) (base li sz : Nat) : Nat → Int32 := if fnd keys key base sz 0 < sz then sizes else if sz < 6 then upd sizes li (nI (sz + 1)) else sizes
def tlC (cents keys : Nat → Int64) (key c : Int64) (base sz : Nat) : Nat → Int64 := if fnd keys key base sz 0 < sz then vp_updL cents (base + fnd keys key base sz 0) c else if sz < 6 then vp_updL cents (base + sz) c else cents
theorem fnd_end {keys : Nat → Int64} {key : Int64} {base sz : Nat} (h : fnd keys key base sz 0 = sz) : ¬ fnd keys key base sz 0 < sz := by omega
theorem sp_St_tell2 {t m sz : Nat} {key c : Int64} {keys cents : Nat → Int64} {sizes : Nat → Int32} {Q : Int32 → (Nat → Int64) → (Nat → Int32) → (Nat → Int64) → Prop} (hl : 8 * t + m < 248) (hs : sizes (8 * t + m) = nI sz) (hsz : sz ≤ 6) (h0 : sz < 6 → ¬ cents (6 * (8 * t + m) + sz) = c)
    (h : Q (tlR keys cents key c (6 * (8 * t + m)) sz) (tlK keys key (6 * (8 * t + m)) sz) (tlS sizes keys key (6 * (8 * t + m)) (8 * t + m) sz) (tlC cents keys key c (6 * (8 * t + m)) sz)) : wp_St_tell (nI t) (nI m) key c keys sizes cents Q := by
  unfold tlR tlK tlS tlC at h
  refine sp_St_tell hl hs hsz h0 (fun a b => ?_) (fun a b => ?_) (fun a b => ?_) (fun a b => ?_)
  · rw [if_pos a, if_pos a, if_pos a, if_pos a, if_pos b, upL_same b] at h; exact h
  · rw [if_pos a, if_pos a, if_pos a, if_pos a, if_neg b] at h; exact h
  · have n := fnd_end a; rw [if_neg n, if_neg n, if_neg n, if_neg n, if_pos b, if_pos b, if_pos b, if_pos b] at h; exact h
  · have n := fnd_end a; have b2 : ¬ sz < 6 := by omega
    rw [if_neg n, if_neg n, if_neg n, if_neg n, if_neg b2, if_neg b2, if_neg b2, if_neg b2] at h; exact h
theorem sp_M_tellStep2 {li sz : Nat} {key c : Int64} {keys cents : Nat → Int64} {sizes : Nat → Int32} {Q : Int32 → (Nat → Int32) → (Nat → Int64) → (Nat → Int64) → Prop} (hl : li < 248) (hs : sizes li = nI sz) (hsz : sz ≤ 6)
    (h : Q (tlR keys cents key c (6 * li) sz) (tlS sizes keys key (6 * li) li sz) (tlK keys key (6 * li) sz) (tlC cents keys key c (6 * li) sz)) : wp_M_tellStep (nI li) key c sizes keys cents Q := by
  unfold tlR tlK tlS tlC at h
  refine sp_M_tellStep hl hs hsz (fun a b => ?_) (fun a b => ?_) (fun a b => ?_) (fun a b => ?_)
  · rw [if_pos a, if_pos a, if_pos a, if_pos a, if_pos b, upL_same b] at h; exact h
  · rw [if_pos a, if_pos a, if_pos a, if_pos a, if_neg b] at h; exact h
  · have n := fnd_end a; rw [if_neg n, if_neg n, if_neg n, if_neg n, if_pos b, if_pos b, if_pos b, if_pos b] at h; exact h
  · have n := fnd_end a; have b2 : ¬ sz < 6 := by omega
    rw [if_neg n, if_neg n, if_neg n, if_neg n, if_neg b2, if_neg b2, if_neg b2, if_neg b2] at h; exact h
theorem tlR_01 {keys cents : Nat → Int64} {key c : Int64} {base sz : Nat} : tlR keys cents key c base sz = 0 ∨ tlR keys cents key c base sz = 1 := by
  unfold tlR
  repeat' split
  all_goals simp
def CZ (szs : Nat → Nat) (cents : Nat → Int64) : Prop := ∀ li k, li < 248 → szs li ≤ k → k < 6 → cents (6 * li + k) = 0
/-- told steps keep the lists' form -/
theorem LI_tell {szs : Nat → Nat} {sizes : Nat → Int32} {keys cents : Nat → Int64} {key c : Int64} {li f : Nat} (hL : LIs szs sizes keys) (hz : CZ szs cents) (hli : li < 248) (hk : key = lN f) (f1 : 1 ≤ f) (f2 : f ≤ 1000000000) :
    ∃ szs2, LIs szs2 (tlS sizes keys key (6 * li) li (szs li)) (tlK keys key (6 * li) (szs li)) ∧ CZ szs2 (tlC cents keys key c (6 * li) (szs li)) := by
  have h6 := (hL li hli).2.1
  unfold tlS tlK tlC
  by_cases a : fnd keys key (6 * li) (szs li) 0 < szs li
  · rw [if_pos a, if_pos a, if_pos a]
    refine ⟨szs, hL, fun l k h1 h2 h3 => ?_⟩
    rw [up_ne (by rcases Nat.lt_or_ge l li with q | q
                  · omega
                  · rcases Nat.lt_or_ge li l with q2 | q2
                    · omega
                    · have : l = li := by omega
                      subst this; omega)]
    exact hz l k h1 h2 h3
  · rw [if_neg a, if_neg a, if_neg a]
    by_cases b : szs li < 6
    · rw [if_pos b, if_pos b, if_pos b]
      refine ⟨fun l => if l = li then szs li + 1 else szs l, fun l hl => ?_, fun l k h1 h2 h3 => ?_⟩
      · by_cases e : l = li
        · subst e
          simp only [if_true]
          refine ⟨ui_at, by omega, fun k hk2 => ?_⟩
          by_cases ek : k = szs l
          · subst ek; rw [up_at]; exact ⟨f, hk, f1, f2⟩
          · rw [up_ne (by omega)]; exact (hL l hl).2.2 k (by omega)
        · simp only [if_neg e]
          have hh := hL l hl
          refine ⟨by rw [ui_ne e]; exact hh.1, hh.2.1, fun k hk2 => ?_⟩
          rw [up_ne (by omega)]; exact hh.2.2 k hk2
      · by_cases e : l = li
        · subst e
          simp only [if_true] at h2
          rw [up_ne (by omega)]; exact hz l k h1 (by omega) h3
        · simp only [if_neg e] at h2
          rw [up_ne (by omega)]; exact hz l k h1 h2 h3
    · rw [if_neg b, if_neg b, if_neg b]
      exact ⟨szs, hL, hz⟩
theorem lOf {v : Int64} {b : Nat} (hb : b < 2 ^ 62) (h1 : ¬ v < 1) (h2 : v ≤ lN b) : ∃ f : Nat, v = lN f ∧ 1 ≤ f ∧ f ≤ b := by
  obtain ⟨f, f1, e⟩ := pk_lOf (x := v) (by rw [i64_lt] at h1 ⊢; have z : (0 : Int64).toInt = 0 := by decide
                                           have o : (1 : Int64).toInt = 1 := by decide
                                           omega)
  subst e
  refine ⟨f, rfl, ?_, (pk_lLE f1 (by omega)).mp h2⟩
  rcases Nat.lt_or_ge f 1 with q | q
  · exact absurd ((pk_lLT (b := 1) f1 (by decide)).mpr q) h1
  · exact q
theorem ne_c {cents : Nat → Int64} {szs : Nat → Nat} {c : Int64} (hz : CZ szs cents) (h1 : ¬ c < 1) {li : Nat} (hli : li < 248) : szs li < 6 → ¬ cents (6 * li + szs li) = c := by
  intro h e
  rw [hz li (szs li) hli (Nat.le_refl _) h] at e
  rw [← e] at h1
  exact h1 (by decide)
abbrev nP (y0 y1 : Int64) : Prop := (¬ y0 < 1 ∧ y0 ≤ 1000000000) ∧ (¬ y1 < 1 ∧ y1 ≤ 100000)
theorem sp_needStep {y0 y1 : Int64} {Q : Prop} {XE : String → Prop} (h1 : nP y0 y1 → Q) (h2 : ¬ nP y0 y1 → XE eA) : wp_C_needStep y0 y1 Q XE := by
  unfold wp_C_needStep
  exact sp_needNumber (fun a b => sp_needNumber (fun c d => h1 ⟨⟨a, b⟩, ⟨c, d⟩⟩) (fun c => h2 (fun z => c.elim z.2.1 (fun g => g z.2.2)))) (fun c => h2 (fun z => c.elim z.1.1 (fun g => g z.1.2)))
theorem sp_L_price {x0 x1 : Int32} {y0 y1 : Int64} {pc : Nat} {szs : Nat → Nat} {keys cents out : Nat → Int64} {sizes : Nat → Int32} {Q : Int32 → (Nat → Int64) → (Nat → Int32) → (Nat → Int64) → (Nat → Int64) → Prop} (hpc : pc ≤ 30) (hL : LIs szs sizes keys) (hz : CZ szs cents)
    (h1 : ¬ ((¬ x0 < 0 ∧ x0 < nI pc) ∧ (¬ x1 < 0 ∧ x1 < nI 8)) → Q 1 keys sizes cents out)
    (h2 : ((¬ x0 < 0 ∧ x0 < nI pc) ∧ (¬ x1 < 0 ∧ x1 < nI 8)) → ¬ nP y0 y1 → Q 2 keys sizes cents out)
    (h3 : ∀ p m, p < pc → m < 8 → x0 = nI p → x1 = nI m → nP y0 y1 → Q 0 (tlK keys y0 (6 * (8 * p + m)) (szs (8 * p + m))) (tlS sizes keys y0 (6 * (8 * p + m)) (8 * p + m) (szs (8 * p + m))) (tlC cents keys y0 y1 (6 * (8 * p + m)) (szs (8 * p + m))) (vp_updL out 0 (if tlR keys cents y0 y1 (6 * (8 * p + m)) (szs (8 * p + m)) = 0 then 0 else 1))) : wp_L_price x0 x1 y0 y1 (nI pc) keys sizes cents out Q := by
  unfold wp_L_price wp_C_price
  refine sp_needIndex (fun a b => sp_needIndex (fun c d => sp_needStep (fun n => ?_) (fun n => ?_)) (fun c => ?_)) (fun c => ?_)
  · obtain ⟨p, hp, rfl⟩ := ix_lt (n := pc) (by omega) a b
    obtain ⟨m, hm, rfl⟩ := ix_lt (n := 8) (by decide) c d
    have hh := hL (8 * p + m) (by omega)
    refine sp_St_tell2 (by omega) hh.1 hh.2.1 (ne_c hz n.2.1 (by omega)) ⟨tlR_01, ?_⟩
    have h := h3 p m hp hm rfl rfl n
    unfold wp_L_price_J20
    refine ⟨fun g => ⟨v01, fun f e => ?_⟩, fun g => ⟨v01, fun f e => ?_⟩⟩
    · rw [z_c] at e; subst e; rw [if_pos g] at h; exact h
    · rw [z_c] at e; subst e; rw [if_neg g] at h; exact h
  · exact ⟨fun q => absurd q (by decide), fun _ => h2 ⟨⟨a, b⟩, c, d⟩ n, Or.inr rfl⟩
  · exact ⟨fun _ => h1 (fun z => c.elim z.2.1 (fun g => g z.2.2)), fun q => absurd q (by decide), Or.inl rfl⟩
  · exact ⟨fun _ => h1 (fun z => c.elim z.1.1 (fun g => g z.1.2)), fun q => absurd q (by decide), Or.inl rfl⟩
theorem sp_L_board {x1 : Int32} {y0 y1 : Int64} {szs : Nat → Nat} {keys cents out : Nat → Int64} {sizes : Nat → Int32} {Q : Int32 → (Nat → Int64) → (Nat → Int32) → (Nat → Int64) → (Nat → Int64) → Prop} (hL : LIs szs sizes keys) (hz : CZ szs cents)
    (h1 : ¬ (¬ x1 < 0 ∧ x1 < nI 8) → Q 1 keys sizes cents out)
    (h2 : (¬ x1 < 0 ∧ x1 < nI 8) → ¬ nP y0 y1 → Q 2 keys sizes cents out)
    (h3 : ∀ m, m < 8 → x1 = nI m → nP y0 y1 → Q 0 (tlK keys y0 (6 * (8 * 30 + m)) (szs (8 * 30 + m))) (tlS sizes keys y0 (6 * (8 * 30 + m)) (8 * 30 + m) (szs (8 * 30 + m))) (tlC cents keys y0 y1 (6 * (8 * 30 + m)) (szs (8 * 30 + m))) (vp_updL out 0 (if tlR keys cents y0 y1 (6 * (8 * 30 + m)) (szs (8 * 30 + m)) = 0 then 0 else 1))) : wp_L_board x1 y0 y1 keys sizes cents out Q := by
  unfold wp_L_board wp_C_board
  refine sp_needIndex (fun c d => sp_needStep (fun n => ?_) (fun n => ?_)) (fun c => ?_)
  · obtain ⟨m, hm, rfl⟩ := ix_lt (n := 8) (by decide) c d
    have hh := hL (8 * 30 + m) (by omega)
    show wp_St_tell (nI 30) (nI m) _ _ _ _ _ _
    refine sp_St_tell2 (by omega) hh.1 hh.2.1 (ne_c hz n.2.1 (by omega)) ⟨tlR_01, ?_⟩
    have h := h3 m hm rfl n
    refine ⟨fun g => ⟨v01, fun f e => ?_⟩, fun g => ⟨v01, fun f e => ?_⟩⟩
    · rw [z_c] at e; subst e; rw [if_pos g] at h; exact h
    · rw [z_c] at e; subst e; rw [if_neg g] at h; exact h
  · exact ⟨fun q => absurd q (by decide), fun _ => h2 ⟨c, d⟩ n, Or.inr rfl⟩
  · exact ⟨fun _ => h1 (fun z => c.elim z.1 (fun g => g z.2)), fun q => absurd q (by decide), Or.inl rfl⟩
theorem vin {x : Int32} {n : Nat} (a : ¬ x < 0) (b : ¬ nI n ≤ x) : ¬ x < 0 ∧ x < nI n := ⟨a, by rw [i32_lt]; rw [i32_le] at b; omega⟩
theorem sp_M_price {x0 x1 : Int32} {y0 y1 : Int64} {pc : Nat} {szs : Nat → Nat} {keys cents : Nat → Int64} {sizes : Nat → Int32} {Q : Int32 → Int32 → (Nat → Int32) → (Nat → Int64) → (Nat → Int64) → Prop} (hpc : pc ≤ 30) (hL : LIs szs sizes keys)
    (h1 : ¬ ((¬ x0 < 0 ∧ x0 < nI pc) ∧ (¬ x1 < 0 ∧ x1 < nI 8)) → Q 0 1 sizes keys cents)
    (h2 : ((¬ x0 < 0 ∧ x0 < nI pc) ∧ (¬ x1 < 0 ∧ x1 < nI 8)) → ¬ nP y0 y1 → Q 0 2 sizes keys cents)
    (h3 : ∀ p m, p < pc → m < 8 → x0 = nI p → x1 = nI m → nP y0 y1 → Q (tlR keys cents y0 y1 (6 * (8 * p + m)) (szs (8 * p + m))) 0 (tlS sizes keys y0 (6 * (8 * p + m)) (8 * p + m) (szs (8 * p + m))) (tlK keys y0 (6 * (8 * p + m)) (szs (8 * p + m))) (tlC cents keys y0 y1 (6 * (8 * p + m)) (szs (8 * p + m)))) : wp_M_price x0 x1 y0 y1 (nI pc) sizes keys cents Q := by
  have bad : ∀ w : Int32, ¬ w = 0 → Q 0 w sizes keys cents → wp_M_price_J60 x0 x1 y0 y1 sizes keys cents Q w := by
    intro w hw h
    unfold wp_M_price_J60 wp_M_price_J90 wp_M_price_J91
    exact ⟨fun _ => ⟨Or.inl rfl, h⟩, fun q => absurd q hw⟩
  have all : ∀ v2 : Int32, (v2 = 0 → ¬ nP y0 y1) → (¬ v2 = 0 → nP y0 y1) → wp_M_price_J28 x0 x1 y0 y1 (nI pc) sizes keys cents Q v2 := by
    intro v2 n0 n1
    unfold wp_M_price_J28 wp_M_price_J46
    refine sp_isPart (fun a b => ⟨fun q => absurd q (by decide), fun _ => sp_isMaker (fun c d => ⟨fun _ => ⟨fun g => bad 2 (by decide) (h2 ⟨vin a b, vin (n := 8) c d⟩ (n0 g)), fun g => ?_⟩, fun q => absurd q (by decide)⟩) (fun c => ⟨fun q => absurd rfl q, fun _ => bad 1 (by decide) (h1 (fun z => c.elim z.2.1 (fun g => le_nlt.mp g z.2.2)))⟩)⟩) (fun c => ⟨fun _ => bad 1 (by decide) (h1 (fun z => c.elim z.1.1 (fun g => le_nlt.mp g z.1.2))), fun q => absurd rfl q⟩)
    obtain ⟨p, hp, rfl⟩ := ixv (n := pc) (by omega) (vin a b)
    obtain ⟨m, hm, rfl⟩ := ixv (n := 8) (by decide) (vin (n := 8) c d)
    have hh := hL (8 * p + m) (by omega)
    have h := h3 p m hp hm rfl rfl (n1 g)
    unfold wp_M_price_J60 wp_M_price_J90 wp_M_price_J91
    refine ⟨fun q => absurd rfl q, fun _ => ?_⟩
    have e8 : 8 * nI p + nI m = nI (8 * p + m) := by show nI 8 * nI p + nI m = _; rw [pk_mul, nI_add]
    rw [e8]
    refine sp_M_tellStep2 (by omega) hh.1 hh.2.1 ⟨fun g => ⟨Or.inl rfl, ?_⟩, fun g => ⟨Or.inr rfl, ?_⟩⟩
    · rw [g] at h; exact h
    · rw [tlR_01.resolve_left g] at h; exact h
  unfold wp_M_price wp_M_price_J27
  refine sp_within (fun a b => ⟨fun q => absurd q (by decide), fun _ => sp_within (fun c d => ⟨fun q => absurd q (by decide), fun _ => all 1 (fun q => absurd q (by decide)) (fun _ => ⟨⟨a, nlt_le.mp b⟩, c, nlt_le.mp d⟩)⟩) (fun c => ⟨fun _ => all 0 (fun _ z => c.elim z.2.1 (fun g => lt_nle.mp g z.2.2)) (fun q => absurd rfl q), fun q => absurd rfl q⟩)⟩) (fun c => ⟨fun _ => all 0 (fun _ z => c.elim z.1.1 (fun g => lt_nle.mp g z.1.2)) (fun q => absurd rfl q), fun q => absurd rfl q⟩)
theorem sp_M_board {x1 : Int32} {y0 y1 : Int64} {szs : Nat → Nat} {keys cents : Nat → Int64} {sizes : Nat → Int32} {Q : Int32 → Int32 → (Nat → Int32) → (Nat → Int64) → (Nat → Int64) → Prop} (hL : LIs szs sizes keys)
    (h1 : ¬ (¬ x1 < 0 ∧ x1 < nI 8) → Q 0 1 sizes keys cents)
    (h2 : (¬ x1 < 0 ∧ x1 < nI 8) → ¬ nP y0 y1 → Q 0 2 sizes keys cents)
    (h3 : ∀ m, m < 8 → x1 = nI m → nP y0 y1 → Q (tlR keys cents y0 y1 (6 * (8 * 30 + m)) (szs (8 * 30 + m))) 0 (tlS sizes keys y0 (6 * (8 * 30 + m)) (8 * 30 + m) (szs (8 * 30 + m))) (tlK keys y0 (6 * (8 * 30 + m)) (szs (8 * 30 + m))) (tlC cents keys y0 y1 (6 * (8 * 30 + m)) (szs (8 * 30 + m)))) : wp_M_board x1 y0 y1 sizes keys cents Q := by
  have bad : ∀ w : Int32, ¬ w = 0 → Q 0 w sizes keys cents → wp_M_board_J52 x1 y0 y1 sizes keys cents Q w := by
    intro w hw h
    unfold wp_M_board_J52 wp_M_board_J81 wp_M_board_J82
    exact ⟨fun _ => ⟨Or.inl rfl, h⟩, fun q => absurd q hw⟩
  have all : ∀ v2 : Int32, (v2 = 0 → ¬ nP y0 y1) → (¬ v2 = 0 → nP y0 y1) → wp_M_board_J28 x1 y0 y1 sizes keys cents Q v2 := by
    intro v2 n0 n1
    unfold wp_M_board_J28
    refine sp_isMaker (fun c d => ⟨fun _ => ⟨fun g => bad 2 (by decide) (h2 (vin (n := 8) c d) (n0 g)), fun g => ?_⟩, fun q => absurd q (by decide)⟩) (fun c => ⟨fun q => absurd rfl q, fun _ => bad 1 (by decide) (h1 (fun z => c.elim z.1 (fun g => le_nlt.mp g z.2)))⟩)
    obtain ⟨m, hm, rfl⟩ := ixv (n := 8) (by decide) (vin (n := 8) c d)
    have hh := hL (8 * 30 + m) (by omega)
    have h := h3 m hm rfl (n1 g)
    unfold wp_M_board_J52 wp_M_board_J81 wp_M_board_J82
    refine ⟨fun q => absurd rfl q, fun _ => ?_⟩
    have e8 : 240 + nI m = nI (8 * 30 + m) := by show nI 240 + nI m = _; rw [nI_add]
    rw [e8]
    refine sp_M_tellStep2 (by omega) hh.1 hh.2.1 ⟨fun g => ⟨Or.inl rfl, ?_⟩, fun g => ⟨Or.inr rfl, ?_⟩⟩
    · rw [g] at h; exact h
    · rw [tlR_01.resolve_left g] at h; exact h
  unfold wp_M_board wp_M_board_J27
  refine sp_within (fun a b => ⟨fun q => absurd q (by decide), fun _ => sp_within (fun c d => ⟨fun q => absurd q (by decide), fun _ => all 1 (fun q => absurd q (by decide)) (fun _ => ⟨⟨a, nlt_le.mp b⟩, c, nlt_le.mp d⟩)⟩) (fun c => ⟨fun _ => all 0 (fun _ z => c.elim z.2.1 (fun g => lt_nle.mp g z.2.2)) (fun q => absurd rfl q), fun q => absurd rfl q⟩)⟩) (fun c => ⟨fun _ => all 0 (fun _ z => c.elim z.1.1 (fun g => lt_nle.mp g z.1.2)) (fun q => absurd rfl q), fun q => absurd rfl q⟩)
