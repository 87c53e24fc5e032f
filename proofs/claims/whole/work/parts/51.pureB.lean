/-! the mathematics, part B: guards, steps and rates told -/
theorem sp_needIndex {x c : Int32} {Q : Prop} {XE : String → Prop} (h1 : ¬ x < 0 → x < c → Q) (h2 : (x < 0 ∨ ¬ x < c) → XE eI) : wp_C_needIndex x c Q XE := by
  unfold wp_C_needIndex wp_C_needIndex_J9
  exact ⟨fun h => h2 (Or.inl h), fun h => ⟨fun g => h1 h g, fun g => h2 (Or.inr g)⟩⟩
theorem sp_needNumber {x a b : Int64} {Q : Prop} {XE : String → Prop} (h1 : ¬ x < a → x ≤ b → Q) (h2 : (x < a ∨ ¬ x ≤ b) → XE eA) : wp_C_needNumber x a b Q XE := by
  unfold wp_C_needNumber wp_C_needNumber_J13
  exact ⟨fun h => h2 (Or.inl h), fun h => ⟨fun g => h1 h g, fun g => h2 (Or.inr g)⟩⟩
theorem sp_isPart {x c : Int32} {Q : Int32 → Prop} (h1 : ¬ x < 0 → ¬ c ≤ x → Q 1) (h2 : (x < 0 ∨ c ≤ x) → Q 0) : wp_M_isPart x c Q := by
  unfold wp_M_isPart wp_M_isPart_J16 wp_M_isPart_J17
  exact ⟨fun h => ⟨Or.inl rfl, h2 (Or.inl h)⟩, fun h => ⟨fun g => ⟨Or.inl rfl, h2 (Or.inr g)⟩, fun g => ⟨Or.inr rfl, h1 h g⟩⟩⟩
theorem sp_isMaker {x : Int32} {Q : Int32 → Prop} (h1 : ¬ x < 0 → ¬ 8 ≤ x → Q 1) (h2 : (x < 0 ∨ 8 ≤ x) → Q 0) : wp_M_isMaker x Q := by
  unfold wp_M_isMaker wp_M_isMaker_J14 wp_M_isMaker_J15
  exact ⟨fun h => ⟨Or.inl rfl, h2 (Or.inl h)⟩, fun h => ⟨fun g => ⟨Or.inl rfl, h2 (Or.inr g)⟩, fun g => ⟨Or.inr rfl, h1 h g⟩⟩⟩
theorem sp_isSort {x : Int32} {Q : Int32 → Prop} (h1 : ¬ x < 0 → ¬ 8 ≤ x → Q 1) (h2 : (x < 0 ∨ 8 ≤ x) → Q 0) : wp_M_isSort x Q := by
  unfold wp_M_isSort wp_M_isSort_J14 wp_M_isSort_J15
  exact ⟨fun h => ⟨Or.inl rfl, h2 (Or.inl h)⟩, fun h => ⟨fun g => ⟨Or.inl rfl, h2 (Or.inr g)⟩, fun g => ⟨Or.inr rfl, h1 h g⟩⟩⟩
theorem sp_within {x a b : Int64} {Q : Int32 → Prop} (h1 : ¬ x < a → ¬ b < x → Q 1) (h2 : (x < a ∨ b < x) → Q 0) : wp_M_within x a b Q := by
  unfold wp_M_within wp_M_within_J17 wp_M_within_J18
  exact ⟨fun h => ⟨Or.inl rfl, h2 (Or.inl h)⟩, fun h => ⟨fun g => ⟨Or.inl rfl, h2 (Or.inr g)⟩, fun g => ⟨Or.inr rfl, h1 h g⟩⟩⟩
theorem sp_isQuantity {x : Int64} {Q : Int32 → Prop} (h1 : ¬ x < 0 → ¬ 1000000 < x → Q 1) (h2 : (x < 0 ∨ 1000000 < x) → Q 0) : wp_M_isQuantity x Q := by
  unfold wp_M_isQuantity
  exact sp_within (fun a b => ⟨Or.inr rfl, h1 a b⟩) (fun a => ⟨Or.inl rfl, h2 a⟩)
theorem nlt_le {x b : Int64} : ¬ b < x ↔ x ≤ b := by
  rw [Int64.lt_iff_toInt_lt, Int64.le_iff_toInt_le]
  omega
theorem ix_lt {x : Int32} {n : Nat} (hn : n < 2 ^ 31) (h1 : ¬ x < 0) (h2 : x < nI n) : ∃ j, j < n ∧ x = nI j := by
  rcases pk_ix x hn with h | h | h
  · exact absurd h h1
  · rw [Int32.lt_iff_toInt_lt] at h2; rw [Int32.le_iff_toInt_le] at h; omega
  · exact h
theorem nI_nneg {j : Nat} (h : j < 2 ^ 31) : ¬ nI j < 0 := nI_pos h
/-- Steps.tell -/
theorem sp_St_tell {t m sz : Nat} {key c : Int64} {keys cents : Nat → Int64} {sizes : Nat → Int32} {Q : Int32 → (Nat → Int64) → (Nat → Int32) → (Nat → Int64) → Prop} (hl : 8 * t + m < 248) (hs : sizes (8 * t + m) = nI sz) (hsz : sz ≤ 6) (h0 : sz < 6 → ¬ cents (6 * (8 * t + m) + sz) = c)
    (hA : fnd keys key (6 * (8 * t + m)) sz 0 < sz → cents (6 * (8 * t + m) + fnd keys key (6 * (8 * t + m)) sz 0) = c → Q 0 keys sizes cents)
    (hB : fnd keys key (6 * (8 * t + m)) sz 0 < sz → ¬ cents (6 * (8 * t + m) + fnd keys key (6 * (8 * t + m)) sz 0) = c → Q 1 keys sizes (vp_updL cents (6 * (8 * t + m) + fnd keys key (6 * (8 * t + m)) sz 0) c))
    (hC : fnd keys key (6 * (8 * t + m)) sz 0 = sz → sz < 6 → Q 1 (vp_updL keys (6 * (8 * t + m) + sz) key) (upd sizes (8 * t + m) (nI (sz + 1))) (vp_updL cents (6 * (8 * t + m) + sz) c))
    (hD : fnd keys key (6 * (8 * t + m)) sz 0 = sz → sz = 6 → Q 0 keys sizes cents) : wp_St_tell (nI t) (nI m) key c keys sizes cents Q := by
  unfold wp_St_tell
  have e : nI t * 8 + nI m = nI (8 * t + m) := by
    show nI t * nI 8 + nI m = _
    rw [pk_mul, nI_add, Nat.mul_comm]
  rw [e]
  refine sp_K_slotFor hl (by decide) (by decide) (by decide) hs hsz (fun h => ?_) (fun h h' => ?_) (fun h h' => ?_)
  · refine ⟨fun q => absurd q (nI_m1 (by omega)), fun _ => sp_tellNumber (by omega) (by decide) ?_⟩
    by_cases hc : cents (6 * (8 * t + m) + fnd keys key (6 * (8 * t + m)) sz 0) = c
    · rw [if_pos hc, upL_same hc]
      exact ⟨fun _ => ⟨Or.inl rfl, hA h hc⟩, fun q => absurd rfl q⟩
    · rw [if_neg hc]
      exact ⟨fun q => absurd q (by decide), fun _ => ⟨Or.inr rfl, hB h hc⟩⟩
  · refine ⟨fun q => absurd q (nI_m1 (by omega)), fun _ => sp_tellNumber (by omega) (by decide) ?_⟩
    rw [if_neg (h0 h')]
    exact ⟨fun q => absurd q (by decide), fun _ => ⟨Or.inr rfl, hC h h'⟩⟩
  · exact ⟨fun _ => ⟨Or.inl rfl, hD h h'⟩, fun q => absurd rfl q⟩
/-- the reference's tellStep -/
theorem sp_M_tellStep {li sz : Nat} {key c : Int64} {keys cents : Nat → Int64} {sizes : Nat → Int32} {Q : Int32 → (Nat → Int32) → (Nat → Int64) → (Nat → Int64) → Prop} (hl : li < 248) (hs : sizes li = nI sz) (hsz : sz ≤ 6)
    (hA : fnd keys key (6 * li) sz 0 < sz → cents (6 * li + fnd keys key (6 * li) sz 0) = c → Q 0 sizes keys cents)
    (hB : fnd keys key (6 * li) sz 0 < sz → ¬ cents (6 * li + fnd keys key (6 * li) sz 0) = c → Q 1 sizes keys (vp_updL cents (6 * li + fnd keys key (6 * li) sz 0) c))
    (hC : fnd keys key (6 * li) sz 0 = sz → sz < 6 → Q 1 (upd sizes li (nI (sz + 1))) (vp_updL keys (6 * li + sz) key) (vp_updL cents (6 * li + sz) c))
    (hD : fnd keys key (6 * li) sz 0 = sz → sz = 6 → Q 0 sizes keys cents) : wp_M_tellStep (nI li) key c sizes keys cents Q := by
  unfold wp_M_tellStep
  intro x1 hx1
  rw [nI_6mul] at hx1
  subst hx1
  have e : 6 * nI li + sizes (nI li).toNatClampNeg = nI (6 * li + sz) := by rw [nI_clamp (by omega), hs, nI_6mul, nI_add]
  have stop : ∀ j, j ≤ sz → fnd keys key (6 * li) sz 0 = j → wp_M_tellStep_J40 (nI li) key c sizes keys cents (nI (6 * li + j)) Q := by
    intro j hj he
    unfold wp_M_tellStep_J40
    rw [e]
    refine ⟨vp_in_nI hl (by decide), fun hc => ?_, fun hc => ?_⟩
    · have hj2 : sz ≤ j := by have := ge_c (by omega) (by omega) hc; omega
      have hjs : j = sz := by omega
      subst hjs
      unfold wp_M_tellStep_J61
      refine ⟨fun _ => ⟨vp_in_nI hl (by decide), fun h6 => ?_, fun h6 => ?_⟩, fun q => absurd rfl q⟩
      · rw [nI_clamp (by omega), hs] at h6
        have h6 : j < 6 := by
          rcases Nat.lt_or_ge j 6 with q | q
          · exact q
          · exact absurd (show nI j = nI 6 by rw [show j = 6 by omega]) h6
        unfold wp_M_tellStep_J97 wp_M_tellStep_J112
        refine ⟨fun q => absurd rfl q, fun _ => ⟨vp_in_nI hl (by decide), fun x7 hx7 => ⟨vp_in_nI hl (by decide), fun f8 hf8 => ⟨vp_in_nI (by omega) (by decide), fun f5 hf5 => ⟨vp_in_nI (by omega) (by decide), fun f6 hf6 => ⟨Or.inr rfl, ?_⟩⟩⟩⟩⟩⟩
        rw [nI_clamp (by omega)] at hx7 hf8 hf5 hf6
        rw [hs, nI_1] at hx7
        subst hx7; subst hf8; subst hf5; subst hf6
        exact hC he h6
      · rw [nI_clamp (by omega), hs] at h6
        have h6 : j = 6 := (nI_eq (by omega) (by decide)).mp h6
        exact ⟨Or.inl rfl, hD he h6⟩
    · have hj2 : j < sz := by have := nge_c (by omega) (by omega) hc; omega
      have hk := fnd_hit keys key (6 * li) sz 0 (by omega)
      rw [he] at hA hB hk
      unfold wp_M_tellStep_J61
      refine ⟨fun q => absurd q (by decide), fun _ => ⟨vp_in_nI (by omega) (by decide), fun hne => ?_, fun heq => ?_⟩⟩
      · rw [nI_clamp (by omega)] at hne
        unfold wp_M_tellStep_J97 wp_M_tellStep_J112
        refine ⟨fun _ => ⟨vp_in_nI (by omega) (by decide), fun f5 hf5 => ⟨vp_in_nI (by omega) (by decide), fun f6 hf6 => ⟨Or.inr rfl, ?_⟩⟩⟩, fun q => absurd q (by decide)⟩
        rw [nI_clamp (by omega)] at hf5 hf6
        rw [upL_same hk] at hf5
        subst hf5; subst hf6
        exact hB hj2 hne
      · rw [nI_clamp (by omega)] at heq
        exact ⟨Or.inl rfl, hA hj2 heq⟩
  refine ⟨sz + 1, ?_⟩
  have key9 : ∀ f j, j + f = sz → fnd keys key (6 * li) sz 0 = fnd keys key (6 * li) f j → wp_M_tellStep_L6 (nI li) key c sizes keys cents Q (f + 1) (nI (6 * li + j)) := by
    intro f
    induction f with
    | zero =>
      intro j hj he
      rw [wp_M_tellStep_L6, e]
      refine ⟨vp_in_nI hl (by decide), fun _ => stop j (by omega) (by rw [he]; rfl), fun hc => ?_⟩
      exact absurd (nI_le (by omega) (by omega)) hc
    | succ f ih =>
      intro j hj he
      rw [wp_M_tellStep_L6, e]
      refine ⟨vp_in_nI hl (by decide), fun hc => ?_, fun _ => ⟨vp_in_nI (by omega) (by decide), fun heq => ?_, fun hne x9 hx9 => ?_⟩⟩
      · have := ge_c (by omega) (by omega) hc
        omega
      · rw [nI_clamp (by omega)] at heq
        exact stop j (by omega) (by rw [he]; unfold fnd; rw [if_pos heq])
      · rw [nI_clamp (by omega)] at hne
        rw [nI_1] at hx9
        subst hx9
        exact ih (j + 1) (by omega) (by rw [he]; conv => lhs; unfold fnd
                                        rw [if_neg hne])
  exact key9 sz 0 (by omega) rfl
