/-! the mathematics, part C: rates told -/
theorem sp_Ra_tell {m sz : Nat} {day a b : Int64} {keys ab be : Nat → Int64} {sizes : Nat → Int32} {Q : Int32 → (Nat → Int64) → (Nat → Int32) → (Nat → Int64) → (Nat → Int64) → Prop} (hm : m < 8) (hs : sizes m = nI sz) (hsz : sz ≤ 6) (h0 : sz < 6 → ¬ ab (6 * m + sz) = a)
    (hA : fnd keys day (6 * m) sz 0 < sz → ab (6 * m + fnd keys day (6 * m) sz 0) = a → be (6 * m + fnd keys day (6 * m) sz 0) = b → Q 0 keys sizes ab be)
    (hB : fnd keys day (6 * m) sz 0 < sz → ¬ (ab (6 * m + fnd keys day (6 * m) sz 0) = a ∧ be (6 * m + fnd keys day (6 * m) sz 0) = b) → Q 1 keys sizes (vp_updL ab (6 * m + fnd keys day (6 * m) sz 0) a) (vp_updL be (6 * m + fnd keys day (6 * m) sz 0) b))
    (hC : fnd keys day (6 * m) sz 0 = sz → sz < 6 → Q 1 (vp_updL keys (6 * m + sz) day) (upd sizes m (nI (sz + 1))) (vp_updL ab (6 * m + sz) a) (vp_updL be (6 * m + sz) b))
    (hD : fnd keys day (6 * m) sz 0 = sz → sz = 6 → Q 0 keys sizes ab be) : wp_Ra_tell (nI m) day a b keys sizes ab be Q := by
  unfold wp_Ra_tell
  refine sp_K_slotFor hm (by decide) (by decide) (by decide) hs hsz (fun h => ?_) (fun h h' => ?_) (fun h h' => ?_)
  · refine ⟨fun _ => sp_tellNumber (by omega) (by decide) (sp_tellNumber (by omega) (by decide) ?_), fun q => absurd q (nI_m1 (by omega))⟩
    by_cases ha : ab (6 * m + fnd keys day (6 * m) sz 0) = a
    · rw [if_pos ha]
      refine ⟨fun q => absurd rfl q, fun _ => ⟨fun q => ?_, fun q => ?_⟩⟩
      · by_cases hb : be (6 * m + fnd keys day (6 * m) sz 0) = b
        · rw [upL_same ha, upL_same hb]
          exact ⟨Or.inl rfl, hA h ha hb⟩
        · rw [if_neg hb] at q
          exact absurd q (by decide)
      · by_cases hb : be (6 * m + fnd keys day (6 * m) sz 0) = b
        · rw [if_pos hb] at q
          exact absurd rfl q
        · exact ⟨Or.inr rfl, hB h (fun z => hb z.2)⟩
    · rw [if_neg ha]
      exact ⟨fun _ => ⟨Or.inr rfl, hB h (fun z => ha z.1)⟩, fun q => absurd q (by decide)⟩
  · refine ⟨fun _ => sp_tellNumber (by omega) (by decide) (sp_tellNumber (by omega) (by decide) ?_), fun q => absurd q (nI_m1 (by omega))⟩
    rw [if_neg (h0 h')]
    exact ⟨fun _ => ⟨Or.inr rfl, hC h h'⟩, fun q => absurd q (by decide)⟩
  · exact ⟨fun q => absurd rfl q, fun _ => ⟨Or.inl rfl, hD h h'⟩⟩
theorem sp_M_currency9 {m sz : Nat} {day a b : Int64} {keys ab be : Nat → Int64} {sizes : Nat → Int32} {Q : Int32 → Int32 → (Nat → Int32) → (Nat → Int64) → (Nat → Int64) → (Nat → Int64) → Prop} (hm : m < 8) (hs : sizes m = nI sz) (hsz : sz ≤ 6)
    (hA : fnd keys day (6 * m) sz 0 < sz → ab (6 * m + fnd keys day (6 * m) sz 0) = a → be (6 * m + fnd keys day (6 * m) sz 0) = b → Q 0 0 sizes keys ab be)
    (hB : fnd keys day (6 * m) sz 0 < sz → ¬ (ab (6 * m + fnd keys day (6 * m) sz 0) = a ∧ be (6 * m + fnd keys day (6 * m) sz 0) = b) → Q 1 0 sizes keys (vp_updL ab (6 * m + fnd keys day (6 * m) sz 0) a) (vp_updL be (6 * m + fnd keys day (6 * m) sz 0) b))
    (hC : fnd keys day (6 * m) sz 0 = sz → sz < 6 → Q 1 0 (upd sizes m (nI (sz + 1))) (vp_updL keys (6 * m + sz) day) (vp_updL ab (6 * m + sz) a) (vp_updL be (6 * m + sz) b))
    (hD : fnd keys day (6 * m) sz 0 = sz → sz = 6 → Q 0 0 sizes keys ab be) : wp_M_currency_J53 (nI m) day a b sizes keys ab be Q 0 := by
  unfold wp_M_currency_J53
  refine ⟨fun _ x5 hx5 => ?_, fun q => absurd rfl q⟩
  rw [nI_6mul] at hx5
  subst hx5
  have e : 6 * nI m + sizes (nI m).toNatClampNeg = nI (6 * m + sz) := by rw [nI_clamp (by omega), hs, nI_6mul, nI_add]
  have stop : ∀ j, j ≤ sz → fnd keys day (6 * m) sz 0 = j → wp_M_currency_J105 (nI m) day a b sizes keys ab be 0 (nI (6 * m + j)) Q := by
    intro j hj he
    unfold wp_M_currency_J105
    rw [e]
    refine ⟨vp_in_nI hm (by decide), fun hc => ?_, fun hc => ?_⟩
    · have hj2 : sz ≤ j := by have := ge_c (by omega) (by omega) hc; omega
      have hjs : j = sz := by omega
      subst hjs
      unfold wp_M_currency_J126
      refine ⟨fun _ => ⟨vp_in_nI hm (by decide), fun h6 => ?_, fun h6 => ?_⟩, fun q => absurd rfl q⟩
      · rw [nI_clamp (by omega), hs] at h6
        have h6 : j < 6 := by
          rcases Nat.lt_or_ge j 6 with q | q
          · exact q
          · exact absurd (show nI j = nI 6 by rw [show j = 6 by omega]) h6
        unfold wp_M_currency_J175 wp_M_currency_J190
        refine ⟨fun q => absurd rfl q, fun _ => ⟨vp_in_nI hm (by decide), fun x7 hx7 => ⟨vp_in_nI hm (by decide), fun f8 hf8 => ⟨vp_in_nI (by omega) (by decide), fun f5 hf5 => ⟨vp_in_nI (by omega) (by decide), fun f6 hf6 => ⟨vp_in_nI (by omega) (by decide), fun f7 hf7 => ⟨Or.inr rfl, ?_⟩⟩⟩⟩⟩⟩⟩
        rw [nI_clamp (by omega)] at hx7 hf8 hf5 hf6 hf7
        rw [hs, nI_1] at hx7
        subst hx7; subst hf8; subst hf5; subst hf6; subst hf7
        exact hC he h6
      · rw [nI_clamp (by omega), hs] at h6
        have h6 : j = 6 := (nI_eq (by omega) (by decide)).mp h6
        exact ⟨Or.inl rfl, hD he h6⟩
    · have hj2 : j < sz := by have := nge_c (by omega) (by omega) hc; omega
      have hk := fnd_hit keys day (6 * m) sz 0 (by omega)
      rw [he] at hA hB hk
      have upd9 : ¬ (ab (6 * m + j) = a ∧ be (6 * m + j) = b) → wp_M_currency_J175 (nI m) day a b sizes keys ab be 0 (nI (6 * m + j)) 1 Q := by
        intro hn
        unfold wp_M_currency_J175 wp_M_currency_J190
        refine ⟨fun _ => ⟨vp_in_nI (by omega) (by decide), fun f5 hf5 => ⟨vp_in_nI (by omega) (by decide), fun f6 hf6 => ⟨vp_in_nI (by omega) (by decide), fun f7 hf7 => ⟨Or.inr rfl, ?_⟩⟩⟩⟩, fun q => absurd q (by decide)⟩
        rw [nI_clamp (by omega)] at hf5 hf6 hf7
        rw [upL_same hk] at hf5
        subst hf5; subst hf6; subst hf7
        exact hB hj2 hn
      unfold wp_M_currency_J126
      refine ⟨fun q => absurd q (by decide), fun _ => ⟨vp_in_nI (by omega) (by decide), fun hne => ?_, fun heq => ⟨vp_in_nI (by omega) (by decide), fun hne => ?_, fun heq2 => ?_⟩⟩⟩
      · rw [nI_clamp (by omega)] at hne
        exact upd9 (fun z => hne z.1)
      · rw [nI_clamp (by omega)] at hne
        exact upd9 (fun z => hne z.2)
      · rw [nI_clamp (by omega)] at heq heq2
        exact ⟨Or.inl rfl, hA hj2 heq heq2⟩
  refine ⟨sz + 1, ?_⟩
  have key9 : ∀ f j, j + f = sz → fnd keys day (6 * m) sz 0 = fnd keys day (6 * m) f j → wp_M_currency_L71 (nI m) day a b sizes keys ab be 0 Q (f + 1) (nI (6 * m + j)) := by
    intro f
    induction f with
    | zero =>
      intro j hj he
      rw [wp_M_currency_L71, e]
      refine ⟨vp_in_nI hm (by decide), fun _ => stop j (by omega) (by rw [he]; rfl), fun hc => ?_⟩
      exact absurd (nI_le (by omega) (by omega)) hc
    | succ f ih =>
      intro j hj he
      rw [wp_M_currency_L71, e]
      refine ⟨vp_in_nI hm (by decide), fun hc => ?_, fun _ => ⟨vp_in_nI (by omega) (by decide), fun heq => ?_, fun hne x9 hx9 => ?_⟩⟩
      · have := ge_c (by omega) (by omega) hc
        omega
      · rw [nI_clamp (by omega)] at heq
        exact stop j (by omega) (by rw [he]; unfold fnd; rw [if_pos heq])
      · rw [nI_clamp (by omega)] at hne
        rw [nI_1] at hx9
        subst hx9
        exact ih (j + 1) (by omega) (by rw [he]; conv => lhs; unfold fnd
                                        rw [if_neg hne])
  exact key9 sz 0 (by omega) rfl
/-! the rate of a day -/
def latF (keys : Nat → Int64) (day : Int64) (base : Nat) : Nat → Int32
  | 0 => -1
  | k + 1 => if keys (base + k) ≤ day ∧ (latF keys day base k = -1 ∨ keys (latF keys day base k).toNatClampNeg < keys (base + k)) then nI (base + k) else latF keys day base k
theorem latF_in (keys : Nat → Int64) (day : Int64) (base : Nat) : ∀ k, latF keys day base k = -1 ∨ ∃ j, j < k ∧ latF keys day base k = nI (base + j)
  | 0 => Or.inl rfl
  | k + 1 => by
    unfold latF
    split
    · exact Or.inr ⟨k, by omega, rfl⟩
    · rcases latF_in keys day base k with h | ⟨j, h1, h2⟩
      · exact Or.inl h
      · exact Or.inr ⟨j, by omega, h2⟩
theorem i64_lt {a b : Int64} : a < b ↔ a.toInt < b.toInt := Int64.lt_iff_toInt_lt
theorem i64_le {a b : Int64} : a ≤ b ↔ a.toInt ≤ b.toInt := Int64.le_iff_toInt_le
theorem latF_step {keys : Nat → Int64} {day : Int64} {base k : Nat} (h1 : keys (base + k) ≤ day) (h2 : latF keys day base k = -1 ∨ keys (latF keys day base k).toNatClampNeg < keys (base + k)) : latF keys day base (k + 1) = nI (base + k) := by
  conv => lhs; unfold latF
  rw [if_pos ⟨h1, h2⟩]
theorem latF_keep {keys : Nat → Int64} {day : Int64} {base k : Nat} (h : ¬ (keys (base + k) ≤ day ∧ (latF keys day base k = -1 ∨ keys (latF keys day base k).toNatClampNeg < keys (base + k)))) : latF keys day base (k + 1) = latF keys day base k := by
  conv => lhs; unfold latF
  rw [if_neg h]
theorem sp_Ra_latestSlot {m sz : Nat} {day : Int64} {keys : Nat → Int64} {sizes : Nat → Int32} {Q : Int32 → Prop} (hm : m < 8) (hs : sizes m = nI sz) (hsz : sz ≤ 6) (h : Q (latF keys day (6 * m) sz)) : wp_Ra_latestSlot (nI m) day keys sizes Q := by
  unfold wp_Ra_latestSlot
  refine sp_K_endSlot hm (by decide) hs (sp_K_firstSlot ⟨sz + 1, ?_⟩)
  have key9 : ∀ f j, j + f = sz → wp_Ra_latestSlot_L23 day keys (nI (6 * m + sz)) Q (f + 1) (latF keys day (6 * m) j) (nI (6 * m + j)) := by
    intro f
    induction f with
    | zero =>
      intro j hj
      rw [wp_Ra_latestSlot_L23]
      refine ⟨fun _ => by rw [show j = sz by omega]; exact h, fun hc => absurd (nI_le (by omega) (by omega)) hc⟩
    | succ f ih =>
      intro j hj
      have ih := ih (j + 1) (by omega)
      rw [wp_Ra_latestSlot_L23]
      refine ⟨fun hc => ?_, fun _ => ⟨vp_in_nI (by omega) (by decide), fun x5 hx5 => ?_⟩⟩
      · have := ge_c (by omega) (by omega) hc
        omega
      · rw [nI_clamp (by omega)] at hx5
        subst hx5
        unfold wp_Ra_latestSlot_J71 wp_Ra_latestSlot_J75
        refine ⟨fun hc x7 hx7 => ?_, fun hc => ⟨fun hv x7 hx7 => ?_, fun hv => ⟨?_, fun hle x7 hx7 => ?_, fun hle x7 hx7 => ?_⟩⟩⟩
        · rw [nI_1] at hx7; subst hx7
          rw [latF_keep (fun z => by rw [i64_lt] at hc; have := z.1; rw [i64_le] at this; omega)] at ih
          exact ih
        · rw [nI_1] at hx7; subst hx7
          rw [latF_step (nlt_le.mp hc) (Or.inl hv)] at ih
          exact ih
        · rcases latF_in keys day (6 * m) j with q | ⟨i, q1, q2⟩
          · exact absurd q hv
          · rw [q2]; exact vp_in_nI (by omega) (by decide)
        · rw [nI_1] at hx7; subst hx7
          rw [latF_keep (fun z => by rcases z.2 with q | q; · exact hv q
                                     · rw [i64_lt] at q; rw [i64_le] at hle; omega)] at ih
          exact ih
        · rw [nI_1] at hx7; subst hx7
          rw [latF_step (nlt_le.mp hc) (Or.inr (by rw [i64_lt]; rw [i64_le] at hle; omega))] at ih
          exact ih
  exact key9 sz 0 (by omega)
theorem sp_M_rateOf {m sz : Nat} {day : Int64} {keys : Nat → Int64} {sizes : Nat → Int32} {Q : Int32 → Prop} (hm : m < 8) (hs : sizes m = nI sz) (hsz : sz ≤ 6) (h : Q (latF keys day (6 * m) sz)) : wp_M_rateOf (nI m) day sizes keys Q := by
  unfold wp_M_rateOf
  intro x1 hx1
  rw [nI_6mul] at hx1
  subst hx1
  refine ⟨sz + 1, ?_⟩
  have e : 6 * nI m + sizes (nI m).toNatClampNeg = nI (6 * m + sz) := by rw [nI_clamp (by omega), hs, nI_6mul, nI_add]
  have key9 : ∀ f j, j + f = sz → wp_M_rateOf_L9 (nI m) day sizes keys Q (f + 1) (latF keys day (6 * m) j) (nI (6 * m + j)) := by
    intro f
    induction f with
    | zero =>
      intro j hj
      rw [wp_M_rateOf_L9, e]
      refine ⟨vp_in_nI hm (by decide), fun _ => by rw [show j = sz by omega]; exact h, fun hc => absurd (nI_le (by omega) (by omega)) hc⟩
    | succ f ih =>
      intro j hj
      have ih := ih (j + 1) (by omega)
      rw [wp_M_rateOf_L9, e]
      refine ⟨vp_in_nI hm (by decide), fun hc => ?_, fun _ => ⟨vp_in_nI (by omega) (by decide), ?_⟩⟩
      · have := ge_c (by omega) (by omega) hc
        omega
      · rw [nI_clamp (by omega)]
        unfold wp_M_rateOf_J61 wp_M_rateOf_J65
        refine ⟨fun hc x7 hx7 => ?_, fun hc => ⟨fun hv x7 hx7 => ?_, fun hv => ⟨vp_in_nI (by omega) (by decide), ?_, fun hle x7 hx7 => ?_, fun hle x7 hx7 => ?_⟩⟩⟩
        · rw [nI_1] at hx7; subst hx7
          rw [latF_keep (fun z => by rw [i64_lt] at hc; have := z.1; rw [i64_le] at this; omega)] at ih
          exact ih
        · rw [nI_1] at hx7; subst hx7
          rw [latF_step (nlt_le.mp hc) (Or.inl hv)] at ih
          exact ih
        · rcases latF_in keys day (6 * m) j with q | ⟨i, q1, q2⟩
          · exact absurd q hv
          · rw [q2]; exact vp_in_nI (by omega) (by decide)
        · rw [nI_1] at hx7; subst hx7
          rw [latF_keep (fun z => by rcases z.2 with q | q; · exact hv q
                                     · rw [i64_lt] at q; rw [i64_le] at hle; omega)] at ih
          exact ih
        · rw [nI_1] at hx7; subst hx7
          rw [latF_step (nlt_le.mp hc) (Or.inr (by rw [i64_lt]; rw [i64_le] at hle; omega))] at ih
          exact ih
  exact key9 sz 0 (by omega)
