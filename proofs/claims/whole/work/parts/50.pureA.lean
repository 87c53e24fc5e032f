/-! the mathematics, part A: lists of keys -/
theorem ge_c {k m : Nat} (hk : k < 2 ^ 31) (hm : m < 2 ^ 31) (h : nI k ≤ nI m) : k ≤ m := (nI_leI hk hm).mp h
theorem nge_c {k m : Nat} (hk : k < 2 ^ 31) (hm : m < 2 ^ 31) (h : ¬ nI k ≤ nI m) : m < k := by
  rcases Nat.lt_or_ge m k with q | q
  · exact q
  · exact absurd ((nI_leI hk hm).mpr q) h
theorem lt_c {k m : Nat} (hk : k < 2 ^ 31) (hm : m < 2 ^ 31) (h : nI k < nI m) : k < m := (nI_ltI hk hm).mp h
theorem nlt_c {k m : Nat} (hk : k < 2 ^ 31) (hm : m < 2 ^ 31) (h : ¬ nI k < nI m) : m ≤ k := by
  rcases Nat.lt_or_ge k m with q | q
  · exact absurd ((nI_ltI hk hm).mpr q) h
  · exact q
theorem nI_m1 {a : Nat} (ha : a < 2 ^ 31) : ¬ nI a = (-1 : Int32) := by
  intro h
  have h1 := congrArg Int32.toInt h
  rw [nI_toInt ha] at h1
  have h2 : (-1 : Int32).toInt = -1 := by decide
  rw [h2] at h1
  omega
theorem nI_mul6 (l : Nat) : nI l * 6 = nI (6 * l) := by
  show nI l * nI 6 = _
  rw [pk_mul, Nat.mul_comm]
theorem nI_6mul (l : Nat) : 6 * nI l = nI (6 * l) := by
  show nI 6 * nI l = _
  rw [pk_mul]
theorem sp_K_firstSlot {l : Nat} {Q : Int32 → Prop} (h : Q (nI (6 * l))) : wp_K_firstSlot (nI l) Q := by
  unfold wp_K_firstSlot
  rw [nI_mul6]
  exact h
theorem sp_K_endSlot {l sz ns : Nat} {sizes : Nat → Int32} {Q : Int32 → Prop} (hl : l < ns) (hns : ns < 2 ^ 31) (hs : sizes l = nI sz) (h : Q (nI (6 * l + sz))) : wp_K_endSlot (nI l) ns sizes Q := by
  unfold wp_K_endSlot
  refine ⟨vp_in_nI hl hns, ?_⟩
  rw [nI_clamp (by omega), hs, nI_mul6, nI_add]
  exact h
def fnd (keys : Nat → Int64) (key : Int64) (base : Nat) : Nat → Nat → Nat
  | 0, j => j
  | f + 1, j => if keys (base + j) = key then j else fnd keys key base f (j + 1)
theorem fnd_le (keys : Nat → Int64) (key : Int64) (base : Nat) : ∀ f j, j ≤ fnd keys key base f j ∧ fnd keys key base f j ≤ j + f
  | 0, j => by simp [fnd]
  | f + 1, j => by
    unfold fnd
    have := fnd_le keys key base f (j + 1)
    split <;> omega
theorem fnd_hit (keys : Nat → Int64) (key : Int64) (base : Nat) : ∀ f j, fnd keys key base f j < j + f → keys (base + fnd keys key base f j) = key
  | 0, j, h => by simp [fnd] at h
  | f + 1, j, h => by
    unfold fnd at h ⊢
    split
    · assumption
    · rename_i hne
      rw [if_neg hne] at h
      exact fnd_hit keys key base f (j + 1) (by omega)
/-- KeyLists.slotFor -/
theorem sp_K_slotFor {l sz nk ns : Nat} {keys : Nat → Int64} {sizes : Nat → Int32} {key : Int64} {Q : Int32 → (Nat → Int64) → (Nat → Int32) → Prop} (hl : l < ns) (hns : ns < 2 ^ 31) (hnk : 6 * ns ≤ nk) (hnk2 : nk < 2 ^ 30) (hs : sizes l = nI sz) (hsz : sz ≤ 6)
    (h1 : fnd keys key (6 * l) sz 0 < sz → Q (nI (6 * l + fnd keys key (6 * l) sz 0)) keys sizes)
    (h2 : fnd keys key (6 * l) sz 0 = sz → sz < 6 → Q (nI (6 * l + sz)) (vp_updL keys (6 * l + sz) key) (upd sizes l (nI (sz + 1))))
    (h3 : fnd keys key (6 * l) sz 0 = sz → sz = 6 → Q (-1) keys sizes) : wp_K_slotFor (nI l) key nk keys ns sizes Q := by
  unfold wp_K_slotFor
  refine sp_K_endSlot hl hns hs (sp_K_firstSlot ?_)
  refine ⟨sz + 1, ?_⟩
  have key9 : ∀ f j, j + f = sz → fnd keys key (6 * l) sz 0 = fnd keys key (6 * l) f j → wp_K_slotFor_L14 (nI l) key nk keys ns sizes (nI (6 * l + sz)) Q (f + 1) (nI (6 * l + j)) := by
    intro f
    induction f with
    | zero =>
      intro j hj he
      rw [wp_K_slotFor_L14]
      have he2 : fnd keys key (6 * l) sz 0 = sz := by rw [he]; simp [fnd]; omega
      refine ⟨fun _ => ⟨vp_in_nI hl hns, fun h6 => ?_, fun h6 => ?_⟩, fun hc => ?_⟩
      · rw [nI_clamp (by omega), hs] at h6
        have h6 : sz < 6 := lt_c (by omega) (by omega) h6
        refine ⟨vp_in_nI (by omega) (by omega), fun f4 hf4 => ⟨vp_in_nI hl hns, fun x5 hx5 => ⟨vp_in_nI hl hns, fun f6 hf6 => ?_⟩⟩⟩
        rw [nI_clamp (by omega)] at hf4 hx5 hf6
        rw [hs, nI_1] at hx5
        subst hx5; subst hf4; subst hf6
        exact h2 he2 h6
      · rw [nI_clamp (by omega), hs] at h6
        have h6 : 6 ≤ sz := nlt_c (by omega) (by omega) h6
        exact h3 he2 (by omega)
      · exact absurd (nI_le (by omega) (by omega)) hc
    | succ f ih =>
      intro j hj he
      rw [wp_K_slotFor_L14]
      refine ⟨fun hc => ?_, fun _ => ⟨vp_in_nI (by omega) (by omega), fun hne x7 hx7 => ?_, fun heq => ?_⟩⟩
      · have := ge_c (by omega) (by omega) hc
        omega
      · rw [nI_clamp (by omega)] at hne
        rw [nI_1] at hx7
        subst hx7
        have := ih (j + 1) (by omega) (by rw [he]; conv => lhs; unfold fnd
                                          rw [if_neg hne])
        exact this
      · rw [nI_clamp (by omega)] at heq
        have he2 : fnd keys key (6 * l) sz 0 = j := by rw [he]; unfold fnd; rw [if_pos heq]
        have := h1 (by omega)
        rw [he2] at this
        exact this
  exact key9 sz 0 (by omega) rfl
theorem sp_tellNumber {a nn : Nat} {v : Int64} {nums : Nat → Int64} {Q : Int32 → (Nat → Int64) → Prop} (ha : a < nn) (hn : nn < 2 ^ 31) (h : Q (if nums a = v then 0 else 1) (vp_updL nums a v)) : wp_C_tellNumber (nI a) v nn nums Q := by
  unfold wp_C_tellNumber
  refine ⟨vp_in_nI ha hn, fun hc => ?_, fun hc => ?_⟩
  · unfold wp_C_tellNumber_J13
    rw [nI_clamp (by omega)] at hc
    refine ⟨vp_in_nI ha hn, fun f2 hf2 => ⟨Or.inl rfl, ?_⟩⟩
    rw [nI_clamp (by omega)] at hf2
    subst hf2
    rw [if_pos hc] at h
    exact h
  · unfold wp_C_tellNumber_J13
    rw [nI_clamp (by omega)] at hc
    refine ⟨vp_in_nI ha hn, fun f2 hf2 => ⟨Or.inr rfl, ?_⟩⟩
    rw [nI_clamp (by omega)] at hf2
    subst hf2
    rw [if_neg hc] at h
    exact h
theorem upL_same {f : Nat → Int64} {a : Nat} {v : Int64} (h : f a = v) : vp_updL f a v = f := by
  funext j
  unfold vp_updL
  split
  · rename_i e; rw [e, h]
  · rfl
