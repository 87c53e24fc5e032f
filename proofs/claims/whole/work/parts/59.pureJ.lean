/-! the mathematics, part J: the tells, both sides -/
theorem sp_M_arr {x : Int32} {v : Int64} {n : Nat} {arr : Nat → Int64} {Q : Int32 → Int32 → (Nat → Int64) → Prop} (j : Nat) (hj : j < n) (hn : n ≤ 30) (ex : x = nI j) (h : Q (if arr j = v then 0 else 1) 0 (vp_updL arr j v)) {N : Nat} (hN : N < 2 ^ 31) (hnN : n ≤ N) {A : Prop} (hA : A ↔ (((0 : Int32) = 0 ∨ (0 : Int32) = 1) ∧ Q 0 0 arr)) :
    vp_in x N ∧ ((¬ (arr x.toNatClampNeg) = v) → vp_in x N ∧ ∀ f3 : Nat → Int64, f3 = vp_updL arr x.toNatClampNeg v → ((1 : Int32) = 0 ∨ (1 : Int32) = 1) ∧ Q 1 0 f3) ∧ (((arr x.toNatClampNeg) = v) → A) := by
  subst ex
  rw [nI_clamp (by omega)]
  refine ⟨vp_in_nI (by omega) hN, fun g => ⟨vp_in_nI (by omega) hN, fun f3 e3 => ⟨Or.inr rfl, ?_⟩⟩, fun g => hA.mpr ⟨Or.inl rfl, ?_⟩⟩
  · rw [if_neg g] at h; rw [e3]; exact h
  · rw [if_pos g, upL_same g] at h; exact h
theorem tl_bool {r7 r15 r14 : Int32} {V A B0 B1 : Prop} (hV : V) (e : r15 = r7) (hA : ¬ r7 = 0 → A) (h0 : r7 = 0 → r14 = 0 → B0) (h1 : r7 = 0 → ¬ r14 = 0 → B1) : ((r15 = r7) → ((¬ r7 = 0) → A) ∧ ((r7 = 0) → V ∧ ((r14 = 0) → B0) ∧ ((¬ r14 = 0) → B1))) ∧ ((¬ r15 = r7) → False) :=
  ⟨fun _ => ⟨hA, fun g => ⟨hV, h0 g, h1 g⟩⟩, fun q => q e⟩
theorem tl_num {r7 r15 : Int32} {V A B : Prop} (hV : V) (e : r15 = r7) (hA : ¬ r7 = 0 → A) (hB : r7 = 0 → B) : ((r15 = r7) → ((¬ r7 = 0) → A) ∧ ((r7 = 0) → V ∧ B)) ∧ ((¬ r15 = r7) → False) :=
  ⟨fun _ => ⟨hA, fun g => ⟨hV, hB g⟩⟩, fun q => q e⟩
theorem z_c : (0 : Int32).toNatClampNeg = 0 := by decide
theorem v01 : vp_in (0 : Int32) 1 := vp_in_nI (n := 0) (by decide) (by decide)
theorem ixv {x : Int32} {n : Nat} (hn : n < 2 ^ 31) (h : ¬ x < 0 ∧ x < nI n) : ∃ j, j < n ∧ x = nI j := ix_lt hn h.1 h.2
theorem nvi {x : Int32} {n : Nat} (h : ¬ (¬ x < 0 ∧ x < nI n)) : x < 0 ∨ ¬ x < nI n := by
  by_cases g : x < 0
  · exact Or.inl g
  · exact Or.inr (fun q => h ⟨g, q⟩)
theorem le_nlt {x y : Int32} : y ≤ x ↔ ¬ x < y := by
  rw [i32_le, i32_lt]; omega
theorem nvn {v a b : Int64} (h : ¬ (¬ v < a ∧ v ≤ b)) : v < a ∨ ¬ v ≤ b := by
  by_cases g : v < a
  · exact Or.inl g
  · exact Or.inr (fun q => h ⟨g, q⟩)
theorem lt_nle {v b : Int64} : b < v ↔ ¬ v ≤ b := by
  rw [i64_le, i64_lt]; omega
theorem sp_L_uses {x : Int32} {v : Int64} {arr out : Nat → Int64} {Q : Int32 → (Nat → Int64) → (Nat → Int64) → Prop} {pc : Nat} (hpc : pc ≤ 30) (h1 : ¬ (¬ x < 0 ∧ x < nI pc) → Q 1 arr out) (h2 : (¬ x < 0 ∧ x < nI pc) → ¬ (¬ v < 0 ∧ v ≤ 1000) → Q 2 arr out) (h3 : ∀ j, j < pc → x = nI j → (¬ v < 0 ∧ v ≤ 1000) → Q 0 (vp_updL arr j v) (vp_updL out 0 (if arr j = v then 0 else 1))) : wp_L_uses x v (nI pc) arr out Q := by
  unfold wp_L_uses wp_C_uses
  refine sp_needIndex (fun a b => sp_needNumber (fun c d => ?_) (fun c => ?_)) (fun c => ?_)
  · obtain ⟨j, hj, rfl⟩ := ix_lt (n := pc) (by omega) a b
    refine sp_tellNumber (by omega) (by decide) ?_
    have h := h3 j hj rfl ⟨c, d⟩
    unfold wp_L_uses_J17
    by_cases e : arr j = v
    · rw [if_pos e] at h ⊢
      exact ⟨Or.inl rfl, fun _ => ⟨v01, fun f e9 => by rw [z_c] at e9; subst e9; exact h⟩, fun q => absurd rfl q⟩
    · rw [if_neg e] at h ⊢
      exact ⟨Or.inr rfl, fun q => absurd q (by decide), fun _ => ⟨v01, fun f e9 => by rw [z_c] at e9; subst e9; exact h⟩⟩
  · exact ⟨fun q => absurd q (by decide), fun _ => h2 ⟨a, b⟩ (fun z => c.elim z.1 (fun g => g z.2)), Or.inr rfl⟩
  · exact ⟨fun _ => h1 (fun z => c.elim z.1 (fun g => g z.2)), fun q => absurd q (by decide), Or.inl rfl⟩
theorem sp_M_uses {x : Int32} {v : Int64} {arr : Nat → Int64} {Q : Int32 → Int32 → (Nat → Int64) → Prop} {pc : Nat} (hpc : pc ≤ 30) (h1 : ¬ (¬ x < 0 ∧ x < nI pc) → Q 0 1 arr) (h2 : (¬ x < 0 ∧ x < nI pc) → ¬ (¬ v < 0 ∧ v ≤ 1000) → Q 0 2 arr) (h3 : ∀ j, j < pc → x = nI j → (¬ v < 0 ∧ v ≤ 1000) → Q (if arr j = v then 0 else 1) 0 (vp_updL arr j v)) : wp_M_uses x v (nI pc) arr Q := by
  have bad : ∀ w : Int32, ¬ w = 0 → Q 0 w arr → wp_M_uses_J29 x v arr Q w := by
    intro w hw h
    unfold wp_M_uses_J29 wp_M_uses_J50
    exact ⟨fun _ => ⟨Or.inl rfl, h⟩, fun q => absurd q hw⟩
  unfold wp_M_uses
  refine sp_isPart (fun a b => ⟨fun _ => sp_within (fun c d => ⟨fun q => absurd q (by decide), fun _ => ?_⟩) (fun c => ⟨fun _ => ?_, fun q => absurd rfl q⟩), fun q => absurd q (by decide)⟩) (fun c => ⟨fun q => absurd rfl q, fun _ => ?_⟩)
  · have b2 : x < nI pc := by
      rw [i32_lt]; have b3 : ¬ nI pc ≤ x := b
      rw [i32_le] at b3; omega
    obtain ⟨j, hj, rfl⟩ := ix_lt (n := pc) (by omega) a b2
    have d2 := nlt_le.mp d
    unfold wp_M_uses_J29
    refine ⟨fun q => absurd rfl q, fun _ => sp_M_arr j hj (by omega) rfl (h3 j hj rfl ⟨c, d2⟩) (by decide) (by omega) Iff.rfl⟩
  · have b2 : x < nI pc := by
      rw [i32_lt]; have b3 : ¬ nI pc ≤ x := b
      rw [i32_le] at b3; omega
    exact bad 2 (by decide) (h2 ⟨a, b2⟩ (fun z => c.elim z.1 (fun g => lt_nle.mp g z.2)))
  · refine bad 1 (by decide) (h1 (fun z => c.elim z.1 (fun g => ?_)))
    have g2 : nI pc ≤ x := g
    exact le_nlt.mp g2 z.2
theorem sp_L_stock {x : Int32} {v : Int64} {arr out : Nat → Int64} {Q : Int32 → (Nat → Int64) → (Nat → Int64) → Prop} {pc : Nat} (hpc : pc ≤ 30) (h1 : ¬ (¬ x < 0 ∧ x < nI pc) → Q 1 arr out) (h2 : (¬ x < 0 ∧ x < nI pc) → ¬ (¬ v < 0 ∧ v ≤ 1000000000) → Q 2 arr out) (h3 : ∀ j, j < pc → x = nI j → (¬ v < 0 ∧ v ≤ 1000000000) → Q 0 (vp_updL arr j v) (vp_updL out 0 (if arr j = v then 0 else 1))) : wp_L_stock x v (nI pc) arr out Q := by
  unfold wp_L_stock wp_C_stock
  refine sp_needIndex (fun a b => sp_needNumber (fun c d => ?_) (fun c => ?_)) (fun c => ?_)
  · obtain ⟨j, hj, rfl⟩ := ix_lt (n := pc) (by omega) a b
    refine sp_tellNumber (by omega) (by decide) ?_
    have h := h3 j hj rfl ⟨c, d⟩
    unfold wp_L_stock_J17
    by_cases e : arr j = v
    · rw [if_pos e] at h ⊢
      exact ⟨Or.inl rfl, fun _ => ⟨v01, fun f e9 => by rw [z_c] at e9; subst e9; exact h⟩, fun q => absurd rfl q⟩
    · rw [if_neg e] at h ⊢
      exact ⟨Or.inr rfl, fun q => absurd q (by decide), fun _ => ⟨v01, fun f e9 => by rw [z_c] at e9; subst e9; exact h⟩⟩
  · exact ⟨fun q => absurd q (by decide), fun _ => h2 ⟨a, b⟩ (fun z => c.elim z.1 (fun g => g z.2)), Or.inr rfl⟩
  · exact ⟨fun _ => h1 (fun z => c.elim z.1 (fun g => g z.2)), fun q => absurd q (by decide), Or.inl rfl⟩
theorem sp_M_stock {x : Int32} {v : Int64} {arr : Nat → Int64} {Q : Int32 → Int32 → (Nat → Int64) → Prop} {pc : Nat} (hpc : pc ≤ 30) (h1 : ¬ (¬ x < 0 ∧ x < nI pc) → Q 0 1 arr) (h2 : (¬ x < 0 ∧ x < nI pc) → ¬ (¬ v < 0 ∧ v ≤ 1000000000) → Q 0 2 arr) (h3 : ∀ j, j < pc → x = nI j → (¬ v < 0 ∧ v ≤ 1000000000) → Q (if arr j = v then 0 else 1) 0 (vp_updL arr j v)) : wp_M_stock x v (nI pc) arr Q := by
  have bad : ∀ w : Int32, ¬ w = 0 → Q 0 w arr → wp_M_stock_J29 x v arr Q w := by
    intro w hw h
    unfold wp_M_stock_J29 wp_M_stock_J50
    exact ⟨fun _ => ⟨Or.inl rfl, h⟩, fun q => absurd q hw⟩
  unfold wp_M_stock
  refine sp_isPart (fun a b => ⟨fun _ => sp_within (fun c d => ⟨fun q => absurd q (by decide), fun _ => ?_⟩) (fun c => ⟨fun _ => ?_, fun q => absurd rfl q⟩), fun q => absurd q (by decide)⟩) (fun c => ⟨fun q => absurd rfl q, fun _ => ?_⟩)
  · have b2 : x < nI pc := by
      rw [i32_lt]; have b3 : ¬ nI pc ≤ x := b
      rw [i32_le] at b3; omega
    obtain ⟨j, hj, rfl⟩ := ix_lt (n := pc) (by omega) a b2
    have d2 := nlt_le.mp d
    unfold wp_M_stock_J29
    refine ⟨fun q => absurd rfl q, fun _ => sp_M_arr j hj (by omega) rfl (h3 j hj rfl ⟨c, d2⟩) (by decide) (by omega) Iff.rfl⟩
  · have b2 : x < nI pc := by
      rw [i32_lt]; have b3 : ¬ nI pc ≤ x := b
      rw [i32_le] at b3; omega
    exact bad 2 (by decide) (h2 ⟨a, b2⟩ (fun z => c.elim z.1 (fun g => lt_nle.mp g z.2)))
  · refine bad 1 (by decide) (h1 (fun z => c.elim z.1 (fun g => ?_)))
    have g2 : nI pc ≤ x := g
    exact le_nlt.mp g2 z.2
theorem sp_L_assembly {x : Int32} {v : Int64} {arr out : Nat → Int64} {Q : Int32 → (Nat → Int64) → (Nat → Int64) → Prop} (h1 : ¬ (¬ x < 0 ∧ x < nI 8) → Q 1 arr out) (h2 : (¬ x < 0 ∧ x < nI 8) → ¬ (¬ v < 0 ∧ v ≤ 1000000) → Q 2 arr out) (h3 : ∀ j, j < 8 → x = nI j → (¬ v < 0 ∧ v ≤ 1000000) → Q 0 (vp_updL arr j v) (vp_updL out 0 (if arr j = v then 0 else 1))) : wp_L_assembly x v arr out Q := by
  unfold wp_L_assembly wp_C_assembly
  refine sp_needIndex (fun a b => sp_needNumber (fun c d => ?_) (fun c => ?_)) (fun c => ?_)
  · obtain ⟨j, hj, rfl⟩ := ix_lt (n := 8) (by decide) a b
    refine sp_tellNumber (by omega) (by decide) ?_
    have h := h3 j hj rfl ⟨c, d⟩
    unfold wp_L_assembly_J17
    by_cases e : arr j = v
    · rw [if_pos e] at h ⊢
      exact ⟨Or.inl rfl, fun _ => ⟨v01, fun f e9 => by rw [z_c] at e9; subst e9; exact h⟩, fun q => absurd rfl q⟩
    · rw [if_neg e] at h ⊢
      exact ⟨Or.inr rfl, fun q => absurd q (by decide), fun _ => ⟨v01, fun f e9 => by rw [z_c] at e9; subst e9; exact h⟩⟩
  · exact ⟨fun q => absurd q (by decide), fun _ => h2 ⟨a, b⟩ (fun z => c.elim z.1 (fun g => g z.2)), Or.inr rfl⟩
  · exact ⟨fun _ => h1 (fun z => c.elim z.1 (fun g => g z.2)), fun q => absurd q (by decide), Or.inl rfl⟩
theorem sp_M_assembly {x : Int32} {v : Int64} {arr : Nat → Int64} {Q : Int32 → Int32 → (Nat → Int64) → Prop} (h1 : ¬ (¬ x < 0 ∧ x < nI 8) → Q 0 1 arr) (h2 : (¬ x < 0 ∧ x < nI 8) → ¬ (¬ v < 0 ∧ v ≤ 1000000) → Q 0 2 arr) (h3 : ∀ j, j < 8 → x = nI j → (¬ v < 0 ∧ v ≤ 1000000) → Q (if arr j = v then 0 else 1) 0 (vp_updL arr j v)) : wp_M_assembly x v arr Q := by
  have bad : ∀ w : Int32, ¬ w = 0 → Q 0 w arr → wp_M_assembly_J28 x v arr Q w := by
    intro w hw h
    unfold wp_M_assembly_J28 wp_M_assembly_J49
    exact ⟨fun _ => ⟨Or.inl rfl, h⟩, fun q => absurd q hw⟩
  unfold wp_M_assembly
  refine sp_isSort (fun a b => ⟨fun _ => sp_within (fun c d => ⟨fun q => absurd q (by decide), fun _ => ?_⟩) (fun c => ⟨fun _ => ?_, fun q => absurd rfl q⟩), fun q => absurd q (by decide)⟩) (fun c => ⟨fun q => absurd rfl q, fun _ => ?_⟩)
  · have b2 : x < nI 8 := by
      rw [i32_lt]; have b3 : ¬ nI 8 ≤ x := b
      rw [i32_le] at b3; omega
    obtain ⟨j, hj, rfl⟩ := ix_lt (n := 8) (by decide) a b2
    have d2 := nlt_le.mp d
    unfold wp_M_assembly_J28
    refine ⟨fun q => absurd rfl q, fun _ => sp_M_arr j hj (by omega) rfl (h3 j hj rfl ⟨c, d2⟩) (by decide) (by omega) Iff.rfl⟩
  · have b2 : x < nI 8 := by
      rw [i32_lt]; have b3 : ¬ nI 8 ≤ x := b
      rw [i32_le] at b3; omega
    exact bad 2 (by decide) (h2 ⟨a, b2⟩ (fun z => c.elim z.1 (fun g => lt_nle.mp g z.2)))
  · refine bad 1 (by decide) (h1 (fun z => c.elim z.1 (fun g => ?_)))
    have g2 : nI 8 ≤ x := g
    exact le_nlt.mp g2 z.2
theorem sp_L_placed {x : Int32} {v : Int64} {arr out : Nat → Int64} {Q : Int32 → (Nat → Int64) → (Nat → Int64) → Prop} (h1 : ¬ (¬ x < 0 ∧ x < nI 8) → Q 1 arr out) (h2 : (¬ x < 0 ∧ x < nI 8) → ¬ (¬ v < 0 ∧ v ≤ 1000) → Q 2 arr out) (h3 : ∀ j, j < 8 → x = nI j → (¬ v < 0 ∧ v ≤ 1000) → Q 0 (vp_updL arr j v) (vp_updL out 0 (if arr j = v then 0 else 1))) : wp_L_placed x v arr out Q := by
  unfold wp_L_placed wp_C_placed
  refine sp_needIndex (fun a b => sp_needNumber (fun c d => ?_) (fun c => ?_)) (fun c => ?_)
  · obtain ⟨j, hj, rfl⟩ := ix_lt (n := 8) (by decide) a b
    refine sp_tellNumber (by omega) (by decide) ?_
    have h := h3 j hj rfl ⟨c, d⟩
    unfold wp_L_placed_J17
    by_cases e : arr j = v
    · rw [if_pos e] at h ⊢
      exact ⟨Or.inl rfl, fun _ => ⟨v01, fun f e9 => by rw [z_c] at e9; subst e9; exact h⟩, fun q => absurd rfl q⟩
    · rw [if_neg e] at h ⊢
      exact ⟨Or.inr rfl, fun q => absurd q (by decide), fun _ => ⟨v01, fun f e9 => by rw [z_c] at e9; subst e9; exact h⟩⟩
  · exact ⟨fun q => absurd q (by decide), fun _ => h2 ⟨a, b⟩ (fun z => c.elim z.1 (fun g => g z.2)), Or.inr rfl⟩
  · exact ⟨fun _ => h1 (fun z => c.elim z.1 (fun g => g z.2)), fun q => absurd q (by decide), Or.inl rfl⟩
theorem sp_M_placed {x : Int32} {v : Int64} {arr : Nat → Int64} {Q : Int32 → Int32 → (Nat → Int64) → Prop} (h1 : ¬ (¬ x < 0 ∧ x < nI 8) → Q 0 1 arr) (h2 : (¬ x < 0 ∧ x < nI 8) → ¬ (¬ v < 0 ∧ v ≤ 1000) → Q 0 2 arr) (h3 : ∀ j, j < 8 → x = nI j → (¬ v < 0 ∧ v ≤ 1000) → Q (if arr j = v then 0 else 1) 0 (vp_updL arr j v)) : wp_M_placed x v arr Q := by
  have bad : ∀ w : Int32, ¬ w = 0 → Q 0 w arr → wp_M_placed_J28 x v arr Q w := by
    intro w hw h
    unfold wp_M_placed_J28 wp_M_placed_J49
    exact ⟨fun _ => ⟨Or.inl rfl, h⟩, fun q => absurd q hw⟩
  unfold wp_M_placed
  refine sp_isSort (fun a b => ⟨fun _ => sp_within (fun c d => ⟨fun q => absurd q (by decide), fun _ => ?_⟩) (fun c => ⟨fun _ => ?_, fun q => absurd rfl q⟩), fun q => absurd q (by decide)⟩) (fun c => ⟨fun q => absurd rfl q, fun _ => ?_⟩)
  · have b2 : x < nI 8 := by
      rw [i32_lt]; have b3 : ¬ nI 8 ≤ x := b
      rw [i32_le] at b3; omega
    obtain ⟨j, hj, rfl⟩ := ix_lt (n := 8) (by decide) a b2
    have d2 := nlt_le.mp d
    unfold wp_M_placed_J28
    refine ⟨fun q => absurd rfl q, fun _ => sp_M_arr j hj (by omega) rfl (h3 j hj rfl ⟨c, d2⟩) (by decide) (by omega) Iff.rfl⟩
  · have b2 : x < nI 8 := by
      rw [i32_lt]; have b3 : ¬ nI 8 ≤ x := b
      rw [i32_le] at b3; omega
    exact bad 2 (by decide) (h2 ⟨a, b2⟩ (fun z => c.elim z.1 (fun g => lt_nle.mp g z.2)))
  · refine bad 1 (by decide) (h1 (fun z => c.elim z.1 (fun g => ?_)))
    have g2 : nI 8 ≤ x := g
    exact le_nlt.mp g2 z.2
