/-! the mathematics, part M: the asks, both sides -/
theorem lOf0 {v : Int64} {b : Nat} (hb : b < 2 ^ 62) (h1 : ¬ v < 0) (h2 : v ≤ lN b) : ∃ f : Nat, v = lN f ∧ f ≤ b := by
  obtain ⟨f, f1, e⟩ := pk_lOf (x := v) (by rw [i64_lt] at h1 ⊢; exact h1)
  subst e
  exact ⟨f, rfl, (pk_lLE f1 (by omega)).mp h2⟩
def YS (y : Nat) (yab ybe : Nat → Int64) : Prop := y ≤ 8 ∧ ∀ j, j < y → ∃ c b, yab j = lN c ∧ ybe j = lN b ∧ 1 ≤ c ∧ c ≤ 1000 ∧ 1 ≤ b ∧ b ≤ 1000
theorem YS_pos {y : Nat} {yab ybe : Nat → Int64} (h : YS y yab ybe) : ∀ j, j < y → 0 < yab j := by
  intro j hj
  obtain ⟨c, b, e1, e2, h1, h2, h3, h4⟩ := h.2 j hj
  rw [e1]
  exact (pk_lLT (a := 0) (b := c) (by decide) (by omega)).mpr (by omega)
theorem st_ex {y : Nat} {yab ybe : Nat → Int64} (h : YS y yab ybe) (q : Int64) : ∃ s, s < 2 ^ 62 ∧ ∀ a, q = lN a → a ≤ 1000000 → stF yab ybe y (lN a) = lN s := by
  by_cases g : ∃ a, q = lN a ∧ a ≤ 1000000
  · obtain ⟨a, e, ha⟩ := g
    obtain ⟨r, r1, r2⟩ := stF_nat y a h.2 (by omega)
    refine ⟨r, by omega, fun a2 e2 _ => ?_⟩
    rw [← e2, e]; exact r2
  · exact ⟨0, by decide, fun a e h => absurd ⟨a, e, h⟩ g⟩
def DAT (pc : Nat) (szs rz : Nat → Nat) (stock keys ab be : Nat → Int64) (sizes ds : Nat → Int32) : Prop := pc ≤ 30 ∧ (∀ p, p < 30 → 0 ≤ stock p) ∧ LIs szs sizes keys ∧ DIs rz ds ab be
abbrev OKA (s pc m : Nat) (szs rz : Nat → Nat) (day : Int64) (used stock keys cents dk ab be : Nat → Int64) (alts : Nat → Int32) : Prop := lN s ≤ 1000000000 ∧ okB (lN s) (rAF ab dk rz day) (rAF be dk rz day) keys cents szs m ∧ ∀ p, p < pc → okP (lN s) (rAF ab dk rz day) (rAF be dk rz day) used stock keys cents alts szs pc p
abbrev CRA (s pc m : Nat) (szs rz : Nat → Nat) (day tooling : Int64) (used stock asm placed keys cents dk ab be : Nat → Int64) (alts : Nat → Int32) (c : Nat → Int64) (pi mk pt : Nat → Int32) : Prop := CRows tooling (asmF (lN s) asm placed 8) (rowB (lN s) (rAF ab dk rz day) (rAF be dk rz day) keys cents szs m) (rowP (lN s) (rAF ab dk rz day) (rAF be dk rz day) used stock keys cents alts szs pc) pc c pi mk pt
abbrev MRA (s pc m : Nat) (szs rz : Nat → Nat) (day tooling : Int64) (used stock asm placed keys cents dk ab be : Nat → Int64) (alts : Nat → Int32) (c p : Nat → Int64) (mm t : Nat → Int32) : Prop := MRows tooling (asmF (lN s) asm placed 8) (rowB (lN s) (rAF ab dk rz day) (rAF be dk rz day) keys cents szs m) (rowP (lN s) (rAF ab dk rz day) (rAF be dk rz day) used stock keys cents alts szs pc) pc c p mm t
abbrev vM (x : Int32) : Prop := ¬ x < 0 ∧ x < nI 8
abbrev vQ (q : Int64) : Prop := ¬ q < 0 ∧ q ≤ 1000000
theorem vM_of {x : Int32} (h : vM x) : ∃ m, m < 8 ∧ x = nI m := ixv (n := 8) (by decide) h
theorem vQ_of {q : Int64} (h : vQ q) : ∃ a, q = lN a ∧ a ≤ 1000000 := lOf0 (b := 1000000) (by decide) h.1 h.2
theorem sp_drawD {y pc m a s : Nat} {szs rz : Nat → Nat} {day tooling : Int64} {used stock asm placed keys cents dk ab be an bn yab ybe c0 : Nat → Int64} {alts sizes ds pi0 mk0 pt0 : Nat → Int32} {Q : Int32 → (Nat → Int64) → (Nat → Int64) → Int32 → (Nat → Int64) → (Nat → Int32) → (Nat → Int32) → (Nat → Int32) → Prop}
    (D : DAT pc szs rz stock keys ab be sizes ds) (Y : YS y yab ybe) (hs : s < 2 ^ 62) (hst : stF yab ybe y (lN a) = lN s) (hm : m < 8)
    (hno : ¬ OKA s pc m szs rz day used stock keys cents dk ab be alts → ∀ a1 b1 rc c1 pi1 mk1 pt1, Q 0 a1 b1 rc c1 pi1 mk1 pt1)
    (hyes : OKA s pc m szs rz day used stock keys cents dk ab be alts → ∀ a1 b1 c1 pi1 mk1 pt1, CRA s pc m szs rz day tooling used stock asm placed keys cents dk ab be alts c1 pi1 mk1 pt1 → Q 1 a1 b1 (nI (3 + pc)) c1 pi1 mk1 pt1) :
    wp_C_draw (lN a) (nI m) day (nI pc) tooling used stock alts asm placed keys sizes cents dk ds ab be an bn (nI y) yab ybe c0 pi0 mk0 pt0 Q :=
  sp_draw Y.1 (YS_pos Y) hst D.1 hm D.2.2.1 D.2.2.2.1 (rB_pos D.2.2.2) hs hno hyes
theorem sp_reckonD {y pc m a s : Nat} {szs rz : Nat → Nat} {day tools : Int64} {uses stocks asm placed keys cents dk ab be yab ybe c0 p0 : Nat → Int64} {alts sizes ds m0 t0 : Nat → Int32} {Q : Int32 → Int64 → (Nat → Int64) → (Nat → Int64) → (Nat → Int32) → (Nat → Int32) → Prop}
    (D : DAT pc szs rz stocks keys ab be sizes ds) (Y : YS y yab ybe) (hs : s < 2 ^ 62) (hst : stF yab ybe y (lN a) = lN s) (hm : m < 8)
    (hno : ¬ OKA s pc m szs rz day uses stocks keys cents dk ab be alts → ∀ sm c1 p1 m1 t1, Q 0 sm c1 p1 m1 t1)
    (hyes : OKA s pc m szs rz day uses stocks keys cents dk ab be alts → ∀ c1 p1 m1 t1, MRA s pc m szs rz day tools uses stocks asm placed keys cents dk ab be alts c1 p1 m1 t1 → Q 1 (sumF c1 33) c1 p1 m1 t1) :
    wp_M_reckon (lN a) (nI m) day (nI pc) (nI y) tools sizes keys cents uses stocks alts asm placed yab ybe ds dk ab be c0 p0 m0 t0 Q :=
  sp_M_reckon Y.1 (YS_pos Y) hst D.1 hm D.2.2.1 D.2.2.2.1 D.2.2.2.2.1 hs (fun p hp => D.2.1 p (by have := D.1; omega)) hno hyes
theorem sp_refusal {q : Int64} {x : Int32} {Q : Int32 → Prop} (h1 : ¬ vM x → Q 1) (h2 : vM x → ¬ vQ q → Q 2) (h3 : vM x → vQ q → Q 0) : wp_M_refusal q x Q := by
  unfold wp_M_refusal wp_M_refusal_J23
  refine sp_isMaker (fun a b => ⟨fun _ => sp_isQuantity (fun c d => ⟨fun z => absurd z (by decide), fun _ => h3 (vin (n := 8) a b) ⟨c, nlt_le.mp d⟩⟩) (fun c => ⟨fun _ => h2 (vin (n := 8) a b) (fun z => c.elim z.1 (fun g => lt_nle.mp g z.2)), fun z => absurd rfl z⟩), fun z => absurd z (by decide)⟩) (fun c => ⟨fun z => absurd rfl z, fun _ => h1 (fun z => c.elim z.1 (fun g => le_nlt.mp g z.2))⟩)
