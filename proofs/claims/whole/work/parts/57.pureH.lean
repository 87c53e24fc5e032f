/-! the mathematics, part H: the reference's reckoning, sums, makers -/
def sumF (c : Nat → Int64) : Nat → Int64
  | 0 => 0
  | k + 1 => sumF c k + c k
theorem sp_Q_sum {n : Nat} {c : Nat → Int64} {Q : Int64 → Prop} (hn : n ≤ 33) (h : Q (sumF c n)) : wp_Q_sum (nI n) c Q := by
  unfold wp_Q_sum
  refine ⟨n + 1, ?_⟩
  have key9 : ∀ f j, j + f = n → wp_Q_sum_L4 (nI n) c Q (f + 1) (sumF c j) (nI j) := by
    intro f
    induction f with
    | zero =>
      intro j hj
      have : j = n := by omega
      subst this
      rw [wp_Q_sum_L4]
      exact ⟨fun _ => h, fun hc => absurd (nI_le (Nat.le_refl _) (by omega)) hc⟩
    | succ f ih =>
      intro j hj
      rw [wp_Q_sum_L4]
      refine ⟨fun hc => by have := ge_c (by omega) (by omega) hc; omega, fun _ => ⟨vp_in_nI (by omega) (by decide), fun x3 h3 x4 h4 => ?_⟩⟩
      rw [nI_clamp (by omega)] at h3
      rw [nI_1] at h4; subst h4; subst h3
      exact ih (j + 1) (by omega)
  exact key9 n 0 (by omega)
theorem sumF_tail {c : Nat → Int64} {n : Nat} (h : ∀ j, n ≤ j → j < 33 → c j = 0) : ∀ k, n + k ≤ 33 → sumF c (n + k) = sumF c n
  | 0, _ => rfl
  | k + 1, hk => by
    show sumF c (n + k) + c (n + k) = _
    rw [h (n + k) (by omega) (by omega), Int64.add_zero, sumF_tail h k (by omega)]
def MZ (v : Int64) (c p : Nat → Int64) (m t : Nat → Int32) (j : Nat) : Prop := c j = v ∧ p j = 0 ∧ m j = -1 ∧ t j = -1
def MR0 (tool as : Int64) (qb : QD) (qp : Nat → QD) (pc : Nat) (c p : Nat → Int64) (m t : Nat → Int32) : Prop :=
  MZ tool c p m t 0 ∧ (c 1 = qb.1 ∧ p 1 = qb.2.1 ∧ m 1 = qb.2.2.1) ∧ MZ as c p m t 2 ∧ (∀ i, i < pc → (c (3 + i), p (3 + i), m (3 + i), t (3 + i)) = qp i) ∧ ∀ j, 3 + pc ≤ j → j < 33 → MZ 0 c p m t j
def MRows (tool as : Int64) (qb : QD) (qp : Nat → QD) (pc : Nat) (c p : Nat → Int64) (m t : Nat → Int32) : Prop := MR0 tool as qb qp pc c p m t ∧ t 1 = -1
theorem tof_pos {need frm : Int64} (h : 0 < frm) : 0 < tof need frm := by
  unfold tof
  split
  · rename_i g; rw [i64_lt] at g h ⊢; omega
  · exact h
def NN (q : QD) : Prop := q.2.1 = 0 ∨ 0 < q.2.1
theorem stp_nn {need a b frm cts : Int64} {p m : Int32} {q : QD} (hf : 0 < frm) (h : NN q) : NN (stp need a b p m frm cts q) := by
  unfold stp
  split
  · exact Or.inr (tof_pos hf)
  · exact h
theorem offQ_nn {need a b : Int64} {p m : Int32} {keys cents : Nat → Int64} {base : Nat} : ∀ k q, (∀ i, i < k → 0 < keys (base + i)) → NN q → NN (offQ need a b p m keys cents base k q)
  | 0, _, _, h => h
  | k + 1, q, hk, h => stp_nn (hk k (by omega)) (offQ_nn k q (fun i hi => hk i (by omega)) h)
theorem li_pos {szs : Nat → Nat} {sizes : Nat → Int32} {keys : Nat → Int64} (hL : LIs szs sizes keys) {li : Nat} (h : li < 248) : ∀ i, i < szs li → 0 < keys (6 * li + i) := by
  intro i hi
  obtain ⟨f, e, f1, f2⟩ := (hL li h).2.2 i hi
  rw [e]
  exact (pk_lLT (a := 0) (by decide) (by omega)).mpr (by omega)
theorem mkQ_nn {need : Int64} {A B : Nat → Int64} {p : Nat} {keys cents : Nat → Int64} {szs : Nat → Nat} {sizes : Nat → Int32} (hL : LIs szs sizes keys) (hp : p ≤ 30) : ∀ m q, m ≤ 8 → NN q → NN (mkQ need A B p keys cents szs m q)
  | 0, _, _, h => h
  | m + 1, q, hm, h => offQ_nn _ _ (li_pos hL (by omega)) (mkQ_nn hL hp m q (by omega) h)
theorem ptQ_nn {need : Int64} {A B : Nat → Int64} {alt : Int32} {part : Nat} {keys cents : Nat → Int64} {szs : Nat → Nat} {sizes : Nat → Int32} (hL : LIs szs sizes keys) : ∀ p q, p ≤ 30 → NN q → NN (ptQ need A B alt part keys cents szs p q)
  | 0, _, _, h => h
  | p + 1, q, hp, h => by
    unfold ptQ
    split
    · exact mkQ_nn hL (by omega) 8 _ (by omega) (ptQ_nn hL p q (by omega) h)
    · exact ptQ_nn hL p q (by omega) h
theorem NN_z : NN zq := Or.inl rfl
theorem NN_le {q : QD} (h : NN q) (g : q.2.1 ≤ 0) : q.2.1 = 0 := by
  rcases h with h | h
  · exact h
  · rw [i64_lt] at h; rw [i64_le] at g; omega
theorem sp_J213 {v : Int32} {c p : Nat → Int64} {m t : Nat → Int32} {Q : Int32 → Int64 → (Nat → Int64) → (Nat → Int64) → (Nat → Int32) → (Nat → Int32) → Prop} (h : Q v (sumF c 33) c p m (upd t 1 (-1))) : wp_M_reckon_J213 Q v c p m t := by
  unfold wp_M_reckon_J213
  refine ⟨vp_in_nI (n := 1) (by decide) (by decide), fun f14 h14 => ⟨34, ?_⟩⟩
  have h14 : f14 = upd t 1 (-1) := h14
  subst h14
  have key9 : ∀ f j, j + f = 33 → wp_M_reckon_L228 v c p m (upd t 1 (-1)) Q (f + 1) (nI j) (sumF c j) := by
    intro f
    induction f with
    | zero =>
      intro j hj
      have : j = 33 := by omega
      subst this
      rw [wp_M_reckon_L228]
      exact ⟨fun _ => h, fun hc => absurd (nI_le (a := 33) (Nat.le_refl _) (by decide)) hc⟩
    | succ f ih =>
      intro j hj
      rw [wp_M_reckon_L228]
      refine ⟨fun hc => by have := ge_c (k := 33) (by decide) (by omega) hc; omega, fun _ => ⟨vp_in_nI (by omega) (by decide), fun x3 h3 x4 h4 => ?_⟩⟩
      rw [nI_clamp (by omega)] at h3
      rw [nI_1] at h4; subst h4; subst h3
      exact ih (j + 1) (by omega)
  exact key9 33 0 (by omega)
theorem sp_M_reckon {y pc m a s : Nat} {szs rz : Nat → Nat} {day tools : Int64} {uses stocks asm placed keys cents dk ab be yab ybe c0 p0 : Nat → Int64} {alts sizes ds m0 t0 : Nat → Int32} {Q : Int32 → Int64 → (Nat → Int64) → (Nat → Int64) → (Nat → Int32) → (Nat → Int32) → Prop}
    (hy : y ≤ 8) (hyp : ∀ j, j < y → 0 < yab j) (hst : stF yab ybe y (lN a) = lN s) (hpc : pc ≤ 30) (hm : m < 8) (hL : LIs szs sizes keys) (hd : ∀ j, j < 8 → ds j = nI (rz j) ∧ rz j ≤ 6) (hbe : ∀ j k, j < 8 → k < rz j → 0 < be (6 * j + k)) (hs63 : s < 2 ^ 62) (hsk : ∀ p, p < pc → 0 ≤ stocks p)
    (hno : ¬ (lN s ≤ 1000000000 ∧ okB (lN s) (rAF ab dk rz day) (rAF be dk rz day) keys cents szs m ∧ ∀ p, p < pc → okP (lN s) (rAF ab dk rz day) (rAF be dk rz day) uses stocks keys cents alts szs pc p) → ∀ sm c1 p1 m1 t1, Q 0 sm c1 p1 m1 t1)
    (hyes : (lN s ≤ 1000000000 ∧ okB (lN s) (rAF ab dk rz day) (rAF be dk rz day) keys cents szs m ∧ ∀ p, p < pc → okP (lN s) (rAF ab dk rz day) (rAF be dk rz day) uses stocks keys cents alts szs pc p) → ∀ c1 p1 m1 t1, MRows tools (asmF (lN s) asm placed 8) (rowB (lN s) (rAF ab dk rz day) (rAF be dk rz day) keys cents szs m) (rowP (lN s) (rAF ab dk rz day) (rAF be dk rz day) uses stocks keys cents alts szs pc) pc c1 p1 m1 t1 → Q 1 (sumF c1 33) c1 p1 m1 t1) :
    wp_M_reckon (lN a) (nI m) day (nI pc) (nI y) tools sizes keys cents uses stocks alts asm placed yab ybe ds dk ab be c0 p0 m0 t0 Q := by
  have nob : ¬ okB (lN s) (rAF ab dk rz day) (rAF be dk rz day) keys cents szs m → ∀ v c p mm t, v = 0 → wp_M_reckon_J213 Q v c p mm t := fun n v c p mm t hv => sp_J213 (by rw [hv]; exact hno (fun z => n z.2.1) _ _ _ _ _)
  have fin : ∀ c p mm t, (lN s ≤ 1000000000 ∧ okB (lN s) (rAF ab dk rz day) (rAF be dk rz day) keys cents szs m ∧ ∀ p, p < pc → okP (lN s) (rAF ab dk rz day) (rAF be dk rz day) uses stocks keys cents alts szs pc p) → MR0 tools (asmF (lN s) asm placed 8) (rowB (lN s) (rAF ab dk rz day) (rAF be dk rz day) keys cents szs m) (rowP (lN s) (rAF ab dk rz day) (rAF be dk rz day) uses stocks keys cents alts szs pc) pc c p mm t → wp_M_reckon_J213 Q 1 c p mm t := by
    intro c p mm t ok mr
    refine sp_J213 (hyes ok _ _ _ _ ⟨?_, ui_at⟩)
    obtain ⟨r0, r1, r2, r3, r4⟩ := mr
    refine ⟨⟨r0.1, r0.2.1, r0.2.2.1, by rw [ui_ne (by omega)]; exact r0.2.2.2⟩, r1, ⟨r2.1, r2.2.1, r2.2.2.1, by rw [ui_ne (by omega)]; exact r2.2.2.2⟩, fun i hi => by rw [ui_ne (by omega)]; exact r3 i hi, fun j q1 q2 => ⟨(r4 j q1 q2).1, (r4 j q1 q2).2.1, (r4 j q1 q2).2.2.1, by rw [ui_ne (by omega)]; exact (r4 j q1 q2).2.2.2⟩⟩
  -- the parts
  have parts : ∀ f p c1 p1 m1 t1, lN s ≤ 1000000000 → okB (lN s) (rAF ab dk rz day) (rAF be dk rz day) keys cents szs m → p + f = pc → (∀ i, i < p → okP (lN s) (rAF ab dk rz day) (rAF be dk rz day) uses stocks keys cents alts szs pc i) → MR0 tools (asmF (lN s) asm placed 8) (rowB (lN s) (rAF ab dk rz day) (rAF be dk rz day) keys cents szs m) (rowP (lN s) (rAF ab dk rz day) (rAF be dk rz day) uses stocks keys cents alts szs pc) p c1 p1 m1 t1 →
      wp_M_reckon_L181 day (nI pc) sizes keys cents uses stocks alts ds dk ab be (lN s) Q (f + 1) (nI p) 1 c1 p1 m1 t1 := by
    intro f
    induction f with
    | zero =>
      intro p c1 p1 m1 t1 hs hb hp hok mr
      have : p = pc := by omega
      subst this
      rw [wp_M_reckon_L181]
      exact ⟨fun _ => fin _ _ _ _ ⟨hs, hb, hok⟩ mr, fun q => absurd (nI_le (Nat.le_refl _) (by omega)) q⟩
    | succ f ih =>
      intro p c1 p1 m1 t1 hs hb hp hok mr
      obtain ⟨r0, r1, r2, r3, r4⟩ := mr
      rw [wp_M_reckon_L181]
      have bad : ¬ okP (lN s) (rAF ab dk rz day) (rAF be dk rz day) uses stocks keys cents alts szs pc p → ∀ c p2 mm t, wp_M_reckon_L181 day (nI pc) sizes keys cents uses stocks alts ds dk ab be (lN s) Q (f + 1) (nI (p + 1)) 0 c p2 mm t := by
        intro n c p2 mm t
        have j : wp_M_reckon_J213 Q 0 c p2 mm t := sp_J213 (hno (fun z => n (z.2.2 p (by omega))) _ _ _ _ _)
        rw [wp_M_reckon_L181]
        exact ⟨fun _ => j, fun _ => ⟨fun _ => j, fun q => absurd rfl q⟩⟩
      have good : okP (lN s) (rAF ab dk rz day) (rAF be dk rz day) uses stocks keys cents alts szs pc p → ∀ c3 p3 m3 t3, (c3 (3 + p), p3 (3 + p), m3 (3 + p), t3 (3 + p)) = rowP (lN s) (rAF ab dk rz day) (rAF be dk rz day) uses stocks keys cents alts szs pc p → (∀ j, j ≠ 3 + p → c3 j = c1 j ∧ p3 j = p1 j ∧ m3 j = m1 j ∧ t3 j = t1 j) → wp_M_reckon_L181 day (nI pc) sizes keys cents uses stocks alts ds dk ab be (lN s) Q (f + 1) (nI (p + 1)) 1 c3 p3 m3 t3 := by
        intro ok c3 p3 m3 t3 rq oth
        refine ih (p + 1) _ _ _ _ hs hb (by omega) (fun i hi => ?_) ?_
        · rcases Nat.lt_or_ge i p with q | q
          · exact hok i q
          · rw [show i = p by omega]; exact ok
        · have o0 := oth 0 (by omega); have o1 := oth 1 (by omega); have o2 := oth 2 (by omega)
          refine ⟨?_, ?_, ?_, fun i hi => ?_, fun j q1 q2 => ?_⟩
          · unfold MZ; rw [o0.1, o0.2.1, o0.2.2.1, o0.2.2.2]; exact r0
          · rw [o1.1, o1.2.1, o1.2.2.1]; exact r1
          · unfold MZ; rw [o2.1, o2.2.1, o2.2.2.1, o2.2.2.2]; exact r2
          · by_cases hip : i = p
            · subst hip; exact rq
            · have oi := oth (3 + i) (by omega)
              rw [oi.1, oi.2.1, oi.2.2.1, oi.2.2.2]; exact r3 i (by omega)
          · have oj := oth j (by omega)
            unfold MZ
            rw [oj.1, oj.2.1, oj.2.2.1, oj.2.2.2]; exact r4 j (by omega) q2
      have zr := r4 (3 + p) (by omega) (by omega)
      have zr2 : (c1 (3 + p), p1 (3 + p), m1 (3 + p), t1 (3 + p)) = zq := by rw [zr.1, zr.2.1, zr.2.2.1, zr.2.2.2]; rfl
      refine ⟨fun q => by have := ge_c (by omega) (by omega) q; omega, fun _ => ⟨fun q => absurd q (by decide), fun _ => sp_M_buyPart hpc (by omega) hL hd hbe zr2 (fun n1 x hx => ?_) (fun n1 n2 x hx => ?_) (fun n1 n2 c3 p3 m3 t3 rq oth x hx => ?_)⟩⟩
      · rw [nI_1] at hx; subst hx
        exact good (Or.inl n1) _ _ _ _ (by rw [zr2]; unfold rowP; rw [if_neg n1]) (fun j _ => ⟨rfl, rfl, rfl, rfl⟩)
      · rw [nI_1] at hx; subst hx
        exact bad (fun z => Or.elim z (fun y => y n1) (fun y => n2 y.1)) _ _ _ _
      · rw [nI_1] at hx; subst hx
        have ep : p3 (3 + p) = (ptQ (lN s * uses p - stocks p) (rAF ab dk rz day) (rAF be dk rz day) (alts p) p keys cents szs pc zq).2.1 := by rw [← rq]
        by_cases t0 : (ptQ (lN s * uses p - stocks p) (rAF ab dk rz day) (rAF be dk rz day) (alts p) p keys cents szs pc zq).2.1 = 0
        · rw [if_pos (by rw [ep, t0]; decide)]
          exact bad (fun z => Or.elim z (fun y => y n1) (fun y => y.2 t0)) _ _ _ _
        · by_cases hle : p3 (3 + p) ≤ 0
          · exact absurd (NN_le (ptQ_nn hL pc zq hpc NN_z) (by rw [← ep]; exact hle)) t0
          · rw [if_neg hle]
            exact good (Or.inr ⟨n2, t0⟩) _ _ _ _ (by rw [rq]; unfold rowP; rw [if_pos n1]) oth
  -- assembly, then the parts
  have asml : ∀ (v : Int32) (cb u2 : Nat → Int64) (u3 u4 : Nat → Int32), (∀ c, c 2 = asmF (lN s) asm placed 8 → (∀ i, i ≠ 2 → c i = cb i) → ∃ n, wp_M_reckon_L181 day (nI pc) sizes keys cents uses stocks alts ds dk ab be (lN s) Q n 0 v c u2 u3 u4) → ∀ f j c, j + f = 8 → c 2 = asmF (lN s) asm placed j → (∀ i, i ≠ 2 → c i = cb i) → wp_M_reckon_L132 day (nI pc) sizes keys cents uses stocks alts asm placed ds dk ab be (lN s) u2 u3 u4 v Q (f + 1) (nI j) c := by
    intro v cb u2 u3 u4 hf f
    induction f with
    | zero =>
      intro j c hj h2 ho
      have : j = 8 := by omega
      subst this
      rw [wp_M_reckon_L132]
      exact ⟨fun _ => hf c h2 ho, fun hc => absurd (nI_le (a := 8) (Nat.le_refl _) (by decide)) hc⟩
    | succ f ih =>
      intro j c hj h2 ho
      rw [wp_M_reckon_L132]
      refine ⟨fun hc => by have := ge_c (k := 8) (by decide) (by omega) hc; omega, fun _ => ⟨vp_in_nI (n := 2) (by decide) (by decide), vp_in_nI (by omega) (by decide), vp_in_nI (by omega) (by decide), ?_⟩⟩
      rw [nI_clamp (n := j) (by omega)]
      refine sp_M_up (by decide) (fun x39 h39 => ⟨vp_in_nI (n := 2) (by decide) (by decide), fun f40 h40 x41 h41 => ?_⟩)
      rw [nI_1] at h41; subst h41
      have h39 : x39 = c 2 + (lN s * placed j * asm j + 1000 - 1) / 1000 := h39
      have h40 : f40 = vp_updL c 2 x39 := h40
      subst h40
      refine ih (j + 1) _ (by omega) ?_ (fun i hi => by rw [up_ne hi]; exact ho i hi)
      rw [up_at, h39, h2]
      rfl
  -- behind the clearing
  have behind : ∀ c1 p1 m1 t1, (∀ j, j < 33 → MZ 0 c1 p1 m1 t1 j) → wp_M_started (lN a) (nI y) yab ybe (fun r6 => ((1000000000 < r6) → wp_M_reckon_J70 (nI m) day (nI pc) tools sizes keys cents uses stocks alts asm placed ds dk ab be c1 p1 m1 t1 r6 Q 0) ∧ ((¬ 1000000000 < r6) → wp_M_reckon_J70 (nI m) day (nI pc) tools sizes keys cents uses stocks alts asm placed ds dk ab be c1 p1 m1 t1 r6 Q 1)) := by
    intro c1 p1 m1 t1 hz
    refine sp_M_started hy hyp ?_
    rw [hst]
    have z0 : (0 : Int32).toNatClampNeg = 0 := by decide
    unfold wp_M_reckon_J70
    rw [z0]
    refine ⟨fun g => ⟨Or.inl rfl, vp_in_nI (n := 0) (by decide) (by decide), fun f8 h8 => ⟨fun _ => sp_J213 (hno (fun z => by have := z.1; rw [i64_le] at this; rw [i64_lt] at g; omega) _ _ _ _ _), fun q => absurd rfl q⟩⟩, fun g => ⟨Or.inr rfl, vp_in_nI (n := 0) (by decide) (by decide), fun f8 h8 => ⟨fun q => absurd q (by decide), fun _ => ⟨fun g2 => ?_, fun g2 => ?_⟩⟩⟩⟩
    · -- no boards
      have hs0 : s = 0 := by
        have := (pk_lLE (a := s) (b := 0) (by omega) (by decide)).mp g2
        omega
      have hp0 : ¬ (0 : Int64) < lN s := by rw [hs0]; decide
      have hneed : ∀ p, p < pc → ¬ 0 < lN s * uses p - stocks p := by
        intro p hp
        have hk := hsk p hp
        have e : lN s * uses p = 0 := by rw [hs0]; show (0 : Int64) * uses p = 0; rw [Int64.zero_mul]
        rw [e, Int64.zero_sub]
        intro hlt
        rw [i64_lt, Int64.toInt_neg] at hlt
        rw [i64_le] at hk
        have z : (0 : Int64).toInt = 0 := by decide
        rw [z] at hk hlt
        have hr := Int64.toInt_lt (stocks p)
        have hb : (-(stocks p).toInt).bmod (2 ^ 64) = -(stocks p).toInt := by
          apply Int.bmod_eq_of_le <;> omega
        rw [hb] at hlt
        omega
      refine fin _ _ _ _ ⟨nlt_le.mp g, Or.inl hp0, fun p hp => Or.inl (hneed p hp)⟩ ?_
      subst h8
      have k : ∀ j, j ≠ 0 → vp_updL c1 0 tools j = c1 j := fun j hj => up_ne hj
      refine ⟨⟨up_at, (hz 0 (by decide)).2⟩, ?_, ?_, fun i hi => ?_, fun j q1 q2 => ?_⟩
      · unfold rowB; rw [if_neg hp0, k 1 (by decide)]
        exact ⟨(hz 1 (by decide)).1, (hz 1 (by decide)).2.1, (hz 1 (by decide)).2.2.1⟩
      · rw [hs0, asm0]
        unfold MZ; rw [k 2 (by decide)]; exact hz 2 (by decide)
      · unfold rowP; rw [if_neg (hneed i hi), k (3 + i) (by omega)]
        have zi := hz (3 + i) (by omega)
        rw [zi.1, zi.2.1, zi.2.2.1, zi.2.2.2]; rfl
      · unfold MZ; rw [k j (by omega)]; exact hz j q2
    · -- boards
      have hpos : (0 : Int64) < lN s := by rw [i64_lt]; rw [i64_le] at g2; omega
      obtain ⟨hs1, hs2, -⟩ := hL (8 * 30 + m) (by omega)
      have e30 : wp_M_offer (1 : Int32) (30 : Int32) = wp_M_offer (nI 1) (nI 30) := rfl
      rw [e30]
      refine sp_M_offer (by decide) (by decide) hm hs1 hs2 hd hbe (fun c2 p2 m2 t2 rq oth => ?_)
      subst h8
      have zi := hz 1 (by decide)
      rw [up_ne (by decide), zi.1, zi.2.1, zi.2.2.1, zi.2.2.2] at rq
      have eB : rowB (lN s) (rAF ab dk rz day) (rAF be dk rz day) keys cents szs m = offQ (lN s) (rAF ab dk rz day m) (rAF be dk rz day m) (nI 30) (nI m) keys cents (6 * (8 * 30 + m)) (szs (8 * 30 + m)) zq := by unfold rowB; rw [if_pos hpos]
      have rq2 : (c2 1, p2 1, m2 1, t2 1) = rowB (lN s) (rAF ab dk rz day) (rAF be dk rz day) keys cents szs m := by rw [eB]; exact rq
      have hnn : NN (rowB (lN s) (rAF ab dk rz day) (rAF be dk rz day) keys cents szs m) := by rw [eB]; exact offQ_nn _ _ (li_pos hL (by omega)) NN_z
      have ep : p2 1 = (rowB (lN s) (rAF ab dk rz day) (rAF be dk rz day) keys cents szs m).2.1 := by rw [← rq2]
      have o0 := oth 0 (by decide); have o2 := oth 2 (by decide)
      have c20 : c2 2 = asmF (lN s) asm placed 0 := by rw [o2.1, up_ne (by decide)]; exact (hz 2 (by decide)).1
      have z1 : (1 : Int32).toNatClampNeg = 1 := by decide
      rw [z1]
      unfold wp_M_reckon_J126
      refine ⟨vp_in_nI (n := 1) (by decide) (by decide), fun g3 => ⟨Or.inl rfl, 9, ?_⟩, fun g3 => ⟨Or.inr rfl, 9, ?_⟩⟩
      · refine asml 0 c2 p2 m2 t2 (fun c _ _ => ⟨1, ?_⟩) 8 0 c2 (by omega) c20 (fun _ _ => rfl)
        have j : wp_M_reckon_J213 Q 0 c p2 m2 t2 := nob (fun z => Or.elim z (fun y => y hpos) (fun y => y (NN_le hnn (by rw [← ep]; exact g3)))) 0 _ _ _ _ rfl
        rw [wp_M_reckon_L181]
        exact ⟨fun _ => j, fun _ => ⟨fun _ => j, fun q => absurd rfl q⟩⟩
      · refine asml 1 c2 p2 m2 t2 (fun c h2 ho => ⟨pc + 1, ?_⟩) 8 0 c2 (by omega) c20 (fun _ _ => rfl)
        refine parts pc 0 c p2 m2 t2 (nlt_le.mp g) (Or.inr (fun e => g3 (by rw [ep, e]; decide))) (by omega) (fun i hi => absurd hi (Nat.not_lt_zero i)) ?_
        refine ⟨?_, ?_, ?_, fun i hi => absurd hi (Nat.not_lt_zero i), fun j q1 q2 => ?_⟩
        · unfold MZ; rw [ho 0 (by decide), o0.1, o0.2.1, o0.2.2.1, o0.2.2.2, up_at]; exact ⟨rfl, (hz 0 (by decide)).2⟩
        · rw [ho 1 (by decide), ← rq2]; exact ⟨rfl, rfl, rfl⟩
        · unfold MZ; rw [h2, o2.2.1, o2.2.2.1, o2.2.2.2]; exact ⟨rfl, (hz 2 (by decide)).2⟩
        · have oj := oth j (by omega)
          unfold MZ; rw [ho j (by omega), oj.1, oj.2.1, oj.2.2.1, oj.2.2.2, up_ne (by omega)]; exact hz j q2
  unfold wp_M_reckon
  refine ⟨34, ?_⟩
  have clear : ∀ f j c1 p1 m1 t1, j + f = 33 → (∀ i, i < j → MZ 0 c1 p1 m1 t1 i) → wp_M_reckon_L3 (lN a) (nI m) day (nI pc) (nI y) tools sizes keys cents uses stocks alts asm placed yab ybe ds dk ab be Q (f + 1) (nI j) c1 p1 m1 t1 := by
    intro f
    induction f with
    | zero =>
      intro j c1 p1 m1 t1 hj hi
      have : j = 33 := by omega
      subst this
      rw [wp_M_reckon_L3]
      exact ⟨fun _ => behind c1 p1 m1 t1 hi, fun hc => absurd (nI_le (a := 33) (Nat.le_refl _) (by decide)) hc⟩
    | succ f ih =>
      intro j c1 p1 m1 t1 hj hi
      rw [wp_M_reckon_L3]
      refine ⟨fun hc => by have := ge_c (k := 33) (by decide) (by omega) hc; omega, fun _ => ⟨vp_in_nI (by omega) (by decide), fun f1 e1 => ⟨vp_in_nI (by omega) (by decide), fun f2 e2 => ⟨vp_in_nI (by omega) (by decide), fun f3 e3 => ⟨vp_in_nI (by omega) (by decide), fun f4 e4 x5 h5 => ?_⟩⟩⟩⟩⟩
      rw [nI_clamp (by omega)] at e1 e2 e3 e4
      rw [nI_1] at h5; subst h5; subst e1; subst e2; subst e3; subst e4
      refine ih (j + 1) _ _ _ _ (by omega) (fun i hi2 => ?_)
      unfold MZ
      by_cases e : i = j
      · subst e; rw [up_at, up_at, ui_at, ui_at]; exact ⟨rfl, rfl, rfl, rfl⟩
      · rw [up_ne e, up_ne e, ui_ne e, ui_ne e]; exact hi i (by omega)
  exact clear 33 0 c0 p0 m0 t0 (by omega) (fun i hi => absurd hi (Nat.not_lt_zero i))
