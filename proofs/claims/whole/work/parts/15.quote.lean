theorem h9_Q_clearRow : y_Q_clearRow.cls ≠ "java/lang/invoke/MethodHandle" ∧ y_Q_clearRow.cls ≠ "java/lang/invoke/VarHandle" ∧ (parseMethodDescriptor y_Q_clearRow.desc).map (fun d => d.parameters.length) = some 1 := by decide +kernel
def wp_Q_clearRow (row : Int32) (t_costs : Nat → Int64) (t_pieces : Nat → Int32) (t_makers : Nat → Int32) (t_parts : Nat → Int32) (Q : (Nat → Int64) → (Nat → Int32) → (Nat → Int32) → (Nat → Int32) → Prop) : Prop :=
  vp_in row 33 ∧
  ∀ f1 : Nat → Int64, f1 = vp_updL t_costs row.toNatClampNeg 0 →
  vp_in row 33 ∧
  ∀ f2 : Nat → Int32, f2 = upd t_pieces row.toNatClampNeg 0 →
  vp_in row 33 ∧
  ∀ f3 : Nat → Int32, f3 = upd t_makers row.toNatClampNeg (-1) →
  vp_in row 33 ∧
  ∀ f4 : Nat → Int32, f4 = upd t_parts row.toNatClampNeg (-1) →
  Q f1 f2 f3 f4
set_option maxHeartbeats 4000000 in
set_option maxRecDepth 100000 in
theorem k_Q_clearRow (g : GX) (hg : g.1.stackTraces = false) (a_t : Nat) (row : Int32) (a_t_costs : Nat) (a_t_pieces : Nat) (a_t_makers : Nat) (a_t_parts : Nat) (t_rowCount : Int32) (t_costs : Nat → Int64) (t_pieces : Nat → Int32) (t_makers : Nat → Int32) (t_parts : Nat → Int32) (Q : (Nat → Int64) → (Nat → Int32) → (Nat → Int32) → (Nat → Int32) → Prop) (hw : wp_Q_clearRow row t_costs t_pieces t_makers t_parts Q) : CT g y_Q_clearRow c_Q_clearRow 2 none ({ frames := 0, cells := 0, slots := 0, locals := 0 } : Room) [.ref a_t, .int row] [(a_t, .inr (1, [.ref a_t_costs, .ref a_t_pieces, .ref a_t_makers, .ref a_t_parts, .int t_rowCount])), aJ g a_t_costs 33 t_costs, aI g a_t_pieces 33 t_pieces, aI g a_t_makers 33 t_makers, aI g a_t_parts 33 t_parts] (QV g [(a_t, .inr (1, [.ref a_t_costs, .ref a_t_pieces, .ref a_t_makers, .ref a_t_parts, .int t_rowCount])), aJ g a_t_costs 33 t_costs, aI g a_t_pieces 33 t_pieces, aI g a_t_makers 33 t_makers, aI g a_t_parts 33 t_parts] (fun u : (Nat → Int64) × (Nat → Int32) × (Nat → Int32) × (Nat → Int32) => [(a_t, .inr (1, [.ref a_t_costs, .ref a_t_pieces, .ref a_t_makers, .ref a_t_parts, .int t_rowCount])), aJ g a_t_costs 33 u.1, aI g a_t_pieces 33 u.2.1, aI g a_t_makers 33 u.2.2.1, aI g a_t_parts 33 u.2.2.2]) (fun u => Q u.1 u.2.1 u.2.2.1 u.2.2.2)) := by
  refine ct_of hg (by decide) (Nat.le_of_ble_eq_true rfl) (fun sz C X hr => ?_)
  unfold wp_Q_clearRow at hw
  show ST g C [(a_t, .inr (1, [.ref a_t_costs, .ref a_t_pieces, .ref a_t_makers, .ref a_t_parts, .int t_rowCount])), aJ g a_t_costs 33 t_costs, aI g a_t_pieces 33 t_pieces, aI g a_t_makers 33 t_makers, aI g a_t_parts 33 t_parts] [(0, .ref a_t), (1, .int row)] [] 0 0 0
  refine st_aload_n X 0 d_Q_clearRow_0 rfl rfl ?_
  refine st_get X (ci := 1) in_Q 0 0 wf_Q_9 rfl rfl (by decide) rfl d_Q_clearRow_1 ?_
  refine st_iload_n X 1 d_Q_clearRow_4 rfl rfl ?_
  refine st_lconst X (v := 0) d_Q_clearRow_5 (by decide) ?_
  obtain ⟨hb1, hw⟩ := hw
  obtain ⟨f1, hf1⟩ : ∃ z : Nat → Int64, z = vp_updL t_costs row.toNatClampNeg 0 := ⟨_, rfl⟩
  replace hw := hw f1 hf1
  refine st_last X (ws2 := [(a_t, .inr (1, [.ref a_t_costs, .ref a_t_pieces, .ref a_t_makers, .ref a_t_parts, .int t_rowCount])), aJ g a_t_costs 33 f1, aI g a_t_pieces 33 t_pieces, aI g a_t_makers 33 t_makers, aI g a_t_parts 33 t_parts]) 1 rfl hb1 (by rw [hf1]; rfl) d_Q_clearRow_6 ?_
  refine st_aload_n X 0 d_Q_clearRow_7 rfl rfl ?_
  refine st_get X (ci := 1) in_Q 0 1 wf_Q_15 rfl rfl (by decide) rfl d_Q_clearRow_8 ?_
  refine st_iload_n X 1 d_Q_clearRow_11 rfl rfl ?_
  refine st_iconst X (v := 0) d_Q_clearRow_12 (by decide) ?_
  obtain ⟨hb2, hw⟩ := hw
  obtain ⟨f2, hf2⟩ : ∃ z : Nat → Int32, z = upd t_pieces row.toNatClampNeg 0 := ⟨_, rfl⟩
  replace hw := hw f2 hf2
  refine st_iast X (ws2 := [(a_t, .inr (1, [.ref a_t_costs, .ref a_t_pieces, .ref a_t_makers, .ref a_t_parts, .int t_rowCount])), aJ g a_t_costs 33 f1, aI g a_t_pieces 33 f2, aI g a_t_makers 33 t_makers, aI g a_t_parts 33 t_parts]) 2 rfl hb2 (by rw [hf2]; rfl) d_Q_clearRow_13 ?_
  refine st_aload_n X 0 d_Q_clearRow_14 rfl rfl ?_
  refine st_get X (ci := 1) in_Q 0 2 wf_Q_19 rfl rfl (by decide) rfl d_Q_clearRow_15 ?_
  refine st_iload_n X 1 d_Q_clearRow_18 rfl rfl ?_
  refine st_iconst X (v := (-1)) d_Q_clearRow_19 (by decide) ?_
  obtain ⟨hb3, hw⟩ := hw
  obtain ⟨f3, hf3⟩ : ∃ z : Nat → Int32, z = upd t_makers row.toNatClampNeg (-1) := ⟨_, rfl⟩
  replace hw := hw f3 hf3
  refine st_iast X (ws2 := [(a_t, .inr (1, [.ref a_t_costs, .ref a_t_pieces, .ref a_t_makers, .ref a_t_parts, .int t_rowCount])), aJ g a_t_costs 33 f1, aI g a_t_pieces 33 f2, aI g a_t_makers 33 f3, aI g a_t_parts 33 t_parts]) 3 rfl hb3 (by rw [hf3]; rfl) d_Q_clearRow_20 ?_
  refine st_aload_n X 0 d_Q_clearRow_21 rfl rfl ?_
  refine st_get X (ci := 1) in_Q 0 3 wf_Q_22 rfl rfl (by decide) rfl d_Q_clearRow_22 ?_
  refine st_iload_n X 1 d_Q_clearRow_25 rfl rfl ?_
  refine st_iconst X (v := (-1)) d_Q_clearRow_26 (by decide) ?_
  obtain ⟨hb4, hw⟩ := hw
  obtain ⟨f4, hf4⟩ : ∃ z : Nat → Int32, z = upd t_parts row.toNatClampNeg (-1) := ⟨_, rfl⟩
  replace hw := hw f4 hf4
  refine st_iast X (ws2 := [(a_t, .inr (1, [.ref a_t_costs, .ref a_t_pieces, .ref a_t_makers, .ref a_t_parts, .int t_rowCount])), aJ g a_t_costs 33 f1, aI g a_t_pieces 33 f2, aI g a_t_makers 33 f3, aI g a_t_parts 33 f4]) 4 rfl hb4 (by rw [hf4]; rfl) d_Q_clearRow_27 ?_
  exact st_vret X hr (f1, f2, f3, f4) hw rfl (by decide) (by decide) d_Q_clearRow_28

theorem h9_Q_begin : y_Q_begin.cls ≠ "java/lang/invoke/MethodHandle" ∧ y_Q_begin.cls ≠ "java/lang/invoke/VarHandle" ∧ (parseMethodDescriptor y_Q_begin.desc).map (fun d => d.parameters.length) = some 1 := by decide +kernel
def wp_Q_begin_L7 (rows : Int32) (Q : Int32 → (Nat → Int64) → (Nat → Int32) → (Nat → Int32) → (Nat → Int32) → Prop) : Nat → Int32 → (Nat → Int64) → (Nat → Int32) → (Nat → Int32) → (Nat → Int32) → Prop
  | 0, _, _, _, _, _ => False
  | n7 + 1, v1, f2, f3, f4, f5 =>
  ((33 ≤ v1) → Q rows f2 f3 f4 f5) ∧
  ((¬ 33 ≤ v1) → wp_Q_clearRow v1 f2 f3 f4 f5 (fun u6 u7 u8 u9 =>
  ∀ x10 : Int32, x10 = v1 + 1 →
  (wp_Q_begin_L7 rows Q n7) x10 u6 u7 u8 u9))
def wp_Q_begin (rows : Int32) (t_costs : Nat → Int64) (t_pieces : Nat → Int32) (t_makers : Nat → Int32) (t_parts : Nat → Int32) (Q : Int32 → (Nat → Int64) → (Nat → Int32) → (Nat → Int32) → (Nat → Int32) → Prop) : Prop :=
  ∃ n7 : Nat, wp_Q_begin_L7 rows Q n7 0 t_costs t_pieces t_makers t_parts
set_option maxHeartbeats 4000000 in
set_option maxRecDepth 100000 in
theorem k_Q_begin (g : GX) (hg : g.1.stackTraces = false) (a_t : Nat) (rows : Int32) (a_t_costs : Nat) (a_t_pieces : Nat) (a_t_makers : Nat) (a_t_parts : Nat) (t_rowCount : Int32) (t_costs : Nat → Int64) (t_pieces : Nat → Int32) (t_makers : Nat → Int32) (t_parts : Nat → Int32) (Q : Int32 → (Nat → Int64) → (Nat → Int32) → (Nat → Int32) → (Nat → Int32) → Prop) (hw : wp_Q_begin rows t_costs t_pieces t_makers t_parts Q) : CT g y_Q_begin c_Q_begin 3 none ({ frames := 1, cells := 0, slots := 0, locals := 21 } : Room) [.ref a_t, .int rows] [(a_t, .inr (1, [.ref a_t_costs, .ref a_t_pieces, .ref a_t_makers, .ref a_t_parts, .int t_rowCount])), aJ g a_t_costs 33 t_costs, aI g a_t_pieces 33 t_pieces, aI g a_t_makers 33 t_makers, aI g a_t_parts 33 t_parts] (QV g [(a_t, .inr (1, [.ref a_t_costs, .ref a_t_pieces, .ref a_t_makers, .ref a_t_parts, .int t_rowCount])), aJ g a_t_costs 33 t_costs, aI g a_t_pieces 33 t_pieces, aI g a_t_makers 33 t_makers, aI g a_t_parts 33 t_parts] (fun u : Int32 × (Nat → Int64) × (Nat → Int32) × (Nat → Int32) × (Nat → Int32) => [(a_t, .inr (1, [.ref a_t_costs, .ref a_t_pieces, .ref a_t_makers, .ref a_t_parts, .int u.1])), aJ g a_t_costs 33 u.2.1, aI g a_t_pieces 33 u.2.2.1, aI g a_t_makers 33 u.2.2.2.1, aI g a_t_parts 33 u.2.2.2.2]) (fun u => Q u.1 u.2.1 u.2.2.1 u.2.2.2.1 u.2.2.2.2)) := by
  refine ct_of hg (by decide) (Nat.le_of_ble_eq_true rfl) (fun sz C X hr => ?_)
  unfold wp_Q_begin at hw
  show ST g C [(a_t, .inr (1, [.ref a_t_costs, .ref a_t_pieces, .ref a_t_makers, .ref a_t_parts, .int t_rowCount])), aJ g a_t_costs 33 t_costs, aI g a_t_pieces 33 t_pieces, aI g a_t_makers 33 t_makers, aI g a_t_parts 33 t_parts] [(0, .ref a_t), (1, .int rows)] [] 0 0 0
  refine st_aload_n X 0 d_Q_begin_0 rfl rfl ?_
  refine st_iload_n X 1 d_Q_begin_1 rfl rfl ?_
  refine st_put X (ci := 1) (ty := .int) in_Q t_Q to_Q nm_Q 0 4 wf_Q_25 rfl rfl (by decide) rfl (by decide +kernel) rfl rfl (Nat.le_of_ble_eq_true rfl) (ws2 := [(a_t, .inr (1, [.ref a_t_costs, .ref a_t_pieces, .ref a_t_makers, .ref a_t_parts, .int rows])), aJ g a_t_costs 33 t_costs, aI g a_t_pieces 33 t_pieces, aI g a_t_makers 33 t_makers, aI g a_t_parts 33 t_parts]) rfl d_Q_begin_2 ?_
  refine st_iconst X (v := 0) d_Q_begin_5 (by decide) ?_
  refine st_istore_n X (lv2 := [(2, .int 0), (0, .ref a_t), (1, .int rows)]) d_Q_begin_6 rfl (by decide) rfl ?_
  have L7 : ∀ (n7 : Nat) (v1 : Int32) (f2 : Nat → Int64) (f3 : Nat → Int32) (f4 : Nat → Int32) (f5 : Nat → Int32), wp_Q_begin_L7 rows Q n7 v1 f2 f3 f4 f5 → ST g C [(a_t, .inr (1, [.ref a_t_costs, .ref a_t_pieces, .ref a_t_makers, .ref a_t_parts, .int rows])), aJ g a_t_costs 33 f2, aI g a_t_pieces 33 f3, aI g a_t_makers 33 f4, aI g a_t_parts 33 f5] [(0, .ref a_t), (1, .int rows), (2, .int v1)] [] 7 0 0 := by
    intro n7
    induction n7 with
    | zero => intro v1 f2 f3 f4 f5 hw; exact hw.elim
    | succ n7 ih7 =>
      intro v1 f2 f3 f4 f5 hw
      rw [wp_Q_begin_L7] at hw
      refine st_iload_n X 2 d_Q_begin_7 rfl rfl ?_
      refine st_bipush X (v := 33) d_Q_begin_8 (by decide) ?_
      refine st_icmp_ge X 24 d_Q_begin_10 (by decide) (fun hc => ?_) (fun hc => ?_)
      · replace hw := hw.1 hc
        exact st_vret X hr (rows, f2, f3, f4, f5) hw rfl (by decide) (by decide) d_Q_begin_24
      · replace hw := hw.2 hc
        refine st_aload_n X 0 d_Q_begin_13 rfl rfl ?_
        refine st_iload_n X 2 d_Q_begin_14 rfl rfl ?_
        have hR := rn_V (pc := 15) (k := 0) (n := 0) (As := [.int v1]) (rest := []) X (k_Q_clearRow g hg a_t v1 a_t_costs a_t_pieces a_t_makers a_t_parts rows f2 f3 f4 f5 _ hw) (q0 := 0) rfl rfl wm_Q_29 wi_Q_clearRow wl_Q_clearRow wz_Q wc_Q_clearRow h9_Q_clearRow ⟨by decide, by decide⟩ (Nat.le_of_ble_eq_true rfl) ⟨by decide, by decide⟩ d_Q_begin_15
        refine st_callv X hR [0, 1, 2, 3, 4] [] (wr := []) rfl rfl (by decide) (by decide) (by decide) (fun u9 hw => ?_)
        obtain ⟨u6, u7, u8, u9⟩ := u9
        try dsimp only at hw
        refine st_widen (k2 := 0) (n2 := 0) (by decide) (by decide) ?_
        refine st_perm (ws2 := [(a_t, .inr (1, [.ref a_t_costs, .ref a_t_pieces, .ref a_t_makers, .ref a_t_parts, .int rows])), aJ g a_t_costs 33 u6, aI g a_t_pieces 33 u7, aI g a_t_makers 33 u8, aI g a_t_parts 33 u9]) [0, 1, 2, 3, 4] rfl (by decide) ?_
        show ST g C [(a_t, .inr (1, [.ref a_t_costs, .ref a_t_pieces, .ref a_t_makers, .ref a_t_parts, .int rows])), aJ g a_t_costs 33 u6, aI g a_t_pieces 33 u7, aI g a_t_makers 33 u8, aI g a_t_parts 33 u9] [(0, .ref a_t), (1, .int rows), (2, .int v1)] [] 18 0 0
        obtain ⟨x10, hx10⟩ : ∃ z : Int32, z = v1 + 1 := ⟨_, rfl⟩
        replace hw := hw x10 hx10
        refine st_iinc X (v := x10) (lv2 := [(2, .int x10), (0, .ref a_t), (1, .int rows)]) 2 d_Q_begin_18 rfl (by rw [hx10]; rfl) (by decide) rfl ?_
        refine st_goto X 7 d_Q_begin_21 (by decide) ?_
        refine st_lv [1, 2, 0] rfl ?_
        exact ih7 x10 u6 u7 u8 u9 hw
  obtain ⟨n7, hw⟩ := hw
  refine st_lv [1, 2, 0] rfl ?_
  exact L7 n7 0 t_costs t_pieces t_makers t_parts hw

theorem h9_Q_isBought : y_Q_isBought.cls ≠ "java/lang/invoke/MethodHandle" ∧ y_Q_isBought.cls ≠ "java/lang/invoke/VarHandle" ∧ (parseMethodDescriptor y_Q_isBought.desc).map (fun d => d.parameters.length) = some 1 := by decide +kernel
def wp_Q_isBought_J15 (Q : Int32 → Prop) (v1 : Int32) : Prop :=
  (v1 = 0 ∨ v1 = 1) ∧ Q v1
def wp_Q_isBought (row : Int32) (t_makers : Nat → Int32) (Q : Int32 → Prop) : Prop :=
  vp_in row 33 ∧
  (((t_makers row.toNatClampNeg) = (-1)) → wp_Q_isBought_J15 Q 0) ∧
  ((¬ (t_makers row.toNatClampNeg) = (-1)) → wp_Q_isBought_J15 Q 1)
set_option maxHeartbeats 4000000 in
set_option maxRecDepth 100000 in
theorem k_Q_isBought (g : GX) (hg : g.1.stackTraces = false) (a_t : Nat) (row : Int32) (a_t_costs : Nat) (a_t_pieces : Nat) (a_t_makers : Nat) (a_t_parts : Nat) (t_rowCount : Int32) (t_makers : Nat → Int32) (Q : Int32 → Prop) (hw : wp_Q_isBought row t_makers Q) : CT g y_Q_isBought c_Q_isBought 2 (some .boolean) ({ frames := 0, cells := 0, slots := 0, locals := 0 } : Room) [.ref a_t, .int row] [(a_t, .inr (1, [.ref a_t_costs, .ref a_t_pieces, .ref a_t_makers, .ref a_t_parts, .int t_rowCount])), aI g a_t_makers 33 t_makers] (QI g [(a_t, .inr (1, [.ref a_t_costs, .ref a_t_pieces, .ref a_t_makers, .ref a_t_parts, .int t_rowCount])), aI g a_t_makers 33 t_makers] (fun u : Unit => [(a_t, .inr (1, [.ref a_t_costs, .ref a_t_pieces, .ref a_t_makers, .ref a_t_parts, .int t_rowCount])), aI g a_t_makers 33 t_makers]) (fun r u => Q r)) := by
  refine ct_of hg (by decide) (Nat.le_of_ble_eq_true rfl) (fun sz C X hr => ?_)
  unfold wp_Q_isBought at hw
  show ST g C [(a_t, .inr (1, [.ref a_t_costs, .ref a_t_pieces, .ref a_t_makers, .ref a_t_parts, .int t_rowCount])), aI g a_t_makers 33 t_makers] [(0, .ref a_t), (1, .int row)] [] 0 0 0
  refine st_aload_n X 0 d_Q_isBought_0 rfl rfl ?_
  refine st_get X (ci := 1) in_Q 0 2 wf_Q_19 rfl rfl (by decide) rfl d_Q_isBought_1 ?_
  refine st_iload_n X 1 d_Q_isBought_4 rfl rfl ?_
  obtain ⟨hb1, hw⟩ := hw
  refine st_iald X 1 rfl hb1 d_Q_isBought_5 ?_
  refine st_iconst X (v := (-1)) d_Q_isBought_6 (by decide) ?_
  have J15 : ∀ (v1 : Int32), wp_Q_isBought_J15 Q v1 → ST g C [(a_t, .inr (1, [.ref a_t_costs, .ref a_t_pieces, .ref a_t_makers, .ref a_t_parts, .int t_rowCount])), aI g a_t_makers 33 t_makers] [(0, .ref a_t), (1, .int row)] [.int v1] 15 0 0 := by
    intro v1 hw
    unfold wp_Q_isBought_J15 at hw
    obtain ⟨hz, hw⟩ := hw
    exact st_zret X hr () hw hz rfl (by decide) (by decide) d_Q_isBought_15
  refine st_icmp_eq X 14 d_Q_isBought_7 (by decide) (fun hc => ?_) (fun hc => ?_)
  · replace hw := hw.1 hc
    refine st_iconst X (v := 0) d_Q_isBought_14 (by decide) ?_
    refine st_lv [0, 1] rfl ?_
    exact J15 0 hw
  · replace hw := hw.2 hc
    refine st_iconst X (v := 1) d_Q_isBought_10 (by decide) ?_
    refine st_goto X 15 d_Q_isBought_11 (by decide) ?_
    refine st_lv [0, 1] rfl ?_
    exact J15 1 hw

theorem h9_Q_isBetter : y_Q_isBetter.cls ≠ "java/lang/invoke/MethodHandle" ∧ y_Q_isBetter.cls ≠ "java/lang/invoke/VarHandle" ∧ (parseMethodDescriptor y_Q_isBetter.desc).map (fun d => d.parameters.length) = some 5 := by decide +kernel
def wp_Q_isBetter_J100 (Q : Int32 → Prop) (v1 : Int32) : Prop :=
  (v1 = 0 ∨ v1 = 1) ∧ Q v1
def wp_Q_isBetter_J83 (Q : Int32 → Prop) (v2 : Int32) : Prop :=
  (v2 = 0 ∨ v2 = 1) ∧ Q v2
def wp_Q_isBetter_J55 (Q : Int32 → Prop) (v3 : Int32) : Prop :=
  (v3 = 0 ∨ v3 = 1) ∧ Q v3
def wp_Q_isBetter_J27 (Q : Int32 → Prop) (v4 : Int32) : Prop :=
  (v4 = 0 ∨ v4 = 1) ∧ Q v4
def wp_Q_isBetter (row : Int32) (cost : Int64) (part : Int32) (maker : Int32) (count : Int32) (t_costs : Nat → Int64) (t_pieces : Nat → Int32) (t_makers : Nat → Int32) (t_parts : Nat → Int32) (Q : Int32 → Prop) : Prop :=
  vp_in row 33 ∧
  ((cost = (t_costs row.toNatClampNeg)) → vp_in row 33 ∧
  ((part = (t_parts row.toNatClampNeg)) → vp_in row 33 ∧
  ((maker = (t_makers row.toNatClampNeg)) → vp_in row 33 ∧
  (((t_pieces row.toNatClampNeg) ≤ count) → wp_Q_isBetter_J100 Q 0) ∧
  ((¬ (t_pieces row.toNatClampNeg) ≤ count) → wp_Q_isBetter_J100 Q 1)) ∧
  ((¬ maker = (t_makers row.toNatClampNeg)) → vp_in row 33 ∧
  (((t_makers row.toNatClampNeg) ≤ maker) → wp_Q_isBetter_J83 Q 0) ∧
  ((¬ (t_makers row.toNatClampNeg) ≤ maker) → wp_Q_isBetter_J83 Q 1))) ∧
  ((¬ part = (t_parts row.toNatClampNeg)) → vp_in row 33 ∧
  (((t_parts row.toNatClampNeg) ≤ part) → wp_Q_isBetter_J55 Q 0) ∧
  ((¬ (t_parts row.toNatClampNeg) ≤ part) → wp_Q_isBetter_J55 Q 1))) ∧
  ((¬ cost = (t_costs row.toNatClampNeg)) → vp_in row 33 ∧
  (((t_costs row.toNatClampNeg) ≤ cost) → wp_Q_isBetter_J27 Q 0) ∧
  ((¬ (t_costs row.toNatClampNeg) ≤ cost) → wp_Q_isBetter_J27 Q 1))
set_option maxHeartbeats 4000000 in
set_option maxRecDepth 100000 in
theorem k_Q_isBetter (g : GX) (hg : g.1.stackTraces = false) (a_t : Nat) (row : Int32) (cost : Int64) (part : Int32) (maker : Int32) (count : Int32) (a_t_costs : Nat) (a_t_pieces : Nat) (a_t_makers : Nat) (a_t_parts : Nat) (t_rowCount : Int32) (t_costs : Nat → Int64) (t_pieces : Nat → Int32) (t_makers : Nat → Int32) (t_parts : Nat → Int32) (Q : Int32 → Prop) (hw : wp_Q_isBetter row cost part maker count t_costs t_pieces t_makers t_parts Q) : CT g y_Q_isBetter c_Q_isBetter 7 (some .boolean) ({ frames := 0, cells := 0, slots := 0, locals := 0 } : Room) [.ref a_t, .int row, .long cost, .int part, .int maker, .int count] [(a_t, .inr (1, [.ref a_t_costs, .ref a_t_pieces, .ref a_t_makers, .ref a_t_parts, .int t_rowCount])), aJ g a_t_costs 33 t_costs, aI g a_t_pieces 33 t_pieces, aI g a_t_makers 33 t_makers, aI g a_t_parts 33 t_parts] (QI g [(a_t, .inr (1, [.ref a_t_costs, .ref a_t_pieces, .ref a_t_makers, .ref a_t_parts, .int t_rowCount])), aJ g a_t_costs 33 t_costs, aI g a_t_pieces 33 t_pieces, aI g a_t_makers 33 t_makers, aI g a_t_parts 33 t_parts] (fun u : Unit => [(a_t, .inr (1, [.ref a_t_costs, .ref a_t_pieces, .ref a_t_makers, .ref a_t_parts, .int t_rowCount])), aJ g a_t_costs 33 t_costs, aI g a_t_pieces 33 t_pieces, aI g a_t_makers 33 t_makers, aI g a_t_parts 33 t_parts]) (fun r u => Q r)) := by
  refine ct_of hg (by decide) (Nat.le_of_ble_eq_true rfl) (fun sz C X hr => ?_)
  unfold wp_Q_isBetter at hw
  show ST g C [(a_t, .inr (1, [.ref a_t_costs, .ref a_t_pieces, .ref a_t_makers, .ref a_t_parts, .int t_rowCount])), aJ g a_t_costs 33 t_costs, aI g a_t_pieces 33 t_pieces, aI g a_t_makers 33 t_makers, aI g a_t_parts 33 t_parts] [(0, .ref a_t), (1, .int row), (2, .long cost), (4, .int part), (5, .int maker), (6, .int count)] [] 0 0 0
  refine st_lload_n X 2 d_Q_isBetter_0 rfl rfl ?_
  refine st_aload_n X 0 d_Q_isBetter_1 rfl rfl ?_
  refine st_get X (ci := 1) in_Q 0 0 wf_Q_9 rfl rfl (by decide) rfl d_Q_isBetter_2 ?_
  refine st_iload_n X 1 d_Q_isBetter_5 rfl rfl ?_
  obtain ⟨hb1, hw⟩ := hw
  refine st_lald X 1 rfl hb1 d_Q_isBetter_6 ?_
  refine st_lcmp_eq X 28 d_Q_isBetter_7 d_Q_isBetter_8 (by decide) (fun hc => ?_) (fun hc => ?_)
  · replace hw := hw.1 hc
    refine st_iload X 3 d_Q_isBetter_28 rfl ?_
    refine st_aload_n X 0 d_Q_isBetter_30 rfl rfl ?_
    refine st_get X (ci := 1) in_Q 0 3 wf_Q_22 rfl rfl (by decide) rfl d_Q_isBetter_31 ?_
    refine st_iload_n X 1 d_Q_isBetter_34 rfl rfl ?_
    obtain ⟨hb2, hw⟩ := hw
    refine st_iald X 4 rfl hb2 d_Q_isBetter_35 ?_
    refine st_icmp_eq X 56 d_Q_isBetter_36 (by decide) (fun hc => ?_) (fun hc => ?_)
    · replace hw := hw.1 hc
      refine st_iload X 4 d_Q_isBetter_56 rfl ?_
      refine st_aload_n X 0 d_Q_isBetter_58 rfl rfl ?_
      refine st_get X (ci := 1) in_Q 0 2 wf_Q_19 rfl rfl (by decide) rfl d_Q_isBetter_59 ?_
      refine st_iload_n X 1 d_Q_isBetter_62 rfl rfl ?_
      obtain ⟨hb3, hw⟩ := hw
      refine st_iald X 3 rfl hb3 d_Q_isBetter_63 ?_
      refine st_icmp_eq X 84 d_Q_isBetter_64 (by decide) (fun hc => ?_) (fun hc => ?_)
      · replace hw := hw.1 hc
        refine st_iload X 5 d_Q_isBetter_84 rfl ?_
        refine st_aload_n X 0 d_Q_isBetter_86 rfl rfl ?_
        refine st_get X (ci := 1) in_Q 0 1 wf_Q_15 rfl rfl (by decide) rfl d_Q_isBetter_87 ?_
        refine st_iload_n X 1 d_Q_isBetter_90 rfl rfl ?_
        obtain ⟨hb4, hw⟩ := hw
        refine st_iald X 2 rfl hb4 d_Q_isBetter_91 ?_
        have J100 : ∀ (v1 : Int32), wp_Q_isBetter_J100 Q v1 → ST g C [(a_t, .inr (1, [.ref a_t_costs, .ref a_t_pieces, .ref a_t_makers, .ref a_t_parts, .int t_rowCount])), aJ g a_t_costs 33 t_costs, aI g a_t_pieces 33 t_pieces, aI g a_t_makers 33 t_makers, aI g a_t_parts 33 t_parts] [(0, .ref a_t), (1, .int row), (2, .long cost), (4, .int part), (5, .int maker), (6, .int count)] [.int v1] 100 0 0 := by
          intro v1 hw
          unfold wp_Q_isBetter_J100 at hw
          obtain ⟨hz, hw⟩ := hw
          exact st_zret X hr () hw hz rfl (by decide) (by decide) d_Q_isBetter_100
        refine st_icmp_ge X 99 d_Q_isBetter_92 (by decide) (fun hc => ?_) (fun hc => ?_)
        · replace hw := hw.1 hc
          refine st_iconst X (v := 0) d_Q_isBetter_99 (by decide) ?_
          refine st_lv [0, 1, 2, 3, 4, 5] rfl ?_
          exact J100 0 hw
        · replace hw := hw.2 hc
          refine st_iconst X (v := 1) d_Q_isBetter_95 (by decide) ?_
          refine st_goto X 100 d_Q_isBetter_96 (by decide) ?_
          refine st_lv [0, 1, 2, 3, 4, 5] rfl ?_
          exact J100 1 hw
      · replace hw := hw.2 hc
        refine st_iload X 4 d_Q_isBetter_67 rfl ?_
        refine st_aload_n X 0 d_Q_isBetter_69 rfl rfl ?_
        refine st_get X (ci := 1) in_Q 0 2 wf_Q_19 rfl rfl (by decide) rfl d_Q_isBetter_70 ?_
        refine st_iload_n X 1 d_Q_isBetter_73 rfl rfl ?_
        obtain ⟨hb5, hw⟩ := hw
        refine st_iald X 3 rfl hb5 d_Q_isBetter_74 ?_
        have J83 : ∀ (v2 : Int32), wp_Q_isBetter_J83 Q v2 → ST g C [(a_t, .inr (1, [.ref a_t_costs, .ref a_t_pieces, .ref a_t_makers, .ref a_t_parts, .int t_rowCount])), aJ g a_t_costs 33 t_costs, aI g a_t_pieces 33 t_pieces, aI g a_t_makers 33 t_makers, aI g a_t_parts 33 t_parts] [(0, .ref a_t), (1, .int row), (2, .long cost), (4, .int part), (5, .int maker), (6, .int count)] [.int v2] 83 0 0 := by
          intro v2 hw
          unfold wp_Q_isBetter_J83 at hw
          obtain ⟨hz, hw⟩ := hw
          exact st_zret X hr () hw hz rfl (by decide) (by decide) d_Q_isBetter_83
        refine st_icmp_ge X 82 d_Q_isBetter_75 (by decide) (fun hc => ?_) (fun hc => ?_)
        · replace hw := hw.1 hc
          refine st_iconst X (v := 0) d_Q_isBetter_82 (by decide) ?_
          refine st_lv [0, 1, 2, 3, 4, 5] rfl ?_
          exact J83 0 hw
        · replace hw := hw.2 hc
          refine st_iconst X (v := 1) d_Q_isBetter_78 (by decide) ?_
          refine st_goto X 83 d_Q_isBetter_79 (by decide) ?_
          refine st_lv [0, 1, 2, 3, 4, 5] rfl ?_
          exact J83 1 hw
    · replace hw := hw.2 hc
      refine st_iload X 3 d_Q_isBetter_39 rfl ?_
      refine st_aload_n X 0 d_Q_isBetter_41 rfl rfl ?_
      refine st_get X (ci := 1) in_Q 0 3 wf_Q_22 rfl rfl (by decide) rfl d_Q_isBetter_42 ?_
      refine st_iload_n X 1 d_Q_isBetter_45 rfl rfl ?_
      obtain ⟨hb6, hw⟩ := hw
      refine st_iald X 4 rfl hb6 d_Q_isBetter_46 ?_
      have J55 : ∀ (v3 : Int32), wp_Q_isBetter_J55 Q v3 → ST g C [(a_t, .inr (1, [.ref a_t_costs, .ref a_t_pieces, .ref a_t_makers, .ref a_t_parts, .int t_rowCount])), aJ g a_t_costs 33 t_costs, aI g a_t_pieces 33 t_pieces, aI g a_t_makers 33 t_makers, aI g a_t_parts 33 t_parts] [(0, .ref a_t), (1, .int row), (2, .long cost), (4, .int part), (5, .int maker), (6, .int count)] [.int v3] 55 0 0 := by
        intro v3 hw
        unfold wp_Q_isBetter_J55 at hw
        obtain ⟨hz, hw⟩ := hw
        exact st_zret X hr () hw hz rfl (by decide) (by decide) d_Q_isBetter_55
      refine st_icmp_ge X 54 d_Q_isBetter_47 (by decide) (fun hc => ?_) (fun hc => ?_)
      · replace hw := hw.1 hc
        refine st_iconst X (v := 0) d_Q_isBetter_54 (by decide) ?_
        refine st_lv [0, 1, 2, 3, 4, 5] rfl ?_
        exact J55 0 hw
      · replace hw := hw.2 hc
        refine st_iconst X (v := 1) d_Q_isBetter_50 (by decide) ?_
        refine st_goto X 55 d_Q_isBetter_51 (by decide) ?_
        refine st_lv [0, 1, 2, 3, 4, 5] rfl ?_
        exact J55 1 hw
  · replace hw := hw.2 hc
    refine st_lload_n X 2 d_Q_isBetter_11 rfl rfl ?_
    refine st_aload_n X 0 d_Q_isBetter_12 rfl rfl ?_
    refine st_get X (ci := 1) in_Q 0 0 wf_Q_9 rfl rfl (by decide) rfl d_Q_isBetter_13 ?_
    refine st_iload_n X 1 d_Q_isBetter_16 rfl rfl ?_
    obtain ⟨hb7, hw⟩ := hw
    refine st_lald X 1 rfl hb7 d_Q_isBetter_17 ?_
    have J27 : ∀ (v4 : Int32), wp_Q_isBetter_J27 Q v4 → ST g C [(a_t, .inr (1, [.ref a_t_costs, .ref a_t_pieces, .ref a_t_makers, .ref a_t_parts, .int t_rowCount])), aJ g a_t_costs 33 t_costs, aI g a_t_pieces 33 t_pieces, aI g a_t_makers 33 t_makers, aI g a_t_parts 33 t_parts] [(0, .ref a_t), (1, .int row), (2, .long cost), (4, .int part), (5, .int maker), (6, .int count)] [.int v4] 27 0 0 := by
      intro v4 hw
      unfold wp_Q_isBetter_J27 at hw
      obtain ⟨hz, hw⟩ := hw
      exact st_zret X hr () hw hz rfl (by decide) (by decide) d_Q_isBetter_27
    refine st_lcmp_ge X 26 d_Q_isBetter_18 d_Q_isBetter_19 (by decide) (fun hc => ?_) (fun hc => ?_)
    · replace hw := hw.1 hc
      refine st_iconst X (v := 0) d_Q_isBetter_26 (by decide) ?_
      refine st_lv [0, 1, 2, 3, 4, 5] rfl ?_
      exact J27 0 hw
    · replace hw := hw.2 hc
      refine st_iconst X (v := 1) d_Q_isBetter_22 (by decide) ?_
      refine st_goto X 27 d_Q_isBetter_23 (by decide) ?_
      refine st_lv [0, 1, 2, 3, 4, 5] rfl ?_
      exact J27 1 hw

theorem h9_Q_consider : y_Q_consider.cls ≠ "java/lang/invoke/MethodHandle" ∧ y_Q_consider.cls ≠ "java/lang/invoke/VarHandle" ∧ (parseMethodDescriptor y_Q_consider.desc).map (fun d => d.parameters.length) = some 5 := by decide +kernel
def wp_Q_consider_J24 (row : Int32) (cost : Int64) (part : Int32) (maker : Int32) (count : Int32) (t_costs : Nat → Int64) (t_pieces : Nat → Int32) (t_makers : Nat → Int32) (t_parts : Nat → Int32) (Q : (Nat → Int64) → (Nat → Int32) → (Nat → Int32) → (Nat → Int32) → Prop) : Prop :=
  vp_in row 33 ∧
  ∀ f2 : Nat → Int64, f2 = vp_updL t_costs row.toNatClampNeg cost →
  vp_in row 33 ∧
  ∀ f3 : Nat → Int32, f3 = upd t_pieces row.toNatClampNeg count →
  vp_in row 33 ∧
  ∀ f4 : Nat → Int32, f4 = upd t_makers row.toNatClampNeg maker →
  vp_in row 33 ∧
  ∀ f5 : Nat → Int32, f5 = upd t_parts row.toNatClampNeg part →
  Q f2 f3 f4 f5
def wp_Q_consider (row : Int32) (cost : Int64) (part : Int32) (maker : Int32) (count : Int32) (t_costs : Nat → Int64) (t_pieces : Nat → Int32) (t_makers : Nat → Int32) (t_parts : Nat → Int32) (Q : (Nat → Int64) → (Nat → Int32) → (Nat → Int32) → (Nat → Int32) → Prop) : Prop :=
  wp_Q_isBought row t_makers (fun r1 =>
  ((r1 = 0) → wp_Q_consider_J24 row cost part maker count t_costs t_pieces t_makers t_parts Q) ∧
  ((¬ r1 = 0) → wp_Q_isBetter row cost part maker count t_costs t_pieces t_makers t_parts (fun r6 =>
  ((¬ r6 = 0) → wp_Q_consider_J24 row cost part maker count t_costs t_pieces t_makers t_parts Q) ∧
  ((r6 = 0) → Q t_costs t_pieces t_makers t_parts))))
set_option maxHeartbeats 4000000 in
set_option maxRecDepth 100000 in
theorem k_Q_consider (g : GX) (hg : g.1.stackTraces = false) (a_t : Nat) (row : Int32) (cost : Int64) (part : Int32) (maker : Int32) (count : Int32) (a_t_costs : Nat) (a_t_pieces : Nat) (a_t_makers : Nat) (a_t_parts : Nat) (t_rowCount : Int32) (t_costs : Nat → Int64) (t_pieces : Nat → Int32) (t_makers : Nat → Int32) (t_parts : Nat → Int32) (Q : (Nat → Int64) → (Nat → Int32) → (Nat → Int32) → (Nat → Int32) → Prop) (hw : wp_Q_consider row cost part maker count t_costs t_pieces t_makers t_parts Q) : CT g y_Q_consider c_Q_consider 7 none ({ frames := 1, cells := 0, slots := 0, locals := 26 } : Room) [.ref a_t, .int row, .long cost, .int part, .int maker, .int count] [(a_t, .inr (1, [.ref a_t_costs, .ref a_t_pieces, .ref a_t_makers, .ref a_t_parts, .int t_rowCount])), aJ g a_t_costs 33 t_costs, aI g a_t_pieces 33 t_pieces, aI g a_t_makers 33 t_makers, aI g a_t_parts 33 t_parts] (QV g [(a_t, .inr (1, [.ref a_t_costs, .ref a_t_pieces, .ref a_t_makers, .ref a_t_parts, .int t_rowCount])), aJ g a_t_costs 33 t_costs, aI g a_t_pieces 33 t_pieces, aI g a_t_makers 33 t_makers, aI g a_t_parts 33 t_parts] (fun u : (Nat → Int64) × (Nat → Int32) × (Nat → Int32) × (Nat → Int32) => [(a_t, .inr (1, [.ref a_t_costs, .ref a_t_pieces, .ref a_t_makers, .ref a_t_parts, .int t_rowCount])), aJ g a_t_costs 33 u.1, aI g a_t_pieces 33 u.2.1, aI g a_t_makers 33 u.2.2.1, aI g a_t_parts 33 u.2.2.2]) (fun u => Q u.1 u.2.1 u.2.2.1 u.2.2.2)) := by
  refine ct_of hg (by decide) (Nat.le_of_ble_eq_true rfl) (fun sz C X hr => ?_)
  unfold wp_Q_consider at hw
  show ST g C [(a_t, .inr (1, [.ref a_t_costs, .ref a_t_pieces, .ref a_t_makers, .ref a_t_parts, .int t_rowCount])), aJ g a_t_costs 33 t_costs, aI g a_t_pieces 33 t_pieces, aI g a_t_makers 33 t_makers, aI g a_t_parts 33 t_parts] [(0, .ref a_t), (1, .int row), (2, .long cost), (4, .int part), (5, .int maker), (6, .int count)] [] 0 0 0
  refine st_aload_n X 0 d_Q_consider_0 rfl rfl ?_
  refine st_iload_n X 1 d_Q_consider_1 rfl rfl ?_
  have hR := rn_V (pc := 2) (k := 0) (n := 0) (As := [.int row]) (rest := []) X (k_Q_isBought g hg a_t row a_t_costs a_t_pieces a_t_makers a_t_parts t_rowCount t_makers _ hw) (q0 := 0) rfl rfl wm_Q_33 wi_Q_isBought wl_Q_isBought wz_Q wc_Q_isBought h9_Q_isBought ⟨by decide, by decide⟩ (Nat.le_of_ble_eq_true rfl) ⟨by decide, by decide⟩ d_Q_consider_2
  refine st_calli X hR [0, 3] [1, 2, 4] (wr := [aJ g a_t_costs 33 t_costs, aI g a_t_pieces 33 t_pieces, aI g a_t_parts 33 t_parts]) rfl rfl (by decide) (by decide) (by decide) (fun r1 u9 hw => ?_)
  try dsimp only at hw
  refine st_widen (k2 := 0) (n2 := 0) (by decide) (by decide) ?_
  refine st_perm (ws2 := [(a_t, .inr (1, [.ref a_t_costs, .ref a_t_pieces, .ref a_t_makers, .ref a_t_parts, .int t_rowCount])), aJ g a_t_costs 33 t_costs, aI g a_t_pieces 33 t_pieces, aI g a_t_makers 33 t_makers, aI g a_t_parts 33 t_parts]) [3, 0, 1, 4, 2] rfl (by decide) ?_
  show ST g C [(a_t, .inr (1, [.ref a_t_costs, .ref a_t_pieces, .ref a_t_makers, .ref a_t_parts, .int t_rowCount])), aJ g a_t_costs 33 t_costs, aI g a_t_pieces 33 t_pieces, aI g a_t_makers 33 t_makers, aI g a_t_parts 33 t_parts] [(0, .ref a_t), (1, .int row), (2, .long cost), (4, .int part), (5, .int maker), (6, .int count)] [.int r1] 5 0 0
  have J24 : wp_Q_consider_J24 row cost part maker count t_costs t_pieces t_makers t_parts Q → ST g C [(a_t, .inr (1, [.ref a_t_costs, .ref a_t_pieces, .ref a_t_makers, .ref a_t_parts, .int t_rowCount])), aJ g a_t_costs 33 t_costs, aI g a_t_pieces 33 t_pieces, aI g a_t_makers 33 t_makers, aI g a_t_parts 33 t_parts] [(0, .ref a_t), (1, .int row), (2, .long cost), (4, .int part), (5, .int maker), (6, .int count)] [] 24 0 0 := by
    intro hw
    unfold wp_Q_consider_J24 at hw
    refine st_aload_n X 0 d_Q_consider_24 rfl rfl ?_
    refine st_get X (ci := 1) in_Q 0 0 wf_Q_9 rfl rfl (by decide) rfl d_Q_consider_25 ?_
    refine st_iload_n X 1 d_Q_consider_28 rfl rfl ?_
    refine st_lload_n X 2 d_Q_consider_29 rfl rfl ?_
    obtain ⟨hb1, hw⟩ := hw
    obtain ⟨f2, hf2⟩ : ∃ z : Nat → Int64, z = vp_updL t_costs row.toNatClampNeg cost := ⟨_, rfl⟩
    replace hw := hw f2 hf2
    refine st_last X (ws2 := [(a_t, .inr (1, [.ref a_t_costs, .ref a_t_pieces, .ref a_t_makers, .ref a_t_parts, .int t_rowCount])), aJ g a_t_costs 33 f2, aI g a_t_pieces 33 t_pieces, aI g a_t_makers 33 t_makers, aI g a_t_parts 33 t_parts]) 1 rfl hb1 (by rw [hf2]; rfl) d_Q_consider_30 ?_
    refine st_aload_n X 0 d_Q_consider_31 rfl rfl ?_
    refine st_get X (ci := 1) in_Q 0 1 wf_Q_15 rfl rfl (by decide) rfl d_Q_consider_32 ?_
    refine st_iload_n X 1 d_Q_consider_35 rfl rfl ?_
    refine st_iload X 5 d_Q_consider_36 rfl ?_
    obtain ⟨hb2, hw⟩ := hw
    obtain ⟨f3, hf3⟩ : ∃ z : Nat → Int32, z = upd t_pieces row.toNatClampNeg count := ⟨_, rfl⟩
    replace hw := hw f3 hf3
    refine st_iast X (ws2 := [(a_t, .inr (1, [.ref a_t_costs, .ref a_t_pieces, .ref a_t_makers, .ref a_t_parts, .int t_rowCount])), aJ g a_t_costs 33 f2, aI g a_t_pieces 33 f3, aI g a_t_makers 33 t_makers, aI g a_t_parts 33 t_parts]) 2 rfl hb2 (by rw [hf3]; rfl) d_Q_consider_38 ?_
    refine st_aload_n X 0 d_Q_consider_39 rfl rfl ?_
    refine st_get X (ci := 1) in_Q 0 2 wf_Q_19 rfl rfl (by decide) rfl d_Q_consider_40 ?_
    refine st_iload_n X 1 d_Q_consider_43 rfl rfl ?_
    refine st_iload X 4 d_Q_consider_44 rfl ?_
    obtain ⟨hb3, hw⟩ := hw
    obtain ⟨f4, hf4⟩ : ∃ z : Nat → Int32, z = upd t_makers row.toNatClampNeg maker := ⟨_, rfl⟩
    replace hw := hw f4 hf4
    refine st_iast X (ws2 := [(a_t, .inr (1, [.ref a_t_costs, .ref a_t_pieces, .ref a_t_makers, .ref a_t_parts, .int t_rowCount])), aJ g a_t_costs 33 f2, aI g a_t_pieces 33 f3, aI g a_t_makers 33 f4, aI g a_t_parts 33 t_parts]) 3 rfl hb3 (by rw [hf4]; rfl) d_Q_consider_46 ?_
    refine st_aload_n X 0 d_Q_consider_47 rfl rfl ?_
    refine st_get X (ci := 1) in_Q 0 3 wf_Q_22 rfl rfl (by decide) rfl d_Q_consider_48 ?_
    refine st_iload_n X 1 d_Q_consider_51 rfl rfl ?_
    refine st_iload X 3 d_Q_consider_52 rfl ?_
    obtain ⟨hb4, hw⟩ := hw
    obtain ⟨f5, hf5⟩ : ∃ z : Nat → Int32, z = upd t_parts row.toNatClampNeg part := ⟨_, rfl⟩
    replace hw := hw f5 hf5
    refine st_iast X (ws2 := [(a_t, .inr (1, [.ref a_t_costs, .ref a_t_pieces, .ref a_t_makers, .ref a_t_parts, .int t_rowCount])), aJ g a_t_costs 33 f2, aI g a_t_pieces 33 f3, aI g a_t_makers 33 f4, aI g a_t_parts 33 f5]) 4 rfl hb4 (by rw [hf5]; rfl) d_Q_consider_54 ?_
    exact st_vret X hr (f2, f3, f4, f5) hw rfl (by decide) (by decide) d_Q_consider_55
  refine st_if_eq X 24 d_Q_consider_5 (by decide) (fun hc => ?_) (fun hc => ?_)
  · replace hw := hw.1 hc
    refine st_lv [0, 1, 2, 3, 4, 5] rfl ?_
    exact J24 hw
  · replace hw := hw.2 hc
    refine st_aload_n X 0 d_Q_consider_8 rfl rfl ?_
    refine st_iload_n X 1 d_Q_consider_9 rfl rfl ?_
    refine st_lload_n X 2 d_Q_consider_10 rfl rfl ?_
    refine st_iload X 3 d_Q_consider_11 rfl ?_
    refine st_iload X 4 d_Q_consider_13 rfl ?_
    refine st_iload X 5 d_Q_consider_15 rfl ?_
    have hR := rn_V (pc := 17) (k := 0) (n := 0) (As := [.int row, .long cost, .int part, .int maker, .int count]) (rest := []) X (k_Q_isBetter g hg a_t row cost part maker count a_t_costs a_t_pieces a_t_makers a_t_parts t_rowCount t_costs t_pieces t_makers t_parts _ hw) (q0 := 0) rfl rfl wm_Q_37 wi_Q_isBetter wl_Q_isBetter wz_Q wc_Q_isBetter h9_Q_isBetter ⟨by decide, by decide⟩ (Nat.le_of_ble_eq_true rfl) ⟨by decide, by decide⟩ d_Q_consider_17
    refine st_calli X hR [0, 1, 2, 3, 4] [] (wr := []) rfl rfl (by decide) (by decide) (by decide) (fun r6 u9 hw => ?_)
    try dsimp only at hw
    refine st_widen (k2 := 0) (n2 := 0) (by decide) (by decide) ?_
    refine st_perm (ws2 := [(a_t, .inr (1, [.ref a_t_costs, .ref a_t_pieces, .ref a_t_makers, .ref a_t_parts, .int t_rowCount])), aJ g a_t_costs 33 t_costs, aI g a_t_pieces 33 t_pieces, aI g a_t_makers 33 t_makers, aI g a_t_parts 33 t_parts]) [0, 1, 2, 3, 4] rfl (by decide) ?_
    show ST g C [(a_t, .inr (1, [.ref a_t_costs, .ref a_t_pieces, .ref a_t_makers, .ref a_t_parts, .int t_rowCount])), aJ g a_t_costs 33 t_costs, aI g a_t_pieces 33 t_pieces, aI g a_t_makers 33 t_makers, aI g a_t_parts 33 t_parts] [(0, .ref a_t), (1, .int row), (2, .long cost), (4, .int part), (5, .int maker), (6, .int count)] [.int r6] 20 0 0
    refine st_if_ne X 24 d_Q_consider_20 (by decide) (fun hc => ?_) (fun hc => ?_)
    · replace hw := hw.1 hc
      refine st_lv [0, 1, 2, 3, 4, 5] rfl ?_
      exact J24 hw
    · replace hw := hw.2 hc
      exact st_vret X hr (t_costs, t_pieces, t_makers, t_parts) hw rfl (by decide) (by decide) d_Q_consider_23

theorem h9_Q_sum : y_Q_sum.cls ≠ "java/lang/invoke/MethodHandle" ∧ y_Q_sum.cls ≠ "java/lang/invoke/VarHandle" ∧ (parseMethodDescriptor y_Q_sum.desc).map (fun d => d.parameters.length) = some 0 := by decide +kernel
def wp_Q_sum_L4 (t_rowCount : Int32) (t_costs : Nat → Int64) (Q : Int64 → Prop) : Nat → Int64 → Int32 → Prop
  | 0, _, _ => False
  | n4 + 1, v1, v2 =>
  ((t_rowCount ≤ v2) → Q v1) ∧
  ((¬ t_rowCount ≤ v2) → vp_in v2 33 ∧
  ∀ x3 : Int64, x3 = v1 + (t_costs v2.toNatClampNeg) →
  ∀ x4 : Int32, x4 = v2 + 1 →
  (wp_Q_sum_L4 t_rowCount t_costs Q n4) x3 x4)
def wp_Q_sum (t_rowCount : Int32) (t_costs : Nat → Int64) (Q : Int64 → Prop) : Prop :=
  ∃ n4 : Nat, wp_Q_sum_L4 t_rowCount t_costs Q n4 0 0
set_option maxHeartbeats 4000000 in
set_option maxRecDepth 100000 in
theorem k_Q_sum (g : GX) (hg : g.1.stackTraces = false) (a_t : Nat) (a_t_costs : Nat) (a_t_pieces : Nat) (a_t_makers : Nat) (a_t_parts : Nat) (t_rowCount : Int32) (t_costs : Nat → Int64) (Q : Int64 → Prop) (hw : wp_Q_sum t_rowCount t_costs Q) : CT g y_Q_sum c_Q_sum 4 (some .long) ({ frames := 0, cells := 0, slots := 0, locals := 0 } : Room) [.ref a_t] [(a_t, .inr (1, [.ref a_t_costs, .ref a_t_pieces, .ref a_t_makers, .ref a_t_parts, .int t_rowCount])), aJ g a_t_costs 33 t_costs] (QL g [(a_t, .inr (1, [.ref a_t_costs, .ref a_t_pieces, .ref a_t_makers, .ref a_t_parts, .int t_rowCount])), aJ g a_t_costs 33 t_costs] (fun u : Unit => [(a_t, .inr (1, [.ref a_t_costs, .ref a_t_pieces, .ref a_t_makers, .ref a_t_parts, .int t_rowCount])), aJ g a_t_costs 33 t_costs]) (fun r u => Q r)) := by
  refine ct_of hg (by decide) (Nat.le_of_ble_eq_true rfl) (fun sz C X hr => ?_)
  unfold wp_Q_sum at hw
  show ST g C [(a_t, .inr (1, [.ref a_t_costs, .ref a_t_pieces, .ref a_t_makers, .ref a_t_parts, .int t_rowCount])), aJ g a_t_costs 33 t_costs] [(0, .ref a_t)] [] 0 0 0
  refine st_lconst X (v := 0) d_Q_sum_0 (by decide) ?_
  refine st_lstore_n X (lv2 := [(1, .long 0), (0, .ref a_t)]) d_Q_sum_1 rfl (by decide) rfl ?_
  refine st_iconst X (v := 0) d_Q_sum_2 (by decide) ?_
  refine st_istore_n X (lv2 := [(3, .int 0), (1, .long 0), (0, .ref a_t)]) d_Q_sum_3 rfl (by decide) rfl ?_
  have L4 : ∀ (n4 : Nat) (v1 : Int64) (v2 : Int32), wp_Q_sum_L4 t_rowCount t_costs Q n4 v1 v2 → ST g C [(a_t, .inr (1, [.ref a_t_costs, .ref a_t_pieces, .ref a_t_makers, .ref a_t_parts, .int t_rowCount])), aJ g a_t_costs 33 t_costs] [(0, .ref a_t), (1, .long v1), (3, .int v2)] [] 4 0 0 := by
    intro n4
    induction n4 with
    | zero => intro v1 v2 hw; exact hw.elim
    | succ n4 ih4 =>
      intro v1 v2 hw
      rw [wp_Q_sum_L4] at hw
      refine st_iload_n X 2 d_Q_sum_4 rfl rfl ?_
      refine st_aload_n X 0 d_Q_sum_5 rfl rfl ?_
      refine st_get X (ci := 1) in_Q 0 4 wf_Q_25 rfl rfl (by decide) rfl d_Q_sum_6 ?_
      refine st_icmp_ge X 27 d_Q_sum_9 (by decide) (fun hc => ?_) (fun hc => ?_)
      · replace hw := hw.1 hc
        refine st_lload_n X 1 d_Q_sum_27 rfl rfl ?_
        exact st_lret X hr () hw rfl (by decide) (by decide) d_Q_sum_28
      · replace hw := hw.2 hc
        refine st_lload_n X 1 d_Q_sum_12 rfl rfl ?_
        refine st_aload_n X 0 d_Q_sum_13 rfl rfl ?_
        refine st_get X (ci := 1) in_Q 0 0 wf_Q_9 rfl rfl (by decide) rfl d_Q_sum_14 ?_
        refine st_iload_n X 2 d_Q_sum_17 rfl rfl ?_
        obtain ⟨hb1, hw⟩ := hw
        refine st_lald X 1 rfl hb1 d_Q_sum_18 ?_
        refine st_ladd X d_Q_sum_19 ?_
        refine st_topl (fun x3 hx3 => ?_)
        replace hw := hw x3 hx3
        refine st_lstore_n X (lv2 := [(1, .long x3), (0, .ref a_t), (3, .int v2)]) d_Q_sum_20 rfl (by decide) rfl ?_
        obtain ⟨x4, hx4⟩ : ∃ z : Int32, z = v2 + 1 := ⟨_, rfl⟩
        replace hw := hw x4 hx4
        refine st_iinc X (v := x4) (lv2 := [(3, .int x4), (1, .long x3), (0, .ref a_t)]) 2 d_Q_sum_21 rfl (by rw [hx4]; rfl) (by decide) rfl ?_
        refine st_goto X 4 d_Q_sum_24 (by decide) ?_
        refine st_lv [2, 1, 0] rfl ?_
        exact ih4 x3 x4 hw
  obtain ⟨n4, hw⟩ := hw
  refine st_lv [2, 1, 0] rfl ?_
  exact L4 n4 0 0 hw

theorem h9_JI_bitCount : y_JI_bitCount.cls ≠ "java/lang/invoke/MethodHandle" ∧ y_JI_bitCount.cls ≠ "java/lang/invoke/VarHandle" ∧ (parseMethodDescriptor y_JI_bitCount.desc).map (fun d => d.parameters.length) = some 1 := by decide +kernel
def wp_JI_bitCount (p0 : Int32) (Q : Int32 → Prop) : Prop :=
  ∀ x1 : Int32, x1 = p0 - ((((p0).toUInt32 >>> ((1 : Int32).toUInt32 &&& Int32.toUInt32 31)).toInt32) &&& 1431655765) →
  ∀ x2 : Int32, x2 = (x1 &&& 858993459) + ((((x1).toUInt32 >>> ((2 : Int32).toUInt32 &&& Int32.toUInt32 31)).toInt32) &&& 858993459) →
  ∀ x3 : Int32, x3 = (x2 + (((x2).toUInt32 >>> ((4 : Int32).toUInt32 &&& Int32.toUInt32 31)).toInt32)) &&& 252645135 →
  ∀ x4 : Int32, x4 = x3 + (((x3).toUInt32 >>> ((8 : Int32).toUInt32 &&& Int32.toUInt32 31)).toInt32) →
  ∀ x5 : Int32, x5 = x4 + (((x4).toUInt32 >>> ((16 : Int32).toUInt32 &&& Int32.toUInt32 31)).toInt32) →
  Q (x5 &&& 63)
set_option maxHeartbeats 4000000 in
set_option maxRecDepth 100000 in
theorem k_JI_bitCount (g : GX) (hg : g.1.stackTraces = false) (p0 : Int32) (Q : Int32 → Prop) (hw : wp_JI_bitCount p0 Q) : CT g y_JI_bitCount c_JI_bitCount 1 (some .int) ({ frames := 0, cells := 0, slots := 0, locals := 0 } : Room) [.int p0] [] (QI g [] (fun u : Unit => []) (fun r u => Q r)) := by
  refine ct_of hg (by decide) (Nat.le_of_ble_eq_true rfl) (fun sz C X hr => ?_)
  unfold wp_JI_bitCount at hw
  show ST g C [] [(0, .int p0)] [] 0 0 0
  refine st_iload_n X 0 d_JI_bitCount_0 rfl rfl ?_
  refine st_iload_n X 0 d_JI_bitCount_1 rfl rfl ?_
  refine st_iconst X (v := 1) d_JI_bitCount_2 (by decide) ?_
  refine st_iushr X d_JI_bitCount_3 ?_
  refine st_ldcw X wv_JI_265 d_JI_bitCount_4 ?_
  refine st_iand X d_JI_bitCount_7 ?_
  refine st_isub X d_JI_bitCount_8 ?_
  refine st_topi (fun x1 hx1 => ?_)
  replace hw := hw x1 hx1
  refine st_istore_n X (lv2 := [(0, .int x1)]) d_JI_bitCount_9 rfl (by decide) rfl ?_
  refine st_iload_n X 0 d_JI_bitCount_10 rfl rfl ?_
  refine st_ldcw X wv_JI_266 d_JI_bitCount_11 ?_
  refine st_iand X d_JI_bitCount_14 ?_
  refine st_iload_n X 0 d_JI_bitCount_15 rfl rfl ?_
  refine st_iconst X (v := 2) d_JI_bitCount_16 (by decide) ?_
  refine st_iushr X d_JI_bitCount_17 ?_
  refine st_ldcw X wv_JI_266 d_JI_bitCount_18 ?_
  refine st_iand X d_JI_bitCount_21 ?_
  refine st_iadd X d_JI_bitCount_22 ?_
  refine st_topi (fun x2 hx2 => ?_)
  replace hw := hw x2 hx2
  refine st_istore_n X (lv2 := [(0, .int x2)]) d_JI_bitCount_23 rfl (by decide) rfl ?_
  refine st_iload_n X 0 d_JI_bitCount_24 rfl rfl ?_
  refine st_iload_n X 0 d_JI_bitCount_25 rfl rfl ?_
  refine st_iconst X (v := 4) d_JI_bitCount_26 (by decide) ?_
  refine st_iushr X d_JI_bitCount_27 ?_
  refine st_iadd X d_JI_bitCount_28 ?_
  refine st_ldcw X wv_JI_267 d_JI_bitCount_29 ?_
  refine st_iand X d_JI_bitCount_32 ?_
  refine st_topi (fun x3 hx3 => ?_)
  replace hw := hw x3 hx3
  refine st_istore_n X (lv2 := [(0, .int x3)]) d_JI_bitCount_33 rfl (by decide) rfl ?_
  refine st_iload_n X 0 d_JI_bitCount_34 rfl rfl ?_
  refine st_iload_n X 0 d_JI_bitCount_35 rfl rfl ?_
  refine st_bipush X (v := 8) d_JI_bitCount_36 (by decide) ?_
  refine st_iushr X d_JI_bitCount_38 ?_
  refine st_iadd X d_JI_bitCount_39 ?_
  refine st_topi (fun x4 hx4 => ?_)
  replace hw := hw x4 hx4
  refine st_istore_n X (lv2 := [(0, .int x4)]) d_JI_bitCount_40 rfl (by decide) rfl ?_
  refine st_iload_n X 0 d_JI_bitCount_41 rfl rfl ?_
  refine st_iload_n X 0 d_JI_bitCount_42 rfl rfl ?_
  refine st_bipush X (v := 16) d_JI_bitCount_43 (by decide) ?_
  refine st_iushr X d_JI_bitCount_45 ?_
  refine st_iadd X d_JI_bitCount_46 ?_
  refine st_topi (fun x5 hx5 => ?_)
  replace hw := hw x5 hx5
  refine st_istore_n X (lv2 := [(0, .int x5)]) d_JI_bitCount_47 rfl (by decide) rfl ?_
  refine st_iload_n X 0 d_JI_bitCount_48 rfl rfl ?_
  refine st_bipush X (v := 63) d_JI_bitCount_49 (by decide) ?_
  refine st_iand X d_JI_bitCount_51 ?_
  exact st_iret X hr () hw rfl (by decide) (by decide) d_JI_bitCount_52

theorem h9_Q_makersBoughtOf : y_Q_makersBoughtOf.cls ≠ "java/lang/invoke/MethodHandle" ∧ y_Q_makersBoughtOf.cls ≠ "java/lang/invoke/VarHandle" ∧ (parseMethodDescriptor y_Q_makersBoughtOf.desc).map (fun d => d.parameters.length) = some 0 := by decide +kernel
def wp_Q_makersBoughtOf_J31 (v2 : Int32) (K4 : Int32 → Int32 → Prop) (v5 : Int32) : Prop :=
  ∀ x6 : Int32, x6 = v2 + 1 →
  K4 v5 x6
def wp_Q_makersBoughtOf_L4 (t_rowCount : Int32) (t_makers : Nat → Int32) (Q : Int32 → Prop) : Nat → Int32 → Int32 → Prop
  | 0, _, _ => False
  | n4 + 1, v1, v2 =>
  ((t_rowCount ≤ v2) → wp_JI_bitCount v1 (fun r3 =>
  Q r3)) ∧
  ((¬ t_rowCount ≤ v2) → wp_Q_isBought v2 t_makers (fun r4 =>
  ((r4 = 0) → wp_Q_makersBoughtOf_J31 v2 (wp_Q_makersBoughtOf_L4 t_rowCount t_makers Q n4) v1) ∧
  ((¬ r4 = 0) → vp_in v2 33 ∧
  ∀ x7 : Int32, x7 = v1 ||| (1 <<< ((t_makers v2.toNatClampNeg) &&& 31)) →
  wp_Q_makersBoughtOf_J31 v2 (wp_Q_makersBoughtOf_L4 t_rowCount t_makers Q n4) x7)))
def wp_Q_makersBoughtOf (t_rowCount : Int32) (t_makers : Nat → Int32) (Q : Int32 → Prop) : Prop :=
  ∃ n4 : Nat, wp_Q_makersBoughtOf_L4 t_rowCount t_makers Q n4 0 0
set_option maxHeartbeats 4000000 in
set_option maxRecDepth 100000 in
theorem k_Q_makersBoughtOf (g : GX) (hg : g.1.stackTraces = false) (a_t : Nat) (a_t_costs : Nat) (a_t_pieces : Nat) (a_t_makers : Nat) (a_t_parts : Nat) (t_rowCount : Int32) (t_makers : Nat → Int32) (Q : Int32 → Prop) (hw : wp_Q_makersBoughtOf t_rowCount t_makers Q) : CT g y_Q_makersBoughtOf c_Q_makersBoughtOf 3 (some .int) ({ frames := 1, cells := 0, slots := 0, locals := 21 } : Room) [.ref a_t] [(a_t, .inr (1, [.ref a_t_costs, .ref a_t_pieces, .ref a_t_makers, .ref a_t_parts, .int t_rowCount])), aI g a_t_makers 33 t_makers] (QI g [(a_t, .inr (1, [.ref a_t_costs, .ref a_t_pieces, .ref a_t_makers, .ref a_t_parts, .int t_rowCount])), aI g a_t_makers 33 t_makers] (fun u : Unit => [(a_t, .inr (1, [.ref a_t_costs, .ref a_t_pieces, .ref a_t_makers, .ref a_t_parts, .int t_rowCount])), aI g a_t_makers 33 t_makers]) (fun r u => Q r)) := by
  refine ct_of hg (by decide) (Nat.le_of_ble_eq_true rfl) (fun sz C X hr => ?_)
  unfold wp_Q_makersBoughtOf at hw
  show ST g C [(a_t, .inr (1, [.ref a_t_costs, .ref a_t_pieces, .ref a_t_makers, .ref a_t_parts, .int t_rowCount])), aI g a_t_makers 33 t_makers] [(0, .ref a_t)] [] 0 0 0
  refine st_iconst X (v := 0) d_Q_makersBoughtOf_0 (by decide) ?_
  refine st_istore_n X (lv2 := [(1, .int 0), (0, .ref a_t)]) d_Q_makersBoughtOf_1 rfl (by decide) rfl ?_
  refine st_iconst X (v := 0) d_Q_makersBoughtOf_2 (by decide) ?_
  refine st_istore_n X (lv2 := [(2, .int 0), (1, .int 0), (0, .ref a_t)]) d_Q_makersBoughtOf_3 rfl (by decide) rfl ?_
  have L4 : ∀ (n4 : Nat) (v1 : Int32) (v2 : Int32), wp_Q_makersBoughtOf_L4 t_rowCount t_makers Q n4 v1 v2 → ST g C [(a_t, .inr (1, [.ref a_t_costs, .ref a_t_pieces, .ref a_t_makers, .ref a_t_parts, .int t_rowCount])), aI g a_t_makers 33 t_makers] [(0, .ref a_t), (1, .int v1), (2, .int v2)] [] 4 0 0 := by
    intro n4
    induction n4 with
    | zero => intro v1 v2 hw; exact hw.elim
    | succ n4 ih4 =>
      intro v1 v2 hw
      rw [wp_Q_makersBoughtOf_L4] at hw
      refine st_iload_n X 2 d_Q_makersBoughtOf_4 rfl rfl ?_
      refine st_aload_n X 0 d_Q_makersBoughtOf_5 rfl rfl ?_
      refine st_get X (ci := 1) in_Q 0 4 wf_Q_25 rfl rfl (by decide) rfl d_Q_makersBoughtOf_6 ?_
      refine st_icmp_ge X 37 d_Q_makersBoughtOf_9 (by decide) (fun hc => ?_) (fun hc => ?_)
      · replace hw := hw.1 hc
        refine st_iload_n X 1 d_Q_makersBoughtOf_37 rfl rfl ?_
        have hR := rn_S (pc := 38) (k := 0) (n := 0) (As := [.int v1]) (rest := []) X (k_JI_bitCount g hg v1 _ hw) wm_Q_41 ws_JI_bitCount wz_JI wc_JI_bitCount h9_JI_bitCount ⟨by decide, by decide⟩ (Nat.le_of_ble_eq_true rfl) ⟨by decide, by decide⟩ d_Q_makersBoughtOf_38
        refine st_calli X hR [] [0, 1] (wr := [(a_t, .inr (1, [.ref a_t_costs, .ref a_t_pieces, .ref a_t_makers, .ref a_t_parts, .int t_rowCount])), aI g a_t_makers 33 t_makers]) rfl rfl (by decide) (by decide) (by decide) (fun r3 u9 hw => ?_)
        try dsimp only at hw
        refine st_widen (k2 := 0) (n2 := 0) (by decide) (by decide) ?_
        refine st_perm (ws2 := [(a_t, .inr (1, [.ref a_t_costs, .ref a_t_pieces, .ref a_t_makers, .ref a_t_parts, .int t_rowCount])), aI g a_t_makers 33 t_makers]) [0, 1] rfl (by decide) ?_
        show ST g C [(a_t, .inr (1, [.ref a_t_costs, .ref a_t_pieces, .ref a_t_makers, .ref a_t_parts, .int t_rowCount])), aI g a_t_makers 33 t_makers] [(0, .ref a_t), (1, .int v1), (2, .int v2)] [.int r3] 41 0 0
        exact st_iret X hr () hw rfl (by decide) (by decide) d_Q_makersBoughtOf_41
      · replace hw := hw.2 hc
        refine st_aload_n X 0 d_Q_makersBoughtOf_12 rfl rfl ?_
        refine st_iload_n X 2 d_Q_makersBoughtOf_13 rfl rfl ?_
        have hR := rn_V (pc := 14) (k := 0) (n := 0) (As := [.int v2]) (rest := []) X (k_Q_isBought g hg a_t v2 a_t_costs a_t_pieces a_t_makers a_t_parts t_rowCount t_makers _ hw) (q0 := 0) rfl rfl wm_Q_33 wi_Q_isBought wl_Q_isBought wz_Q wc_Q_isBought h9_Q_isBought ⟨by decide, by decide⟩ (Nat.le_of_ble_eq_true rfl) ⟨by decide, by decide⟩ d_Q_makersBoughtOf_14
        refine st_calli X hR [0, 1] [] (wr := []) rfl rfl (by decide) (by decide) (by decide) (fun r4 u9 hw => ?_)
        try dsimp only at hw
        refine st_widen (k2 := 0) (n2 := 0) (by decide) (by decide) ?_
        refine st_perm (ws2 := [(a_t, .inr (1, [.ref a_t_costs, .ref a_t_pieces, .ref a_t_makers, .ref a_t_parts, .int t_rowCount])), aI g a_t_makers 33 t_makers]) [0, 1] rfl (by decide) ?_
        show ST g C [(a_t, .inr (1, [.ref a_t_costs, .ref a_t_pieces, .ref a_t_makers, .ref a_t_parts, .int t_rowCount])), aI g a_t_makers 33 t_makers] [(0, .ref a_t), (1, .int v1), (2, .int v2)] [.int r4] 17 0 0
        have J31 : ∀ (v5 : Int32), wp_Q_makersBoughtOf_J31 v2 (fun z0 z1 => wp_Q_makersBoughtOf_L4 t_rowCount t_makers Q n4 z0 z1) v5 → ST g C [(a_t, .inr (1, [.ref a_t_costs, .ref a_t_pieces, .ref a_t_makers, .ref a_t_parts, .int t_rowCount])), aI g a_t_makers 33 t_makers] [(0, .ref a_t), (1, .int v5), (2, .int v2)] [] 31 0 0 := by
          intro v5 hw
          unfold wp_Q_makersBoughtOf_J31 at hw
          obtain ⟨x6, hx6⟩ : ∃ z : Int32, z = v2 + 1 := ⟨_, rfl⟩
          replace hw := hw x6 hx6
          refine st_iinc X (v := x6) (lv2 := [(2, .int x6), (0, .ref a_t), (1, .int v5)]) 2 d_Q_makersBoughtOf_31 rfl (by rw [hx6]; rfl) (by decide) rfl ?_
          refine st_goto X 4 d_Q_makersBoughtOf_34 (by decide) ?_
          refine st_lv [1, 2, 0] rfl ?_
          exact ih4 v5 x6 hw
        refine st_if_eq X 31 d_Q_makersBoughtOf_17 (by decide) (fun hc => ?_) (fun hc => ?_)
        · replace hw := hw.1 hc
          refine st_lv [0, 1, 2] rfl ?_
          exact J31 v1 hw
        · replace hw := hw.2 hc
          refine st_iload_n X 1 d_Q_makersBoughtOf_20 rfl rfl ?_
          refine st_iconst X (v := 1) d_Q_makersBoughtOf_21 (by decide) ?_
          refine st_aload_n X 0 d_Q_makersBoughtOf_22 rfl rfl ?_
          refine st_get X (ci := 1) in_Q 0 2 wf_Q_19 rfl rfl (by decide) rfl d_Q_makersBoughtOf_23 ?_
          refine st_iload_n X 2 d_Q_makersBoughtOf_26 rfl rfl ?_
          obtain ⟨hb1, hw⟩ := hw
          refine st_iald X 1 rfl hb1 d_Q_makersBoughtOf_27 ?_
          refine st_ishl X d_Q_makersBoughtOf_28 ?_
          refine st_ior X d_Q_makersBoughtOf_29 ?_
          refine st_topi (fun x7 hx7 => ?_)
          replace hw := hw x7 hx7
          refine st_istore_n X (lv2 := [(1, .int x7), (0, .ref a_t), (2, .int v2)]) d_Q_makersBoughtOf_30 rfl (by decide) rfl ?_
          refine st_lv [1, 0, 2] rfl ?_
          exact J31 x7 hw
  obtain ⟨n4, hw⟩ := hw
  refine st_lv [2, 1, 0] rfl ?_
  exact L4 n4 0 0 hw
