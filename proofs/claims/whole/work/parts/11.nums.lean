theorem h9_C_needIndex : y_C_needIndex.cls ≠ "java/lang/invoke/MethodHandle" ∧ y_C_needIndex.cls ≠ "java/lang/invoke/VarHandle" ∧ (parseMethodDescriptor y_C_needIndex.desc).map (fun d => d.parameters.length) = some 2 := by decide +kernel
def wp_C_needIndex_J9 (XE : String → Prop) : Prop :=
  XE eI
def wp_C_needIndex (index : Int32) (count : Int32) (Q : Prop) (XE : String → Prop) : Prop :=
  ((index < 0) → wp_C_needIndex_J9 XE) ∧
  ((¬ index < 0) → ((index < count) → Q) ∧
  ((¬ index < count) → wp_C_needIndex_J9 XE))
set_option maxRecDepth 20000 in
theorem at_C_needIndex : ∀ w ∈ vx_atS R_C 159 eI ["java/lang/RuntimeException", "java/lang/Exception"], w ∈ WALL ∨ w ∈ NALL := by decide +kernel
set_option maxRecDepth 20000 in
theorem ag_C_needIndex : ∀ w ∈ Cond.classLink R_C 155 eI :: Cond.initialized eI :: vx_atS R_C 159 eI ["java/lang/RuntimeException", "java/lang/Exception"], vx_ot w = true := by decide +kernel
set_option maxHeartbeats 4000000 in
set_option maxRecDepth 100000 in
theorem k_C_needIndex (g : GX) (hg : g.1.stackTraces = false) (index : Int32) (count : Int32) (Q : Prop) (XE : String → Prop) (hw : wp_C_needIndex index count Q XE) : CTX g y_C_needIndex c_C_needIndex 2 none ({ frames := 6, cells := 1, slots := 6, locals := 82 } : Room) [.int index, .int count] [] (QV g [] (fun u : Unit => []) (fun u => Q)) (QX g [] (fun u : Unit => []) (fun E u => XE E)) := by
  refine ctx_of hg (by decide) (Nat.le_of_ble_eq_true rfl) (fun sz C X hr htab => ?_)
  unfold wp_C_needIndex at hw
  show ST g C [] [(0, .int index), (1, .int count)] [] 0 0 0
  refine st_iload_n X 0 d_C_needIndex_0 rfl rfl ?_
  have J9 : wp_C_needIndex_J9 XE → ST g C [] [(0, .int index), (1, .int count)] [] 9 0 0 := by
    intro hw
    unfold wp_C_needIndex_J9 at hw
    exact st_throw X (cls := eI) (names := ["java/lang/RuntimeException", "java/lang/Exception"]) hr htab (by decide +kernel) (by decide +kernel) wk_C_155 wz_IndexOutOfBoundsException (fun U h => h.2.1) at_C_needIndex ag_C_needIndex () hw rfl d_C_needIndex_9 d_C_needIndex_12 d_C_needIndex_13 d_C_needIndex_15 d_C_needIndex_18 (by decide) (Nat.le_of_ble_eq_true rfl) (by decide) (by decide) (by decide) (by decide)
  refine st_if_lt X 9 d_C_needIndex_1 (by decide) (fun hc => ?_) (fun hc => ?_)
  · replace hw := hw.1 hc
    refine st_lv [0, 1] rfl ?_
    exact J9 hw
  · replace hw := hw.2 hc
    refine st_iload_n X 0 d_C_needIndex_4 rfl rfl ?_
    refine st_iload_n X 1 d_C_needIndex_5 rfl rfl ?_
    refine st_icmp_lt X 19 d_C_needIndex_6 (by decide) (fun hc => ?_) (fun hc => ?_)
    · replace hw := hw.1 hc
      exact st_vretX X hr () hw rfl (by decide) (by decide) d_C_needIndex_19
    · replace hw := hw.2 hc
      refine st_lv [0, 1] rfl ?_
      exact J9 hw

theorem h9_C_needNumber : y_C_needNumber.cls ≠ "java/lang/invoke/MethodHandle" ∧ y_C_needNumber.cls ≠ "java/lang/invoke/VarHandle" ∧ (parseMethodDescriptor y_C_needNumber.desc).map (fun d => d.parameters.length) = some 3 := by decide +kernel
def wp_C_needNumber_J13 (XE : String → Prop) : Prop :=
  XE eA
def wp_C_needNumber (n_ : Int64) (least : Int64) (most : Int64) (Q : Prop) (XE : String → Prop) : Prop :=
  ((n_ < least) → wp_C_needNumber_J13 XE) ∧
  ((¬ n_ < least) → ((n_ ≤ most) → Q) ∧
  ((¬ n_ ≤ most) → wp_C_needNumber_J13 XE))
set_option maxRecDepth 20000 in
theorem at_C_needNumber : ∀ w ∈ vx_atS R_C 166 eA ["java/lang/RuntimeException", "java/lang/Exception"], w ∈ WALL ∨ w ∈ NALL := by decide +kernel
set_option maxRecDepth 20000 in
theorem ag_C_needNumber : ∀ w ∈ Cond.classLink R_C 162 eA :: Cond.initialized eA :: vx_atS R_C 166 eA ["java/lang/RuntimeException", "java/lang/Exception"], vx_ot w = true := by decide +kernel
set_option maxHeartbeats 4000000 in
set_option maxRecDepth 100000 in
theorem k_C_needNumber (g : GX) (hg : g.1.stackTraces = false) (n_ : Int64) (least : Int64) (most : Int64) (Q : Prop) (XE : String → Prop) (hw : wp_C_needNumber n_ least most Q XE) : CTX g y_C_needNumber c_C_needNumber 6 none ({ frames := 6, cells := 1, slots := 6, locals := 82 } : Room) [.long n_, .long least, .long most] [] (QV g [] (fun u : Unit => []) (fun u => Q)) (QX g [] (fun u : Unit => []) (fun E u => XE E)) := by
  refine ctx_of hg (by decide) (Nat.le_of_ble_eq_true rfl) (fun sz C X hr htab => ?_)
  unfold wp_C_needNumber at hw
  show ST g C [] [(0, .long n_), (2, .long least), (4, .long most)] [] 0 0 0
  refine st_lload_n X 0 d_C_needNumber_0 rfl rfl ?_
  refine st_lload_n X 1 d_C_needNumber_1 rfl rfl ?_
  have J13 : wp_C_needNumber_J13 XE → ST g C [] [(0, .long n_), (2, .long least), (4, .long most)] [] 13 0 0 := by
    intro hw
    unfold wp_C_needNumber_J13 at hw
    exact st_throw X (cls := eA) (names := ["java/lang/RuntimeException", "java/lang/Exception"]) hr htab (by decide +kernel) (by decide +kernel) wk_C_162 wz_IllegalArgumentException (fun U h => h.2.2.1) at_C_needNumber ag_C_needNumber () hw rfl d_C_needNumber_13 d_C_needNumber_16 d_C_needNumber_17 d_C_needNumber_19 d_C_needNumber_22 (by decide) (Nat.le_of_ble_eq_true rfl) (by decide) (by decide) (by decide) (by decide)
  refine st_lcmp_lt X 13 d_C_needNumber_2 d_C_needNumber_3 (by decide) (fun hc => ?_) (fun hc => ?_)
  · replace hw := hw.1 hc
    refine st_lv [0, 1, 2] rfl ?_
    exact J13 hw
  · replace hw := hw.2 hc
    refine st_lload_n X 0 d_C_needNumber_6 rfl rfl ?_
    refine st_lload X 2 d_C_needNumber_7 rfl ?_
    refine st_lcmp_le X 23 d_C_needNumber_9 d_C_needNumber_10 (by decide) (fun hc => ?_) (fun hc => ?_)
    · replace hw := hw.1 hc
      exact st_vretX X hr () hw rfl (by decide) (by decide) d_C_needNumber_23
    · replace hw := hw.2 hc
      refine st_lv [0, 1, 2] rfl ?_
      exact J13 hw

theorem h9_C_needStep : y_C_needStep.cls ≠ "java/lang/invoke/MethodHandle" ∧ y_C_needStep.cls ≠ "java/lang/invoke/VarHandle" ∧ (parseMethodDescriptor y_C_needStep.desc).map (fun d => d.parameters.length) = some 2 := by decide +kernel
def wp_C_needStep (from_ : Int64) (cents : Int64) (Q : Prop) (XE : String → Prop) : Prop :=
  wp_C_needNumber from_ (1 : Int64) (1000000000 : Int64) (
  wp_C_needNumber cents (1 : Int64) (100000 : Int64) (
  Q) (fun E9 => XE E9)) (fun E9 => XE E9)
set_option maxHeartbeats 4000000 in
set_option maxRecDepth 100000 in
theorem k_C_needStep (g : GX) (hg : g.1.stackTraces = false) (from_ : Int64) (cents : Int64) (Q : Prop) (XE : String → Prop) (hw : wp_C_needStep from_ cents Q XE) : CTX g y_C_needStep c_C_needStep 4 none ({ frames := 7, cells := 2, slots := 12, locals := 107 } : Room) [.long from_, .long cents] [] (QV g [] (fun u : Unit => []) (fun u => Q)) (QX g [] (fun u : Unit => []) (fun E u => XE E)) := by
  refine ctx_of hg (by decide) (Nat.le_of_ble_eq_true rfl) (fun sz C X hr htab => ?_)
  unfold wp_C_needStep at hw
  show ST g C [] [(0, .long from_), (2, .long cents)] [] 0 0 0
  refine st_lload_n X 0 d_C_needStep_0 rfl rfl ?_
  refine st_lconst X (v := 1) d_C_needStep_1 (by decide) ?_
  refine st_ldc2 X wv_C_104 d_C_needStep_2 ?_
  have hR := rn_SX (pc := 5) (k := 0) (n := 0) (As := [.long from_, .long 1, .long 1000000000]) (rest := []) X (k_C_needNumber g hg from_ (1 : Int64) (1000000000 : Int64) _ _ hw) wm_C_84 ws_C_needNumber wz_C wc_C_needNumber h9_C_needNumber ⟨by decide, by decide⟩ (Nat.le_of_ble_eq_true rfl) ⟨by decide, by decide⟩ d_C_needStep_5
  refine st_xcallv X hR [] [] (wr := []) rfl rfl (by decide) (by decide) (by decide) (fun E9 u9 hw => ?_) (fun u9 hw => ?_)
  · refine stx_perm (ws2 := []) [] rfl (by decide) ?_
    exact stx_out X hr htab () hw rfl (by decide) (by decide)
  refine st_widen (k2 := 1) (n2 := 6) (by decide) (by decide) ?_
  show ST g C [] [(0, .long from_), (2, .long cents)] [] 8 1 6
  refine st_lload_n X 1 d_C_needStep_8 rfl rfl ?_
  refine st_lconst X (v := 1) d_C_needStep_9 (by decide) ?_
  refine st_ldc2 X wv_C_167 d_C_needStep_10 ?_
  have hR := rn_SX (pc := 13) (k := 1) (n := 6) (As := [.long cents, .long 1, .long 100000]) (rest := []) X (k_C_needNumber g hg cents (1 : Int64) (100000 : Int64) _ _ hw) wm_C_84 ws_C_needNumber wz_C wc_C_needNumber h9_C_needNumber ⟨by decide, by decide⟩ (Nat.le_of_ble_eq_true rfl) ⟨by decide, by decide⟩ d_C_needStep_13
  refine st_xcallv X hR [] [] (wr := []) rfl rfl (by decide) (by decide) (by decide) (fun E9 u9 hw => ?_) (fun u9 hw => ?_)
  · refine stx_perm (ws2 := []) [] rfl (by decide) ?_
    exact stx_out X hr htab () hw rfl (by decide) (by decide)
  refine st_widen (k2 := 2) (n2 := 12) (by decide) (by decide) ?_
  show ST g C [] [(0, .long from_), (2, .long cents)] [] 16 2 12
  exact st_vretX X hr () hw rfl (by decide) (by decide) d_C_needStep_16

theorem h9_C_needRatio : y_C_needRatio.cls ≠ "java/lang/invoke/MethodHandle" ∧ y_C_needRatio.cls ≠ "java/lang/invoke/VarHandle" ∧ (parseMethodDescriptor y_C_needRatio.desc).map (fun d => d.parameters.length) = some 2 := by decide +kernel
def wp_C_needRatio (above : Int64) (below : Int64) (Q : Prop) (XE : String → Prop) : Prop :=
  wp_C_needNumber above (1 : Int64) (1000 : Int64) (
  wp_C_needNumber below (1 : Int64) (1000 : Int64) (
  Q) (fun E9 => XE E9)) (fun E9 => XE E9)
set_option maxHeartbeats 4000000 in
set_option maxRecDepth 100000 in
theorem k_C_needRatio (g : GX) (hg : g.1.stackTraces = false) (above : Int64) (below : Int64) (Q : Prop) (XE : String → Prop) (hw : wp_C_needRatio above below Q XE) : CTX g y_C_needRatio c_C_needRatio 4 none ({ frames := 7, cells := 2, slots := 12, locals := 107 } : Room) [.long above, .long below] [] (QV g [] (fun u : Unit => []) (fun u => Q)) (QX g [] (fun u : Unit => []) (fun E u => XE E)) := by
  refine ctx_of hg (by decide) (Nat.le_of_ble_eq_true rfl) (fun sz C X hr htab => ?_)
  unfold wp_C_needRatio at hw
  show ST g C [] [(0, .long above), (2, .long below)] [] 0 0 0
  refine st_lload_n X 0 d_C_needRatio_0 rfl rfl ?_
  refine st_lconst X (v := 1) d_C_needRatio_1 (by decide) ?_
  refine st_ldc2 X wv_C_82 d_C_needRatio_2 ?_
  have hR := rn_SX (pc := 5) (k := 0) (n := 0) (As := [.long above, .long 1, .long 1000]) (rest := []) X (k_C_needNumber g hg above (1 : Int64) (1000 : Int64) _ _ hw) wm_C_84 ws_C_needNumber wz_C wc_C_needNumber h9_C_needNumber ⟨by decide, by decide⟩ (Nat.le_of_ble_eq_true rfl) ⟨by decide, by decide⟩ d_C_needRatio_5
  refine st_xcallv X hR [] [] (wr := []) rfl rfl (by decide) (by decide) (by decide) (fun E9 u9 hw => ?_) (fun u9 hw => ?_)
  · refine stx_perm (ws2 := []) [] rfl (by decide) ?_
    exact stx_out X hr htab () hw rfl (by decide) (by decide)
  refine st_widen (k2 := 1) (n2 := 6) (by decide) (by decide) ?_
  show ST g C [] [(0, .long above), (2, .long below)] [] 8 1 6
  refine st_lload_n X 1 d_C_needRatio_8 rfl rfl ?_
  refine st_lconst X (v := 1) d_C_needRatio_9 (by decide) ?_
  refine st_ldc2 X wv_C_82 d_C_needRatio_10 ?_
  have hR := rn_SX (pc := 13) (k := 1) (n := 6) (As := [.long below, .long 1, .long 1000]) (rest := []) X (k_C_needNumber g hg below (1 : Int64) (1000 : Int64) _ _ hw) wm_C_84 ws_C_needNumber wz_C wc_C_needNumber h9_C_needNumber ⟨by decide, by decide⟩ (Nat.le_of_ble_eq_true rfl) ⟨by decide, by decide⟩ d_C_needRatio_13
  refine st_xcallv X hR [] [] (wr := []) rfl rfl (by decide) (by decide) (by decide) (fun E9 u9 hw => ?_) (fun u9 hw => ?_)
  · refine stx_perm (ws2 := []) [] rfl (by decide) ?_
    exact stx_out X hr htab () hw rfl (by decide) (by decide)
  refine st_widen (k2 := 2) (n2 := 12) (by decide) (by decide) ?_
  show ST g C [] [(0, .long above), (2, .long below)] [] 16 2 12
  exact st_vretX X hr () hw rfl (by decide) (by decide) d_C_needRatio_16

theorem h9_C_tellNumber : y_C_tellNumber.cls ≠ "java/lang/invoke/MethodHandle" ∧ y_C_tellNumber.cls ≠ "java/lang/invoke/VarHandle" ∧ (parseMethodDescriptor y_C_tellNumber.desc).map (fun d => d.parameters.length) = some 3 := by decide +kernel
def wp_C_tellNumber_J13 (at_ : Int32) (n_ : Int64) (nn : Nat) (nums : Nat → Int64) (Q : Int32 → (Nat → Int64) → Prop) (v1 : Int32) : Prop :=
  vp_in at_ nn ∧
  ∀ f2 : Nat → Int64, f2 = vp_updL nums at_.toNatClampNeg n_ →
  (v1 = 0 ∨ v1 = 1) ∧ Q v1 f2
def wp_C_tellNumber (at_ : Int32) (n_ : Int64) (nn : Nat) (nums : Nat → Int64) (Q : Int32 → (Nat → Int64) → Prop) : Prop :=
  vp_in at_ nn ∧
  (((nums at_.toNatClampNeg) = n_) → wp_C_tellNumber_J13 at_ n_ nn nums Q 0) ∧
  ((¬ (nums at_.toNatClampNeg) = n_) → wp_C_tellNumber_J13 at_ n_ nn nums Q 1)
set_option maxHeartbeats 4000000 in
set_option maxRecDepth 100000 in
theorem k_C_tellNumber (g : GX) (hg : g.1.stackTraces = false) (a_nums : Nat) (at_ : Int32) (n_ : Int64) (nn : Nat) (nums : Nat → Int64) (Q : Int32 → (Nat → Int64) → Prop) (hw : wp_C_tellNumber at_ n_ nn nums Q) : CT g y_C_tellNumber c_C_tellNumber 5 (some .boolean) ({ frames := 0, cells := 0, slots := 0, locals := 0 } : Room) [.ref a_nums, .int at_, .long n_] [aJ g a_nums nn nums] (QI g [aJ g a_nums nn nums] (fun u : (Nat → Int64) => [aJ g a_nums nn u]) (fun r u => Q r u)) := by
  refine ct_of hg (by decide) (Nat.le_of_ble_eq_true rfl) (fun sz C X hr => ?_)
  unfold wp_C_tellNumber at hw
  show ST g C [aJ g a_nums nn nums] [(0, .ref a_nums), (1, .int at_), (2, .long n_)] [] 0 0 0
  refine st_aload_n X 0 d_C_tellNumber_0 rfl rfl ?_
  refine st_iload_n X 1 d_C_tellNumber_1 rfl rfl ?_
  obtain ⟨hb1, hw⟩ := hw
  refine st_lald X 0 rfl hb1 d_C_tellNumber_2 ?_
  refine st_lload_n X 2 d_C_tellNumber_3 rfl rfl ?_
  have J13 : ∀ (v1 : Int32), wp_C_tellNumber_J13 at_ n_ nn nums Q v1 → ST g C [aJ g a_nums nn nums] [(0, .ref a_nums), (1, .int at_), (2, .long n_)] [.int v1] 13 0 0 := by
    intro v1 hw
    unfold wp_C_tellNumber_J13 at hw
    refine st_istore X (lv2 := [(4, .int v1), (0, .ref a_nums), (1, .int at_), (2, .long n_)]) d_C_tellNumber_13 (by decide) rfl ?_
    refine st_aload_n X 1 d_C_tellNumber_15 rfl rfl ?_
    refine st_iload_n X 2 d_C_tellNumber_16 rfl rfl ?_
    refine st_lload_n X 3 d_C_tellNumber_17 rfl rfl ?_
    obtain ⟨hb2, hw⟩ := hw
    obtain ⟨f2, hf2⟩ : ∃ z : Nat → Int64, z = vp_updL nums at_.toNatClampNeg n_ := ⟨_, rfl⟩
    replace hw := hw f2 hf2
    refine st_last X (ws2 := [aJ g a_nums nn f2]) 0 rfl hb2 (by rw [hf2]; rfl) d_C_tellNumber_18 ?_
    refine st_iload X 0 d_C_tellNumber_19 rfl ?_
    obtain ⟨hz, hw⟩ := hw
    exact st_zret X hr f2 hw hz rfl (by decide) (by decide) d_C_tellNumber_21
  refine st_lcmp_eq X 12 d_C_tellNumber_4 d_C_tellNumber_5 (by decide) (fun hc => ?_) (fun hc => ?_)
  · replace hw := hw.1 hc
    refine st_iconst X (v := 0) d_C_tellNumber_12 (by decide) ?_
    refine st_lv [0, 1, 2] rfl ?_
    exact J13 0 hw
  · replace hw := hw.2 hc
    refine st_iconst X (v := 1) d_C_tellNumber_8 (by decide) ?_
    refine st_goto X 13 d_C_tellNumber_9 (by decide) ?_
    refine st_lv [0, 1, 2] rfl ?_
    exact J13 1 hw

theorem h9_C_divideUp : y_C_divideUp.cls ≠ "java/lang/invoke/MethodHandle" ∧ y_C_divideUp.cls ≠ "java/lang/invoke/VarHandle" ∧ (parseMethodDescriptor y_C_divideUp.desc).map (fun d => d.parameters.length) = some 2 := by decide +kernel
def wp_C_divideUp (amount : Int64) (divisor : Int64) (Q : Int64 → Prop) : Prop :=
  ((0 < divisor) → ¬ divisor = 0 ∧
  Q (((amount + divisor) - 1) / divisor)) ∧
  ((¬ 0 < divisor) → Q 0)
set_option maxHeartbeats 4000000 in
set_option maxRecDepth 100000 in
theorem k_C_divideUp (g : GX) (hg : g.1.stackTraces = false) (amount : Int64) (divisor : Int64) (Q : Int64 → Prop) (hw : wp_C_divideUp amount divisor Q) : CT g y_C_divideUp c_C_divideUp 4 (some .long) ({ frames := 0, cells := 0, slots := 0, locals := 0 } : Room) [.long amount, .long divisor] [] (QL g [] (fun u : Unit => []) (fun r u => Q r)) := by
  refine ct_of hg (by decide) (Nat.le_of_ble_eq_true rfl) (fun sz C X hr => ?_)
  unfold wp_C_divideUp at hw
  show ST g C [] [(0, .long amount), (2, .long divisor)] [] 0 0 0
  refine st_lload_n X 1 d_C_divideUp_0 rfl rfl ?_
  refine st_lconst X (v := 0) d_C_divideUp_1 (by decide) ?_
  refine st_lcmp_gt X 8 d_C_divideUp_2 d_C_divideUp_3 (by decide) (fun hc => ?_) (fun hc => ?_)
  · replace hw := hw.1 hc
    refine st_lload_n X 0 d_C_divideUp_8 rfl rfl ?_
    refine st_lload_n X 1 d_C_divideUp_9 rfl rfl ?_
    refine st_ladd X d_C_divideUp_10 ?_
    refine st_lconst X (v := 1) d_C_divideUp_11 (by decide) ?_
    refine st_lsub X d_C_divideUp_12 ?_
    refine st_lload_n X 1 d_C_divideUp_13 rfl rfl ?_
    obtain ⟨hb1, hw⟩ := hw
    refine st_ldiv X d_C_divideUp_14 hb1 ?_
    exact st_lret X hr () hw rfl (by decide) (by decide) d_C_divideUp_15
  · replace hw := hw.2 hc
    refine st_lconst X (v := 0) d_C_divideUp_6 (by decide) ?_
    exact st_lret X hr () hw rfl (by decide) (by decide) d_C_divideUp_7
