section
-- ===== PART A: goes FIRST, ahead of the names: the tables' words, and 'selects' of the private methods out of them =====
/-- a private method of a class that the tables say can be made, by its rows of tables_1 -/
def lw_okq (q : MethodName × Nat) : Prop := (q.1.cls ≠ "java/lang/invoke/MethodHandle" ∧ q.1.cls ≠ "java/lang/invoke/VarHandle") ∧ Cond.instantiable q.1.cls q.2 ∈ tables_1 ∧ Cond.privateMethod q.1 ∈ tables_1 ∧ Cond.instanceMethod q.1 ∈ tables_1
theorem lw_p0 : lw_okq (⟨"java/lang/Throwable", "fillInStackTrace", "(I)Ljava/lang/Throwable;"⟩, 6) := ⟨⟨by decide +kernel, by decide +kernel⟩, List.mem_of_getElem? (i := 222) (by decide +kernel), List.mem_of_getElem? (i := 220) (by decide +kernel), List.mem_of_getElem? (i := 221) (by decide +kernel)⟩
theorem lw_p1 : lw_okq (⟨"CostSteps$Steps", "tell", "(IIJJ)Z"⟩, 2) := ⟨⟨by decide +kernel, by decide +kernel⟩, List.mem_of_getElem? (i := 24) (by decide +kernel), List.mem_of_getElem? (i := 276) (by decide +kernel), List.mem_of_getElem? (i := 277) (by decide +kernel)⟩
theorem lw_p2 : lw_okq (⟨"CostSteps$KeyLists", "slotFor", "(IJ)I"⟩, 2) := ⟨⟨by decide +kernel, by decide +kernel⟩, List.mem_of_getElem? (i := 30) (by decide +kernel), List.mem_of_getElem? (i := 280) (by decide +kernel), List.mem_of_getElem? (i := 281) (by decide +kernel)⟩
theorem lw_p3 : lw_okq (⟨"CostSteps$KeyLists", "endSlot", "(I)I"⟩, 2) := ⟨⟨by decide +kernel, by decide +kernel⟩, List.mem_of_getElem? (i := 30) (by decide +kernel), List.mem_of_getElem? (i := 284) (by decide +kernel), List.mem_of_getElem? (i := 285) (by decide +kernel)⟩
theorem lw_p4 : lw_okq (⟨"CostSteps$KeyLists", "firstSlot", "(I)I"⟩, 2) := ⟨⟨by decide +kernel, by decide +kernel⟩, List.mem_of_getElem? (i := 30) (by decide +kernel), List.mem_of_getElem? (i := 288) (by decide +kernel), List.mem_of_getElem? (i := 289) (by decide +kernel)⟩
theorem lw_p5 : lw_okq (⟨"CostSteps$Yields", "add", "(JJ)Z"⟩, 3) := ⟨⟨by decide +kernel, by decide +kernel⟩, List.mem_of_getElem? (i := 82) (by decide +kernel), List.mem_of_getElem? (i := 336) (by decide +kernel), List.mem_of_getElem? (i := 337) (by decide +kernel)⟩
theorem lw_p6 : lw_okq (⟨"CostSteps$Rates", "tell", "(IJJJ)Z"⟩, 5) := ⟨⟨by decide +kernel, by decide +kernel⟩, List.mem_of_getElem? (i := 58) (by decide +kernel), List.mem_of_getElem? (i := 347) (by decide +kernel), List.mem_of_getElem? (i := 348) (by decide +kernel)⟩
theorem lw_p7 : lw_okq (⟨"CostSteps", "draw", "(JIJ)Z"⟩, 13) := ⟨⟨by decide +kernel, by decide +kernel⟩, List.mem_of_getElem? (i := 16) (by decide +kernel), List.mem_of_getElem? (i := 374) (by decide +kernel), List.mem_of_getElem? (i := 375) (by decide +kernel)⟩
theorem lw_p8 : lw_okq (⟨"CostSteps$Yields", "startedFor", "(J)J"⟩, 3) := ⟨⟨by decide +kernel, by decide +kernel⟩, List.mem_of_getElem? (i := 82) (by decide +kernel), List.mem_of_getElem? (i := 378) (by decide +kernel), List.mem_of_getElem? (i := 379) (by decide +kernel)⟩
theorem lw_p9 : lw_okq (⟨"CostSteps", "drawAllButBoards", "(JJ)Z"⟩, 13) := ⟨⟨by decide +kernel, by decide +kernel⟩, List.mem_of_getElem? (i := 16) (by decide +kernel), List.mem_of_getElem? (i := 386) (by decide +kernel), List.mem_of_getElem? (i := 387) (by decide +kernel)⟩
theorem lw_p10 : lw_okq (⟨"CostSteps$Quote", "begin", "(I)V"⟩, 5) := ⟨⟨by decide +kernel, by decide +kernel⟩, List.mem_of_getElem? (i := 98) (by decide +kernel), List.mem_of_getElem? (i := 390) (by decide +kernel), List.mem_of_getElem? (i := 391) (by decide +kernel)⟩
theorem lw_p11 : lw_okq (⟨"CostSteps$Quote", "clearRow", "(I)V"⟩, 5) := ⟨⟨by decide +kernel, by decide +kernel⟩, List.mem_of_getElem? (i := 98) (by decide +kernel), List.mem_of_getElem? (i := 394) (by decide +kernel), List.mem_of_getElem? (i := 395) (by decide +kernel)⟩
theorem lw_p12 : lw_okq (⟨"CostSteps$Rates", "turnTo", "(J)V"⟩, 5) := ⟨⟨by decide +kernel, by decide +kernel⟩, List.mem_of_getElem? (i := 58) (by decide +kernel), List.mem_of_getElem? (i := 398) (by decide +kernel), List.mem_of_getElem? (i := 399) (by decide +kernel)⟩
theorem lw_p13 : lw_okq (⟨"CostSteps$Rates", "latestSlot", "(IJ)I"⟩, 5) := ⟨⟨by decide +kernel, by decide +kernel⟩, List.mem_of_getElem? (i := 58) (by decide +kernel), List.mem_of_getElem? (i := 402) (by decide +kernel), List.mem_of_getElem? (i := 403) (by decide +kernel)⟩
theorem lw_p14 : lw_okq (⟨"CostSteps", "assemblyCost", "(J)J"⟩, 13) := ⟨⟨by decide +kernel, by decide +kernel⟩, List.mem_of_getElem? (i := 16) (by decide +kernel), List.mem_of_getElem? (i := 408) (by decide +kernel), List.mem_of_getElem? (i := 409) (by decide +kernel)⟩
theorem lw_p15 : lw_okq (⟨"CostSteps", "drawPart", "(IJ)Z"⟩, 13) := ⟨⟨by decide +kernel, by decide +kernel⟩, List.mem_of_getElem? (i := 16) (by decide +kernel), List.mem_of_getElem? (i := 413) (by decide +kernel), List.mem_of_getElem? (i := 414) (by decide +kernel)⟩
def lw_privs_1 : List (MethodName × Nat) := [(⟨"java/lang/Throwable", "fillInStackTrace", "(I)Ljava/lang/Throwable;"⟩, 6), (⟨"CostSteps$Steps", "tell", "(IIJJ)Z"⟩, 2), (⟨"CostSteps$KeyLists", "slotFor", "(IJ)I"⟩, 2), (⟨"CostSteps$KeyLists", "endSlot", "(I)I"⟩, 2), (⟨"CostSteps$KeyLists", "firstSlot", "(I)I"⟩, 2), (⟨"CostSteps$Yields", "add", "(JJ)Z"⟩, 3), (⟨"CostSteps$Rates", "tell", "(IJJJ)Z"⟩, 5), (⟨"CostSteps", "draw", "(JIJ)Z"⟩, 13), (⟨"CostSteps$Yields", "startedFor", "(J)J"⟩, 3), (⟨"CostSteps", "drawAllButBoards", "(JJ)Z"⟩, 13), (⟨"CostSteps$Quote", "begin", "(I)V"⟩, 5), (⟨"CostSteps$Quote", "clearRow", "(I)V"⟩, 5), (⟨"CostSteps$Rates", "turnTo", "(J)V"⟩, 5), (⟨"CostSteps$Rates", "latestSlot", "(IJ)I"⟩, 5), (⟨"CostSteps", "assemblyCost", "(J)J"⟩, 13), (⟨"CostSteps", "drawPart", "(IJ)Z"⟩, 13)]
theorem lw_r1 : ∀ q ∈ lw_privs_1, lw_okq q := List.forall_mem_cons.mpr ⟨lw_p0, List.forall_mem_cons.mpr ⟨lw_p1, List.forall_mem_cons.mpr ⟨lw_p2, List.forall_mem_cons.mpr ⟨lw_p3, List.forall_mem_cons.mpr ⟨lw_p4, List.forall_mem_cons.mpr ⟨lw_p5, List.forall_mem_cons.mpr ⟨lw_p6, List.forall_mem_cons.mpr ⟨lw_p7, List.forall_mem_cons.mpr ⟨lw_p8, List.forall_mem_cons.mpr ⟨lw_p9, List.forall_mem_cons.mpr ⟨lw_p10, List.forall_mem_cons.mpr ⟨lw_p11, List.forall_mem_cons.mpr ⟨lw_p12, List.forall_mem_cons.mpr ⟨lw_p13, List.forall_mem_cons.mpr ⟨lw_p14, List.forall_mem_cons.mpr ⟨lw_p15, fun _ h => absurd h List.not_mem_nil⟩⟩⟩⟩⟩⟩⟩⟩⟩⟩⟩⟩⟩⟩⟩⟩
theorem lw_p16 : lw_okq (⟨"CostSteps", "mayStandIn", "(II)Z"⟩, 13) := ⟨⟨by decide +kernel, by decide +kernel⟩, List.mem_of_getElem? (i := 16) (by decide +kernel), List.mem_of_getElem? (i := 417) (by decide +kernel), List.mem_of_getElem? (i := 418) (by decide +kernel)⟩
theorem lw_p17 : lw_okq (⟨"CostSteps", "offerSteps", "(IJII)V"⟩, 13) := ⟨⟨by decide +kernel, by decide +kernel⟩, List.mem_of_getElem? (i := 16) (by decide +kernel), List.mem_of_getElem? (i := 421) (by decide +kernel), List.mem_of_getElem? (i := 422) (by decide +kernel)⟩
theorem lw_p18 : lw_okq (⟨"CostSteps$Steps", "endSlot", "(II)I"⟩, 2) := ⟨⟨by decide +kernel, by decide +kernel⟩, List.mem_of_getElem? (i := 24) (by decide +kernel), List.mem_of_getElem? (i := 425) (by decide +kernel), List.mem_of_getElem? (i := 426) (by decide +kernel)⟩
theorem lw_p19 : lw_okq (⟨"CostSteps$Steps", "firstSlot", "(II)I"⟩, 2) := ⟨⟨by decide +kernel, by decide +kernel⟩, List.mem_of_getElem? (i := 24) (by decide +kernel), List.mem_of_getElem? (i := 430) (by decide +kernel), List.mem_of_getElem? (i := 431) (by decide +kernel)⟩
theorem lw_p20 : lw_okq (⟨"CostSteps$Steps", "fromAt", "(I)J"⟩, 2) := ⟨⟨by decide +kernel, by decide +kernel⟩, List.mem_of_getElem? (i := 24) (by decide +kernel), List.mem_of_getElem? (i := 435) (by decide +kernel), List.mem_of_getElem? (i := 436) (by decide +kernel)⟩
theorem lw_p21 : lw_okq (⟨"CostSteps$Rates", "exchange", "(IJ)J"⟩, 5) := ⟨⟨by decide +kernel, by decide +kernel⟩, List.mem_of_getElem? (i := 58) (by decide +kernel), List.mem_of_getElem? (i := 442) (by decide +kernel), List.mem_of_getElem? (i := 443) (by decide +kernel)⟩
theorem lw_p22 : lw_okq (⟨"CostSteps$Quote", "consider", "(IJIII)V"⟩, 5) := ⟨⟨by decide +kernel, by decide +kernel⟩, List.mem_of_getElem? (i := 98) (by decide +kernel), List.mem_of_getElem? (i := 447) (by decide +kernel), List.mem_of_getElem? (i := 448) (by decide +kernel)⟩
theorem lw_p23 : lw_okq (⟨"CostSteps$Quote", "isBought", "(I)Z"⟩, 5) := ⟨⟨by decide +kernel, by decide +kernel⟩, List.mem_of_getElem? (i := 98) (by decide +kernel), List.mem_of_getElem? (i := 451) (by decide +kernel), List.mem_of_getElem? (i := 452) (by decide +kernel)⟩
theorem lw_p24 : lw_okq (⟨"CostSteps$Quote", "isBetter", "(IJIII)Z"⟩, 5) := ⟨⟨by decide +kernel, by decide +kernel⟩, List.mem_of_getElem? (i := 98) (by decide +kernel), List.mem_of_getElem? (i := 455) (by decide +kernel), List.mem_of_getElem? (i := 456) (by decide +kernel)⟩
theorem lw_p25 : lw_okq (⟨"CostSteps", "drawBoards", "(JI)Z"⟩, 13) := ⟨⟨by decide +kernel, by decide +kernel⟩, List.mem_of_getElem? (i := 16) (by decide +kernel), List.mem_of_getElem? (i := 460) (by decide +kernel), List.mem_of_getElem? (i := 461) (by decide +kernel)⟩
theorem lw_p26 : lw_okq (⟨"CostSteps", "keepDraft", "()V"⟩, 13) := ⟨⟨by decide +kernel, by decide +kernel⟩, List.mem_of_getElem? (i := 16) (by decide +kernel), List.mem_of_getElem? (i := 466) (by decide +kernel), List.mem_of_getElem? (i := 467) (by decide +kernel)⟩
theorem lw_p27 : lw_okq (⟨"CostSteps$Quote", "sum", "()J"⟩, 5) := ⟨⟨by decide +kernel, by decide +kernel⟩, List.mem_of_getElem? (i := 98) (by decide +kernel), List.mem_of_getElem? (i := 470) (by decide +kernel), List.mem_of_getElem? (i := 471) (by decide +kernel)⟩
theorem lw_p28 : lw_okq (⟨"CostSteps$Quote", "makersBoughtOf", "()I"⟩, 5) := ⟨⟨by decide +kernel, by decide +kernel⟩, List.mem_of_getElem? (i := 98) (by decide +kernel), List.mem_of_getElem? (i := 481) (by decide +kernel), List.mem_of_getElem? (i := 482) (by decide +kernel)⟩
theorem lw_p29 : lw_okq (⟨"CostStepsModel", "isPart", "(I)Z"⟩, 31) := ⟨⟨by decide +kernel, by decide +kernel⟩, List.mem_of_getElem? (i := 520) (by decide +kernel), List.mem_of_getElem? (i := 637) (by decide +kernel), List.mem_of_getElem? (i := 638) (by decide +kernel)⟩
theorem lw_p30 : lw_okq (⟨"CostStepsModel", "tellStep", "(IJJ)Z"⟩, 31) := ⟨⟨by decide +kernel, by decide +kernel⟩, List.mem_of_getElem? (i := 520) (by decide +kernel), List.mem_of_getElem? (i := 644) (by decide +kernel), List.mem_of_getElem? (i := 645) (by decide +kernel)⟩
theorem lw_p31 : lw_okq (⟨"CostStepsModel", "refusal", "(JI)I"⟩, 31) := ⟨⟨by decide +kernel, by decide +kernel⟩, List.mem_of_getElem? (i := 520) (by decide +kernel), List.mem_of_getElem? (i := 693) (by decide +kernel), List.mem_of_getElem? (i := 694) (by decide +kernel)⟩
def lw_privs_2 : List (MethodName × Nat) := [(⟨"CostSteps", "mayStandIn", "(II)Z"⟩, 13), (⟨"CostSteps", "offerSteps", "(IJII)V"⟩, 13), (⟨"CostSteps$Steps", "endSlot", "(II)I"⟩, 2), (⟨"CostSteps$Steps", "firstSlot", "(II)I"⟩, 2), (⟨"CostSteps$Steps", "fromAt", "(I)J"⟩, 2), (⟨"CostSteps$Rates", "exchange", "(IJ)J"⟩, 5), (⟨"CostSteps$Quote", "consider", "(IJIII)V"⟩, 5), (⟨"CostSteps$Quote", "isBought", "(I)Z"⟩, 5), (⟨"CostSteps$Quote", "isBetter", "(IJIII)Z"⟩, 5), (⟨"CostSteps", "drawBoards", "(JI)Z"⟩, 13), (⟨"CostSteps", "keepDraft", "()V"⟩, 13), (⟨"CostSteps$Quote", "sum", "()J"⟩, 5), (⟨"CostSteps$Quote", "makersBoughtOf", "()I"⟩, 5), (⟨"CostStepsModel", "isPart", "(I)Z"⟩, 31), (⟨"CostStepsModel", "tellStep", "(IJJ)Z"⟩, 31), (⟨"CostStepsModel", "refusal", "(JI)I"⟩, 31)]
theorem lw_r2 : ∀ q ∈ lw_privs_2, lw_okq q := List.forall_mem_cons.mpr ⟨lw_p16, List.forall_mem_cons.mpr ⟨lw_p17, List.forall_mem_cons.mpr ⟨lw_p18, List.forall_mem_cons.mpr ⟨lw_p19, List.forall_mem_cons.mpr ⟨lw_p20, List.forall_mem_cons.mpr ⟨lw_p21, List.forall_mem_cons.mpr ⟨lw_p22, List.forall_mem_cons.mpr ⟨lw_p23, List.forall_mem_cons.mpr ⟨lw_p24, List.forall_mem_cons.mpr ⟨lw_p25, List.forall_mem_cons.mpr ⟨lw_p26, List.forall_mem_cons.mpr ⟨lw_p27, List.forall_mem_cons.mpr ⟨lw_p28, List.forall_mem_cons.mpr ⟨lw_p29, List.forall_mem_cons.mpr ⟨lw_p30, List.forall_mem_cons.mpr ⟨lw_p31, fun _ h => absurd h List.not_mem_nil⟩⟩⟩⟩⟩⟩⟩⟩⟩⟩⟩⟩⟩⟩⟩⟩
theorem lw_p32 : lw_okq (⟨"CostStepsModel", "reckon", "(JIJ)V"⟩, 31) := ⟨⟨by decide +kernel, by decide +kernel⟩, List.mem_of_getElem? (i := 520) (by decide +kernel), List.mem_of_getElem? (i := 700) (by decide +kernel), List.mem_of_getElem? (i := 701) (by decide +kernel)⟩
theorem lw_p33 : lw_okq (⟨"CostStepsModel", "started", "(J)J"⟩, 31) := ⟨⟨by decide +kernel, by decide +kernel⟩, List.mem_of_getElem? (i := 520) (by decide +kernel), List.mem_of_getElem? (i := 704) (by decide +kernel), List.mem_of_getElem? (i := 705) (by decide +kernel)⟩
theorem lw_p34 : lw_okq (⟨"CostStepsModel", "offer", "(IIIJJ)V"⟩, 31) := ⟨⟨by decide +kernel, by decide +kernel⟩, List.mem_of_getElem? (i := 520) (by decide +kernel), List.mem_of_getElem? (i := 711) (by decide +kernel), List.mem_of_getElem? (i := 712) (by decide +kernel)⟩
theorem lw_p35 : lw_okq (⟨"CostStepsModel", "rateOf", "(IJ)I"⟩, 31) := ⟨⟨by decide +kernel, by decide +kernel⟩, List.mem_of_getElem? (i := 520) (by decide +kernel), List.mem_of_getElem? (i := 715) (by decide +kernel), List.mem_of_getElem? (i := 716) (by decide +kernel)⟩
theorem lw_p36 : lw_okq (⟨"CostStepsModel", "buyPart", "(IJJ)V"⟩, 31) := ⟨⟨by decide +kernel, by decide +kernel⟩, List.mem_of_getElem? (i := 520) (by decide +kernel), List.mem_of_getElem? (i := 719) (by decide +kernel), List.mem_of_getElem? (i := 720) (by decide +kernel)⟩
theorem lw_p37 : lw_okq (⟨"CostStepsModel", "makersNow", "()I"⟩, 31) := ⟨⟨by decide +kernel, by decide +kernel⟩, List.mem_of_getElem? (i := 520) (by decide +kernel), List.mem_of_getElem? (i := 728) (by decide +kernel), List.mem_of_getElem? (i := 729) (by decide +kernel)⟩
def lw_privs_3 : List (MethodName × Nat) := [(⟨"CostStepsModel", "reckon", "(JIJ)V"⟩, 31), (⟨"CostStepsModel", "started", "(J)J"⟩, 31), (⟨"CostStepsModel", "offer", "(IIIJJ)V"⟩, 31), (⟨"CostStepsModel", "rateOf", "(IJ)I"⟩, 31), (⟨"CostStepsModel", "buyPart", "(IJJ)V"⟩, 31), (⟨"CostStepsModel", "makersNow", "()I"⟩, 31)]
theorem lw_r3 : ∀ q ∈ lw_privs_3, lw_okq q := List.forall_mem_cons.mpr ⟨lw_p32, List.forall_mem_cons.mpr ⟨lw_p33, List.forall_mem_cons.mpr ⟨lw_p34, List.forall_mem_cons.mpr ⟨lw_p35, List.forall_mem_cons.mpr ⟨lw_p36, List.forall_mem_cons.mpr ⟨lw_p37, fun _ h => absurd h List.not_mem_nil⟩⟩⟩⟩⟩⟩
def lw_privs : List (MethodName × Nat) := lw_privs_1 ++ (lw_privs_2 ++ (lw_privs_3))
def lw_tbl : List Cond := k2_sels lw_privs ++ tables_1
theorem lw_privs_ok : ∀ q ∈ lw_privs, lw_okq q := by
  show ∀ q ∈ lw_privs_1 ++ (lw_privs_2 ++ (lw_privs_3)), lw_okq q
  exact List.forall_mem_append.mpr ⟨lw_r1, List.forall_mem_append.mpr ⟨lw_r2, lw_r3⟩⟩
end
section
/-! ===== BEGIN words of one list among another's, by their places ===== -/
theorem goodIn_r {big : List Cond} (ws : List Cond) (ps : List Nat) (hp : ws = ps.filterMap (fun i => big[i]?)) (h : ws.all goodWord = true) : GoodIn big ws := by
  intro w hw
  have h1 := List.all_eq_true.mp h w hw
  rw [hp] at hw
  obtain ⟨i, -, hi⟩ := List.mem_filterMap.mp hw
  have hm : w ∈ big := by first | exact List.mem_of_getElem? hi | exact List.getElem?_mem hi
  exact ⟨hm, good_of_word h1⟩
theorem goodIn_app {big a b : List Cond} (ha : GoodIn big a) (hb : GoodIn big b) : GoodIn big (a ++ b) := fun w h => (List.mem_append.mp h).elim (ha w) (hb w)
theorem goodIn_ca {big a b : List Cond} {c : Cond} (ha : GoodIn big (c :: a)) (hb : GoodIn big b) : GoodIn big (c :: (a ++ b)) := fun w h => (List.mem_cons.mp h).elim (fun e => ha w (List.mem_cons.mpr (Or.inl e))) (fun h => (List.mem_append.mp h).elim (fun h => ha w (List.mem_cons.mpr (Or.inr h))) (hb w))
theorem goodIn_sub {big ws : List Cond} (hm : ∀ w ∈ ws, w ∈ big) (h : ws.all goodWord = true) : GoodIn big ws := fun w hw => ⟨hm w hw, good_of_word (List.all_eq_true.mp h w hw)⟩
/-! ===== END ===== -/

/-! ===== BEGIN exceptions that leave a method, and their catching by the caller (launches without stack traces) ===== -/
section VXA
/-! The laws vx_back, vx_callV, vx_callS, vx_callSW, vx_throw0, vx_throwS follow proofs of the library, with one case more: JvmDerived/Free/Laws.lean (Back.of_free), Shelf42/LK1.lean (callV, callS), Shelf/KitTraced.lean (throwNew0V, throwNewS). -/
/-- where a method has thrown q: the class by its name, the cell, what was written, the world -/
def vx_T (XC : String → State → State → Prop) (st : State) (q : Addr) (t : State) (mc ms : Nat) (free : Addr → Prop) : Prop :=
  ∃ (E : String) (ce : Cell) (L : List Loc), XC E st t ∧ t.heap[q]? = some ce ∧ ce.vm = .none ∧ st.vm.findClass E = some ce.cls ∧ st.WarmedH t.vm ∧ st.sameButNew ({ t with vm := st.vm } : State) L mc ms ∧ ∀ z ∈ L, free z.base
def vx_Q (Qc : Array Value → State → Outcome → State → Prop) (XC : String → State → State → Prop) (mc ms : Nat) (free : Addr → Prop) : Array Value → State → Outcome → State → Prop := fun a st o t =>
  (Qc a st o t ∧ ∃ L, FrameEnd st o t L mc ms ∧ ∀ q ∈ L, free q.base) ∨ ∃ q, o = .threw q ∧ vx_T XC st q t mc ms free
/-- a callee that returns or throws -/
def vx_Met (l : Launch) (y : MethodName) (ws : List Cond) (rm : Room) (Pc : Array Value → State → Prop) (Qc : Array Value → State → Outcome → State → Prop) (XC : String → State → State → Prop) (mc ms : Nat) (free : Addr → Prop) : Prop :=
  MetFree l y (headSpec ws rm) Pc (fun _ _ _ _ _ => True) (vx_Q Qc XC mc ms free)
def vx_Post (XC : String → State → State → Prop) (mc ms : Nat) (free : Addr → Prop) : Pt → Array Value → Addr → Pt → Prop := fun A a q B =>
  ∃ (g : JFrame) (mk : MethodId) (t : State) (L : List Loc) (E : String) (ce : Cell), B.U.heap = t.heap ∧ B.U.vm = t.vm ∧ XC E (A.U.calling g mk a) t ∧ t.heap[q]? = some ce ∧ ce.vm = .none ∧ A.U.vm.findClass E = some ce.cls ∧ B.locs = A.locs ++ L ∧ (∀ z ∈ L, free z.base) ∧ B.cells = A.cells + mc ∧ B.slots = A.slots + ms
def vx_Back (l : Launch) (R : Room) (p : Program) (e : Env) (below : List Frame) (s : State) (sargs : Array Value) (y : MethodName) (len W9 : Nat)
    (Pre : Pt → Array Value → Prop) (Post : Pt → Array Value → Option Value → Pt → Prop) (PostX : Pt → Array Value → Addr → Pt → Prop) : Prop :=
  ∀ (m : MethodId) (meth : Method) (c : Code) (A : Pt) (g : JFrame) (ig : Instr) (mk : MethodId) (a : Array Value),
    Stand p l e R s m sargs below meth c A.U A.locs A.cells A.slots → g.method = m → g.locals.size = c.maxLocals → decode c.code g.pc = .ok (ig, len) →
    2 * g.monitorRoom + (g.stack.map fun v => v.category).sum ≤ W9 → A.U.methodNamed? y = some mk → Pre A a →
    (∃ (v : Option Value) (B : Pt), Stand p l e R s m sargs below meth c B.U B.locs B.cells B.slots ∧ Post A a v B ∧
      Steps p.tables e below (doInvoke e (A.U.setTop g) [] mk a).1 (B.U.setTop { g with pc := g.pc + len, stack := v.toList ++ g.stack })) ∨
    (∃ (q : Addr) (B : Pt), Stand p l e R s m sargs below meth c B.U B.locs B.cells B.slots ∧ PostX A a q B ∧
      Steps p.tables e below (doInvoke e (A.U.setTop g) [] mk a).1 ((B.U.setTop g).pushFrame (.throwing q)))
section Payer
variable {l : Launch} {R : Room} {p : Program} {e : Env} {below : List Frame} {s : State} {sargs : Array Value} {y : MethodName} {len W9 : Nat}
theorem vx_back {ws : List Cond} {rm : Room} {Pc : Array Value → State → Prop} {Qc : Array Value → State → Outcome → State → Prop} {XC : String → State → State → Prop} {mc ms : Nat} {free : Addr → Prop} {bytes : ByteArray} {maxL : Nat} {ret : Option FieldType}
    (hM : vx_Met l y ws rm Pc Qc XC mc ms free) (hblind : FrameBlind Pc) (hrc : rm.cells = mc) (hrs : rm.slots = ms)
    (hframes : rm.frames + 1 ≤ R.frames) (hlocals : W9 + (maxL + 11) + rm.locals ≤ R.locals)
    (hws : ∀ w ∈ ws, ∀ a' U, s.WarmedH U.vm → w.before a' U = true) (hcode : Cond.code y bytes maxL ret ∈ ws) (hinit : ∀ a' U, s.WarmedH U.vm → (Cond.initialized y.cls).before a' U = true) :
    vx_Back l R p e below s sargs y len W9 (PreOf R mc ms Pc) (PostOf Qc mc ms free) (vx_Post XC mc ms free) := by
  intro m meth c A g ig mk a X hg hsize hdg hW hn hp
  have h1 : (headSpec ws rm).pre.before a A.U = true := atoms_intro fun w hw => hws w hw _ _ X.warmed
  have h2 : (Cond.code y bytes maxL ret).before a A.U = true := hws _ hcode _ _ X.warmed
  have h3 : (Cond.initialized y.cls).before a A.U = true := hinit _ _ X.warmed
  have h4 : A.cells + (headSpec ws rm).room.cells ≤ R.cells := by rw [show (headSpec ws rm).room.cells = mc from hrc]; exact hp.1
  have h5 : A.slots + (headSpec ws rm).room.slots ≤ R.slots := by rw [show (headSpec ws rm).room.slots = ms from hrs]; exact hp.2.1
  have hPc : Pc a (A.U.calling g mk a) := hblind _ _ _ _ hp.2.2
  obtain ⟨U, Ls, c0, s0⟩ := A
  dsimp only [Pt.U, Pt.locs, Pt.cells, Pt.slots] at h1 h2 h3 h4 h5 X hn hPc ⊢
  obtain ⟨methY, cY, hmY, hcY, -, hlY, -, -, -, -⟩ := Cond.code_spec hn h2
  obtain ⟨kY, hkY, -⟩ := className_of_methodNamed hn
  have hinitY : kY.init = .initialized := Cond.initialized_spec (findClass_of_methodNamed hn) hkY h3
  have h : At U g.method c below := by rw [hg]; exact X.here
  have hlocals9 : W9 + (maxL + 11) + (headSpec ws rm).room.locals ≤ R.locals := hlocals
  have happ : (headSpec ws rm).appliesLoose y e.platform (U.calling g mk a) = true :=
    Spec.appliesLoose_calling (g := g) h hdg hn hkY hinitY
      (X.room_calling (g := g) (R' := (headSpec ws rm).room) hsize hmY hcY hframes (by rw [hlY]; omega) h4 h5) h1
  obtain ⟨mid, hmid⟩ := h.above
  have hfr : (U.setTop g).frames = (.java g :: mid) ++ below := by rw [State.frames_setTop' g h.top, hmid]; rfl
  obtain ⟨o, s₂, hsteps, -, hend, hq⟩ := Steps.callFree hM p X.admits X.cas X.clock (acts := []) hfr happ hPc trivial
  have hq' : vx_Q Qc XC mc ms free a (U.calling g mk a) o s₂ := hq
  rw [State.frames_setTop' g h.top] at hend
  obtain ⟨g₀, hg0⟩ := Option.isSome_iff_exists.mp h.top
  obtain ⟨r, hr⟩ := State.topJava?_eq_some.mp hg0
  have hr' : (({ U with heap := s₂.heap, slotsUsed := s₂.slotsUsed } : State).setVm s₂.vm).frames = .java g₀ :: r := hr
  rcases hq' with ⟨hqc, L, hfe, hL⟩ | ⟨q, rfl, E, ce, L, hx, hce, hcv, hcl, hW₂, hsm, hL⟩
  · obtain ⟨⟨v, rfl⟩, hW₂, e2, q2, q3, q4, q5, q6⟩ := id hfe
    have e3 : s₂ = ({ (U.calling g mk a).setFrames s₂.frames with heap := s₂.heap, slotsUsed := s₂.slotsUsed } : State).setVm s₂.vm := by
      have : s₂ = ({ s₂ with vm := (U.calling g mk a).vm } : State).setVm s₂.vm := rfl
      rw [e2] at this
      exact this
    obtain ⟨c₂, i₂, len₂, hc₂, hd₂, hf₂⟩ := hend
    have hW' : U.WarmedH s₂.vm := hW₂
    have hcc : c₂ = c := by
      have h1 : s₂.code? g.method = U.code? g.method := by
        rw [State.code?_eq, State.code?_eq, hW'.alike.method?]
      exact Option.some.inj (hc₂.symm.trans (h1.trans h.code))
    subst hcc
    have hlen : len₂ = len := by rw [hdg] at hd₂; cases hd₂; rfl
    subst hlen
    have hs₂ : s₂ = (({ U with heap := s₂.heap, slotsUsed := s₂.slotsUsed } : State).setVm s₂.vm).setTop { g with pc := g.pc + len₂, stack := v.toList ++ g.stack } := by
      refine e3.trans ?_
      rw [hf₂, State.calling_eq h.top, State.setFrames_setFrames, State.setTop_of_frames _ hr', hr]
      rfl
    have hsame : U.sameButNew ({ U with heap := s₂.heap, slotsUsed := s₂.slotsUsed } : State) L mc ms := by
      refine ⟨?_, q2, q3, q4, q5, q6⟩
      obtain ⟨t, ht, -⟩ := State.frames_cons hr
      show ({ U with heap := s₂.heap, slotsUsed := s₂.slotsUsed } : State) = { U.setFrames U.frames with heap := s₂.heap, slotsUsed := s₂.slotsUsed }
      rw [State.setFrames_self ht]
    subst hg
    refine Or.inl ⟨v, ⟨(({ U with heap := s₂.heap, slotsUsed := s₂.slotsUsed } : State).setVm s₂.vm), Ls ++ L, c0 + mc, s0 + ms⟩,
      ⟨X.admits, X.cas, X.clock, X.frames, X.room, X.hears, X.method, X.code, (X.here.setHeapUsed s₂.heap s₂.slotsUsed).setVm hW'.alike, X.tail, State.WarmedH.trans X.warmed hW', X.limits, X.bytes, X.same.trans (hsame.setVm s.vm)⟩,
      ⟨g, mk, s₂, L, rfl, rfl, hqc, rfl, hL, rfl, rfl⟩, ?_⟩
    show Steps p.tables e below _ ((({ U with heap := s₂.heap, slotsUsed := s₂.slotsUsed } : State).setVm s₂.vm).setTop { g with pc := g.pc + len₂, stack := v.toList ++ g.stack })
    rw [← hs₂]
    exact hsteps
  · obtain ⟨e2, q2, q3, q4, q5, q6⟩ := id hsm
    have e3 : s₂ = ({ (U.calling g mk a).setFrames s₂.frames with heap := s₂.heap, slotsUsed := s₂.slotsUsed } : State).setVm s₂.vm := by
      have : s₂ = ({ s₂ with vm := (U.calling g mk a).vm } : State).setVm s₂.vm := rfl
      rw [e2] at this
      exact this
    have hf₂ : s₂.frames = .throwing q :: .java g :: U.frames.tail := hend
    have hW' : U.WarmedH s₂.vm := hW₂
    have hs₂ : s₂ = ((({ U with heap := s₂.heap, slotsUsed := s₂.slotsUsed } : State).setVm s₂.vm).setTop g).pushFrame (.throwing q) := by
      refine e3.trans ?_
      rw [hf₂, State.calling_eq h.top, State.setFrames_setFrames, State.pushFrame, State.frames_setTop _ hr', State.setTop_of_frames _ hr', State.setFrames_setFrames, hr]
      rfl
    have hsame : U.sameButNew ({ U with heap := s₂.heap, slotsUsed := s₂.slotsUsed } : State) L mc ms := by
      refine ⟨?_, q2, q3, q4, q5, q6⟩
      obtain ⟨t, ht, -⟩ := State.frames_cons hr
      show ({ U with heap := s₂.heap, slotsUsed := s₂.slotsUsed } : State) = { U.setFrames U.frames with heap := s₂.heap, slotsUsed := s₂.slotsUsed }
      rw [State.setFrames_self ht]
    subst hg
    refine Or.inr ⟨q, ⟨(({ U with heap := s₂.heap, slotsUsed := s₂.slotsUsed } : State).setVm s₂.vm), Ls ++ L, c0 + mc, s0 + ms⟩,
      ⟨X.admits, X.cas, X.clock, X.frames, X.room, X.hears, X.method, X.code, (X.here.setHeapUsed s₂.heap s₂.slotsUsed).setVm hW'.alike, X.tail, State.WarmedH.trans X.warmed hW', X.limits, X.bytes, X.same.trans (hsame.setVm s.vm)⟩,
      ⟨g, mk, s₂, L, E, ce, rfl, rfl, hx, hce, hcv, hcl, rfl, hL, rfl, rfl⟩, ?_⟩
    show Steps p.tables e below _ (((({ U with heap := s₂.heap, slotsUsed := s₂.slotsUsed } : State).setVm s₂.vm).setTop g).pushFrame (.throwing q))
    rw [← hs₂]
    exact hsteps
end Payer
section Calls
variable {p : Program} {l : Launch} {e : Env} {R : Room} {s : State} {m : MethodId} {args : Array Value} {below : List Frame} {meth : Method} {c : Code} {T : State} {locs : List Loc} {cells slots : Nat}
theorem vx_callV (X : Stand p l e R s m args below meth c T locs cells slots) (hexec : p.tables.exec = Jvm.exec) {own C : String} {index : Nat} {y : MethodName} {bytes : ByteArray} {maxL : Nat} {ret : Option FieldType}
    (hown : s.vm.findClass own = some m.cls) (hlink : (Cond.methodLink own index y).before args s = true) (hinst : (Cond.instanceMethod y).before args s = true) (hsel : (Cond.selects C y y).before args s = true)
    (hcode : (Cond.code y bytes maxL ret).before args s = true) (hy : y.cls ≠ "java/lang/invoke/MethodHandle" ∧ y.cls ≠ "java/lang/invoke/VarHandle")
    {W9 : Nat} {Pre : Pt → Array Value → Prop} {Post : Pt → Array Value → Option Value → Pt → Prop} {PostX : Pt → Array Value → Addr → Pt → Prop} (hK : vx_Back l R p e below s args y 3 W9 Pre Post PostX)
    {b : Addr} {cellB : Cell} (hcell : T.heap[b]? = some cellB) (hobj : cellB.vm.isStatics = false) (hcls : s.vm.findClass C = some cellB.cls)
    {g : JFrame} (hg : g.method = m) (hsize : g.locals.size = c.maxLocals) {argsL rest : List Value} (hlen : ∀ sig, parseMethodDescriptor y.desc = some sig → argsL.length = sig.parameters.length)
    (hstack : g.stack = argsL.reverse ++ .ref b :: rest) (hW : 2 * g.monitorRoom + (rest.map fun v => v.category).sum ≤ W9) (hdg : decode c.code g.pc = .ok (.invokevirtual index, 3))
    (hpre : ∀ vm₁, s.WarmedH vm₁ → Pre ⟨T.setVm vm₁, locs, cells, slots⟩ (Value.ref b :: argsL).toArray) :
    (∃ (v : Option Value) (vm₁ : Vm) (B : Pt), s.WarmedH vm₁ ∧ Stand p l e R s m args below meth c B.U B.locs B.cells B.slots ∧ Post ⟨T.setVm vm₁, locs, cells, slots⟩ (Value.ref b :: argsL).toArray v B ∧
      ∀ target, Steps p.tables e below (B.U.setTop { g with pc := g.pc + 3, stack := v.toList ++ rest }) target → Steps p.tables e below (T.setTop g) target) ∨
    (∃ (q : Addr) (vm₁ : Vm) (B : Pt), s.WarmedH vm₁ ∧ Stand p l e R s m args below meth c B.U B.locs B.cells B.slots ∧ PostX ⟨T.setVm vm₁, locs, cells, slots⟩ (Value.ref b :: argsL).toArray q B ∧
      Steps p.tables e below (T.setTop g) ((B.U.setTop { g with stack := rest }).pushFrame (.throwing q))) := by
  obtain ⟨mk, methM, hnamed, hmethM, hstM, habM⟩ := Cond.instanceMethod_spec hinst
  obtain ⟨methM', cM, hmethM', -, -, -, -, -, -, hsigM⟩ := Cond.code_spec hnamed hcode
  cases hmethM.symm.trans hmethM'
  obtain ⟨c2, r2, m2, q1, q2, q3, q4, kP, hkP, hkPi⟩ := Cond.selects_spec hsel
  cases hcls.symm.trans q1
  cases (State.methodFound?_of_named hnamed hy).symm.trans q2
  cases hnamed.symm.trans q3
  have hselP : selectMethod e.platform s.vm cellB.cls mk = .method mk := by rw [Launch.admits_selectMethod X.admits]; exact q4
  obtain ⟨vm₁, X₁, hstep₁⟩ := X.invokevirtual hexec hown hlink hnamed hmethM hstM hkP hkPi hy (a := b) (cell := cellB) hcell
    (fun z h => by rw [h] at hobj; cases hobj) hselP hmethM habM hkP hkPi (g := g) hg (argsL := argsL) (rest := rest) (hlen _ hsigM) hstack hdg
  rcases hK m meth c ⟨T.setVm vm₁, locs, cells, slots⟩ { g with stack := rest } (.invokevirtual index) mk (Value.ref b :: argsL).toArray X₁ hg hsize hdg hW (X₁.named hnamed) (hpre vm₁ X₁.warmed) with ⟨v, B, X', hpost, hsteps⟩ | ⟨q, B, X', hpost, hsteps⟩
  · exact Or.inl ⟨v, vm₁, B, X₁.warmed, X', hpost, fun target h => hstep₁ _ fun acts => by rw [doInvoke_state]; exact hsteps.trans h⟩
  · exact Or.inr ⟨q, vm₁, B, X₁.warmed, X', hpost, hstep₁ _ fun acts => by rw [doInvoke_state]; exact hsteps⟩
theorem vx_callS (X : Stand p l e R s m args below meth c T locs cells slots) (hexec : p.tables.exec = Jvm.exec) {own : String} {index : Nat} {y : MethodName} {bytes : ByteArray} {maxL : Nat} {ret : Option FieldType}
    (hown : s.vm.findClass own = some m.cls) (hlink : (Cond.methodLink own index y).before args s = true) (hstat : (Cond.static y).before args s = true) (hinit : (Cond.initialized y.cls).before args s = true)
    (hcode : (Cond.code y bytes maxL ret).before args s = true) (hy : y.cls ≠ "java/lang/invoke/MethodHandle" ∧ y.cls ≠ "java/lang/invoke/VarHandle")
    {W9 : Nat} {Pre : Pt → Array Value → Prop} {Post : Pt → Array Value → Option Value → Pt → Prop} {PostX : Pt → Array Value → Addr → Pt → Prop} (hK : vx_Back l R p e below s args y 3 W9 Pre Post PostX)
    {g : JFrame} (hg : g.method = m) (hsize : g.locals.size = c.maxLocals) {argsL rest : List Value} (hlen : ∀ sig, parseMethodDescriptor y.desc = some sig → argsL.length = sig.parameters.length)
    (hstack : g.stack = argsL.reverse ++ rest) (hW : 2 * g.monitorRoom + (rest.map fun v => v.category).sum ≤ W9) (hdg : decode c.code g.pc = .ok (.invokestatic index, 3))
    (hpre : ∀ vm₁, s.WarmedH vm₁ → Pre ⟨T.setVm vm₁, locs, cells, slots⟩ argsL.toArray) :
    (∃ (v : Option Value) (vm₁ : Vm) (B : Pt), s.WarmedH vm₁ ∧ Stand p l e R s m args below meth c B.U B.locs B.cells B.slots ∧ Post ⟨T.setVm vm₁, locs, cells, slots⟩ argsL.toArray v B ∧
      ∀ target, Steps p.tables e below (B.U.setTop { g with pc := g.pc + 3, stack := v.toList ++ rest }) target → Steps p.tables e below (T.setTop g) target) ∨
    (∃ (q : Addr) (vm₁ : Vm) (B : Pt), s.WarmedH vm₁ ∧ Stand p l e R s m args below meth c B.U B.locs B.cells B.slots ∧ PostX ⟨T.setVm vm₁, locs, cells, slots⟩ argsL.toArray q B ∧
      Steps p.tables e below (T.setTop g) ((B.U.setTop { g with stack := rest }).pushFrame (.throwing q))) := by
  obtain ⟨mk, hnamed⟩ := Cond.code_named hcode
  obtain ⟨methM, cM, hmethM, -, -, -, -, -, -, hsigM⟩ := Cond.code_spec hnamed hcode
  have hstatic : methM.isStatic = true := Cond.static_spec hnamed hmethM hstat
  obtain ⟨kP, hkP, -⟩ := className_of_methodNamed hnamed
  have hinitP : kP.init = .initialized := Cond.initialized_spec (findClass_of_methodNamed hnamed) hkP hinit
  obtain ⟨vm₁, X₁, hstep₁⟩ := X.invokestatic hexec hown hlink hnamed hmethM hstatic hkP hinitP hy (g := g) hg (argsL := argsL) (rest := rest) (hlen _ hsigM) hstack hdg
  rcases hK m meth c ⟨T.setVm vm₁, locs, cells, slots⟩ { g with stack := rest } (.invokestatic index) mk argsL.toArray X₁ hg hsize hdg hW (X₁.named hnamed) (hpre vm₁ X₁.warmed) with ⟨v, B, X', hpost, hsteps⟩ | ⟨q, B, X', hpost, hsteps⟩
  · exact Or.inl ⟨v, vm₁, B, X₁.warmed, X', hpost, fun target h => hstep₁ _ fun acts => by rw [doInvoke_state]; exact hsteps.trans h⟩
  · exact Or.inr ⟨q, vm₁, B, X₁.warmed, X', hpost, hstep₁ _ fun acts => by rw [doInvoke_state]; exact hsteps⟩
end Calls
theorem vx_cls {s : State} {T : State} {vm₁ : Vm} {E : String} {k : ClassId} (hW : s.WarmedH vm₁) (h : (T.setVm vm₁).vm.findClass E = some k) : s.vm.findClass E = some k := by
  have h1 : vm₁.findClass E = some k := h
  rw [hW.alike.findClass] at h1
  exact h1
/-- the method's frame g, with q thrown over it -/
def vx_W (p : Program) (l : Launch) (e : Env) (R : Room) (s : State) (m : MethodId) (args : Array Value) (below : List Frame) (meth : Method) (c : Code) (H : Heap) (locs : List Loc) (cells slots : Nat) (Q : State → Prop) (g : JFrame) (q : Addr) : Prop :=
  ∀ T : State, T.heap = H → Stand p l e R s m args below meth c T locs cells slots → ∃ t, Steps p.tables e below ((T.setTop g).pushFrame (.throwing q)) t ∧ Q t
def vx_Run (p : Program) (l : Launch) (e : Env) (R : Room) (s : State) (m : MethodId) (args : Array Value) (below : List Frame) (meth : Method) (c : Code) (H : Heap) (locs : List Loc) (cells slots mc ms : Nat) (g : JFrame) (rest : List Value) (Qa : State → Outcome → State → Prop) (XC : String → State → State → Prop) (free : Addr → Prop) : Prop :=
  ∀ T : State, T.heap = H → Stand p l e R s m args below meth c T locs cells slots →
    (∃ (v : Option Value) (st₀ t T' : State) (L : List Loc), st₀.heap = H ∧ Stand p l e R s m args below meth c T' (locs ++ L) (cells + mc) (slots + ms) ∧ (∀ q ∈ L, free q.base) ∧ T'.heap = t.heap ∧ T'.vm = t.vm ∧ Qa st₀ (.returned v) t ∧
      Goes p e below T g T' { g with pc := g.pc + 3, stack := v.toList ++ rest }) ∨
    (∃ (q : Addr) (st₀ t T' : State) (L : List Loc) (E : String) (ce : Cell), st₀.heap = H ∧ Stand p l e R s m args below meth c T' (locs ++ L) (cells + mc) (slots + ms) ∧ (∀ z ∈ L, free z.base) ∧ T'.heap = t.heap ∧ T'.vm = t.vm ∧ XC E st₀ t ∧ t.heap[q]? = some ce ∧ ce.vm = .none ∧ s.vm.findClass E = some ce.cls ∧
      Steps p.tables e below (T.setTop g) ((T'.setTop { g with stack := rest }).pushFrame (.throwing q)))
def vx_X {S : Type} (px : S → Prop) (B : String → S → State → Prop) (A : Nat → Prop) : String → State → State → Prop := fun E st t => ∃ u : S, px u ∧ B E u t ∧ va_F A st t
section Runs
variable {p : Program} {l : Launch} {e : Env} {R : Room} {s : State} {m : MethodId} {args : Array Value} {below : List Frame} {meth : Method} {c : Code} {H : Heap} {locs : List Loc} {cells slots : Nat}
variable {y : MethodName} {bytes cc : ByteArray} {maxL nL mc ms n index : Nat} {ret : Option FieldType} {ws : List Cond} {rm : Room} {Pc : Array Value → State → Prop} {Qc : Array Value → State → Outcome → State → Prop} {XC : String → State → State → Prop} {free : Addr → Prop} {Ts : List Cond} {own C : String} {b : Addr} {As rest : List Value} {g : JFrame}
theorem vx_callBack (cb : CallB R s args own index y bytes maxL ret ws rm mc ms n) (hM : vx_Met l y ws rm Pc Qc XC mc ms free) (hbl : FrameBlind Pc) : vx_Back l R p e below s args y 3 8 (PreOf R mc ms Pc) (PostOf Qc mc ms free) (vx_Post XC mc ms free) := by
  obtain ⟨hrc, hrs, hfr, hlo, hws, hcw, -, hini, -⟩ := cb
  exact vx_back (bytes := bytes) (maxL := maxL) (ret := ret) hM hbl hrc hrs hfr hlo hws hcw (fun a' U hW => word_at hW (Or.inl (by first | rfl | simp [Cond.onTables, Cond.keeps, Cond.steady])) hini)
theorem vx_runV (S : CallFix p m c cc nL s args Ts own) (hM : vx_Met l y ws rm Pc Qc XC mc ms free) (cw : CallW R s args own C index y bytes maxL ret ws rm mc ms n) (hp : PreV s H C b Pc As)
    (hg : g.method = m) (hn : As.length = n) (hsize : g.locals.size = nL) (hstack : g.stack = As.reverse ++ .ref b :: rest) (hW : 2 * g.monitorRoom + (rest.map fun v => v.category).sum ≤ 8) (hdg : decode cc g.pc = .ok (.invokevirtual index, 3)) (hf : cells + mc ≤ R.cells ∧ slots + ms ≤ R.slots) :
    vx_Run p l e R s m args below meth c H locs cells slots mc ms g rest (Qc (Value.ref b :: As).toArray) XC free := by
  have hK : vx_Back l R p e below s args y 3 8 (PreOf R mc ms Pc) (PostOf Qc mc ms free) (vx_Post XC mc ms free) := vx_callBack cw.1 hM hp.1
  obtain ⟨⟨-, -, -, -, -, -, hcode, -, hy, hlen, hl⟩, hin, hse⟩ := cw
  obtain ⟨hx, hb, hml, ho, -⟩ := S
  obtain ⟨-, ⟨cellB, hcB, hoB, hclB⟩, hPc⟩ := hp
  intro T hT X
  rcases vx_callV X hx (C := C) (bytes := bytes) (maxL := maxL) (ret := ret) ho hl hin hse hcode hy hK (by rw [hT]; exact hcB) hoB hclB hg (hsize.trans hml.symm) (argsL := As) (rest := rest) (fun sig h => hn.trans (hlen sig h)) hstack hW (by rw [hb]; exact hdg)
    (fun vm₁ hW₁ => ⟨hf.1, hf.2, hPc (T.setVm vm₁) hT hW₁⟩) with ⟨v, vm₁, ⟨U', l2, c2, s2⟩, hW₁, X', ⟨g', mk, t, L, e1, e2, hq, h1, hL, h2, h3⟩, st⟩ | ⟨q, vm₁, ⟨U', l2, c2, s2⟩, hW₁, X', ⟨g', mk, t, L, E, ce, e1, e2, hq, hce, hcv, hcl, h1, hL, h2, h3⟩, st⟩
  · dsimp only [Pt.U, Pt.locs, Pt.cells, Pt.slots] at X' e1 e2 h1 h2 h3 st
    subst h1; subst h2; subst h3
    exact Or.inl ⟨v, (T.setVm vm₁).calling g' mk (Value.ref b :: As).toArray, t, U', L, hT, X', hL, e1, e2, hq, st⟩
  · dsimp only [Pt.U, Pt.locs, Pt.cells, Pt.slots] at X' e1 e2 h1 h2 h3 st hcl
    subst h1; subst h2; subst h3
    exact Or.inr ⟨q, (T.setVm vm₁).calling g' mk (Value.ref b :: As).toArray, t, U', L, E, ce, hT, X', hL, e1, e2, hq, hce, hcv, vx_cls hW₁ hcl, st⟩
theorem vx_runS (S : CallFix p m c cc nL s args Ts own) (hM : vx_Met l y ws rm Pc Qc XC mc ms free) (cw : CallB R s args own index y bytes maxL ret ws rm mc ms n ∧ (Cond.static y).before args s = true) (hp : PreS s H Pc As)
    (hg : g.method = m) (hn : As.length = n) (hsize : g.locals.size = nL) (hstack : g.stack = As.reverse ++ rest) (hW : 2 * g.monitorRoom + (rest.map fun v => v.category).sum ≤ 8) (hdg : decode cc g.pc = .ok (.invokestatic index, 3)) (hf : cells + mc ≤ R.cells ∧ slots + ms ≤ R.slots) :
    vx_Run p l e R s m args below meth c H locs cells slots mc ms g rest (Qc As.toArray) XC free := by
  have hK : vx_Back l R p e below s args y 3 8 (PreOf R mc ms Pc) (PostOf Qc mc ms free) (vx_Post XC mc ms free) := vx_callBack cw.1 hM hp.1
  obtain ⟨⟨-, -, -, -, -, -, hcode, hini, hy, hlen, hl⟩, hstt⟩ := cw
  obtain ⟨hx, hb, hml, ho, -⟩ := S
  intro T hT X
  rcases vx_callS X hx (bytes := bytes) (maxL := maxL) (ret := ret) ho hl hstt hini hcode hy hK hg (hsize.trans hml.symm) (argsL := As) (rest := rest) (fun sig h => hn.trans (hlen sig h)) hstack hW (by rw [hb]; exact hdg)
    (fun vm₁ hW₁ => ⟨hf.1, hf.2, hp.2 (T.setVm vm₁) hT hW₁⟩) with ⟨v, vm₁, ⟨U', l2, c2, s2⟩, hW₁, X', ⟨g', mk, t, L, e1, e2, hq, h1, hL, h2, h3⟩, st⟩ | ⟨q, vm₁, ⟨U', l2, c2, s2⟩, hW₁, X', ⟨g', mk, t, L, E, ce, e1, e2, hq, hce, hcv, hcl, h1, hL, h2, h3⟩, st⟩
  · dsimp only [Pt.U, Pt.locs, Pt.cells, Pt.slots] at X' e1 e2 h1 h2 h3 st
    subst h1; subst h2; subst h3
    exact Or.inl ⟨v, (T.setVm vm₁).calling g' mk As.toArray, t, U', L, hT, X', hL, e1, e2, hq, st⟩
  · dsimp only [Pt.U, Pt.locs, Pt.cells, Pt.slots] at X' e1 e2 h1 h2 h3 st hcl
    subst h1; subst h2; subst h3
    exact Or.inr ⟨q, (T.setVm vm₁).calling g' mk As.toArray, t, U', L, E, ce, hT, X', hL, e1, e2, hq, hce, hcv, vx_cls hW₁ hcl, st⟩
end Runs
section Rows
variable {p : Program} {l : Launch} {e : Env} {R : Room} {s : State} {m : MethodId} {args : Array Value} {below : List Frame} {meth : Method} {c : Code} {H : Heap} {locs : List Loc} {cells slots : Nat} {Q : State → Prop}
variable {mc ms : Nat} {free : Addr → Prop} {A0 A1 : Nat → Prop} {H0 : Heap} {a : Array Value} {pc : Nat} {ls : Array Slot} {st0 rest : List Value}
theorem vx_keep {st₀ t T' : State} {L : List Loc} (h0 : st₀.heap = H) (e1 : T'.heap = t.heap) (hS : va_S A0 H0 H locs) (hA : ∀ q, q < H.size → A1 q → A0 q) (hf : ∀ q, free q → A0 q) (hL : ∀ q ∈ L, free q.base) (hF : va_F A1 st₀ t) :
    H.size ≤ T'.heap.size ∧ (∀ q : Nat, q < H.size → ¬ A1 q → T'.heap[q]? = H[q]?) ∧ va_S A0 H0 T'.heap (locs ++ L) := by
  obtain ⟨hz, hk⟩ := hF
  rw [h0] at hz hk
  exact ⟨by rw [e1]; exact hz, fun q h1 h2 => by rw [e1]; exact hk q h1 h2,
    ⟨Nat.le_trans hS.1 (by rw [e1]; exact hz), fun q h1 h2 => by rw [e1, hk q (Nat.lt_of_lt_of_le h1 hS.1) (fun z => h2 (hA q (Nat.lt_of_lt_of_le h1 hS.1) z))]; exact hS.2.1 q h1 h2, fun q hq => by
      rcases List.mem_append.mp hq with h | h
      · exact hS.2.2 q h
      · exact hf _ (hL q h)⟩⟩
theorem vx_calli {S SX : Type} {post : Int32 → S → Prop} {px : SX → Prop} {B : S → State → Prop} {BX : String → SX → State → Prop} {AX : Nat → Prop} (hr : vx_Run p l e R s m args below meth c H locs cells slots mc ms (F0 m pc ls st0) rest (va_Qi post B A1 a) (vx_X px BX AX) free) (hS : va_S A0 H0 H locs) (hA : ∀ q, q < H.size → A1 q → A0 q) (hf : ∀ q, free q → A0 q) (hAX : ∀ q, q < H.size → AX q → A0 q)
    (kx : ∀ (E : String) (ce : Cell) (q9 : Addr) (u : SX) (t : State) (H1 : Heap) (locs1 : List Loc), t.heap = H1 → s.vm.Alike t.vm → px u → BX E u t → H.size ≤ H1.size → (∀ q : Nat, q < H.size → ¬ AX q → H1[q]? = H[q]?) → va_S A0 H0 H1 locs1 → H1[q9]? = some ce → ce.vm = .none → s.vm.findClass E = some ce.cls → vx_W p l e R s m args below meth c H1 locs1 (cells + mc) (slots + ms) Q (F0 m pc ls rest) q9)
    (kk : ∀ (r : Int32) (u : S) (t : State) (H1 : Heap) (locs1 : List Loc), t.heap = H1 → s.vm.Alike t.vm → post r u → B u t → H.size ≤ H1.size → (∀ q : Nat, q < H.size → ¬ A1 q → H1[q]? = H[q]?) → va_S A0 H0 H1 locs1 → W p l e R s m args below meth c H1 locs1 (cells + mc) (slots + ms) Q (F0 m (pc + 3) ls (.int r :: rest))) : W p l e R s m args below meth c H locs cells slots Q (F0 m pc ls st0) := by
  intro T hT X
  rcases hr T hT X with ⟨v, st₀, t, T', L, h0, X', hL, e1, e2, ⟨⟨r, u, hv, hp, hb⟩, hF⟩, st⟩ | ⟨q, st₀, t, T', L, E, ce, h0, X', hL, e1, e2, ⟨u, hp, hb, hF⟩, hce, hcv, hcl, st⟩
  · cases hv
    obtain ⟨k1, k2, k3⟩ := vx_keep h0 e1 hS hA hf hL hF
    obtain ⟨t2, a1, b1⟩ := kk r u t T'.heap (locs ++ L) e1.symm (by rw [← e2]; exact X'.warmed.alike) hp hb k1 k2 k3 T' rfl X'
    exact ⟨t2, st t2 a1, b1⟩
  · obtain ⟨k1, k2, k3⟩ := vx_keep h0 e1 hS hAX hf hL hF
    obtain ⟨t2, a1, b1⟩ := kx E ce q u t T'.heap (locs ++ L) e1.symm (by rw [← e2]; exact X'.warmed.alike) hp hb k1 k2 k3 (by rw [e1]; exact hce) hcv hcl T' rfl X'
    exact ⟨t2, st.trans a1, b1⟩
theorem vx_calll {S SX : Type} {post : Int64 → S → Prop} {px : SX → Prop} {B : S → State → Prop} {BX : String → SX → State → Prop} {AX : Nat → Prop} (hr : vx_Run p l e R s m args below meth c H locs cells slots mc ms (F0 m pc ls st0) rest (va_Ql post B A1 a) (vx_X px BX AX) free) (hS : va_S A0 H0 H locs) (hA : ∀ q, q < H.size → A1 q → A0 q) (hf : ∀ q, free q → A0 q) (hAX : ∀ q, q < H.size → AX q → A0 q)
    (kx : ∀ (E : String) (ce : Cell) (q9 : Addr) (u : SX) (t : State) (H1 : Heap) (locs1 : List Loc), t.heap = H1 → s.vm.Alike t.vm → px u → BX E u t → H.size ≤ H1.size → (∀ q : Nat, q < H.size → ¬ AX q → H1[q]? = H[q]?) → va_S A0 H0 H1 locs1 → H1[q9]? = some ce → ce.vm = .none → s.vm.findClass E = some ce.cls → vx_W p l e R s m args below meth c H1 locs1 (cells + mc) (slots + ms) Q (F0 m pc ls rest) q9)
    (kk : ∀ (r : Int64) (u : S) (t : State) (H1 : Heap) (locs1 : List Loc), t.heap = H1 → s.vm.Alike t.vm → post r u → B u t → H.size ≤ H1.size → (∀ q : Nat, q < H.size → ¬ A1 q → H1[q]? = H[q]?) → va_S A0 H0 H1 locs1 → W p l e R s m args below meth c H1 locs1 (cells + mc) (slots + ms) Q (F0 m (pc + 3) ls (.long r :: rest))) : W p l e R s m args below meth c H locs cells slots Q (F0 m pc ls st0) := by
  intro T hT X
  rcases hr T hT X with ⟨v, st₀, t, T', L, h0, X', hL, e1, e2, ⟨⟨r, u, hv, hp, hb⟩, hF⟩, st⟩ | ⟨q, st₀, t, T', L, E, ce, h0, X', hL, e1, e2, ⟨u, hp, hb, hF⟩, hce, hcv, hcl, st⟩
  · cases hv
    obtain ⟨k1, k2, k3⟩ := vx_keep h0 e1 hS hA hf hL hF
    obtain ⟨t2, a1, b1⟩ := kk r u t T'.heap (locs ++ L) e1.symm (by rw [← e2]; exact X'.warmed.alike) hp hb k1 k2 k3 T' rfl X'
    exact ⟨t2, st t2 a1, b1⟩
  · obtain ⟨k1, k2, k3⟩ := vx_keep h0 e1 hS hAX hf hL hF
    obtain ⟨t2, a1, b1⟩ := kx E ce q u t T'.heap (locs ++ L) e1.symm (by rw [← e2]; exact X'.warmed.alike) hp hb k1 k2 k3 (by rw [e1]; exact hce) hcv hcl T' rfl X'
    exact ⟨t2, st.trans a1, b1⟩
theorem vx_callf {S SX : Type} {post : UInt32 → S → Prop} {px : SX → Prop} {B : S → State → Prop} {BX : String → SX → State → Prop} {AX : Nat → Prop} (hr : vx_Run p l e R s m args below meth c H locs cells slots mc ms (F0 m pc ls st0) rest (va_Qf post B A1 a) (vx_X px BX AX) free) (hS : va_S A0 H0 H locs) (hA : ∀ q, q < H.size → A1 q → A0 q) (hf : ∀ q, free q → A0 q) (hAX : ∀ q, q < H.size → AX q → A0 q)
    (kx : ∀ (E : String) (ce : Cell) (q9 : Addr) (u : SX) (t : State) (H1 : Heap) (locs1 : List Loc), t.heap = H1 → s.vm.Alike t.vm → px u → BX E u t → H.size ≤ H1.size → (∀ q : Nat, q < H.size → ¬ AX q → H1[q]? = H[q]?) → va_S A0 H0 H1 locs1 → H1[q9]? = some ce → ce.vm = .none → s.vm.findClass E = some ce.cls → vx_W p l e R s m args below meth c H1 locs1 (cells + mc) (slots + ms) Q (F0 m pc ls rest) q9)
    (kk : ∀ (r : UInt32) (u : S) (t : State) (H1 : Heap) (locs1 : List Loc), t.heap = H1 → s.vm.Alike t.vm → post r u → B u t → H.size ≤ H1.size → (∀ q : Nat, q < H.size → ¬ A1 q → H1[q]? = H[q]?) → va_S A0 H0 H1 locs1 → W p l e R s m args below meth c H1 locs1 (cells + mc) (slots + ms) Q (F0 m (pc + 3) ls (.float r :: rest))) : W p l e R s m args below meth c H locs cells slots Q (F0 m pc ls st0) := by
  intro T hT X
  rcases hr T hT X with ⟨v, st₀, t, T', L, h0, X', hL, e1, e2, ⟨⟨r, u, hv, hp, hb⟩, hF⟩, st⟩ | ⟨q, st₀, t, T', L, E, ce, h0, X', hL, e1, e2, ⟨u, hp, hb, hF⟩, hce, hcv, hcl, st⟩
  · cases hv
    obtain ⟨k1, k2, k3⟩ := vx_keep h0 e1 hS hA hf hL hF
    obtain ⟨t2, a1, b1⟩ := kk r u t T'.heap (locs ++ L) e1.symm (by rw [← e2]; exact X'.warmed.alike) hp hb k1 k2 k3 T' rfl X'
    exact ⟨t2, st t2 a1, b1⟩
  · obtain ⟨k1, k2, k3⟩ := vx_keep h0 e1 hS hAX hf hL hF
    obtain ⟨t2, a1, b1⟩ := kx E ce q u t T'.heap (locs ++ L) e1.symm (by rw [← e2]; exact X'.warmed.alike) hp hb k1 k2 k3 (by rw [e1]; exact hce) hcv hcl T' rfl X'
    exact ⟨t2, st.trans a1, b1⟩
theorem vx_calld {S SX : Type} {post : UInt64 → S → Prop} {px : SX → Prop} {B : S → State → Prop} {BX : String → SX → State → Prop} {AX : Nat → Prop} (hr : vx_Run p l e R s m args below meth c H locs cells slots mc ms (F0 m pc ls st0) rest (va_Qd post B A1 a) (vx_X px BX AX) free) (hS : va_S A0 H0 H locs) (hA : ∀ q, q < H.size → A1 q → A0 q) (hf : ∀ q, free q → A0 q) (hAX : ∀ q, q < H.size → AX q → A0 q)
    (kx : ∀ (E : String) (ce : Cell) (q9 : Addr) (u : SX) (t : State) (H1 : Heap) (locs1 : List Loc), t.heap = H1 → s.vm.Alike t.vm → px u → BX E u t → H.size ≤ H1.size → (∀ q : Nat, q < H.size → ¬ AX q → H1[q]? = H[q]?) → va_S A0 H0 H1 locs1 → H1[q9]? = some ce → ce.vm = .none → s.vm.findClass E = some ce.cls → vx_W p l e R s m args below meth c H1 locs1 (cells + mc) (slots + ms) Q (F0 m pc ls rest) q9)
    (kk : ∀ (r : UInt64) (u : S) (t : State) (H1 : Heap) (locs1 : List Loc), t.heap = H1 → s.vm.Alike t.vm → post r u → B u t → H.size ≤ H1.size → (∀ q : Nat, q < H.size → ¬ A1 q → H1[q]? = H[q]?) → va_S A0 H0 H1 locs1 → W p l e R s m args below meth c H1 locs1 (cells + mc) (slots + ms) Q (F0 m (pc + 3) ls (.double r :: rest))) : W p l e R s m args below meth c H locs cells slots Q (F0 m pc ls st0) := by
  intro T hT X
  rcases hr T hT X with ⟨v, st₀, t, T', L, h0, X', hL, e1, e2, ⟨⟨r, u, hv, hp, hb⟩, hF⟩, st⟩ | ⟨q, st₀, t, T', L, E, ce, h0, X', hL, e1, e2, ⟨u, hp, hb, hF⟩, hce, hcv, hcl, st⟩
  · cases hv
    obtain ⟨k1, k2, k3⟩ := vx_keep h0 e1 hS hA hf hL hF
    obtain ⟨t2, a1, b1⟩ := kk r u t T'.heap (locs ++ L) e1.symm (by rw [← e2]; exact X'.warmed.alike) hp hb k1 k2 k3 T' rfl X'
    exact ⟨t2, st t2 a1, b1⟩
  · obtain ⟨k1, k2, k3⟩ := vx_keep h0 e1 hS hAX hf hL hF
    obtain ⟨t2, a1, b1⟩ := kx E ce q u t T'.heap (locs ++ L) e1.symm (by rw [← e2]; exact X'.warmed.alike) hp hb k1 k2 k3 (by rw [e1]; exact hce) hcv hcl T' rfl X'
    exact ⟨t2, st.trans a1, b1⟩
theorem vx_callv {S SX : Type} {post : S → Prop} {px : SX → Prop} {B : S → State → Prop} {BX : String → SX → State → Prop} {AX : Nat → Prop} (hr : vx_Run p l e R s m args below meth c H locs cells slots mc ms (F0 m pc ls st0) rest (va_Qv post B A1 a) (vx_X px BX AX) free) (hS : va_S A0 H0 H locs) (hA : ∀ q, q < H.size → A1 q → A0 q) (hf : ∀ q, free q → A0 q) (hAX : ∀ q, q < H.size → AX q → A0 q)
    (kx : ∀ (E : String) (ce : Cell) (q9 : Addr) (u : SX) (t : State) (H1 : Heap) (locs1 : List Loc), t.heap = H1 → s.vm.Alike t.vm → px u → BX E u t → H.size ≤ H1.size → (∀ q : Nat, q < H.size → ¬ AX q → H1[q]? = H[q]?) → va_S A0 H0 H1 locs1 → H1[q9]? = some ce → ce.vm = .none → s.vm.findClass E = some ce.cls → vx_W p l e R s m args below meth c H1 locs1 (cells + mc) (slots + ms) Q (F0 m pc ls rest) q9)
    (kk : ∀ (u : S) (t : State) (H1 : Heap) (locs1 : List Loc), t.heap = H1 → s.vm.Alike t.vm → post u → B u t → H.size ≤ H1.size → (∀ q : Nat, q < H.size → ¬ A1 q → H1[q]? = H[q]?) → va_S A0 H0 H1 locs1 → W p l e R s m args below meth c H1 locs1 (cells + mc) (slots + ms) Q (F0 m (pc + 3) ls (rest))) : W p l e R s m args below meth c H locs cells slots Q (F0 m pc ls st0) := by
  intro T hT X
  rcases hr T hT X with ⟨v, st₀, t, T', L, h0, X', hL, e1, e2, ⟨⟨u, hv, hp, hb⟩, hF⟩, st⟩ | ⟨q, st₀, t, T', L, E, ce, h0, X', hL, e1, e2, ⟨u, hp, hb, hF⟩, hce, hcv, hcl, st⟩
  · cases hv
    obtain ⟨k1, k2, k3⟩ := vx_keep h0 e1 hS hA hf hL hF
    obtain ⟨t2, a1, b1⟩ := kk u t T'.heap (locs ++ L) e1.symm (by rw [← e2]; exact X'.warmed.alike) hp hb k1 k2 k3 T' rfl X'
    exact ⟨t2, st t2 a1, b1⟩
  · obtain ⟨k1, k2, k3⟩ := vx_keep h0 e1 hS hAX hf hL hF
    obtain ⟨t2, a1, b1⟩ := kx E ce q u t T'.heap (locs ++ L) e1.symm (by rw [← e2]; exact X'.warmed.alike) hp hb k1 k2 k3 (by rw [e1]; exact hce) hcv hcl T' rfl X'
    exact ⟨t2, st.trans a1, b1⟩
/-- caught by the row x of this method's table; the rows ahead don't take it -/
theorem vx_catch {own name : String} {E : String} {ce : Cell} {q : Addr} (hown : s.vm.findClass own = some m.cls) (pre : List ExceptionTableEntry) (x : ExceptionTableEntry) (suf : List ExceptionTableEntry) (hsplit : c.exceptionTable.toList = pre ++ x :: suf)
    (hpass : ∀ z ∈ pre, covers z pc = false ∨ (z.catchType ≠ 0 ∧ ∃ nm : String, (Cond.classLink own z.catchType nm).before args s = true ∧ va_Nc E nm s)) (hx : covers x pc = true) (h0 : x.catchType ≠ 0)
    (hlink : (Cond.classLink own x.catchType name).before args s = true) (hcast : (Cond.castable E name).before args s = true) (hcell : H[q]? = some ce) (hv : ce.vm = .none) (hcl : s.vm.findClass E = some ce.cls)
    (kk : W p l e R s m args below meth c H locs cells slots Q (F0 m x.handlerPc ls [.ref q])) : vx_W p l e R s m args below meth c H locs cells slots Q (F0 m pc ls rest) q := by
  intro T hT X
  have hpl : e.platform.magicAccessors = ({} : Platform).magicAccessors := by rw [X.admits.platform]
  obtain ⟨c3, c4, hc3, hc4, hasg⟩ := Cond.castable_spec hcast
  cases Option.some.inj (hc3.symm.trans hcl)
  obtain ⟨c5, hc5, hcl5⟩ := Cond.classLink_spec hown hlink e.platform hpl
  cases Option.some.inj (hc4.symm.trans hc5)
  obtain ⟨vm', X', st⟩ := X.thenCaughtThrough q (g := F0 m pc ls rest) rfl (Steps.refl _) (by rw [hT]; exact hcell) (by rw [hv]; rfl) (by obtain ⟨k9, h9, -⟩ := Vm.findClass_spec hcl; exact ⟨k9, h9⟩) pre x suf hsplit
    (fun z hz => by
      rcases hpass z hz with h | ⟨hz0, nm, hl1, hn1⟩
      · exact Or.inl h
      · obtain ⟨c6, hc6, hcl6⟩ := Cond.classLink_spec hown hl1 e.platform hpl
        obtain ⟨a8, b8, h1, h2, h3⟩ := hn1
        cases Option.some.inj (h1.symm.trans hcl)
        cases Option.some.inj (h2.symm.trans hc6)
        exact Or.inr ⟨hz0, _, hcl6, h3⟩) hx (Or.inr ⟨h0, c4, hcl5, hasg⟩)
  obtain ⟨t, a1, b1⟩ := kk (T.setVm vm') hT X'
  exact ⟨t, st.trans a1, b1⟩
end Rows
section Ends
variable {p : Program} {l : Launch} {e : Env} {R : Room} {s : State} {m : MethodId} {args : Array Value} {below : List Frame} {meth : Method} {c : Code} {H : Heap} {locs : List Loc} {cells slots : Nat} {Q : State → Prop}
variable {mc ms : Nat} {free : Addr → Prop} {A0 A1 : Nat → Prop} {H0 : Heap} {a : Array Value} {ls : Array Slot} {st0 rest : List Value}
variable {Qc : Array Value → State → Outcome → State → Prop} {XC : String → State → State → Prop}
/-- what a body that may throw owes at its end -/
def vx_MQ (below : List Frame) (Qc : Array Value → State → Outcome → State → Prop) (XC : String → State → State → Prop) (a : Array Value) (s : State) (mc ms : Nat) (free : Addr → Prop) : State → Prop := fun t =>
  ∃ o, t.status = .running ∧ Ended t below o ∧ vx_Q Qc XC mc ms free a s o t
theorem vx_ret {g : JFrame} {mc ms : Nat} (k : W p l e R s m args below meth c H locs cells slots (MQ below Qc args s mc ms free) g) : W p l e R s m args below meth c H locs cells slots (vx_MQ below Qc XC args s mc ms free) g := by
  intro T hT X
  obtain ⟨t, a1, o, b1, b2, b3, b4⟩ := k T hT X
  exact ⟨t, a1, o, b1, b2, Or.inl ⟨b3, b4⟩⟩
/-- not caught here: it goes on to the caller -/
theorem vx_widen {g : JFrame} {q : Addr} {k n : Nat} (h1 : cells ≤ k) (h2 : slots ≤ n) (kk : vx_W p l e R s m args below meth c H locs k n Q g q) : vx_W p l e R s m args below meth c H locs cells slots Q g q := fun T hT X => kk T hT (stand_widen X h1 h2)
theorem vx_out {pc : Nat} {E : String} {ce : Cell} {q : Addr} {mc ms : Nat} (hout : ∀ x ∈ c.exceptionTable.toList, covers x pc = false) (hlocks : meth.locks = false) (hcell : H[q]? = some ce) (hv : ce.vm = .none) (hcl : s.vm.findClass E = some ce.cls)
    (hx : ∀ t : State, t.heap = H → s.vm.Alike t.vm → XC E s t) (hf : ∀ z ∈ locs, free z.base) (hc : cells ≤ mc) (hs : slots ≤ ms) :
    vx_W p l e R s m args below meth c H locs cells slots (vx_MQ below Qc XC args s mc ms free) (F0 m pc ls rest) q := by
  intro T hT X
  obtain ⟨st1, hrun, hend, hW, hsm⟩ := X.leaveThrown q (g := F0 m pc ls rest) rfl rfl rfl hout hlocks
  have hcell9 : (T.setFrames (.throwing q :: below)).heap[q]? = some ce := by
    show T.heap[q]? = some ce
    rw [hT]; exact hcell
  exact ⟨_, st1, .threw q, hrun, hend, Or.inr ⟨q, rfl, E, ce, locs, hx _ hT hW.alike, hcell9, hv, hcl, hW, hsm.mono hc hs, hf⟩⟩
theorem vx_frame {U : State} {k n : Nat} (h : s.sameButNew ({ U with vm := s.vm } : State) locs k n) : s.heap.size ≤ U.heap.size ∧ ∀ q : Nat, q < s.heap.size → (∀ z ∈ locs, z.base ≠ q) → U.heap[q]? = s.heap[q]? := by
  obtain ⟨-, h2, -, -, -, h6⟩ := h
  refine ⟨h2, fun q hq hz => ?_⟩
  obtain ⟨c9, e1, e2, e3, e4⟩ := h6 q _ (Array.getElem?_eq_getElem hq)
  have hs : c9.slots = (s.heap[q]).slots := Array.ext_getElem? fun i => e4 i fun hm => hz _ hm rfl
  have h9 : c9 = s.heap[q] := by
    rw [hs] at e2
    exact e2
  have e5 : U.heap[q]? = some c9 := e1
  rw [e5, h9, Array.getElem?_eq_getElem hq]
/-- the words of a throw but the four that speak of the heap -/
def vx_no (w : Cond) : Bool := decide (w ≠ .isRef (.static Bundle.tN "UNASSIGNED_STACK" Bundle.steD)) && decide (w ≠ .isRef (.static Bundle.tN "SUPPRESSED_SENTINEL" Bundle.listD)) && decide (w ≠ .laysStatic Bundle.tN "UNASSIGNED_STACK" Bundle.steD) && decide (w ≠ .laysStatic Bundle.tN "SUPPRESSED_SENTINEL" Bundle.listD)
def vx_at0 (own : String) (ic : Nat) (X : String) (names : List String) : List Cond := (Bundle.ownAtoms0 own ic X names).filter vx_no
def vx_atS (own : String) (ic : Nat) (X : String) (names : List String) : List Cond := (Bundle.ownAtoms own ic X names).filter vx_no
/-- a word that the tables alone decide, or a good one -/
def vx_ot (w : Cond) : Bool := w.onTables || goodWord w
theorem vx_ot_at {args a' : Array Value} {s U : State} {w : Cond} (hW : s.WarmedH U.vm) (hvm : s.vm = U.vm) (hg : vx_ot w = true) (h : w.before args s = true) : w.before a' U = true := by
  simp only [vx_ot, Bool.or_eq_true] at hg
  rcases hg with hg | hg
  · exact va_tabs hg hvm h
  · exact word_at hW (good_of_word hg) h
/-- a list's words: the good ones out of the method's own list, the others by premises of their own -/
theorem vx_hat {args : Array Value} {s : State} {L B : List Cond} (h1 : ∀ w ∈ L.filter goodWord, w.before args s = true) (h2 : ∀ w ∈ L.filter (fun w => !goodWord w), w ∈ B) (h3 : ∀ w ∈ B, w.before args s = true) : ∀ w ∈ L, w.before args s = true := by
  intro w hw
  by_cases g : goodWord w = true
  · exact h1 w (List.mem_filter.mpr ⟨hw, g⟩)
  · refine h3 w (h2 w (List.mem_filter.mpr ⟨hw, ?_⟩))
    show (!goodWord w) = true
    cases hgw : goodWord w
    · rfl
    · exact absurd hgw g
theorem vx_c {args : Array Value} {s : State} {w : Cond} {B : List Cond} (h : w.before args s = true) (t : ∀ w ∈ B, w.before args s = true) : ∀ w' ∈ w :: B, w'.before args s = true := fun w' h' => (List.mem_cons.mp h').elim (fun e => by rw [e]; exact h) (t w')
theorem vx_n {args : Array Value} {s : State} : ∀ w ∈ ([] : List Cond), w.before args s = true := fun _ h => nomatch h
theorem vx_own {args : Array Value} {s : State} {L : List Cond} (h1 : ∀ w ∈ L.filter vx_no, w.before args s = true)
    (hU : (Cond.isRef (.static Bundle.tN "UNASSIGNED_STACK" Bundle.steD)).before args s = true) (hN : (Cond.isRef (.static Bundle.tN "SUPPRESSED_SENTINEL" Bundle.listD)).before args s = true)
    (lU : (Cond.laysStatic Bundle.tN "UNASSIGNED_STACK" Bundle.steD).before args s = true) (lN : (Cond.laysStatic Bundle.tN "SUPPRESSED_SENTINEL" Bundle.listD).before args s = true) : ∀ w ∈ L, w.before args s = true := by
  intro w hw
  by_cases e1 : w = .isRef (.static Bundle.tN "UNASSIGNED_STACK" Bundle.steD)
  · rw [e1]; exact hU
  · by_cases e2 : w = .isRef (.static Bundle.tN "SUPPRESSED_SENTINEL" Bundle.listD)
    · rw [e2]; exact hN
    · by_cases e3 : w = .laysStatic Bundle.tN "UNASSIGNED_STACK" Bundle.steD
      · rw [e3]; exact lU
      · by_cases e4 : w = .laysStatic Bundle.tN "SUPPRESSED_SENTINEL" Bundle.listD
        · rw [e4]; exact lN
        · exact h1 w (List.mem_filter.mpr ⟨hw, by unfold vx_no; rw [decide_eq_true e1, decide_eq_true e2, decide_eq_true e3, decide_eq_true e4]; rfl⟩)
/-- where a static field lies, its class's statics cell in H -/
def vx_L (C n d : String) (A : Nat → Prop) (U : State) (H : Heap) : Prop := ∃ (c : ClassId) (k : Class) (i : Nat) (f : Field) (a : Nat) (cell : Cell), U.vm.findClass C = some c ∧ U.fieldFound? C n d = some (c, k, i, f) ∧ f.isStatic = true ∧ k.statics = some a ∧ H[a]? = some cell ∧ cell.vm.isStatics = true ∧ cell.cls = c ∧ f.slot < cell.slots.size ∧ k.staticTypes[f.slot]? = some f.type ∧ ¬ A a
theorem vx_L.moved {C n d : String} {A : Nat → Prop} {u U : State} {H : Heap} (hvm : u.vm.Alike U.vm) (h : vx_L C n d A u H) : vx_L C n d A U H := by
  obtain ⟨c, k, i, f, a, cell, h1, h2, h3, h4, h5, h6, h7, h8, h9, h10⟩ := h
  obtain ⟨k', hi', he⟩ := State.fieldFound?_setVm hvm h2
  exact ⟨c, k', i, f, a, cell, by rw [hvm.findClass]; exact h1, hi', h3, by rw [he]; exact h4, h5, h6, h7, h8, by rw [he]; exact h9, h10⟩
theorem vx_L.kept {C n d : String} {A : Nat → Prop} {U : State} {H H1 : Heap} (h : vx_L C n d A U H) (hq : ∀ a : Nat, a < H.size → ¬ A a → H1[a]? = H[a]?) : vx_L C n d A U H1 := by
  obtain ⟨c, k, i, f, a, cell, h1, h2, h3, h4, h5, h6, h7, h8, h9, h10⟩ := h
  exact ⟨c, k, i, f, a, cell, h1, h2, h3, h4, by rw [hq a (Array.getElem?_eq_some_iff.mp h5).1 h10]; exact h5, h6, h7, h8, h9, h10⟩
theorem vx_L.narrow {C n d : String} {A B : Nat → Prop} {U : State} {H : Heap} (h : vx_L C n d A U H) (hAB : ∀ q, B q → A q) : vx_L C n d B U H := by
  obtain ⟨c, k, i, f, a, cell, h1, h2, h3, h4, h5, h6, h7, h8, h9, h10⟩ := h
  exact ⟨c, k, i, f, a, cell, h1, h2, h3, h4, h5, h6, h7, h8, h9, fun z => h10 (hAB _ z)⟩
theorem vx_L.word {C n d : String} {A : Nat → Prop} {s : State} {args : Array Value} (h : vx_L C n d A s s.heap) : (Cond.laysStatic C n d).before args s = true := by
  obtain ⟨c, k, i, f, a, cell, h1, h2, h3, h4, h5, h6, h7, h8, h9, -⟩ := h
  show (Cond.laysStatic C n d).holds args s none s [] = true
  exact Cond.laysStatic_of h1 h2 h3 h4 h5 h6 h7 h8 h9
/-- .. and what it holds: null or some reference -/
def vx_Zq (C n d : String) (A : Nat → Prop) (U : State) (H : Heap) : Prop := va_Zq C n d A U H ∧ vx_L C n d A U H
theorem vx_Zq.moved {C n d : String} {A : Nat → Prop} {u U : State} {H : Heap} (hvm : u.vm.Alike U.vm) (h : vx_Zq C n d A u H) : vx_Zq C n d A U H := ⟨va_Zq.moved hvm h.1, vx_L.moved hvm h.2⟩
theorem vx_Zq.kept {C n d : String} {A : Nat → Prop} {U : State} {H H1 : Heap} (h : vx_Zq C n d A U H) (hq : ∀ a : Nat, a < H.size → ¬ A a → H1[a]? = H[a]?) : vx_Zq C n d A U H1 := ⟨va_Zq.kept h.1 hq, vx_L.kept h.2 hq⟩
theorem vx_Zq.narrow {C n d : String} {A B : Nat → Prop} {U : State} {H : Heap} (h : vx_Zq C n d A U H) (hAB : ∀ q, B q → A q) : vx_Zq C n d B U H := ⟨va_Zq.narrow h.1 hAB, vx_L.narrow h.2 hAB⟩
theorem vx_Zqof {args : Array Value} {s : State} {C n d : String} {A : Nat → Prop} (hl : (Cond.laysStatic C n d).before args s = true) (hini : (Cond.initialized C).before args s = true) (h : (Cond.isRef (.static C n d)).before args s = true) (hA : ∀ a : Nat, a < s.heap.size → ¬ A a) : vx_Zq C n d A s s.heap := by
  refine ⟨va_Zqof hl hini h hA, ?_⟩
  obtain ⟨c, k, i, f, a, cell, h1, h2, h3, h4, h5, h6, h7, h8, h9⟩ := Cond.laysStatic_spec hl
  exact ⟨c, k, i, f, a, cell, h1, h2, h3, h4, h5, h6, h7, h8, h9, hA a (Array.getElem?_eq_some_iff.mp h5).1⟩
theorem vx_isRef {C n d : String} {v : Value} {A : Nat → Prop} {s : State} {args : Array Value} (h : va_Z C n d v A s s.heap) (hv : v.isRef = true) : (Cond.isRef (.static C n d)).before args s = true := by
  obtain ⟨cf, kf, fi, f, a, cell, h1, h2, h3, h4, h5, h6, h7, -⟩ := h
  have he : (Term.static C n d).eval args s none [] s = some v := by
    simp [Term.eval, State.fieldNamed?, h1, h2, h4, h5, h6, h7]
  simp only [Cond.before, Cond.holds, Cond.value, he]
  cases v <;> simp_all [Value.isRef]
theorem vx_isRefq {C n d : String} {A : Nat → Prop} {s : State} {args : Array Value} (h : va_Zq C n d A s s.heap) : (Cond.isRef (.static C n d)).before args s = true := by
  rcases h with h | ⟨t, h⟩
  · exact vx_isRef h rfl
  · exact vx_isRef h rfl
/-- the same frame, seen from here: as if the method were called anew in this heap -/
theorem vx_rebase {T : State} (X : Stand p l e R s m args below meth c T locs cells slots) {R' : Room} (hf : R'.frames ≤ R.frames) (hl : R'.locals ≤ R.locals) (hc : cells + R'.cells ≤ R.cells) (hs : slots + R'.slots ≤ R.slots) :
    Stand p l e R' ((T.setVm s.vm).setFrames (.invoking m args :: below)) m args below meth c T [] 0 0 := by
  have htop : (T.setVm s.vm).topJava?.isSome := X.here.top
  have hF : ((T.setVm s.vm).setFrames (.invoking m args :: below)).frames = .invoking m args :: below := State.frames_setFrames _ (State.cur_lt_of_top htop)
  obtain ⟨g₀, hg0⟩ := Option.isSome_iff_exists.mp htop
  obtain ⟨r, hr⟩ := State.topJava?_eq_some.mp hg0
  have hl9 : e.platform.stackLimits (T.setVm s.vm).me = e.platform.stackLimits s.me := X.limits
  have hb9 : (T.setVm s.vm).me.stackBytes = s.me.stackBytes := X.bytes
  refine ⟨X.admits, X.cas, X.clock, hF, ?_, X.hears, X.method, X.code, X.here, X.tail, X.warmed, ?_, ?_, ?_⟩
  · have h := X.room
    have hU : ((T.setVm s.vm).setFrames (.invoking m args :: below)).localsInUse = s.localsInUse := by
      rw [State.localsInUse_invoking hF (meth := meth) (c := c) X.method X.code, State.localsInUse_invoking X.frames X.method X.code]
    simp only [State.hasRoom, Bool.and_eq_true, decide_eq_true_eq] at h ⊢
    obtain ⟨⟨⟨⟨h1, h2, h3, h4, h5, h6⟩, h7⟩, h8⟩, h9⟩ := h
    rw [X.frames, List.length_cons] at h2 h3
    have q1 := X.heapSize
    have q2 := X.used
    simp only [hF, hU, List.length_cons, State.stackLimits_setFrames, State.stackBytes_setFrames, hl9, hb9]
    refine ⟨⟨⟨⟨by omega, by omega, by omega, by omega, by omega, h6⟩, ?_⟩, ?_⟩, X.book⟩
    · show T.heap.size + R'.cells ≤ e.platform.maxCells
      omega
    · show T.slotsUsed + R'.slots ≤ e.platform.maxSlots
      omega
  · rw [State.stackLimits_setFrames]; rfl
  · rw [State.stackBytes_setFrames]; rfl
  · refine ⟨?_, Nat.le_refl _, Nat.le_refl _, ?_, ?_, fun a c9 h9 => ⟨c9, h9, rfl, rfl, fun _ _ => rfl⟩⟩
    · obtain ⟨t, ht, -⟩ := State.frames_cons hr
      show T.setVm s.vm = { ((T.setVm s.vm).setFrames (.invoking m args :: below)).setFrames (T.setVm s.vm).frames with heap := T.heap, slotsUsed := T.slotsUsed }
      rw [State.setFrames_setFrames, State.setFrames_self ht]
      rfl
    · show T.slotsUsed = T.slotsUsed + ((T.heap.toList.drop T.heap.size).map (·.slots.size)).sum
      rw [List.drop_eq_nil_of_le (Nat.le_of_eq Array.length_toList)]
      rfl
    · show ((T.heap.toList.drop T.heap.size).map (·.slots.size)).sum ≤ 0
      rw [List.drop_eq_nil_of_le (Nat.le_of_eq Array.length_toList)]
      exact Nat.le_refl _
/-- 'throw new E()': new; dup; invokespecial; athrow -/
theorem vx_throw0 {cc : ByteArray} {pc : Nat} (hexec : p.tables.exec = Jvm.exec) (hb : c.code = cc) (hl : l.stackTraces = false) {own cls : String} {names : List String} {ik ic mc ms : Nat} {A : Nat → Prop}
    (hown : s.vm.findClass own = some m.cls) (hcls : Bundle.fit cls = true) (hnames : ∀ n ∈ names, Bundle.fit n = true)
    (hk : (Cond.classLink own ik cls).before args s = true) (hini : (Cond.initialized cls).before args s = true) (hat : ∀ w ∈ vx_at0 own ic cls names, w.before args s = true)
    (hgood : ∀ w ∈ Cond.classLink own ik cls :: Cond.initialized cls :: vx_at0 own ic cls names, vx_ot w = true)
    (hU : vx_Zq Bundle.tN "UNASSIGNED_STACK" Bundle.steD A s s.heap) (hN : vx_Zq Bundle.tN "SUPPRESSED_SENTINEL" Bundle.listD A s s.heap) (hS : va_S A s.heap H locs) (hsize : ls.size = c.maxLocals)
    (d0 : decode cc pc = .ok (.new ik, 3)) (d3 : decode cc (pc + 3) = .ok (.dup, 1)) (d4 : decode cc (pc + 4) = .ok (.invokespecial ic, 3)) (d7 : decode cc (pc + 7) = .ok (.athrow, 1))
    (hout : ∀ x ∈ c.exceptionTable.toList, covers x (pc + 7) = false)
    (hRframes : names.length + 3 < R.frames) (hRlocals : (rest.map fun v => v.category).sum + (13 * (names.length + 1) + 42) ≤ R.locals) (hRcells : cells + 1 ≤ R.cells) (hRslots : slots + 6 ≤ R.slots) (hlocks : meth.locks = false)
    (hx : ∀ t : State, s.vm.Alike t.vm → H.size ≤ t.heap.size → (∀ q : Nat, q < H.size → t.heap[q]? = H[q]?) → XC cls s t)
    (hf : ∀ z ∈ locs, free z.base) (hc : cells + 1 ≤ mc) (hs : slots + 6 ≤ ms) :
    W p l e R s m args below meth c H locs cells slots (vx_MQ below Qc XC args s mc ms free) (F0 m pc ls rest) := by
  intro T hT X
  have htr : e.platform.stackTraces = false := (show e.platform.stackTraces = l.stackTraces by rw [X.admits.platform]).trans hl
  have Y := vx_rebase X (R' := { frames := R.frames, locals := R.locals, cells := 1, slots := 6 }) (Nat.le_refl _) (Nat.le_refl _) hRcells hRslots
  obtain ⟨s', hA⟩ : ∃ z, z = (T.setVm s.vm).setFrames (.invoking m args :: below) := ⟨_, rfl⟩
  rw [← hA] at Y
  have hvm : s'.vm = s.vm := by rw [hA]; rfl
  have hhp : s'.heap = H := by rw [hA]; exact hT
  have hW0 : s.WarmedH s'.vm := by rw [hvm]; exact State.WarmedH.refl s
  have hat' : ∀ w ∈ vx_at0 own ic cls names, w.before args s' = true := fun w hw => vx_ot_at hW0 hvm.symm (hgood w (List.mem_cons_of_mem _ (List.mem_cons_of_mem _ hw))) (hat w hw)
  have hk' : (Cond.classLink own ik cls).before args s' = true := vx_ot_at hW0 hvm.symm (hgood _ List.mem_cons_self) hk
  have hini' : (Cond.initialized cls).before args s' = true := vx_ot_at hW0 hvm.symm (hgood _ (List.mem_cons_of_mem _ List.mem_cons_self)) hini
  have hU' : vx_Zq Bundle.tN "UNASSIGNED_STACK" Bundle.steD A s' s'.heap := by rw [hhp]; exact vx_Zq.moved hW0.alike (hU.kept hS.2.1)
  have hN' : vx_Zq Bundle.tN "SUPPRESSED_SENTINEL" Bundle.listD A s' s'.heap := by rw [hhp]; exact vx_Zq.moved hW0.alike (hN.kept hS.2.1)
  have h : ∀ w ∈ Bundle.ownAtoms0 own ic cls names, w.before args s' = true := vx_own hat' (vx_isRefq hU'.1) (vx_isRefq hN'.1) hU'.2.word hN'.2.word
  have hown' : s'.vm.findClass own = some m.cls := by rw [hvm]; exact hown
  have hins : (Cond.instantiable cls 6).before args s' = true := h _ (by simp [Bundle.ownAtoms0])
  obtain ⟨vm₁, cX, kX, hfX, hkX, -, -, X₁, st1⟩ := Y.newCold hexec (own := own) (C := cls) (index := ik) (n := 6) hown' hk' hins hini'
    (g := F0 m pc ls rest) rfl (by rw [hb]; exact d0) (Nat.le_refl _) (Nat.le_refl _)
  generalize hT1 : (T.setVm vm₁).pushCell { cls := cX, slots := kX.instanceTypes.map defaultValue, vm := .none } = T1 at X₁ st1
  have hcat : (Value.ref T.heap.size).category = 1 := rfl
  have hcellA : T1.heap[T.heap.size]? = some (freshCell cX kX) := by rw [← hT1]; exact State.heap_pushCell_size _ _
  have d3' : decode c.code (pc + 3) = .ok (.dup, 1) := by rw [hb]; exact d3
  obtain ⟨U, hsteps, hrun, hend, hW, hsame, ce, hce, hO⟩ := X₁.ctorThrow0 hexec htr (own := own) (cls := cls) (names := names) (ic := ic) hown' hcls hnames h (fun x hx => nomatch hx) hfX hkX hcellA (by rw [hhp, hT]; exact Nat.le_refl _)
    (g := { method := m, pc := pc + 4, locals := ls, stack := .ref T.heap.size :: .ref T.heap.size :: rest, locked := none }) rfl hsize rfl rfl (rest := rest) rfl
    (by rw [hb]; exact d4) (by rw [hb]; exact d7) hout hRframes (by simp only [List.map_cons, List.sum_cons, hcat]; omega) hlocks
  obtain ⟨f1, f2⟩ := vx_frame hsame
  rw [hhp] at f1 f2
  have hWs : s.WarmedH U.vm := State.WarmedH.trans hW0 hW
  have hcl : s.vm.findClass cls = some ce.cls := by
    have h9 := hO.cls
    rw [hvm] at h9
    exact h9
  have hall : s.sameButNew ({ U with vm := s.vm } : State) locs mc ms := by
    subst hA
    obtain ⟨e1, e2⟩ := hsame
    rw [State.setFrames_setFrames] at e1
    have h2 : (T.setVm s.vm).sameButNew ({ U with vm := s.vm } : State) [] (0 + 1) (0 + 6) := ⟨e1, e2⟩
    have h3 := X.same.trans h2
    rw [List.append_nil] at h3
    exact h3.mono hc hs
  refine ⟨U, ?_, .threw T.heap.size, hrun, hend, Or.inr ⟨T.heap.size, rfl, cls, ce, locs, hx U hWs.alike f1 (fun q hq => f2 q hq (fun z hz => nomatch hz)), hce, hO.vm, hcl, hWs, hall, hf⟩⟩
  refine st1 _ ?_
  show Steps p.tables e below (T1.setTop { method := m, pc := pc + 3, locals := ls, stack := .ref T.heap.size :: rest, locked := none }) _
  jvm_step X₁.here [X₁.here.top, hexec, d3', Value.category]
  exact hsteps
/-- 'throw new E("text")': new; dup; ldc; invokespecial; athrow -/
theorem vx_throwS {cc : ByteArray} {pc : Nat} (hexec : p.tables.exec = Jvm.exec) (hb : c.code = cc) (hl : l.stackTraces = false) {own cls text : String} {names : List String} {ik is ic mc ms sa : Nat} {A : Nat → Prop}
    (hown : s.vm.findClass own = some m.cls) (hcls : Bundle.fit cls = true) (hnames : ∀ n ∈ names, Bundle.fit n = true)
    (hk : (Cond.classLink own ik cls).before args s = true) (hini : (Cond.initialized cls).before args s = true) (hstr : vk_R own is text sa s) (hat : ∀ w ∈ vx_atS own ic cls names, w.before args s = true)
    (hgood : ∀ w ∈ Cond.classLink own ik cls :: Cond.initialized cls :: vx_atS own ic cls names, vx_ot w = true)
    (hU : vx_Zq Bundle.tN "UNASSIGNED_STACK" Bundle.steD A s s.heap) (hN : vx_Zq Bundle.tN "SUPPRESSED_SENTINEL" Bundle.listD A s s.heap) (hS : va_S A s.heap H locs) (hsize : ls.size = c.maxLocals)
    (d0 : decode cc pc = .ok (.new ik, 3)) (d3 : decode cc (pc + 3) = .ok (.dup, 1)) (d4 : decode cc (pc + 4) = .ok (.ldc is, 2)) (d6 : decode cc (pc + 6) = .ok (.invokespecial ic, 3)) (d9 : decode cc (pc + 9) = .ok (.athrow, 1))
    (hout : ∀ x ∈ c.exceptionTable.toList, covers x (pc + 9) = false)
    (hRframes : names.length + 3 < R.frames) (hRlocals : (rest.map fun v => v.category).sum + (13 * (names.length + 1) + 43) ≤ R.locals) (hRcells : cells + 1 ≤ R.cells) (hRslots : slots + 6 ≤ R.slots) (hlocks : meth.locks = false)
    (hx : ∀ t : State, s.vm.Alike t.vm → H.size ≤ t.heap.size → (∀ q : Nat, q < H.size → t.heap[q]? = H[q]?) → XC cls s t)
    (hf : ∀ z ∈ locs, free z.base) (hc : cells + 1 ≤ mc) (hs : slots + 6 ≤ ms) :
    W p l e R s m args below meth c H locs cells slots (vx_MQ below Qc XC args s mc ms free) (F0 m pc ls rest) := by
  intro T hT X
  have htr : e.platform.stackTraces = false := (show e.platform.stackTraces = l.stackTraces by rw [X.admits.platform]).trans hl
  have Y := vx_rebase X (R' := { frames := R.frames, locals := R.locals, cells := 1, slots := 6 }) (Nat.le_refl _) (Nat.le_refl _) hRcells hRslots
  obtain ⟨s', hA⟩ : ∃ z, z = (T.setVm s.vm).setFrames (.invoking m args :: below) := ⟨_, rfl⟩
  rw [← hA] at Y
  have hvm : s'.vm = s.vm := by rw [hA]; rfl
  have hhp : s'.heap = H := by rw [hA]; exact hT
  have hW0 : s.WarmedH s'.vm := by rw [hvm]; exact State.WarmedH.refl s
  have hat' : ∀ w ∈ vx_atS own ic cls names, w.before args s' = true := fun w hw => vx_ot_at hW0 hvm.symm (hgood w (List.mem_cons_of_mem _ (List.mem_cons_of_mem _ hw))) (hat w hw)
  have hk' : (Cond.classLink own ik cls).before args s' = true := vx_ot_at hW0 hvm.symm (hgood _ List.mem_cons_self) hk
  have hini' : (Cond.initialized cls).before args s' = true := vx_ot_at hW0 hvm.symm (hgood _ (List.mem_cons_of_mem _ List.mem_cons_self)) hini
  have hU' : vx_Zq Bundle.tN "UNASSIGNED_STACK" Bundle.steD A s' s'.heap := by rw [hhp]; exact vx_Zq.moved hW0.alike (hU.kept hS.2.1)
  have hN' : vx_Zq Bundle.tN "SUPPRESSED_SENTINEL" Bundle.listD A s' s'.heap := by rw [hhp]; exact vx_Zq.moved hW0.alike (hN.kept hS.2.1)
  have h : ∀ w ∈ Bundle.ownAtoms own ic cls names, w.before args s' = true := vx_own hat' (vx_isRefq hU'.1) (vx_isRefq hN'.1) hU'.2.word hN'.2.word
  have hown' : s'.vm.findClass own = some m.cls := by rw [hvm]; exact hown
  have hins : (Cond.instantiable cls 6).before args s' = true := h _ (by simp [Bundle.ownAtoms])
  obtain ⟨vm₁, cX, kX, hfX, hkX, -, -, X₁, st1⟩ := Y.newCold hexec (own := own) (C := cls) (index := ik) (n := 6) hown' hk' hins hini'
    (g := F0 m pc ls rest) rfl (by rw [hb]; exact d0) (Nat.le_refl _) (Nat.le_refl _)
  generalize hT1 : (T.setVm vm₁).pushCell { cls := cX, slots := kX.instanceTypes.map defaultValue, vm := .none } = T1 at X₁ st1
  have hcat : (Value.ref T.heap.size).category = 1 := rfl
  have hcellA : T1.heap[T.heap.size]? = some (freshCell cX kX) := by rw [← hT1]; exact State.heap_pushCell_size _ _
  have d3' : decode c.code (pc + 3) = .ok (.dup, 1) := by rw [hb]; exact d3
  have d4' : decode c.code (pc + 4) = .ok (.ldc is, 2) := by rw [hb]; exact d4
  have hstr' : vk_R own is text sa s' := vk_R.warm hW0 hstr
  obtain ⟨U, hsteps, hrun, hend, hW, hsame, ce, hce, hO⟩ := X₁.ctorThrowS hexec htr (own := own) (cls := cls) (names := names) (ic := ic) hown' hcls hnames h (fun x hx => nomatch hx) hfX hkX hcellA (by rw [hhp, hT]; exact Nat.le_refl _) (msg := .ref sa) rfl
    (g := { method := m, pc := pc + 6, locals := ls, stack := .ref sa :: .ref T.heap.size :: .ref T.heap.size :: rest, locked := none }) rfl hsize rfl rfl (rest := rest) rfl
    (by rw [hb]; exact d6) (by rw [hb]; exact d9) hout hRframes (by simp only [List.map_cons, List.sum_cons, hcat]; omega) hlocks
  obtain ⟨f1, f2⟩ := vx_frame hsame
  rw [hhp] at f1 f2
  have hWs : s.WarmedH U.vm := State.WarmedH.trans hW0 hW
  have hcl : s.vm.findClass cls = some ce.cls := by
    have h9 := hO.cls
    rw [hvm] at h9
    exact h9
  have hall : s.sameButNew ({ U with vm := s.vm } : State) locs mc ms := by
    subst hA
    obtain ⟨e1, e2⟩ := hsame
    rw [State.setFrames_setFrames] at e1
    have h2 : (T.setVm s.vm).sameButNew ({ U with vm := s.vm } : State) [] (0 + 1) (0 + 6) := ⟨e1, e2⟩
    have h3 := X.same.trans h2
    rw [List.append_nil] at h3
    exact h3.mono hc hs
  refine ⟨U, ?_, .threw T.heap.size, hrun, hend, Or.inr ⟨T.heap.size, rfl, cls, ce, locs, hx U hWs.alike f1 (fun q hq => f2 q hq (fun z hz => nomatch hz)), hce, hO.vm, hcl, hWs, hall, hf⟩⟩
  refine st1 _ ?_
  show Steps p.tables e below (T1.setTop { method := m, pc := pc + 3, locals := ls, stack := .ref T.heap.size :: rest, locked := none }) _
  jvm_step X₁.here [X₁.here.top, hexec, d3', Value.category]
  exact X₁.ldcString hexec (own := own) (text := text) (index := is) (a := sa) hown' hstr'.1 hstr'.2
    (g := { method := m, pc := pc + 4, locals := ls, stack := .ref T.heap.size :: .ref T.heap.size :: rest, locked := none }) rfl d4' _ hsteps
/-- 'throw new E("text")', the text by a wide index -/
theorem vx_throwSW {cc : ByteArray} {pc : Nat} (hexec : p.tables.exec = Jvm.exec) (hb : c.code = cc) (hl : l.stackTraces = false) {own cls text : String} {names : List String} {ik is ic mc ms sa : Nat} {A : Nat → Prop}
    (hown : s.vm.findClass own = some m.cls) (hcls : Bundle.fit cls = true) (hnames : ∀ n ∈ names, Bundle.fit n = true)
    (hk : (Cond.classLink own ik cls).before args s = true) (hini : (Cond.initialized cls).before args s = true) (hstr : vk_R own is text sa s) (hat : ∀ w ∈ vx_atS own ic cls names, w.before args s = true)
    (hgood : ∀ w ∈ Cond.classLink own ik cls :: Cond.initialized cls :: vx_atS own ic cls names, vx_ot w = true)
    (hU : vx_Zq Bundle.tN "UNASSIGNED_STACK" Bundle.steD A s s.heap) (hN : vx_Zq Bundle.tN "SUPPRESSED_SENTINEL" Bundle.listD A s s.heap) (hS : va_S A s.heap H locs) (hsize : ls.size = c.maxLocals)
    (d0 : decode cc pc = .ok (.new ik, 3)) (d3 : decode cc (pc + 3) = .ok (.dup, 1)) (d4 : decode cc (pc + 4) = .ok (.ldc_w is, 3)) (d7 : decode cc (pc + 7) = .ok (.invokespecial ic, 3)) (d10 : decode cc (pc + 10) = .ok (.athrow, 1))
    (hout : ∀ x ∈ c.exceptionTable.toList, covers x (pc + 10) = false)
    (hRframes : names.length + 3 < R.frames) (hRlocals : (rest.map fun v => v.category).sum + (13 * (names.length + 1) + 43) ≤ R.locals) (hRcells : cells + 1 ≤ R.cells) (hRslots : slots + 6 ≤ R.slots) (hlocks : meth.locks = false)
    (hx : ∀ t : State, s.vm.Alike t.vm → H.size ≤ t.heap.size → (∀ q : Nat, q < H.size → t.heap[q]? = H[q]?) → XC cls s t)
    (hf : ∀ z ∈ locs, free z.base) (hc : cells + 1 ≤ mc) (hs : slots + 6 ≤ ms) :
    W p l e R s m args below meth c H locs cells slots (vx_MQ below Qc XC args s mc ms free) (F0 m pc ls rest) := by
  intro T hT X
  have htr : e.platform.stackTraces = false := (show e.platform.stackTraces = l.stackTraces by rw [X.admits.platform]).trans hl
  have Y := vx_rebase X (R' := { frames := R.frames, locals := R.locals, cells := 1, slots := 6 }) (Nat.le_refl _) (Nat.le_refl _) hRcells hRslots
  obtain ⟨s', hA⟩ : ∃ z, z = (T.setVm s.vm).setFrames (.invoking m args :: below) := ⟨_, rfl⟩
  rw [← hA] at Y
  have hvm : s'.vm = s.vm := by rw [hA]; rfl
  have hhp : s'.heap = H := by rw [hA]; exact hT
  have hW0 : s.WarmedH s'.vm := by rw [hvm]; exact State.WarmedH.refl s
  have hat' : ∀ w ∈ vx_atS own ic cls names, w.before args s' = true := fun w hw => vx_ot_at hW0 hvm.symm (hgood w (List.mem_cons_of_mem _ (List.mem_cons_of_mem _ hw))) (hat w hw)
  have hk' : (Cond.classLink own ik cls).before args s' = true := vx_ot_at hW0 hvm.symm (hgood _ List.mem_cons_self) hk
  have hini' : (Cond.initialized cls).before args s' = true := vx_ot_at hW0 hvm.symm (hgood _ (List.mem_cons_of_mem _ List.mem_cons_self)) hini
  have hU' : vx_Zq Bundle.tN "UNASSIGNED_STACK" Bundle.steD A s' s'.heap := by rw [hhp]; exact vx_Zq.moved hW0.alike (hU.kept hS.2.1)
  have hN' : vx_Zq Bundle.tN "SUPPRESSED_SENTINEL" Bundle.listD A s' s'.heap := by rw [hhp]; exact vx_Zq.moved hW0.alike (hN.kept hS.2.1)
  have h : ∀ w ∈ Bundle.ownAtoms own ic cls names, w.before args s' = true := vx_own hat' (vx_isRefq hU'.1) (vx_isRefq hN'.1) hU'.2.word hN'.2.word
  have hown' : s'.vm.findClass own = some m.cls := by rw [hvm]; exact hown
  have hins : (Cond.instantiable cls 6).before args s' = true := h _ (by simp [Bundle.ownAtoms])
  obtain ⟨vm₁, cX, kX, hfX, hkX, -, -, X₁, st1⟩ := Y.newCold hexec (own := own) (C := cls) (index := ik) (n := 6) hown' hk' hins hini'
    (g := F0 m pc ls rest) rfl (by rw [hb]; exact d0) (Nat.le_refl _) (Nat.le_refl _)
  generalize hT1 : (T.setVm vm₁).pushCell { cls := cX, slots := kX.instanceTypes.map defaultValue, vm := .none } = T1 at X₁ st1
  have hcat : (Value.ref T.heap.size).category = 1 := rfl
  have hcellA : T1.heap[T.heap.size]? = some (freshCell cX kX) := by rw [← hT1]; exact State.heap_pushCell_size _ _
  have d3' : decode c.code (pc + 3) = .ok (.dup, 1) := by rw [hb]; exact d3
  have d4' : decode c.code (pc + 4) = .ok (.ldc_w is, 3) := by rw [hb]; exact d4
  have hstr' : vk_R own is text sa s' := vk_R.warm hW0 hstr
  obtain ⟨U, hsteps, hrun, hend, hW, hsame, ce, hce, hO⟩ := X₁.ctorThrowS hexec htr (own := own) (cls := cls) (names := names) (ic := ic) hown' hcls hnames h (fun x hx => nomatch hx) hfX hkX hcellA (by rw [hhp, hT]; exact Nat.le_refl _) (msg := .ref sa) rfl
    (g := { method := m, pc := pc + 7, locals := ls, stack := .ref sa :: .ref T.heap.size :: .ref T.heap.size :: rest, locked := none }) rfl hsize rfl rfl (rest := rest) rfl
    (by rw [hb]; exact d7) (by rw [hb]; exact d10) hout hRframes (by simp only [List.map_cons, List.sum_cons, hcat]; omega) hlocks
  obtain ⟨f1, f2⟩ := vx_frame hsame
  rw [hhp] at f1 f2
  have hWs : s.WarmedH U.vm := State.WarmedH.trans hW0 hW
  have hcl : s.vm.findClass cls = some ce.cls := by
    have h9 := hO.cls
    rw [hvm] at h9
    exact h9
  have hall : s.sameButNew ({ U with vm := s.vm } : State) locs mc ms := by
    subst hA
    obtain ⟨e1, e2⟩ := hsame
    rw [State.setFrames_setFrames] at e1
    have h2 : (T.setVm s.vm).sameButNew ({ U with vm := s.vm } : State) [] (0 + 1) (0 + 6) := ⟨e1, e2⟩
    have h3 := X.same.trans h2
    rw [List.append_nil] at h3
    exact h3.mono hc hs
  refine ⟨U, ?_, .threw T.heap.size, hrun, hend, Or.inr ⟨T.heap.size, rfl, cls, ce, locs, hx U hWs.alike f1 (fun q hq => f2 q hq (fun z hz => nomatch hz)), hce, hO.vm, hcl, hWs, hall, hf⟩⟩
  refine st1 _ ?_
  show Steps p.tables e below (T1.setTop { method := m, pc := pc + 3, locals := ls, stack := .ref T.heap.size :: rest, locked := none }) _
  jvm_step X₁.here [X₁.here.top, hexec, d3', Value.category]
  exact X₁.ldcStringW hexec (own := own) (text := text) (index := is) (a := sa) hown' hstr'.1 hstr'.2
    (g := { method := m, pc := pc + 4, locals := ls, stack := .ref T.heap.size :: .ref T.heap.size :: rest, locked := none }) rfl d4' _ hsteps
end Ends
section Bodies
variable {l : Launch}
theorem vx_ofW {y : MethodName} {ws ws' : List Cond} {rm : Room} {Pc : Array Value → State → Prop} {Qc : Array Value → State → Outcome → State → Prop} {XC : String → State → State → Prop} {mc ms : Nat} {free : Addr → Prop} {cc : ByteArray} {maxL : Nat} {ret : Option FieldType}
    (hy : plainName y.cls = true) (hw : ws = Cond.code y cc maxL ret :: ws')
    (body : ∀ p e s m args below meth c s₁, BodyLoose p l y (headSpec ws rm) cc maxL ret e s m args below meth c s₁ → c.maxLocals = maxL → (∀ x ∈ c.exceptionTable.toList, False) → Pc args s →
      W p l e (headSpec ws rm).room s m args below meth c s.heap [] 0 0 (vx_MQ below Qc XC args s mc ms free) (entryFrame m args maxL)) : vx_Met l y ws rm Pc Qc XC mc ms free := by
  refine MetFree.of_bodyS (code := cc) (maxLocals := maxL) (ret := ret) hy ?_ ?_
  · intro args s m h hn
    obtain ⟨meth, c, h1, h2, h3, h4, h5, h6, -, -⟩ := Cond.code_spec hn (atoms_spec (ws := ws) h _ (by rw [hw]; exact List.mem_cons_self))
    exact ⟨meth, c, h1, h2, h3, h4, h5, h6⟩
  · intro p e s m args below meth c s₁ B hml hP _
    have hh0 : s₁.heap = s.heap := by rw [B.state]; rfl
    have ht : ∀ x ∈ c.exceptionTable.toList, False := by
      obtain ⟨meth9, c9, h1, h2, -, -, -, -, h7, -⟩ := Cond.code_spec B.named (atoms_spec (ws := ws) B.pre _ (by rw [hw]; exact List.mem_cons_self))
      cases Option.some.inj (h1.symm.trans B.method)
      cases Option.some.inj (h2.symm.trans (Stand.of_body B).code)
      intro x hx
      rw [Array.isEmpty_iff.mp h7] at hx
      cases hx
    obtain ⟨t, a1, o, b1, b2, b3⟩ := body p e s m args below meth c s₁ B hml ht hP s₁ hh0 (Stand.of_body B)
    exact ⟨t, o, a1, b1, b2, b3⟩
/-- the table of a body with handlers -/
theorem vx_table {p : Program} {x y : MethodName} {S : Spec} {cc bytes : ByteArray} {maxL maxL' : Nat} {ret ret' : Option FieldType} {e : Env} {s s₁ : State} {m : MethodId} {args : Array Value} {below : List Frame} {meth : Method} {c : Code} {hh : List (Nat × Nat × Nat × Nat)}
    (B : BodyLoose p l y S cc maxL ret e s m args below meth c s₁) (h : (Cond.codeWith y bytes maxL' ret' hh).before args s = true) : c.exceptionTable.toList = tableOf hh := by
  obtain ⟨m9, meth9, c9, hn9, h1, h2, -, -, h6, -⟩ := Cond.codeWith_spec h
  cases Option.some.inj (hn9.symm.trans B.named)
  cases Option.some.inj (h1.symm.trans B.method)
  cases Option.some.inj (h2.symm.trans (Stand.of_body B).code)
  rw [← h6, table_eq]
end Bodies
end VXA
/-! ===== END ===== -/
/-! ===== BEGIN a static call of a method with an exception table ===== -/
section VXS
variable {p : Program} {l : Launch} {e : Env} {R : Room} {s : State} {m : MethodId} {args : Array Value} {below : List Frame} {meth : Method} {c : Code} {T : State} {H : Heap} {locs : List Loc} {cells slots : Nat}
abbrev vx_CSW (R : Room) (s : State) (args : Array Value) (own : String) (index : Nat) (y : MethodName) (bytes : ByteArray) (maxL : Nat) (ret : Option FieldType) (hh : List (Nat × Nat × Nat × Nat)) (ws : List Cond) (rm : Room) (mc ms n : Nat) : Prop :=
  (rm.cells = mc ∧ rm.slots = ms ∧ rm.frames + 1 ≤ R.frames ∧ 8 + (maxL + 11) + rm.locals ≤ R.locals ∧ (∀ w ∈ ws, ∀ (a' : Array Value) (U : State), s.WarmedH U.vm → w.before a' U = true) ∧ Cond.codeWith y bytes maxL ret hh ∈ ws) ∧
  (Cond.codeWith y bytes maxL ret hh).before args s = true ∧ (Cond.initialized y.cls).before args s = true ∧ (y.cls ≠ "java/lang/invoke/MethodHandle" ∧ y.cls ≠ "java/lang/invoke/VarHandle") ∧
  (∀ sig, parseMethodDescriptor y.desc = some sig → n = sig.parameters.length) ∧ (Cond.methodLink own index y).before args s = true ∧ (Cond.static y).before args s = true
theorem vx_cwSW {own : String} {index maxL mc ms : Nat} {y : MethodName} {bytes : ByteArray} {ret : Option FieldType} {hh : List (Nat × Nat × Nat × Nat)} {Ts ws ws' : List Cond} {rm : Room} (n : Nat) (ht : ∀ w ∈ Ts, w.before args s = true) (hT : GoodIn Ts (va_wsS own index y ws)) (hw : ws = Cond.codeWith y bytes maxL ret hh :: ws') (hrc : rm.cells = mc) (hrs : rm.slots = ms)
    (hd : y.cls ≠ "java/lang/invoke/MethodHandle" ∧ y.cls ≠ "java/lang/invoke/VarHandle" ∧ (parseMethodDescriptor y.desc).map (fun d => d.parameters.length) = some n) (hR : rm.frames + 1 ≤ R.frames ∧ 8 + (maxL + 11) + rm.locals ≤ R.locals) :
    vx_CSW R s args own index y bytes maxL ret hh ws rm mc ms n := by
  have ok : ∀ w ∈ va_wsS own index y ws, w.before args s = true := fun w h => ht w (hT w h).1
  have hG : GoodIn Ts ws := fun w h => hT w (by unfold va_wsS; exact List.mem_append_right _ h)
  have hc : Cond.codeWith y bytes maxL ret hh ∈ ws := by rw [hw]; exact List.mem_cons_self
  refine ⟨⟨hrc, hrs, hR.1, hR.2, pay_in ht hG, hc⟩, ht _ (hG _ hc).1, ok _ (by simp [va_wsS]), ⟨hd.1, hd.2.1⟩, fun sig h => ?_, ok _ (by simp [va_wsS]), ok _ (by simp [va_wsS])⟩
  have h2 := hd.2.2
  rw [h] at h2
  exact (Option.some.inj h2).symm
theorem vx_callSW (X : Stand p l e R s m args below meth c T locs cells slots) (hexec : p.tables.exec = Jvm.exec) {own : String} {index : Nat} {y : MethodName} {bytes : ByteArray} {maxL : Nat} {ret : Option FieldType} {hh : List (Nat × Nat × Nat × Nat)}
    (hown : s.vm.findClass own = some m.cls) (hlink : (Cond.methodLink own index y).before args s = true) (hstat : (Cond.static y).before args s = true) (hinit : (Cond.initialized y.cls).before args s = true)
    (hcode : (Cond.codeWith y bytes maxL ret hh).before args s = true) (hy : y.cls ≠ "java/lang/invoke/MethodHandle" ∧ y.cls ≠ "java/lang/invoke/VarHandle")
    {W9 : Nat} {Pre : Pt → Array Value → Prop} {Post : Pt → Array Value → Option Value → Pt → Prop} (hK : Back l R p e below s args y 3 W9 Pre Post)
    {g : JFrame} (hg : g.method = m) (hsize : g.locals.size = c.maxLocals) {argsL rest : List Value} (hlen : ∀ sig, parseMethodDescriptor y.desc = some sig → argsL.length = sig.parameters.length)
    (hstack : g.stack = argsL.reverse ++ rest) (hW : 2 * g.monitorRoom + (rest.map fun v => v.category).sum ≤ W9) (hdg : decode c.code g.pc = .ok (.invokestatic index, 3))
    (hpre : ∀ vm₁, s.WarmedH vm₁ → Pre ⟨T.setVm vm₁, locs, cells, slots⟩ argsL.toArray) :
    ∃ (v : Option Value) (vm₁ : Vm) (B : Pt), s.WarmedH vm₁ ∧ Stand p l e R s m args below meth c B.U B.locs B.cells B.slots ∧ Post ⟨T.setVm vm₁, locs, cells, slots⟩ argsL.toArray v B ∧
      ∀ target, Steps p.tables e below (B.U.setTop { g with pc := g.pc + 3, stack := v.toList ++ rest }) target → Steps p.tables e below (T.setTop g) target := by
  obtain ⟨mk, methM, cM, hnamed, hmethM, -, -, -, -, -, -, hsigM⟩ := Cond.codeWith_spec hcode
  have hstatic : methM.isStatic = true := Cond.static_spec hnamed hmethM hstat
  obtain ⟨kP, hkP, -⟩ := className_of_methodNamed hnamed
  have hinitP : kP.init = .initialized := Cond.initialized_spec (findClass_of_methodNamed hnamed) hkP hinit
  obtain ⟨vm₁, X₁, hstep₁⟩ := X.invokestatic hexec hown hlink hnamed hmethM hstatic hkP hinitP hy (g := g) hg (argsL := argsL) (rest := rest) (hlen _ hsigM) hstack hdg
  obtain ⟨v, B, X', hpost, hsteps⟩ := hK m meth c ⟨T.setVm vm₁, locs, cells, slots⟩ { g with stack := rest } (.invokestatic index) mk argsL.toArray X₁ hg hsize hdg hW (X₁.named hnamed) (hpre vm₁ X₁.warmed)
  exact ⟨v, vm₁, B, X₁.warmed, X', hpost, fun target h => hstep₁ _ fun acts => by rw [doInvoke_state]; exact hsteps.trans h⟩
theorem vx_runSW {y : MethodName} {bytes cc : ByteArray} {maxL nL mc ms n index : Nat} {ret : Option FieldType} {hh : List (Nat × Nat × Nat × Nat)} {ws : List Cond} {rm : Room} {Pc : Array Value → State → Prop} {Qc : Array Value → State → Outcome → State → Prop} {free : Addr → Prop} {Ts : List Cond} {own : String} {As rest : List Value} {g : JFrame}
    (S : CallFix p m c cc nL s args Ts own) (hM : Met l y ws rm Pc Qc mc ms free) (cw : vx_CSW R s args own index y bytes maxL ret hh ws rm mc ms n) (hp : PreS s H Pc As)
    (hg : g.method = m) (hn : As.length = n) (hsize : g.locals.size = nL) (hstack : g.stack = As.reverse ++ rest) (hW : 2 * g.monitorRoom + (rest.map fun v => v.category).sum ≤ 8) (hdg : decode cc g.pc = .ok (.invokestatic index, 3)) (hf : cells + mc ≤ R.cells ∧ slots + ms ≤ R.slots) :
    va_Run p l e R s m args below meth c H locs cells slots mc ms g rest (Qc As.toArray) (free) := by
  obtain ⟨⟨hrc, hrs, hfr, hlo, hws, hcw⟩, hcode, hini, hy, hlen, hl, hstt⟩ := cw
  have hK : Back l R p e below s args y 3 8 (PreOf R mc ms Pc) (PostOf Qc mc ms free) := va_backW (hh := hh) (bytes := bytes) (maxL := maxL) (ret := ret) hM hp.1 hrc hrs hfr hlo hws hcw (fun a' U hW => word_at hW (Or.inl (by first | rfl | simp [Cond.onTables, Cond.keeps, Cond.steady])) hini)
  obtain ⟨hx, hb, hml, ho, -⟩ := S
  intro T hT X
  obtain ⟨v, vm₁, ⟨U', l2, c2, s2⟩, hW₁, X', ⟨g', mk, t, L, e1, e2, hq, h1, hL, h2, h3⟩, st⟩ := vx_callSW X hx (hh := hh) (bytes := bytes) (maxL := maxL) (ret := ret) ho hl hstt hini hcode hy hK hg (hsize.trans hml.symm) (argsL := As) (rest := rest) (fun sig h => hn.trans (hlen sig h)) hstack hW (by rw [hb]; exact hdg)
    (fun vm₁ hW₁ => ⟨hf.1, hf.2, hp.2 (T.setVm vm₁) hT hW₁⟩)
  dsimp only [Pt.U, Pt.locs, Pt.cells, Pt.slots] at X' e1 e2 h1 h2 h3 st
  subst h1; subst h2; subst h3
  exact ⟨v, (T.setVm vm₁).calling g' mk As.toArray, t, U', L, hT, X', hL, e1, e2, hq, st⟩
/-- not caught here, past rows that name other classes: it goes on to the caller -/
theorem vx_outP {p : Program} {l : Launch} {e : Env} {R : Room} {s : State} {m : MethodId} {args : Array Value} {below : List Frame} {meth : Method} {c : Code} {H : Heap} {locs : List Loc} {cells slots : Nat} {free : Addr → Prop} {ls : Array Slot} {rest : List Value} {Qc : Array Value → State → Outcome → State → Prop} {XC : String → State → State → Prop}
    {pc : Nat} {own E : String} {ce : Cell} {q : Addr} {mc ms : Nat} (hown : s.vm.findClass own = some m.cls) (hlocks : meth.locks = false)
    (hpass : ∀ z ∈ c.exceptionTable.toList, covers z pc = false ∨ (z.catchType ≠ 0 ∧ ∃ nm : String, (Cond.classLink own z.catchType nm).before args s = true ∧ va_Nc E nm s)) (hcell : H[q]? = some ce) (hv : ce.vm = .none) (hcl : s.vm.findClass E = some ce.cls)
    (hx : ∀ t : State, t.heap = H → s.vm.Alike t.vm → XC E s t) (hf : ∀ z ∈ locs, free z.base) (hc : cells ≤ mc) (hs : slots ≤ ms) :
    vx_W p l e R s m args below meth c H locs cells slots (vx_MQ below Qc XC args s mc ms free) (F0 m pc ls rest) q := by
  intro T hT X
  have hpl : e.platform.magicAccessors = ({} : Platform).magicAccessors := by rw [X.admits.platform]
  obtain ⟨vm', hW', X', st⟩ := X.outThrough hlocks q (g := F0 m pc ls rest) rfl rfl rfl (cell := ce) (by rw [hT]; exact hcell) (by rw [hv]; rfl)
    (by obtain ⟨k9, h9, -⟩ := Vm.findClass_spec hcl; exact ⟨k9, h9⟩) (fun z hz => by
      rcases hpass z hz with h | ⟨hz0, nm, hl1, hn1⟩
      · exact Or.inl h
      · obtain ⟨c6, hc6, hcl6⟩ := Cond.classLink_spec hown hl1 e.platform hpl
        obtain ⟨a8, b8, h1, h2, h3⟩ := hn1
        cases Option.some.inj (h1.symm.trans hcl)
        cases Option.some.inj (h2.symm.trans hc6)
        exact Or.inr ⟨hz0, _, hcl6, h3⟩)
  obtain ⟨g₀, hfr⟩ := X'.frames_eq
  have hcell9 : ((T.setVm vm').setFrames (.throwing q :: below)).heap[q]? = some ce := by
    show T.heap[q]? = some ce
    rw [hT]; exact hcell
  have hend : Ended ((T.setVm vm').setFrames (.throwing q :: below)) below (.threw q) := State.frames_setFrames _ (State.cur_lt_of_frames hfr)
  refine ⟨(T.setVm vm').setFrames (.throwing q :: below), ?_, .threw q, X'.here.running, hend, Or.inr ⟨q, rfl, E, ce, locs, hx _ hT (X'.ends _).1.alike, hcell9, hv, hcl, (X'.ends _).1, (X'.ends _).2.mono hc hs, hf⟩⟩
  rw [X.pushThrowing_eq]
  exact st
/-- a thing of a world lies in the heap -/
theorem vx_lt {D : va_G} {cl : List vw_C} {ws : va_W} {H1 : Heap} (h : va_P D cl ws H1) {k : Nat} {q : Nat × va_E} (hk : ws[k]? = some q) : q.1 < H1.size := (h k q hk).lt
end VXS
/-! ===== END ===== -/
/-! ===== BEGIN methods with a table of their own: called by a name, returning or throwing ===== -/
section VXH
/-! vx_backW, vx_callVX, vx_callSX, vx_callVW, vx_runVW, vx_runVX, vx_runSX, vx_ofWH follow the same proofs as their sisters above (Free/Laws.lean, Shelf42/LK1.lean); vx_outP calls Shelf42/NT130.lean (outThrough). -/
section
variable {l : Launch} {R : Room} {p : Program} {e : Env} {below : List Frame} {s : State} {sargs : Array Value} {y : MethodName} {len W9 : Nat}
theorem vx_backW {ws : List Cond} {rm : Room} {Pc : Array Value → State → Prop} {Qc : Array Value → State → Outcome → State → Prop} {XC : String → State → State → Prop} {mc ms : Nat} {free : Addr → Prop} {bytes : ByteArray} {maxL : Nat} {ret : Option FieldType} {hh : List (Nat × Nat × Nat × Nat)}
    (hM : vx_Met l y ws rm Pc Qc XC mc ms free) (hblind : FrameBlind Pc) (hrc : rm.cells = mc) (hrs : rm.slots = ms)
    (hframes : rm.frames + 1 ≤ R.frames) (hlocals : W9 + (maxL + 11) + rm.locals ≤ R.locals)
    (hws : ∀ w ∈ ws, ∀ a' U, s.WarmedH U.vm → w.before a' U = true) (hcode : Cond.codeWith y bytes maxL ret hh ∈ ws) (hinit : ∀ a' U, s.WarmedH U.vm → (Cond.initialized y.cls).before a' U = true) :
    vx_Back l R p e below s sargs y len W9 (PreOf R mc ms Pc) (PostOf Qc mc ms free) (vx_Post XC mc ms free) := by
  intro m meth c A g ig mk a X hg hsize hdg hW hn hp
  have h1 : (headSpec ws rm).pre.before a A.U = true := atoms_intro fun w hw => hws w hw _ _ X.warmed
  have h2 : (Cond.codeWith y bytes maxL ret hh).before a A.U = true := hws _ hcode _ _ X.warmed
  have h3 : (Cond.initialized y.cls).before a A.U = true := hinit _ _ X.warmed
  have h4 : A.cells + (headSpec ws rm).room.cells ≤ R.cells := by rw [show (headSpec ws rm).room.cells = mc from hrc]; exact hp.1
  have h5 : A.slots + (headSpec ws rm).room.slots ≤ R.slots := by rw [show (headSpec ws rm).room.slots = ms from hrs]; exact hp.2.1
  have hPc : Pc a (A.U.calling g mk a) := hblind _ _ _ _ hp.2.2
  obtain ⟨U, Ls, c0, s0⟩ := A
  dsimp only [Pt.U, Pt.locs, Pt.cells, Pt.slots] at h1 h2 h3 h4 h5 X hn hPc ⊢
  obtain ⟨m9, methY, cY, hn9, hmY, hcY, -, hlY, -⟩ := Cond.codeWith_spec h2
  cases Option.some.inj (hn9.symm.trans hn)
  obtain ⟨kY, hkY, -⟩ := className_of_methodNamed hn
  have hinitY : kY.init = .initialized := Cond.initialized_spec (findClass_of_methodNamed hn) hkY h3
  have h : At U g.method c below := by rw [hg]; exact X.here
  have hlocals9 : W9 + (maxL + 11) + (headSpec ws rm).room.locals ≤ R.locals := hlocals
  have happ : (headSpec ws rm).appliesLoose y e.platform (U.calling g mk a) = true :=
    Spec.appliesLoose_calling (g := g) h hdg hn hkY hinitY
      (X.room_calling (g := g) (R' := (headSpec ws rm).room) hsize hmY hcY hframes (by rw [hlY]; omega) h4 h5) h1
  obtain ⟨mid, hmid⟩ := h.above
  have hfr : (U.setTop g).frames = (.java g :: mid) ++ below := by rw [State.frames_setTop' g h.top, hmid]; rfl
  obtain ⟨o, s₂, hsteps, -, hend, hq⟩ := Steps.callFree hM p X.admits X.cas X.clock (acts := []) hfr happ hPc trivial
  have hq' : vx_Q Qc XC mc ms free a (U.calling g mk a) o s₂ := hq
  rw [State.frames_setTop' g h.top] at hend
  obtain ⟨g₀, hg0⟩ := Option.isSome_iff_exists.mp h.top
  obtain ⟨r, hr⟩ := State.topJava?_eq_some.mp hg0
  have hr' : (({ U with heap := s₂.heap, slotsUsed := s₂.slotsUsed } : State).setVm s₂.vm).frames = .java g₀ :: r := hr
  rcases hq' with ⟨hqc, L, hfe, hL⟩ | ⟨q, rfl, E, ce, L, hx, hce, hcv, hcl, hW₂, hsm, hL⟩
  · obtain ⟨⟨v, rfl⟩, hW₂, e2, q2, q3, q4, q5, q6⟩ := id hfe
    have e3 : s₂ = ({ (U.calling g mk a).setFrames s₂.frames with heap := s₂.heap, slotsUsed := s₂.slotsUsed } : State).setVm s₂.vm := by
      have : s₂ = ({ s₂ with vm := (U.calling g mk a).vm } : State).setVm s₂.vm := rfl
      rw [e2] at this
      exact this
    obtain ⟨c₂, i₂, len₂, hc₂, hd₂, hf₂⟩ := hend
    have hW' : U.WarmedH s₂.vm := hW₂
    have hcc : c₂ = c := by
      have h1 : s₂.code? g.method = U.code? g.method := by
        rw [State.code?_eq, State.code?_eq, hW'.alike.method?]
      exact Option.some.inj (hc₂.symm.trans (h1.trans h.code))
    subst hcc
    have hlen : len₂ = len := by rw [hdg] at hd₂; cases hd₂; rfl
    subst hlen
    have hs₂ : s₂ = (({ U with heap := s₂.heap, slotsUsed := s₂.slotsUsed } : State).setVm s₂.vm).setTop { g with pc := g.pc + len₂, stack := v.toList ++ g.stack } := by
      refine e3.trans ?_
      rw [hf₂, State.calling_eq h.top, State.setFrames_setFrames, State.setTop_of_frames _ hr', hr]
      rfl
    have hsame : U.sameButNew ({ U with heap := s₂.heap, slotsUsed := s₂.slotsUsed } : State) L mc ms := by
      refine ⟨?_, q2, q3, q4, q5, q6⟩
      obtain ⟨t, ht, -⟩ := State.frames_cons hr
      show ({ U with heap := s₂.heap, slotsUsed := s₂.slotsUsed } : State) = { U.setFrames U.frames with heap := s₂.heap, slotsUsed := s₂.slotsUsed }
      rw [State.setFrames_self ht]
    subst hg
    refine Or.inl ⟨v, ⟨(({ U with heap := s₂.heap, slotsUsed := s₂.slotsUsed } : State).setVm s₂.vm), Ls ++ L, c0 + mc, s0 + ms⟩,
      ⟨X.admits, X.cas, X.clock, X.frames, X.room, X.hears, X.method, X.code, (X.here.setHeapUsed s₂.heap s₂.slotsUsed).setVm hW'.alike, X.tail, State.WarmedH.trans X.warmed hW', X.limits, X.bytes, X.same.trans (hsame.setVm s.vm)⟩,
      ⟨g, mk, s₂, L, rfl, rfl, hqc, rfl, hL, rfl, rfl⟩, ?_⟩
    show Steps p.tables e below _ ((({ U with heap := s₂.heap, slotsUsed := s₂.slotsUsed } : State).setVm s₂.vm).setTop { g with pc := g.pc + len₂, stack := v.toList ++ g.stack })
    rw [← hs₂]
    exact hsteps
  · obtain ⟨e2, q2, q3, q4, q5, q6⟩ := id hsm
    have e3 : s₂ = ({ (U.calling g mk a).setFrames s₂.frames with heap := s₂.heap, slotsUsed := s₂.slotsUsed } : State).setVm s₂.vm := by
      have : s₂ = ({ s₂ with vm := (U.calling g mk a).vm } : State).setVm s₂.vm := rfl
      rw [e2] at this
      exact this
    have hf₂ : s₂.frames = .throwing q :: .java g :: U.frames.tail := hend
    have hW' : U.WarmedH s₂.vm := hW₂
    have hs₂ : s₂ = ((({ U with heap := s₂.heap, slotsUsed := s₂.slotsUsed } : State).setVm s₂.vm).setTop g).pushFrame (.throwing q) := by
      refine e3.trans ?_
      rw [hf₂, State.calling_eq h.top, State.setFrames_setFrames, State.pushFrame, State.frames_setTop _ hr', State.setTop_of_frames _ hr', State.setFrames_setFrames, hr]
      rfl
    have hsame : U.sameButNew ({ U with heap := s₂.heap, slotsUsed := s₂.slotsUsed } : State) L mc ms := by
      refine ⟨?_, q2, q3, q4, q5, q6⟩
      obtain ⟨t, ht, -⟩ := State.frames_cons hr
      show ({ U with heap := s₂.heap, slotsUsed := s₂.slotsUsed } : State) = { U.setFrames U.frames with heap := s₂.heap, slotsUsed := s₂.slotsUsed }
      rw [State.setFrames_self ht]
    subst hg
    refine Or.inr ⟨q, ⟨(({ U with heap := s₂.heap, slotsUsed := s₂.slotsUsed } : State).setVm s₂.vm), Ls ++ L, c0 + mc, s0 + ms⟩,
      ⟨X.admits, X.cas, X.clock, X.frames, X.room, X.hears, X.method, X.code, (X.here.setHeapUsed s₂.heap s₂.slotsUsed).setVm hW'.alike, X.tail, State.WarmedH.trans X.warmed hW', X.limits, X.bytes, X.same.trans (hsame.setVm s.vm)⟩,
      ⟨g, mk, s₂, L, E, ce, rfl, rfl, hx, hce, hcv, hcl, rfl, hL, rfl, rfl⟩, ?_⟩
    show Steps p.tables e below _ (((({ U with heap := s₂.heap, slotsUsed := s₂.slotsUsed } : State).setVm s₂.vm).setTop g).pushFrame (.throwing q))
    rw [← hs₂]
    exact hsteps
end
variable {p : Program} {l : Launch} {e : Env} {R : Room} {s : State} {m : MethodId} {args : Array Value} {below : List Frame} {meth : Method} {c : Code} {T : State} {H : Heap} {locs : List Loc} {cells slots : Nat}
theorem vx_callVX (X : Stand p l e R s m args below meth c T locs cells slots) (hexec : p.tables.exec = Jvm.exec) {own C : String} {index : Nat} {y : MethodName} {bytes : ByteArray} {maxL : Nat} {ret : Option FieldType} {hh : List (Nat × Nat × Nat × Nat)}
    (hown : s.vm.findClass own = some m.cls) (hlink : (Cond.methodLink own index y).before args s = true) (hinst : (Cond.instanceMethod y).before args s = true) (hsel : (Cond.selects C y y).before args s = true)
    (hcode : (Cond.codeWith y bytes maxL ret hh).before args s = true) (hy : y.cls ≠ "java/lang/invoke/MethodHandle" ∧ y.cls ≠ "java/lang/invoke/VarHandle")
    {W9 : Nat} {Pre : Pt → Array Value → Prop} {Post : Pt → Array Value → Option Value → Pt → Prop} {PostX : Pt → Array Value → Addr → Pt → Prop} (hK : vx_Back l R p e below s args y 3 W9 Pre Post PostX)
    {b : Addr} {cellB : Cell} (hcell : T.heap[b]? = some cellB) (hobj : cellB.vm.isStatics = false) (hcls : s.vm.findClass C = some cellB.cls)
    {g : JFrame} (hg : g.method = m) (hsize : g.locals.size = c.maxLocals) {argsL rest : List Value} (hlen : ∀ sig, parseMethodDescriptor y.desc = some sig → argsL.length = sig.parameters.length)
    (hstack : g.stack = argsL.reverse ++ .ref b :: rest) (hW : 2 * g.monitorRoom + (rest.map fun v => v.category).sum ≤ W9) (hdg : decode c.code g.pc = .ok (.invokevirtual index, 3))
    (hpre : ∀ vm₁, s.WarmedH vm₁ → Pre ⟨T.setVm vm₁, locs, cells, slots⟩ (Value.ref b :: argsL).toArray) :
    (∃ (v : Option Value) (vm₁ : Vm) (B : Pt), s.WarmedH vm₁ ∧ Stand p l e R s m args below meth c B.U B.locs B.cells B.slots ∧ Post ⟨T.setVm vm₁, locs, cells, slots⟩ (Value.ref b :: argsL).toArray v B ∧
      ∀ target, Steps p.tables e below (B.U.setTop { g with pc := g.pc + 3, stack := v.toList ++ rest }) target → Steps p.tables e below (T.setTop g) target) ∨
    (∃ (q : Addr) (vm₁ : Vm) (B : Pt), s.WarmedH vm₁ ∧ Stand p l e R s m args below meth c B.U B.locs B.cells B.slots ∧ PostX ⟨T.setVm vm₁, locs, cells, slots⟩ (Value.ref b :: argsL).toArray q B ∧
      Steps p.tables e below (T.setTop g) ((B.U.setTop { g with stack := rest }).pushFrame (.throwing q))) := by
  obtain ⟨mk, methM, hnamed, hmethM, hstM, habM⟩ := Cond.instanceMethod_spec hinst
  obtain ⟨m8, methM', cM, hn8, hmethM', -, -, -, -, -, -, hsigM⟩ := Cond.codeWith_spec hcode
  cases Option.some.inj (hn8.symm.trans hnamed)
  cases hmethM.symm.trans hmethM'
  obtain ⟨c2, r2, m2, q1, q2, q3, q4, kP, hkP, hkPi⟩ := Cond.selects_spec hsel
  cases hcls.symm.trans q1
  cases (State.methodFound?_of_named hnamed hy).symm.trans q2
  cases hnamed.symm.trans q3
  have hselP : selectMethod e.platform s.vm cellB.cls mk = .method mk := by rw [Launch.admits_selectMethod X.admits]; exact q4
  obtain ⟨vm₁, X₁, hstep₁⟩ := X.invokevirtual hexec hown hlink hnamed hmethM hstM hkP hkPi hy (a := b) (cell := cellB) hcell
    (fun z h => by rw [h] at hobj; cases hobj) hselP hmethM habM hkP hkPi (g := g) hg (argsL := argsL) (rest := rest) (hlen _ hsigM) hstack hdg
  rcases hK m meth c ⟨T.setVm vm₁, locs, cells, slots⟩ { g with stack := rest } (.invokevirtual index) mk (Value.ref b :: argsL).toArray X₁ hg hsize hdg hW (X₁.named hnamed) (hpre vm₁ X₁.warmed) with ⟨v, B, X', hpost, hsteps⟩ | ⟨q, B, X', hpost, hsteps⟩
  · exact Or.inl ⟨v, vm₁, B, X₁.warmed, X', hpost, fun target h => hstep₁ _ fun acts => by rw [doInvoke_state]; exact hsteps.trans h⟩
  · exact Or.inr ⟨q, vm₁, B, X₁.warmed, X', hpost, hstep₁ _ fun acts => by rw [doInvoke_state]; exact hsteps⟩
theorem vx_callSX (X : Stand p l e R s m args below meth c T locs cells slots) (hexec : p.tables.exec = Jvm.exec) {own : String} {index : Nat} {y : MethodName} {bytes : ByteArray} {maxL : Nat} {ret : Option FieldType} {hh : List (Nat × Nat × Nat × Nat)}
    (hown : s.vm.findClass own = some m.cls) (hlink : (Cond.methodLink own index y).before args s = true) (hstat : (Cond.static y).before args s = true) (hinit : (Cond.initialized y.cls).before args s = true)
    (hcode : (Cond.codeWith y bytes maxL ret hh).before args s = true) (hy : y.cls ≠ "java/lang/invoke/MethodHandle" ∧ y.cls ≠ "java/lang/invoke/VarHandle")
    {W9 : Nat} {Pre : Pt → Array Value → Prop} {Post : Pt → Array Value → Option Value → Pt → Prop} {PostX : Pt → Array Value → Addr → Pt → Prop} (hK : vx_Back l R p e below s args y 3 W9 Pre Post PostX)
    {g : JFrame} (hg : g.method = m) (hsize : g.locals.size = c.maxLocals) {argsL rest : List Value} (hlen : ∀ sig, parseMethodDescriptor y.desc = some sig → argsL.length = sig.parameters.length)
    (hstack : g.stack = argsL.reverse ++ rest) (hW : 2 * g.monitorRoom + (rest.map fun v => v.category).sum ≤ W9) (hdg : decode c.code g.pc = .ok (.invokestatic index, 3))
    (hpre : ∀ vm₁, s.WarmedH vm₁ → Pre ⟨T.setVm vm₁, locs, cells, slots⟩ argsL.toArray) :
    (∃ (v : Option Value) (vm₁ : Vm) (B : Pt), s.WarmedH vm₁ ∧ Stand p l e R s m args below meth c B.U B.locs B.cells B.slots ∧ Post ⟨T.setVm vm₁, locs, cells, slots⟩ argsL.toArray v B ∧
      ∀ target, Steps p.tables e below (B.U.setTop { g with pc := g.pc + 3, stack := v.toList ++ rest }) target → Steps p.tables e below (T.setTop g) target) ∨
    (∃ (q : Addr) (vm₁ : Vm) (B : Pt), s.WarmedH vm₁ ∧ Stand p l e R s m args below meth c B.U B.locs B.cells B.slots ∧ PostX ⟨T.setVm vm₁, locs, cells, slots⟩ argsL.toArray q B ∧
      Steps p.tables e below (T.setTop g) ((B.U.setTop { g with stack := rest }).pushFrame (.throwing q))) := by
  obtain ⟨mk, methM, cM, hnamed, hmethM, -, -, -, -, -, -, hsigM⟩ := Cond.codeWith_spec hcode
  have hstatic : methM.isStatic = true := Cond.static_spec hnamed hmethM hstat
  obtain ⟨kP, hkP, -⟩ := className_of_methodNamed hnamed
  have hinitP : kP.init = .initialized := Cond.initialized_spec (findClass_of_methodNamed hnamed) hkP hinit
  obtain ⟨vm₁, X₁, hstep₁⟩ := X.invokestatic hexec hown hlink hnamed hmethM hstatic hkP hinitP hy (g := g) hg (argsL := argsL) (rest := rest) (hlen _ hsigM) hstack hdg
  rcases hK m meth c ⟨T.setVm vm₁, locs, cells, slots⟩ { g with stack := rest } (.invokestatic index) mk argsL.toArray X₁ hg hsize hdg hW (X₁.named hnamed) (hpre vm₁ X₁.warmed) with ⟨v, B, X', hpost, hsteps⟩ | ⟨q, B, X', hpost, hsteps⟩
  · exact Or.inl ⟨v, vm₁, B, X₁.warmed, X', hpost, fun target h => hstep₁ _ fun acts => by rw [doInvoke_state]; exact hsteps.trans h⟩
  · exact Or.inr ⟨q, vm₁, B, X₁.warmed, X', hpost, hstep₁ _ fun acts => by rw [doInvoke_state]; exact hsteps⟩
theorem vx_callVW (X : Stand p l e R s m args below meth c T locs cells slots) (hexec : p.tables.exec = Jvm.exec) {own C : String} {index : Nat} {y : MethodName} {bytes : ByteArray} {maxL : Nat} {ret : Option FieldType} {hh : List (Nat × Nat × Nat × Nat)}
    (hown : s.vm.findClass own = some m.cls) (hlink : (Cond.methodLink own index y).before args s = true) (hinst : (Cond.instanceMethod y).before args s = true) (hsel : (Cond.selects C y y).before args s = true)
    (hcode : (Cond.codeWith y bytes maxL ret hh).before args s = true) (hy : y.cls ≠ "java/lang/invoke/MethodHandle" ∧ y.cls ≠ "java/lang/invoke/VarHandle")
    {W9 : Nat} {Pre : Pt → Array Value → Prop} {Post : Pt → Array Value → Option Value → Pt → Prop} (hK : Back l R p e below s args y 3 W9 Pre Post)
    {b : Addr} {cellB : Cell} (hcell : T.heap[b]? = some cellB) (hobj : cellB.vm.isStatics = false) (hcls : s.vm.findClass C = some cellB.cls)
    {g : JFrame} (hg : g.method = m) (hsize : g.locals.size = c.maxLocals) {argsL rest : List Value} (hlen : ∀ sig, parseMethodDescriptor y.desc = some sig → argsL.length = sig.parameters.length)
    (hstack : g.stack = argsL.reverse ++ .ref b :: rest) (hW : 2 * g.monitorRoom + (rest.map fun v => v.category).sum ≤ W9) (hdg : decode c.code g.pc = .ok (.invokevirtual index, 3))
    (hpre : ∀ vm₁, s.WarmedH vm₁ → Pre ⟨T.setVm vm₁, locs, cells, slots⟩ (Value.ref b :: argsL).toArray) :
    ∃ (v : Option Value) (vm₁ : Vm) (B : Pt), s.WarmedH vm₁ ∧ Stand p l e R s m args below meth c B.U B.locs B.cells B.slots ∧ Post ⟨T.setVm vm₁, locs, cells, slots⟩ (Value.ref b :: argsL).toArray v B ∧
      ∀ target, Steps p.tables e below (B.U.setTop { g with pc := g.pc + 3, stack := v.toList ++ rest }) target → Steps p.tables e below (T.setTop g) target := by
  obtain ⟨mk, methM, hnamed, hmethM, hstM, habM⟩ := Cond.instanceMethod_spec hinst
  obtain ⟨m8, methM', cM, hn8, hmethM', -, -, -, -, -, -, hsigM⟩ := Cond.codeWith_spec hcode
  cases Option.some.inj (hn8.symm.trans hnamed)
  cases hmethM.symm.trans hmethM'
  obtain ⟨c2, r2, m2, q1, q2, q3, q4, kP, hkP, hkPi⟩ := Cond.selects_spec hsel
  cases hcls.symm.trans q1
  cases (State.methodFound?_of_named hnamed hy).symm.trans q2
  cases hnamed.symm.trans q3
  have hselP : selectMethod e.platform s.vm cellB.cls mk = .method mk := by rw [Launch.admits_selectMethod X.admits]; exact q4
  obtain ⟨vm₁, X₁, hstep₁⟩ := X.invokevirtual hexec hown hlink hnamed hmethM hstM hkP hkPi hy (a := b) (cell := cellB) hcell
    (fun z h => by rw [h] at hobj; cases hobj) hselP hmethM habM hkP hkPi (g := g) hg (argsL := argsL) (rest := rest) (hlen _ hsigM) hstack hdg
  obtain ⟨v, B, X', hpost, hsteps⟩ := hK m meth c ⟨T.setVm vm₁, locs, cells, slots⟩ { g with stack := rest } (.invokevirtual index) mk (Value.ref b :: argsL).toArray X₁ hg hsize hdg hW (X₁.named hnamed) (hpre vm₁ X₁.warmed)
  exact ⟨v, vm₁, B, X₁.warmed, X', hpost, fun target h => hstep₁ _ fun acts => by rw [doInvoke_state]; exact hsteps.trans h⟩
abbrev vx_CVW (R : Room) (s : State) (args : Array Value) (own C : String) (index : Nat) (y : MethodName) (bytes : ByteArray) (maxL : Nat) (ret : Option FieldType) (hh : List (Nat × Nat × Nat × Nat)) (ws : List Cond) (rm : Room) (mc ms n : Nat) : Prop :=
  (rm.cells = mc ∧ rm.slots = ms ∧ rm.frames + 1 ≤ R.frames ∧ 8 + (maxL + 11) + rm.locals ≤ R.locals ∧ (∀ w ∈ ws, ∀ (a' : Array Value) (U : State), s.WarmedH U.vm → w.before a' U = true) ∧ Cond.codeWith y bytes maxL ret hh ∈ ws) ∧
  (Cond.codeWith y bytes maxL ret hh).before args s = true ∧ (Cond.initialized y.cls).before args s = true ∧ (y.cls ≠ "java/lang/invoke/MethodHandle" ∧ y.cls ≠ "java/lang/invoke/VarHandle") ∧
  (∀ sig, parseMethodDescriptor y.desc = some sig → n = sig.parameters.length) ∧ (Cond.methodLink own index y).before args s = true ∧ (Cond.instanceMethod y).before args s = true ∧ (Cond.selects C y y).before args s = true
theorem vx_cwVW {own C : String} {index maxL mc ms : Nat} {y : MethodName} {bytes : ByteArray} {ret : Option FieldType} {hh : List (Nat × Nat × Nat × Nat)} {Ts ws ws' : List Cond} {rm : Room} (n : Nat) (ht : ∀ w ∈ Ts, w.before args s = true) (hT : GoodIn Ts (wsV own index C y ws)) (hw : ws = Cond.codeWith y bytes maxL ret hh :: ws') (hrc : rm.cells = mc) (hrs : rm.slots = ms)
    (hd : y.cls = C ∧ y.cls ≠ "java/lang/invoke/MethodHandle" ∧ y.cls ≠ "java/lang/invoke/VarHandle" ∧ (parseMethodDescriptor y.desc).map (fun d => d.parameters.length) = some n) (hR : rm.frames + 1 ≤ R.frames ∧ 8 + (maxL + 11) + rm.locals ≤ R.locals) :
    vx_CVW R s args own C index y bytes maxL ret hh ws rm mc ms n := by
  obtain ⟨hC, hd⟩ := hd
  subst hC
  have ok : ∀ w ∈ wsV own index y.cls y ws, w.before args s = true := fun w h => ht w (hT w h).1
  have hG : GoodIn Ts ws := fun w h => hT w (by unfold wsV; exact List.mem_append_right _ h)
  have hc : Cond.codeWith y bytes maxL ret hh ∈ ws := by rw [hw]; exact List.mem_cons_self
  refine ⟨⟨hrc, hrs, hR.1, hR.2, pay_in ht hG, hc⟩, ht _ (hG _ hc).1, ok _ (by simp [wsV]), ⟨hd.1, hd.2.1⟩, fun sig h => ?_, ok _ (by simp [wsV]), ok _ (by simp [wsV]), ok _ (by simp [wsV])⟩
  have h2 := hd.2.2
  rw [h] at h2
  exact (Option.some.inj h2).symm
theorem vx_runVW {y : MethodName} {bytes cc : ByteArray} {maxL nL mc ms n index : Nat} {ret : Option FieldType} {hh : List (Nat × Nat × Nat × Nat)} {ws : List Cond} {rm : Room} {Pc : Array Value → State → Prop} {Qc : Array Value → State → Outcome → State → Prop} {free : Addr → Prop} {Ts : List Cond} {own C : String} {b : Addr} {As rest : List Value} {g : JFrame}
    (S : CallFix p m c cc nL s args Ts own) (hM : Met l y ws rm Pc Qc mc ms free) (cw : vx_CVW R s args own C index y bytes maxL ret hh ws rm mc ms n) (hp : PreV s H C b Pc As)
    (hg : g.method = m) (hn : As.length = n) (hsize : g.locals.size = nL) (hstack : g.stack = As.reverse ++ .ref b :: rest) (hW : 2 * g.monitorRoom + (rest.map fun v => v.category).sum ≤ 8) (hdg : decode cc g.pc = .ok (.invokevirtual index, 3)) (hf : cells + mc ≤ R.cells ∧ slots + ms ≤ R.slots) :
    va_Run p l e R s m args below meth c H locs cells slots mc ms g rest (Qc (Value.ref b :: As).toArray) free := by
  obtain ⟨⟨hrc, hrs, hfr, hlo, hws, hcw⟩, hcode, hini, hy, hlen, hl, hin, hse⟩ := cw
  have hK : Back l R p e below s args y 3 8 (PreOf R mc ms Pc) (PostOf Qc mc ms free) := va_backW (hh := hh) (bytes := bytes) (maxL := maxL) (ret := ret) hM hp.1 hrc hrs hfr hlo hws hcw (fun a' U hW => word_at hW (Or.inl (by first | rfl | simp [Cond.onTables, Cond.keeps, Cond.steady])) hini)
  obtain ⟨hx, hb, hml, ho, -⟩ := S
  obtain ⟨-, ⟨cellB, hcB, hoB, hclB⟩, hPc⟩ := hp
  intro T hT X
  obtain ⟨v, vm₁, ⟨U', l2, c2, s2⟩, hW₁, X', ⟨g', mk, t, L, e1, e2, hq, h1, hL, h2, h3⟩, st⟩ := vx_callVW X hx (C := C) (hh := hh) (bytes := bytes) (maxL := maxL) (ret := ret) ho hl hin hse hcode hy hK (by rw [hT]; exact hcB) hoB hclB hg (hsize.trans hml.symm) (argsL := As) (rest := rest) (fun sig h => hn.trans (hlen sig h)) hstack hW (by rw [hb]; exact hdg)
    (fun vm₁ hW₁ => ⟨hf.1, hf.2, hPc (T.setVm vm₁) hT hW₁⟩)
  dsimp only [Pt.U, Pt.locs, Pt.cells, Pt.slots] at X' e1 e2 h1 h2 h3 st
  subst h1; subst h2; subst h3
  exact ⟨v, (T.setVm vm₁).calling g' mk (Value.ref b :: As).toArray, t, U', L, hT, X', hL, e1, e2, hq, st⟩
section
variable {y : MethodName} {bytes cc : ByteArray} {maxL nL mc ms n index : Nat} {ret : Option FieldType} {ws : List Cond} {rm : Room} {Pc : Array Value → State → Prop} {Qc : Array Value → State → Outcome → State → Prop} {XC : String → State → State → Prop} {free : Addr → Prop} {Ts : List Cond} {own C : String} {b : Addr} {As rest : List Value} {g : JFrame}
theorem vx_runVX {hh : List (Nat × Nat × Nat × Nat)} (S : CallFix p m c cc nL s args Ts own) (hM : vx_Met l y ws rm Pc Qc XC mc ms free) (cw : vx_CVW R s args own C index y bytes maxL ret hh ws rm mc ms n) (hp : PreV s H C b Pc As)
    (hg : g.method = m) (hn : As.length = n) (hsize : g.locals.size = nL) (hstack : g.stack = As.reverse ++ .ref b :: rest) (hW : 2 * g.monitorRoom + (rest.map fun v => v.category).sum ≤ 8) (hdg : decode cc g.pc = .ok (.invokevirtual index, 3)) (hf : cells + mc ≤ R.cells ∧ slots + ms ≤ R.slots) :
    vx_Run p l e R s m args below meth c H locs cells slots mc ms g rest (Qc (Value.ref b :: As).toArray) XC free := by
  obtain ⟨⟨hrc, hrs, hfr, hlo, hws, hcw⟩, hcode, hini, hy, hlen, hl, hin, hse⟩ := cw
  have hK : vx_Back l R p e below s args y 3 8 (PreOf R mc ms Pc) (PostOf Qc mc ms free) (vx_Post XC mc ms free) := vx_backW (hh := hh) (bytes := bytes) (maxL := maxL) (ret := ret) hM hp.1 hrc hrs hfr hlo hws hcw (fun a' U hW => word_at hW (Or.inl (by first | rfl | simp [Cond.onTables, Cond.keeps, Cond.steady])) hini)
  obtain ⟨hx, hb, hml, ho, -⟩ := S
  obtain ⟨-, ⟨cellB, hcB, hoB, hclB⟩, hPc⟩ := hp
  intro T hT X
  rcases vx_callVX X hx (C := C) (hh := hh) (bytes := bytes) (maxL := maxL) (ret := ret) ho hl hin hse hcode hy hK (by rw [hT]; exact hcB) hoB hclB hg (hsize.trans hml.symm) (argsL := As) (rest := rest) (fun sig h => hn.trans (hlen sig h)) hstack hW (by rw [hb]; exact hdg)
    (fun vm₁ hW₁ => ⟨hf.1, hf.2, hPc (T.setVm vm₁) hT hW₁⟩) with ⟨v, vm₁, ⟨U', l2, c2, s2⟩, hW₁, X', ⟨g', mk, t, L, e1, e2, hq, h1, hL, h2, h3⟩, st⟩ | ⟨q, vm₁, ⟨U', l2, c2, s2⟩, hW₁, X', ⟨g', mk, t, L, E, ce, e1, e2, hq, hce, hcv, hcl, h1, hL, h2, h3⟩, st⟩
  · dsimp only [Pt.U, Pt.locs, Pt.cells, Pt.slots] at X' e1 e2 h1 h2 h3 st
    subst h1; subst h2; subst h3
    exact Or.inl ⟨v, (T.setVm vm₁).calling g' mk (Value.ref b :: As).toArray, t, U', L, hT, X', hL, e1, e2, hq, st⟩
  · dsimp only [Pt.U, Pt.locs, Pt.cells, Pt.slots] at X' e1 e2 h1 h2 h3 st hcl
    subst h1; subst h2; subst h3
    exact Or.inr ⟨q, (T.setVm vm₁).calling g' mk (Value.ref b :: As).toArray, t, U', L, E, ce, hT, X', hL, e1, e2, hq, hce, hcv, vx_cls hW₁ hcl, st⟩
theorem vx_runSX {hh : List (Nat × Nat × Nat × Nat)} (S : CallFix p m c cc nL s args Ts own) (hM : vx_Met l y ws rm Pc Qc XC mc ms free) (cw : vx_CSW R s args own index y bytes maxL ret hh ws rm mc ms n) (hp : PreS s H Pc As)
    (hg : g.method = m) (hn : As.length = n) (hsize : g.locals.size = nL) (hstack : g.stack = As.reverse ++ rest) (hW : 2 * g.monitorRoom + (rest.map fun v => v.category).sum ≤ 8) (hdg : decode cc g.pc = .ok (.invokestatic index, 3)) (hf : cells + mc ≤ R.cells ∧ slots + ms ≤ R.slots) :
    vx_Run p l e R s m args below meth c H locs cells slots mc ms g rest (Qc As.toArray) XC free := by
  obtain ⟨⟨hrc, hrs, hfr, hlo, hws, hcw⟩, hcode, hini, hy, hlen, hl, hstt⟩ := cw
  have hK : vx_Back l R p e below s args y 3 8 (PreOf R mc ms Pc) (PostOf Qc mc ms free) (vx_Post XC mc ms free) := vx_backW (hh := hh) (bytes := bytes) (maxL := maxL) (ret := ret) hM hp.1 hrc hrs hfr hlo hws hcw (fun a' U hW => word_at hW (Or.inl (by first | rfl | simp [Cond.onTables, Cond.keeps, Cond.steady])) hini)
  obtain ⟨hx, hb, hml, ho, -⟩ := S
  intro T hT X
  rcases vx_callSX X hx (hh := hh) (bytes := bytes) (maxL := maxL) (ret := ret) ho hl hstt hini hcode hy hK hg (hsize.trans hml.symm) (argsL := As) (rest := rest) (fun sig h => hn.trans (hlen sig h)) hstack hW (by rw [hb]; exact hdg)
    (fun vm₁ hW₁ => ⟨hf.1, hf.2, hp.2 (T.setVm vm₁) hT hW₁⟩) with ⟨v, vm₁, ⟨U', l2, c2, s2⟩, hW₁, X', ⟨g', mk, t, L, e1, e2, hq, h1, hL, h2, h3⟩, st⟩ | ⟨q, vm₁, ⟨U', l2, c2, s2⟩, hW₁, X', ⟨g', mk, t, L, E, ce, e1, e2, hq, hce, hcv, hcl, h1, hL, h2, h3⟩, st⟩
  · dsimp only [Pt.U, Pt.locs, Pt.cells, Pt.slots] at X' e1 e2 h1 h2 h3 st
    subst h1; subst h2; subst h3
    exact Or.inl ⟨v, (T.setVm vm₁).calling g' mk As.toArray, t, U', L, hT, X', hL, e1, e2, hq, st⟩
  · dsimp only [Pt.U, Pt.locs, Pt.cells, Pt.slots] at X' e1 e2 h1 h2 h3 st hcl
    subst h1; subst h2; subst h3
    exact Or.inr ⟨q, (T.setVm vm₁).calling g' mk As.toArray, t, U', L, E, ce, hT, X', hL, e1, e2, hq, hce, hcv, vx_cls hW₁ hcl, st⟩
end
end VXH
theorem vx_ofWH {l : Launch} {y : MethodName} {ws ws' : List Cond} {rm : Room} {Pc : Array Value → State → Prop} {Qc : Array Value → State → Outcome → State → Prop} {XC : String → State → State → Prop} {mc ms : Nat} {free : Addr → Prop} {cc : ByteArray} {maxL : Nat} {ret : Option FieldType} {hh : List (Nat × Nat × Nat × Nat)}
    (hy : plainName y.cls = true) (hw : ws = Cond.codeWith y cc maxL ret hh :: ws')
    (body : ∀ p e s m args below meth c s₁, BodyLoose p l y (headSpec ws rm) cc maxL ret e s m args below meth c s₁ → c.maxLocals = maxL → Pc args s →
      W p l e (headSpec ws rm).room s m args below meth c s.heap [] 0 0 (vx_MQ below Qc XC args s mc ms free) (entryFrame m args maxL)) : vx_Met l y ws rm Pc Qc XC mc ms free := by
  refine MetFree.of_bodyS (code := cc) (maxLocals := maxL) (ret := ret) hy ?_ ?_
  · intro args s m h hn
    obtain ⟨m9, meth, c, hn9, h1, h2, h3, h4, -, h5, h6, -⟩ := Cond.codeWith_spec (atoms_spec (ws := ws) h _ (by rw [hw]; exact List.mem_cons_self))
    cases hn.symm.trans hn9
    exact ⟨meth, c, h1, h2, h3, h4, h5, h6⟩
  · intro p e s m args below meth c s₁ B hml hP _
    have hh0 : s₁.heap = s.heap := by rw [B.state]; rfl
    obtain ⟨t, a1, o, b1, b2, b3⟩ := body p e s m args below meth c s₁ B hml hP s₁ hh0 (Stand.of_body B)
    exact ⟨t, o, a1, b1, b2, b3⟩
/-! ===== END ===== -/
end
section
abbrev R_K : String := "CostSteps$KeyLists"
def T_K : u_T := fun k => match k with
  | 0 => ("CostSteps$KeyLists", "keys", "[J", true)
  | _ => ("CostSteps$KeyLists", "sizes", "[I", true)
def t_K : Nat → FieldType := fun k => match k with
  | 0 => .array .long
  | _ => .array .int
theorem nm_K : ∀ a, a < 2 → ∀ b, b < 2 → a ≠ b → (T_K a).2.1 ≠ (T_K b).2.1 := by decide +kernel
theorem to_K : ∀ k, k < 2 → parseFieldDescriptor (T_K k).2.2.1 = some (t_K k) := by decide +kernel
abbrev R_Q : String := "CostSteps$Quote"
def T_Q : u_T := fun k => match k with
  | 0 => ("CostSteps$Quote", "costs", "[J", true)
  | 1 => ("CostSteps$Quote", "pieces", "[I", true)
  | 2 => ("CostSteps$Quote", "makers", "[I", true)
  | 3 => ("CostSteps$Quote", "parts", "[I", true)
  | _ => ("CostSteps$Quote", "rowCount", "I", false)
def t_Q : Nat → FieldType := fun k => match k with
  | 0 => .array .long
  | 1 => .array .int
  | 2 => .array .int
  | 3 => .array .int
  | _ => .int
theorem nm_Q : ∀ a, a < 5 → ∀ b, b < 5 → a ≠ b → (T_Q a).2.1 ≠ (T_Q b).2.1 := by decide +kernel
theorem to_Q : ∀ k, k < 5 → parseFieldDescriptor (T_Q k).2.2.1 = some (t_Q k) := by decide +kernel
abbrev R_Ra : String := "CostSteps$Rates"
def T_Ra : u_T := fun k => match k with
  | 0 => ("CostSteps$Rates", "days", "LCostSteps$KeyLists;", true)
  | 1 => ("CostSteps$Rates", "aboves", "[J", true)
  | 2 => ("CostSteps$Rates", "belows", "[J", true)
  | 3 => ("CostSteps$Rates", "aboveNow", "[J", true)
  | _ => ("CostSteps$Rates", "belowNow", "[J", true)
def t_Ra : Nat → FieldType := fun k => match k with
  | 0 => .object "CostSteps$KeyLists"
  | 1 => .array .long
  | 2 => .array .long
  | 3 => .array .long
  | _ => .array .long
theorem nm_Ra : ∀ a, a < 5 → ∀ b, b < 5 → a ≠ b → (T_Ra a).2.1 ≠ (T_Ra b).2.1 := by decide +kernel
theorem to_Ra : ∀ k, k < 5 → parseFieldDescriptor (T_Ra k).2.2.1 = some (t_Ra k) := by decide +kernel
abbrev R_St : String := "CostSteps$Steps"
def T_St : u_T := fun k => match k with
  | 0 => ("CostSteps$Steps", "froms", "LCostSteps$KeyLists;", true)
  | _ => ("CostSteps$Steps", "cents", "[J", true)
def t_St : Nat → FieldType := fun k => match k with
  | 0 => .object "CostSteps$KeyLists"
  | _ => .array .long
theorem nm_St : ∀ a, a < 2 → ∀ b, b < 2 → a ≠ b → (T_St a).2.1 ≠ (T_St b).2.1 := by decide +kernel
theorem to_St : ∀ k, k < 2 → parseFieldDescriptor (T_St k).2.2.1 = some (t_St k) := by decide +kernel
abbrev R_Y : String := "CostSteps$Yields"
def T_Y : u_T := fun k => match k with
  | 0 => ("CostSteps$Yields", "aboves", "[J", true)
  | 1 => ("CostSteps$Yields", "belows", "[J", true)
  | _ => ("CostSteps$Yields", "count", "I", false)
def t_Y : Nat → FieldType := fun k => match k with
  | 0 => .array .long
  | 1 => .array .long
  | _ => .int
theorem nm_Y : ∀ a, a < 3 → ∀ b, b < 3 → a ≠ b → (T_Y a).2.1 ≠ (T_Y b).2.1 := by decide +kernel
theorem to_Y : ∀ k, k < 3 → parseFieldDescriptor (T_Y k).2.2.1 = some (t_Y k) := by decide +kernel
abbrev R_C : String := "CostSteps"
def T_C : u_T := fun k => match k with
  | 0 => ("CostSteps", "usedOnBoard", "[J", true)
  | 1 => ("CostSteps", "inStock", "[J", true)
  | 2 => ("CostSteps", "alternates", "[I", true)
  | 3 => ("CostSteps", "assemblyCents", "[J", true)
  | 4 => ("CostSteps", "placedOnBoard", "[J", true)
  | 5 => ("CostSteps", "steps", "LCostSteps$Steps;", true)
  | 6 => ("CostSteps", "rates", "LCostSteps$Rates;", true)
  | 7 => ("CostSteps", "yields", "LCostSteps$Yields;", true)
  | 8 => ("CostSteps", "partCount", "I", false)
  | 9 => ("CostSteps", "toolingCents", "J", false)
  | 10 => ("CostSteps", "draft", "LCostSteps$Quote;", false)
  | 11 => ("CostSteps", "latest", "LCostSteps$Quote;", false)
  | _ => ("CostSteps", "before", "LCostSteps$Quote;", false)
def t_C : Nat → FieldType := fun k => match k with
  | 0 => .array .long
  | 1 => .array .long
  | 2 => .array .int
  | 3 => .array .long
  | 4 => .array .long
  | 5 => .object "CostSteps$Steps"
  | 6 => .object "CostSteps$Rates"
  | 7 => .object "CostSteps$Yields"
  | 8 => .int
  | 9 => .long
  | 10 => .object "CostSteps$Quote"
  | 11 => .object "CostSteps$Quote"
  | _ => .object "CostSteps$Quote"
theorem nm_C : ∀ a, a < 13 → ∀ b, b < 13 → a ≠ b → (T_C a).2.1 ≠ (T_C b).2.1 := by decide +kernel
theorem to_C : ∀ k, k < 13 → parseFieldDescriptor (T_C k).2.2.1 = some (t_C k) := by decide +kernel
abbrev R_M : String := "CostStepsModel"
def T_M : u_T := fun k => match k with
  | 0 => ("CostStepsModel", "thrown", "I", false)
  | 1 => ("CostStepsModel", "parts", "I", false)
  | 2 => ("CostStepsModel", "stepCount", "[I", true)
  | 3 => ("CostStepsModel", "froms", "[J", true)
  | 4 => ("CostStepsModel", "cents", "[J", true)
  | 5 => ("CostStepsModel", "uses", "[J", true)
  | 6 => ("CostStepsModel", "stocks", "[J", true)
  | 7 => ("CostStepsModel", "alternates", "[I", true)
  | 8 => ("CostStepsModel", "assemblies", "[J", true)
  | 9 => ("CostStepsModel", "placings", "[J", true)
  | 10 => ("CostStepsModel", "yields", "I", false)
  | 11 => ("CostStepsModel", "yieldAbove", "[J", true)
  | 12 => ("CostStepsModel", "yieldBelow", "[J", true)
  | 13 => ("CostStepsModel", "dayCount", "[I", true)
  | 14 => ("CostStepsModel", "days", "[J", true)
  | 15 => ("CostStepsModel", "rateAbove", "[J", true)
  | 16 => ("CostStepsModel", "rateBelow", "[J", true)
  | 17 => ("CostStepsModel", "tools", "J", false)
  | 18 => ("CostStepsModel", "can", "Z", false)
  | 19 => ("CostStepsModel", "sum", "J", false)
  | 20 => ("CostStepsModel", "costs", "[J", true)
  | 21 => ("CostStepsModel", "pieces", "[J", true)
  | 22 => ("CostStepsModel", "maker", "[I", true)
  | 23 => ("CostStepsModel", "partOf", "[I", true)
  | 24 => ("CostStepsModel", "ran", "Z", false)
  | 25 => ("CostStepsModel", "keptRows", "I", false)
  | 26 => ("CostStepsModel", "keptCosts", "[J", true)
  | 27 => ("CostStepsModel", "keptPieces", "[J", true)
  | 28 => ("CostStepsModel", "keptMaker", "[I", true)
  | 29 => ("CostStepsModel", "keptPart", "[I", true)
  | _ => ("CostStepsModel", "oldCosts", "[J", true)
def t_M : Nat → FieldType := fun k => match k with
  | 0 => .int
  | 1 => .int
  | 2 => .array .int
  | 3 => .array .long
  | 4 => .array .long
  | 5 => .array .long
  | 6 => .array .long
  | 7 => .array .int
  | 8 => .array .long
  | 9 => .array .long
  | 10 => .int
  | 11 => .array .long
  | 12 => .array .long
  | 13 => .array .int
  | 14 => .array .long
  | 15 => .array .long
  | 16 => .array .long
  | 17 => .long
  | 18 => .boolean
  | 19 => .long
  | 20 => .array .long
  | 21 => .array .long
  | 22 => .array .int
  | 23 => .array .int
  | 24 => .boolean
  | 25 => .int
  | 26 => .array .long
  | 27 => .array .long
  | 28 => .array .int
  | 29 => .array .int
  | _ => .array .long
theorem nm_M : ∀ a, a < 31 → ∀ b, b < 31 → a ≠ b → (T_M a).2.1 ≠ (T_M b).2.1 := by decide +kernel
theorem to_M : ∀ k, k < 31 → parseFieldDescriptor (T_M k).2.2.1 = some (t_M k) := by decide +kernel
abbrev R_L : String := "CostStepsLaw"
abbrev R_JI : String := "java/lang/Integer"
abbrev vwCl : List vw_C := [(R_K, T_K, 2), (R_Q, T_Q, 5), (R_Ra, T_Ra, 5), (R_St, T_St, 2), (R_Y, T_Y, 3), (R_C, T_C, 13), (R_M, T_M, 31)]
abbrev c_K_init : ByteArray := prog_2_method_1_code
def y_K_init : MethodName := ⟨R_K, "<init>", "(I)V"⟩
abbrev c_K_firstSlot : ByteArray := prog_2_method_2_code
def y_K_firstSlot : MethodName := ⟨R_K, "firstSlot", "(I)I"⟩
abbrev c_K_endSlot : ByteArray := prog_2_method_3_code
def y_K_endSlot : MethodName := ⟨R_K, "endSlot", "(I)I"⟩
abbrev c_K_slotFor : ByteArray := prog_2_method_4_code
def y_K_slotFor : MethodName := ⟨R_K, "slotFor", "(IJ)I"⟩
abbrev c_Q_init : ByteArray := prog_3_method_1_code
def y_Q_init : MethodName := ⟨R_Q, "<init>", "()V"⟩
abbrev c_Q_begin : ByteArray := prog_3_method_2_code
def y_Q_begin : MethodName := ⟨R_Q, "begin", "(I)V"⟩
abbrev c_Q_clearRow : ByteArray := prog_3_method_3_code
def y_Q_clearRow : MethodName := ⟨R_Q, "clearRow", "(I)V"⟩
abbrev c_Q_isBought : ByteArray := prog_3_method_4_code
def y_Q_isBought : MethodName := ⟨R_Q, "isBought", "(I)Z"⟩
abbrev c_Q_consider : ByteArray := prog_3_method_5_code
def y_Q_consider : MethodName := ⟨R_Q, "consider", "(IJIII)V"⟩
abbrev c_Q_isBetter : ByteArray := prog_3_method_6_code
def y_Q_isBetter : MethodName := ⟨R_Q, "isBetter", "(IJIII)Z"⟩
abbrev c_Q_sum : ByteArray := prog_3_method_7_code
def y_Q_sum : MethodName := ⟨R_Q, "sum", "()J"⟩
abbrev c_Q_makersBoughtOf : ByteArray := prog_3_method_8_code
def y_Q_makersBoughtOf : MethodName := ⟨R_Q, "makersBoughtOf", "()I"⟩
abbrev c_Ra_init : ByteArray := prog_4_method_1_code
def y_Ra_init : MethodName := ⟨R_Ra, "<init>", "()V"⟩
abbrev c_Ra_tell : ByteArray := prog_4_method_2_code
def y_Ra_tell : MethodName := ⟨R_Ra, "tell", "(IJJJ)Z"⟩
abbrev c_Ra_turnTo : ByteArray := prog_4_method_3_code
def y_Ra_turnTo : MethodName := ⟨R_Ra, "turnTo", "(J)V"⟩
abbrev c_Ra_latestSlot : ByteArray := prog_4_method_4_code
def y_Ra_latestSlot : MethodName := ⟨R_Ra, "latestSlot", "(IJ)I"⟩
abbrev c_Ra_exchange : ByteArray := prog_4_method_5_code
def y_Ra_exchange : MethodName := ⟨R_Ra, "exchange", "(IJ)J"⟩
abbrev c_St_init : ByteArray := prog_5_method_1_code
def y_St_init : MethodName := ⟨R_St, "<init>", "()V"⟩
abbrev c_St_firstSlot : ByteArray := prog_5_method_2_code
def y_St_firstSlot : MethodName := ⟨R_St, "firstSlot", "(II)I"⟩
abbrev c_St_endSlot : ByteArray := prog_5_method_3_code
def y_St_endSlot : MethodName := ⟨R_St, "endSlot", "(II)I"⟩
abbrev c_St_fromAt : ByteArray := prog_5_method_4_code
def y_St_fromAt : MethodName := ⟨R_St, "fromAt", "(I)J"⟩
abbrev c_St_tell : ByteArray := prog_5_method_5_code
def y_St_tell : MethodName := ⟨R_St, "tell", "(IIJJ)Z"⟩
abbrev c_Y_init : ByteArray := prog_6_method_1_code
def y_Y_init : MethodName := ⟨R_Y, "<init>", "()V"⟩
abbrev c_Y_add : ByteArray := prog_6_method_2_code
def y_Y_add : MethodName := ⟨R_Y, "add", "(JJ)Z"⟩
abbrev c_Y_startedFor : ByteArray := prog_6_method_3_code
def y_Y_startedFor : MethodName := ⟨R_Y, "startedFor", "(J)J"⟩
abbrev c_C_init : ByteArray := prog_1_method_1_code
def y_C_init : MethodName := ⟨R_C, "<init>", "()V"⟩
abbrev c_C_part : ByteArray := prog_1_method_2_code
def y_C_part : MethodName := ⟨R_C, "part", "()I"⟩
abbrev c_C_price : ByteArray := prog_1_method_3_code
def y_C_price : MethodName := ⟨R_C, "price", "(IIJJ)Z"⟩
abbrev c_C_uses : ByteArray := prog_1_method_4_code
def y_C_uses : MethodName := ⟨R_C, "uses", "(IJ)Z"⟩
abbrev c_C_board : ByteArray := prog_1_method_5_code
def y_C_board : MethodName := ⟨R_C, "board", "(IJJ)Z"⟩
abbrev c_C_assembly : ByteArray := prog_1_method_6_code
def y_C_assembly : MethodName := ⟨R_C, "assembly", "(IJ)Z"⟩
abbrev c_C_placed : ByteArray := prog_1_method_7_code
def y_C_placed : MethodName := ⟨R_C, "placed", "(IJ)Z"⟩
abbrev c_C_yieldOf : ByteArray := prog_1_method_8_code
def y_C_yieldOf : MethodName := ⟨R_C, "yieldOf", "(JJ)Z"⟩
abbrev c_C_currency : ByteArray := prog_1_method_9_code
def y_C_currency : MethodName := ⟨R_C, "currency", "(IJJJ)Z"⟩
abbrev c_C_tooling : ByteArray := prog_1_method_10_code
def y_C_tooling : MethodName := ⟨R_C, "tooling", "(J)Z"⟩
abbrev c_C_stock : ByteArray := prog_1_method_11_code
def y_C_stock : MethodName := ⟨R_C, "stock", "(IJ)Z"⟩
abbrev c_C_total : ByteArray := prog_1_method_12_code
def y_C_total : MethodName := ⟨R_C, "total", "(JIJ)J"⟩
abbrev c_C_best : ByteArray := prog_1_method_13_code
def y_C_best : MethodName := ⟨R_C, "best", "(JJ)I"⟩
abbrev c_C_each : ByteArray := prog_1_method_14_code
def y_C_each : MethodName := ⟨R_C, "each", "(JIJI)J"⟩
abbrev c_C_suppliers : ByteArray := prog_1_method_15_code
def y_C_suppliers : MethodName := ⟨R_C, "suppliers", "(JI)I"⟩
abbrev c_C_alternate : ByteArray := prog_1_method_16_code
def y_C_alternate : MethodName := ⟨R_C, "alternate", "(II)Z"⟩
abbrev c_C_changed : ByteArray := prog_1_method_17_code
def y_C_changed : MethodName := ⟨R_C, "changed", "(I)I"⟩
abbrev c_C_row : ByteArray := prog_1_method_18_code
def y_C_row : MethodName := ⟨R_C, "row", "(II)I"⟩
abbrev c_C_needIndex : ByteArray := prog_1_method_19_code
def y_C_needIndex : MethodName := ⟨R_C, "needIndex", "(II)V"⟩
abbrev c_C_needNumber : ByteArray := prog_1_method_20_code
def y_C_needNumber : MethodName := ⟨R_C, "needNumber", "(JJJ)V"⟩
abbrev c_C_needStep : ByteArray := prog_1_method_21_code
def y_C_needStep : MethodName := ⟨R_C, "needStep", "(JJ)V"⟩
abbrev c_C_needRatio : ByteArray := prog_1_method_22_code
def y_C_needRatio : MethodName := ⟨R_C, "needRatio", "(JJ)V"⟩
abbrev c_C_tellNumber : ByteArray := prog_1_method_23_code
def y_C_tellNumber : MethodName := ⟨R_C, "tellNumber", "([JIJ)Z"⟩
abbrev c_C_divideUp : ByteArray := prog_1_method_24_code
def y_C_divideUp : MethodName := ⟨R_C, "divideUp", "(JJ)J"⟩
abbrev c_C_mayStandIn : ByteArray := prog_1_method_25_code
def y_C_mayStandIn : MethodName := ⟨R_C, "mayStandIn", "(II)Z"⟩
abbrev c_C_draw : ByteArray := prog_1_method_26_code
def y_C_draw : MethodName := ⟨R_C, "draw", "(JIJ)Z"⟩
abbrev c_C_drawAllButBoards : ByteArray := prog_1_method_27_code
def y_C_drawAllButBoards : MethodName := ⟨R_C, "drawAllButBoards", "(JJ)Z"⟩
abbrev c_C_drawBoards : ByteArray := prog_1_method_28_code
def y_C_drawBoards : MethodName := ⟨R_C, "drawBoards", "(JI)Z"⟩
abbrev c_C_drawPart : ByteArray := prog_1_method_29_code
def y_C_drawPart : MethodName := ⟨R_C, "drawPart", "(IJ)Z"⟩
abbrev c_C_offerSteps : ByteArray := prog_1_method_30_code
def y_C_offerSteps : MethodName := ⟨R_C, "offerSteps", "(IJII)V"⟩
abbrev c_C_assemblyCost : ByteArray := prog_1_method_31_code
def y_C_assemblyCost : MethodName := ⟨R_C, "assemblyCost", "(J)J"⟩
abbrev c_C_keepDraft : ByteArray := prog_1_method_32_code
def y_C_keepDraft : MethodName := ⟨R_C, "keepDraft", "()V"⟩
abbrev c_M_init : ByteArray := prog_8_method_1_code
def y_M_init : MethodName := ⟨R_M, "<init>", "()V"⟩
abbrev c_M_thrown : ByteArray := prog_8_method_2_code
def y_M_thrown : MethodName := ⟨R_M, "thrown", "()I"⟩
abbrev c_M_isPart : ByteArray := prog_8_method_3_code
def y_M_isPart : MethodName := ⟨R_M, "isPart", "(I)Z"⟩
abbrev c_M_isMaker : ByteArray := prog_8_method_4_code
def y_M_isMaker : MethodName := ⟨R_M, "isMaker", "(I)Z"⟩
abbrev c_M_within : ByteArray := prog_8_method_5_code
def y_M_within : MethodName := ⟨R_M, "within", "(JJJ)Z"⟩
abbrev c_M_part : ByteArray := prog_8_method_6_code
def y_M_part : MethodName := ⟨R_M, "part", "()I"⟩
abbrev c_M_tellStep : ByteArray := prog_8_method_7_code
def y_M_tellStep : MethodName := ⟨R_M, "tellStep", "(IJJ)Z"⟩
abbrev c_M_price : ByteArray := prog_8_method_8_code
def y_M_price : MethodName := ⟨R_M, "price", "(IIJJ)Z"⟩
abbrev c_M_board : ByteArray := prog_8_method_9_code
def y_M_board : MethodName := ⟨R_M, "board", "(IJJ)Z"⟩
abbrev c_M_uses : ByteArray := prog_8_method_10_code
def y_M_uses : MethodName := ⟨R_M, "uses", "(IJ)Z"⟩
abbrev c_M_stock : ByteArray := prog_8_method_11_code
def y_M_stock : MethodName := ⟨R_M, "stock", "(IJ)Z"⟩
abbrev c_M_alternate : ByteArray := prog_8_method_12_code
def y_M_alternate : MethodName := ⟨R_M, "alternate", "(II)Z"⟩
abbrev c_M_isSort : ByteArray := prog_8_method_13_code
def y_M_isSort : MethodName := ⟨R_M, "isSort", "(I)Z"⟩
abbrev c_M_assembly : ByteArray := prog_8_method_14_code
def y_M_assembly : MethodName := ⟨R_M, "assembly", "(IJ)Z"⟩
abbrev c_M_placed : ByteArray := prog_8_method_15_code
def y_M_placed : MethodName := ⟨R_M, "placed", "(IJ)Z"⟩
abbrev c_M_yieldOf : ByteArray := prog_8_method_16_code
def y_M_yieldOf : MethodName := ⟨R_M, "yieldOf", "(JJ)Z"⟩
abbrev c_M_currency : ByteArray := prog_8_method_17_code
def y_M_currency : MethodName := ⟨R_M, "currency", "(IJJJ)Z"⟩
abbrev c_M_tooling : ByteArray := prog_8_method_18_code
def y_M_tooling : MethodName := ⟨R_M, "tooling", "(J)Z"⟩
abbrev c_M_up : ByteArray := prog_8_method_19_code
def y_M_up : MethodName := ⟨R_M, "up", "(JJ)J"⟩
abbrev c_M_rateOf : ByteArray := prog_8_method_20_code
def y_M_rateOf : MethodName := ⟨R_M, "rateOf", "(IJ)I"⟩
abbrev c_M_offer : ByteArray := prog_8_method_21_code
def y_M_offer : MethodName := ⟨R_M, "offer", "(IIIJJ)V"⟩
abbrev c_M_started : ByteArray := prog_8_method_22_code
def y_M_started : MethodName := ⟨R_M, "started", "(J)J"⟩
abbrev c_M_reckon : ByteArray := prog_8_method_23_code
def y_M_reckon : MethodName := ⟨R_M, "reckon", "(JIJ)V"⟩
abbrev c_M_buyPart : ByteArray := prog_8_method_24_code
def y_M_buyPart : MethodName := ⟨R_M, "buyPart", "(IJJ)V"⟩
abbrev c_M_isQuantity : ByteArray := prog_8_method_25_code
def y_M_isQuantity : MethodName := ⟨R_M, "isQuantity", "(J)Z"⟩
abbrev c_M_refusal : ByteArray := prog_8_method_26_code
def y_M_refusal : MethodName := ⟨R_M, "refusal", "(JI)I"⟩
abbrev c_M_total : ByteArray := prog_8_method_27_code
def y_M_total : MethodName := ⟨R_M, "total", "(JIJ)J"⟩
abbrev c_M_makersNow : ByteArray := prog_8_method_28_code
def y_M_makersNow : MethodName := ⟨R_M, "makersNow", "()I"⟩
abbrev c_M_best : ByteArray := prog_8_method_29_code
def y_M_best : MethodName := ⟨R_M, "best", "(JJ)I"⟩
abbrev c_M_each : ByteArray := prog_8_method_30_code
def y_M_each : MethodName := ⟨R_M, "each", "(JIJI)J"⟩
abbrev c_M_suppliers : ByteArray := prog_8_method_31_code
def y_M_suppliers : MethodName := ⟨R_M, "suppliers", "(JI)I"⟩
abbrev c_M_changed : ByteArray := prog_8_method_32_code
def y_M_changed : MethodName := ⟨R_M, "changed", "(I)I"⟩
abbrev c_M_row : ByteArray := prog_8_method_33_code
def y_M_row : MethodName := ⟨R_M, "row", "(II)I"⟩
abbrev c_L_price : ByteArray := method_3_code
def y_L_price : MethodName := ⟨R_L, "price", "(LCostSteps;IIJJ[J)I"⟩
abbrev c_L_uses : ByteArray := method_4_code
def y_L_uses : MethodName := ⟨R_L, "uses", "(LCostSteps;IJ[J)I"⟩
abbrev c_L_board : ByteArray := method_5_code
def y_L_board : MethodName := ⟨R_L, "board", "(LCostSteps;IJJ[J)I"⟩
abbrev c_L_assembly : ByteArray := method_6_code
def y_L_assembly : MethodName := ⟨R_L, "assembly", "(LCostSteps;IJ[J)I"⟩
abbrev c_L_placed : ByteArray := method_7_code
def y_L_placed : MethodName := ⟨R_L, "placed", "(LCostSteps;IJ[J)I"⟩
abbrev c_L_yieldOf : ByteArray := method_8_code
def y_L_yieldOf : MethodName := ⟨R_L, "yieldOf", "(LCostSteps;JJ[J)I"⟩
abbrev c_L_currency : ByteArray := method_9_code
def y_L_currency : MethodName := ⟨R_L, "currency", "(LCostSteps;IJJJ[J)I"⟩
abbrev c_L_tooling : ByteArray := method_10_code
def y_L_tooling : MethodName := ⟨R_L, "tooling", "(LCostSteps;J[J)I"⟩
abbrev c_L_stock : ByteArray := method_11_code
def y_L_stock : MethodName := ⟨R_L, "stock", "(LCostSteps;IJ[J)I"⟩
abbrev c_L_total : ByteArray := method_12_code
def y_L_total : MethodName := ⟨R_L, "total", "(LCostSteps;JIJ[J)I"⟩
abbrev c_L_best : ByteArray := method_13_code
def y_L_best : MethodName := ⟨R_L, "best", "(LCostSteps;JJ[J)I"⟩
abbrev c_L_each : ByteArray := method_14_code
def y_L_each : MethodName := ⟨R_L, "each", "(LCostSteps;JIJI[J)I"⟩
abbrev c_L_suppliers : ByteArray := method_15_code
def y_L_suppliers : MethodName := ⟨R_L, "suppliers", "(LCostSteps;JI[J)I"⟩
abbrev c_L_alternate : ByteArray := method_16_code
def y_L_alternate : MethodName := ⟨R_L, "alternate", "(LCostSteps;II[J)I"⟩
abbrev c_L_row : ByteArray := method_17_code
def y_L_row : MethodName := ⟨R_L, "row", "(LCostSteps;II[J)I"⟩
abbrev c_JI_bitCount : ByteArray := prog_12_method_49_code
def y_JI_bitCount : MethodName := ⟨R_JI, "bitCount", "(I)I"⟩
def WALL : List Cond := lw_tbl.filter goodWord
def isN : Cond → Bool
  | .methodLinkNest _ _ _ _ => true
  | .fieldLinkNest _ _ _ _ _ _ => true
  | .declares _ => true
  | .castable _ _ => true
  | _ => false
def NALL : List Cond := tables_1.filter isN
theorem mw {w : Cond} (i : Nat) (h : tables_1[i]? = some w) (g : goodWord w = true) : w ∈ WALL := List.mem_filter.mpr ⟨List.mem_append_right _ (List.mem_of_getElem? h), g⟩
theorem mws {w : Cond} (i : Nat) (h : (k2_sels lw_privs)[i]? = some w) (g : goodWord w = true) : w ∈ WALL := List.mem_filter.mpr ⟨List.mem_append_left _ (List.mem_of_getElem? h), g⟩
theorem mn {w : Cond} (i : Nat) (h : tables_1[i]? = some w) (g : isN w = true) : w ∈ NALL := List.mem_filter.mpr ⟨List.mem_of_getElem? h, g⟩
theorem wz_L : Cond.initialized R_L ∈ WALL := mw 0 (by decide +kernel) (by decide +kernel)
theorem wz_C : Cond.initialized R_C ∈ WALL := mw 1 (by decide +kernel) (by decide +kernel)
theorem wz_St : Cond.initialized R_St ∈ WALL := mw 2 (by decide +kernel) (by decide +kernel)
theorem wz_K : Cond.initialized R_K ∈ WALL := mw 3 (by decide +kernel) (by decide +kernel)
theorem wz_Math : Cond.initialized "java/lang/Math" ∈ WALL := mw 4 (by decide +kernel) (by decide +kernel)
theorem wz_Ra : Cond.initialized R_Ra ∈ WALL := mw 5 (by decide +kernel) (by decide +kernel)
theorem wz_Y : Cond.initialized R_Y ∈ WALL := mw 6 (by decide +kernel) (by decide +kernel)
theorem wz_Q : Cond.initialized R_Q ∈ WALL := mw 7 (by decide +kernel) (by decide +kernel)
theorem wz_M : Cond.initialized R_M ∈ WALL := mw 8 (by decide +kernel) (by decide +kernel)
theorem wz_Throwable : Cond.initialized "java/lang/Throwable" ∈ WALL := mw 9 (by decide +kernel) (by decide +kernel)
theorem wz_Exception : Cond.initialized "java/lang/Exception" ∈ WALL := mw 10 (by decide +kernel) (by decide +kernel)
theorem wz_RuntimeException : Cond.initialized "java/lang/RuntimeException" ∈ WALL := mw 11 (by decide +kernel) (by decide +kernel)
theorem wz_IndexOutOfBoundsException : Cond.initialized "java/lang/IndexOutOfBoundsException" ∈ WALL := mw 12 (by decide +kernel) (by decide +kernel)
theorem wz_IllegalArgumentException : Cond.initialized "java/lang/IllegalArgumentException" ∈ WALL := mw 13 (by decide +kernel) (by decide +kernel)
theorem wz_JI : Cond.initialized R_JI ∈ WALL := mw 14 (by decide +kernel) (by decide +kernel)
theorem wk_L_8 : Cond.classLink R_L 8 R_C ∈ WALL := mw 15 (by decide +kernel) (by decide +kernel)
theorem wt_C : Cond.instantiable R_C 13 ∈ WALL := mw 16 (by decide +kernel) (by decide +kernel)
theorem wm_L_70 : Cond.methodLink R_L 70 y_C_init ∈ WALL := mw 17 (by decide +kernel) (by decide +kernel)
theorem wi_C_init : Cond.instanceMethod y_C_init ∈ WALL := mw 18 (by decide +kernel) (by decide +kernel)
theorem wc_C_init : Cond.code y_C_init c_C_init 1 none ∈ WALL := mw 19 (by decide +kernel) (by decide +kernel)
theorem wm_C_5 : Cond.methodLink R_C 5 objectInit ∈ WALL := mw 20 (by decide +kernel) (by decide +kernel)
theorem wi_objInit : Cond.instanceMethod objectInit ∈ WALL := mw 21 (by decide +kernel) (by decide +kernel)
theorem wc_objInit : Cond.code objectInit ⟨#[0xb1]⟩ 1 none ∈ WALL := mw 22 (by decide +kernel) (by decide +kernel)
theorem wk_C_28 : Cond.classLink R_C 28 R_St ∈ WALL := mw 23 (by decide +kernel) (by decide +kernel)
theorem wt_St : Cond.instantiable R_St 2 ∈ WALL := mw 24 (by decide +kernel) (by decide +kernel)
theorem nl_C_30 : Cond.methodLinkNest R_C 30 y_St_init R_C ∈ NALL := mn 25 (by decide +kernel) (by decide +kernel)
theorem wi_St_init : Cond.instanceMethod y_St_init ∈ WALL := mw 26 (by decide +kernel) (by decide +kernel)
theorem wc_St_init : Cond.code y_St_init c_St_init 1 none ∈ WALL := mw 27 (by decide +kernel) (by decide +kernel)
theorem wm_St_3 : Cond.methodLink R_St 3 objectInit ∈ WALL := mw 28 (by decide +kernel) (by decide +kernel)
theorem wk_St_9 : Cond.classLink R_St 9 R_K ∈ WALL := mw 29 (by decide +kernel) (by decide +kernel)
theorem wt_K : Cond.instantiable R_K 2 ∈ WALL := mw 30 (by decide +kernel) (by decide +kernel)
theorem nl_St_11 : Cond.methodLinkNest R_St 11 y_K_init R_C ∈ NALL := mn 31 (by decide +kernel) (by decide +kernel)
theorem wi_K_init : Cond.instanceMethod y_K_init ∈ WALL := mw 32 (by decide +kernel) (by decide +kernel)
theorem wc_K_init : Cond.code y_K_init c_K_init 3 none ∈ WALL := mw 33 (by decide +kernel) (by decide +kernel)
theorem wm_K_3 : Cond.methodLink R_K 3 objectInit ∈ WALL := mw 34 (by decide +kernel) (by decide +kernel)
theorem wm_K_9 : Cond.methodLink R_K 9 Lib.Math.max.name ∈ WALL := mw 35 (by decide +kernel) (by decide +kernel)
theorem ws_maxI : Cond.static Lib.Math.max.name ∈ WALL := mw 36 (by decide +kernel) (by decide +kernel)
theorem wc_maxI : Cond.code Lib.Math.max.name Lib.Math.max.code 2 (some .int) ∈ WALL := mw 37 (by decide +kernel) (by decide +kernel)
theorem wf_K_15 : Cond.fieldLink R_K 15 (T_K 0).1 (T_K 0).2.1 (T_K 0).2.2.1 ∈ WALL := mw 38 (by decide +kernel) (by decide +kernel)
theorem nf_St_31 : Cond.fieldLinkNest R_St 31 (T_K 0).1 (T_K 0).2.1 (T_K 0).2.2.1 R_C ∈ NALL := mn 39 (by decide +kernel) (by decide +kernel)
theorem nf_Ra_51 : Cond.fieldLinkNest R_Ra 51 (T_K 0).1 (T_K 0).2.1 (T_K 0).2.2.1 R_C ∈ NALL := mn 40 (by decide +kernel) (by decide +kernel)
theorem wf_K_21 : Cond.fieldLink R_K 21 (T_K 1).1 (T_K 1).2.1 (T_K 1).2.2.1 ∈ WALL := mw 41 (by decide +kernel) (by decide +kernel)
theorem wa_long : Cond.arrayClass .long ∈ WALL := mw 47 (by decide +kernel) (by decide +kernel)
theorem wa_int : Cond.arrayClass .int ∈ WALL := mw 48 (by decide +kernel) (by decide +kernel)
theorem wf_St_14 : Cond.fieldLink R_St 14 (T_St 0).1 (T_St 0).2.1 (T_St 0).2.2.1 ∈ WALL := mw 49 (by decide +kernel) (by decide +kernel)
theorem wf_St_20 : Cond.fieldLink R_St 20 (T_St 1).1 (T_St 1).2.1 (T_St 1).2.2.1 ∈ WALL := mw 50 (by decide +kernel) (by decide +kernel)
theorem nf_C_212 : Cond.fieldLinkNest R_C 212 (T_St 1).1 (T_St 1).2.1 (T_St 1).2.2.1 R_C ∈ NALL := mn 51 (by decide +kernel) (by decide +kernel)
theorem wk_C_35 : Cond.classLink R_C 35 R_Ra ∈ WALL := mw 57 (by decide +kernel) (by decide +kernel)
theorem wt_Ra : Cond.instantiable R_Ra 5 ∈ WALL := mw 58 (by decide +kernel) (by decide +kernel)
theorem nl_C_37 : Cond.methodLinkNest R_C 37 y_Ra_init R_C ∈ NALL := mn 59 (by decide +kernel) (by decide +kernel)
theorem wi_Ra_init : Cond.instanceMethod y_Ra_init ∈ WALL := mw 60 (by decide +kernel) (by decide +kernel)
theorem wc_Ra_init : Cond.code y_Ra_init c_Ra_init 1 none ∈ WALL := mw 61 (by decide +kernel) (by decide +kernel)
theorem wm_Ra_3 : Cond.methodLink R_Ra 3 objectInit ∈ WALL := mw 62 (by decide +kernel) (by decide +kernel)
theorem wk_Ra_9 : Cond.classLink R_Ra 9 R_K ∈ WALL := mw 63 (by decide +kernel) (by decide +kernel)
theorem nl_Ra_11 : Cond.methodLinkNest R_Ra 11 y_K_init R_C ∈ NALL := mn 64 (by decide +kernel) (by decide +kernel)
theorem wf_Ra_14 : Cond.fieldLink R_Ra 14 (T_Ra 0).1 (T_Ra 0).2.1 (T_Ra 0).2.2.1 ∈ WALL := mw 65 (by decide +kernel) (by decide +kernel)
theorem wf_Ra_20 : Cond.fieldLink R_Ra 20 (T_Ra 1).1 (T_Ra 1).2.1 (T_Ra 1).2.2.1 ∈ WALL := mw 66 (by decide +kernel) (by decide +kernel)
theorem wf_Ra_24 : Cond.fieldLink R_Ra 24 (T_Ra 2).1 (T_Ra 2).2.1 (T_Ra 2).2.2.1 ∈ WALL := mw 67 (by decide +kernel) (by decide +kernel)
theorem wf_Ra_27 : Cond.fieldLink R_Ra 27 (T_Ra 3).1 (T_Ra 3).2.1 (T_Ra 3).2.2.1 ∈ WALL := mw 68 (by decide +kernel) (by decide +kernel)
theorem wf_Ra_30 : Cond.fieldLink R_Ra 30 (T_Ra 4).1 (T_Ra 4).2.1 (T_Ra 4).2.2.1 ∈ WALL := mw 69 (by decide +kernel) (by decide +kernel)
theorem wk_C_42 : Cond.classLink R_C 42 R_Y ∈ WALL := mw 81 (by decide +kernel) (by decide +kernel)
theorem wt_Y : Cond.instantiable R_Y 3 ∈ WALL := mw 82 (by decide +kernel) (by decide +kernel)
theorem nl_C_44 : Cond.methodLinkNest R_C 44 y_Y_init R_C ∈ NALL := mn 83 (by decide +kernel) (by decide +kernel)
theorem wi_Y_init : Cond.instanceMethod y_Y_init ∈ WALL := mw 84 (by decide +kernel) (by decide +kernel)
theorem wc_Y_init : Cond.code y_Y_init c_Y_init 1 none ∈ WALL := mw 85 (by decide +kernel) (by decide +kernel)
theorem wm_Y_3 : Cond.methodLink R_Y 3 objectInit ∈ WALL := mw 86 (by decide +kernel) (by decide +kernel)
theorem wf_Y_9 : Cond.fieldLink R_Y 9 (T_Y 0).1 (T_Y 0).2.1 (T_Y 0).2.2.1 ∈ WALL := mw 87 (by decide +kernel) (by decide +kernel)
theorem wf_Y_15 : Cond.fieldLink R_Y 15 (T_Y 1).1 (T_Y 1).2.1 (T_Y 1).2.2.1 ∈ WALL := mw 88 (by decide +kernel) (by decide +kernel)
theorem wf_Y_18 : Cond.fieldLink R_Y 18 (T_Y 2).1 (T_Y 2).2.1 (T_Y 2).2.2.1 ∈ WALL := mw 89 (by decide +kernel) (by decide +kernel)
theorem wk_C_57 : Cond.classLink R_C 57 R_Q ∈ WALL := mw 97 (by decide +kernel) (by decide +kernel)
theorem wt_Q : Cond.instantiable R_Q 5 ∈ WALL := mw 98 (by decide +kernel) (by decide +kernel)
theorem nl_C_59 : Cond.methodLinkNest R_C 59 y_Q_init R_C ∈ NALL := mn 99 (by decide +kernel) (by decide +kernel)
theorem wi_Q_init : Cond.instanceMethod y_Q_init ∈ WALL := mw 100 (by decide +kernel) (by decide +kernel)
theorem wc_Q_init : Cond.code y_Q_init c_Q_init 1 none ∈ WALL := mw 101 (by decide +kernel) (by decide +kernel)
theorem wm_Q_3 : Cond.methodLink R_Q 3 objectInit ∈ WALL := mw 102 (by decide +kernel) (by decide +kernel)
theorem wf_Q_9 : Cond.fieldLink R_Q 9 (T_Q 0).1 (T_Q 0).2.1 (T_Q 0).2.2.1 ∈ WALL := mw 103 (by decide +kernel) (by decide +kernel)
theorem nf_C_143 : Cond.fieldLinkNest R_C 143 (T_Q 0).1 (T_Q 0).2.1 (T_Q 0).2.2.1 R_C ∈ NALL := mn 104 (by decide +kernel) (by decide +kernel)
theorem wf_Q_15 : Cond.fieldLink R_Q 15 (T_Q 1).1 (T_Q 1).2.1 (T_Q 1).2.2.1 ∈ WALL := mw 105 (by decide +kernel) (by decide +kernel)
theorem nf_C_146 : Cond.fieldLinkNest R_C 146 (T_Q 1).1 (T_Q 1).2.1 (T_Q 1).2.2.1 R_C ∈ NALL := mn 106 (by decide +kernel) (by decide +kernel)
theorem wf_Q_19 : Cond.fieldLink R_Q 19 (T_Q 2).1 (T_Q 2).2.1 (T_Q 2).2.2.1 ∈ WALL := mw 107 (by decide +kernel) (by decide +kernel)
theorem nf_C_149 : Cond.fieldLinkNest R_C 149 (T_Q 2).1 (T_Q 2).2.1 (T_Q 2).2.2.1 R_C ∈ NALL := mn 108 (by decide +kernel) (by decide +kernel)
theorem wf_Q_22 : Cond.fieldLink R_Q 22 (T_Q 3).1 (T_Q 3).2.1 (T_Q 3).2.2.1 ∈ WALL := mw 109 (by decide +kernel) (by decide +kernel)
theorem nf_C_152 : Cond.fieldLinkNest R_C 152 (T_Q 3).1 (T_Q 3).2.1 (T_Q 3).2.2.1 R_C ∈ NALL := mn 110 (by decide +kernel) (by decide +kernel)
theorem wf_Q_25 : Cond.fieldLink R_Q 25 (T_Q 4).1 (T_Q 4).2.1 (T_Q 4).2.2.1 ∈ WALL := mw 111 (by decide +kernel) (by decide +kernel)
theorem nf_C_140 : Cond.fieldLinkNest R_C 140 (T_Q 4).1 (T_Q 4).2.1 (T_Q 4).2.2.1 R_C ∈ NALL := mn 112 (by decide +kernel) (by decide +kernel)
theorem wf_C_11 : Cond.fieldLink R_C 11 (T_C 0).1 (T_C 0).2.1 (T_C 0).2.2.1 ∈ WALL := mw 124 (by decide +kernel) (by decide +kernel)
theorem wf_C_15 : Cond.fieldLink R_C 15 (T_C 1).1 (T_C 1).2.1 (T_C 1).2.2.1 ∈ WALL := mw 125 (by decide +kernel) (by decide +kernel)
theorem wf_C_18 : Cond.fieldLink R_C 18 (T_C 2).1 (T_C 2).2.1 (T_C 2).2.2.1 ∈ WALL := mw 126 (by decide +kernel) (by decide +kernel)
theorem wf_C_22 : Cond.fieldLink R_C 22 (T_C 3).1 (T_C 3).2.1 (T_C 3).2.2.1 ∈ WALL := mw 127 (by decide +kernel) (by decide +kernel)
theorem wf_C_25 : Cond.fieldLink R_C 25 (T_C 4).1 (T_C 4).2.1 (T_C 4).2.2.1 ∈ WALL := mw 128 (by decide +kernel) (by decide +kernel)
theorem wf_C_31 : Cond.fieldLink R_C 31 (T_C 5).1 (T_C 5).2.1 (T_C 5).2.2.1 ∈ WALL := mw 129 (by decide +kernel) (by decide +kernel)
theorem wf_C_38 : Cond.fieldLink R_C 38 (T_C 6).1 (T_C 6).2.1 (T_C 6).2.2.1 ∈ WALL := mw 130 (by decide +kernel) (by decide +kernel)
theorem wf_C_45 : Cond.fieldLink R_C 45 (T_C 7).1 (T_C 7).2.1 (T_C 7).2.2.1 ∈ WALL := mw 131 (by decide +kernel) (by decide +kernel)
theorem wf_C_49 : Cond.fieldLink R_C 49 (T_C 8).1 (T_C 8).2.1 (T_C 8).2.2.1 ∈ WALL := mw 132 (by decide +kernel) (by decide +kernel)
theorem wf_C_53 : Cond.fieldLink R_C 53 (T_C 9).1 (T_C 9).2.1 (T_C 9).2.2.1 ∈ WALL := mw 133 (by decide +kernel) (by decide +kernel)
theorem wf_C_60 : Cond.fieldLink R_C 60 (T_C 10).1 (T_C 10).2.1 (T_C 10).2.2.1 ∈ WALL := mw 134 (by decide +kernel) (by decide +kernel)
theorem wf_C_64 : Cond.fieldLink R_C 64 (T_C 11).1 (T_C 11).2.1 (T_C 11).2.2.1 ∈ WALL := mw 135 (by decide +kernel) (by decide +kernel)
theorem wf_C_67 : Cond.fieldLink R_C 67 (T_C 12).1 (T_C 12).2.1 (T_C 12).2.2.1 ∈ WALL := mw 136 (by decide +kernel) (by decide +kernel)
theorem wm_L_74 : Cond.methodLink R_L 74 y_C_part ∈ WALL := mw 164 (by decide +kernel) (by decide +kernel)
theorem wi_C_part : Cond.instanceMethod y_C_part ∈ WALL := mw 165 (by decide +kernel) (by decide +kernel)
theorem wl_C_part : Cond.selects R_C y_C_part y_C_part ∈ WALL := mw 166 (by decide +kernel) (by decide +kernel)
theorem wc_C_part : Cond.code y_C_part c_C_part 2 (some .int) ∈ WALL := mw 167 (by decide +kernel) (by decide +kernel)
theorem wm_L_138 : Cond.methodLink R_L 138 y_C_changed ∈ WALL := mw 168 (by decide +kernel) (by decide +kernel)
theorem wi_C_changed : Cond.instanceMethod y_C_changed ∈ WALL := mw 169 (by decide +kernel) (by decide +kernel)
theorem wl_C_changed : Cond.selects R_C y_C_changed y_C_changed ∈ WALL := mw 170 (by decide +kernel) (by decide +kernel)
theorem wc_C_changed : Cond.code y_C_changed c_C_changed 4 (some .int) ∈ WALL := mw 171 (by decide +kernel) (by decide +kernel)
theorem wm_L_81 : Cond.methodLink R_L 81 y_L_price ∈ WALL := mw 172 (by decide +kernel) (by decide +kernel)
theorem ws_L_price : Cond.static y_L_price ∈ WALL := mw 173 (by decide +kernel) (by decide +kernel)
theorem wc_L_price : Cond.codeWith y_L_price c_L_price 9 (some .int) [(0, 21, 24, 13), (0, 21, 28, 15)] ∈ WALL := mw 174 (by decide +kernel) (by decide +kernel)
theorem wk_L_13 : Cond.classLink R_L 13 "java/lang/IndexOutOfBoundsException" ∈ WALL := mw 175 (by decide +kernel) (by decide +kernel)
theorem wk_L_15 : Cond.classLink R_L 15 "java/lang/IllegalArgumentException" ∈ WALL := mw 176 (by decide +kernel) (by decide +kernel)
theorem wm_L_7 : Cond.methodLink R_L 7 y_C_price ∈ WALL := mw 177 (by decide +kernel) (by decide +kernel)
theorem wi_C_price : Cond.instanceMethod y_C_price ∈ WALL := mw 178 (by decide +kernel) (by decide +kernel)
theorem wl_C_price : Cond.selects R_C y_C_price y_C_price ∈ WALL := mw 179 (by decide +kernel) (by decide +kernel)
theorem wc_C_price : Cond.code y_C_price c_C_price 7 (some .boolean) ∈ WALL := mw 180 (by decide +kernel) (by decide +kernel)
theorem wm_C_70 : Cond.methodLink R_C 70 y_C_needIndex ∈ WALL := mw 181 (by decide +kernel) (by decide +kernel)
theorem ws_C_needIndex : Cond.static y_C_needIndex ∈ WALL := mw 182 (by decide +kernel) (by decide +kernel)
theorem wc_C_needIndex : Cond.code y_C_needIndex c_C_needIndex 2 none ∈ WALL := mw 183 (by decide +kernel) (by decide +kernel)
theorem wk_C_155 : Cond.classLink R_C 155 "java/lang/IndexOutOfBoundsException" ∈ WALL := mw 184 (by decide +kernel) (by decide +kernel)
theorem wm_C_74 : Cond.methodLink R_C 74 y_C_needStep ∈ WALL := mw 251 (by decide +kernel) (by decide +kernel)
theorem ws_C_needStep : Cond.static y_C_needStep ∈ WALL := mw 252 (by decide +kernel) (by decide +kernel)
theorem wc_C_needStep : Cond.code y_C_needStep c_C_needStep 4 none ∈ WALL := mw 253 (by decide +kernel) (by decide +kernel)
theorem wv_C_104 : Cond.constantLong R_C 104 1000000000 ∈ WALL := mw 254 (by decide +kernel) (by decide +kernel)
theorem wm_C_84 : Cond.methodLink R_C 84 y_C_needNumber ∈ WALL := mw 255 (by decide +kernel) (by decide +kernel)
theorem ws_C_needNumber : Cond.static y_C_needNumber ∈ WALL := mw 256 (by decide +kernel) (by decide +kernel)
theorem wc_C_needNumber : Cond.code y_C_needNumber c_C_needNumber 6 none ∈ WALL := mw 257 (by decide +kernel) (by decide +kernel)
theorem wk_C_162 : Cond.classLink R_C 162 "java/lang/IllegalArgumentException" ∈ WALL := mw 258 (by decide +kernel) (by decide +kernel)
theorem wv_C_167 : Cond.constantLong R_C 167 100000 ∈ WALL := mw 274 (by decide +kernel) (by decide +kernel)
theorem nl_C_78 : Cond.methodLinkNest R_C 78 y_St_tell R_C ∈ NALL := mn 275 (by decide +kernel) (by decide +kernel)
theorem wi_St_tell : Cond.instanceMethod y_St_tell ∈ WALL := mw 277 (by decide +kernel) (by decide +kernel)
theorem wc_St_tell : Cond.code y_St_tell c_St_tell 8 (some .boolean) ∈ WALL := mw 278 (by decide +kernel) (by decide +kernel)
theorem nl_St_34 : Cond.methodLinkNest R_St 34 y_K_slotFor R_C ∈ NALL := mn 279 (by decide +kernel) (by decide +kernel)
theorem wi_K_slotFor : Cond.instanceMethod y_K_slotFor ∈ WALL := mw 281 (by decide +kernel) (by decide +kernel)
theorem wc_K_slotFor : Cond.code y_K_slotFor c_K_slotFor 6 (some .int) ∈ WALL := mw 282 (by decide +kernel) (by decide +kernel)
theorem wm_K_25 : Cond.methodLink R_K 25 y_K_endSlot ∈ WALL := mw 283 (by decide +kernel) (by decide +kernel)
theorem wi_K_endSlot : Cond.instanceMethod y_K_endSlot ∈ WALL := mw 285 (by decide +kernel) (by decide +kernel)
theorem wc_K_endSlot : Cond.code y_K_endSlot c_K_endSlot 2 (some .int) ∈ WALL := mw 286 (by decide +kernel) (by decide +kernel)
theorem wm_K_29 : Cond.methodLink R_K 29 y_K_firstSlot ∈ WALL := mw 287 (by decide +kernel) (by decide +kernel)
theorem wi_K_firstSlot : Cond.instanceMethod y_K_firstSlot ∈ WALL := mw 289 (by decide +kernel) (by decide +kernel)
theorem wc_K_firstSlot : Cond.code y_K_firstSlot c_K_firstSlot 2 (some .int) ∈ WALL := mw 290 (by decide +kernel) (by decide +kernel)
theorem nl_St_38 : Cond.methodLinkNest R_St 38 y_C_tellNumber R_C ∈ NALL := mn 291 (by decide +kernel) (by decide +kernel)
theorem ws_C_tellNumber : Cond.static y_C_tellNumber ∈ WALL := mw 292 (by decide +kernel) (by decide +kernel)
theorem wc_C_tellNumber : Cond.code y_C_tellNumber c_C_tellNumber 5 (some .boolean) ∈ WALL := mw 293 (by decide +kernel) (by decide +kernel)
theorem wm_L_90 : Cond.methodLink R_L 90 y_L_uses ∈ WALL := mw 294 (by decide +kernel) (by decide +kernel)
theorem ws_L_uses : Cond.static y_L_uses ∈ WALL := mw 295 (by decide +kernel) (by decide +kernel)
theorem wc_L_uses : Cond.codeWith y_L_uses c_L_uses 6 (some .int) [(0, 18, 21, 13), (0, 18, 25, 15)] ∈ WALL := mw 296 (by decide +kernel) (by decide +kernel)
theorem wm_L_17 : Cond.methodLink R_L 17 y_C_uses ∈ WALL := mw 297 (by decide +kernel) (by decide +kernel)
theorem wi_C_uses : Cond.instanceMethod y_C_uses ∈ WALL := mw 298 (by decide +kernel) (by decide +kernel)
theorem wl_C_uses : Cond.selects R_C y_C_uses y_C_uses ∈ WALL := mw 299 (by decide +kernel) (by decide +kernel)
theorem wc_C_uses : Cond.code y_C_uses c_C_uses 4 (some .boolean) ∈ WALL := mw 300 (by decide +kernel) (by decide +kernel)
theorem wv_C_82 : Cond.constantLong R_C 82 1000 ∈ WALL := mw 301 (by decide +kernel) (by decide +kernel)
theorem wm_C_88 : Cond.methodLink R_C 88 y_C_tellNumber ∈ WALL := mw 302 (by decide +kernel) (by decide +kernel)
theorem wm_L_94 : Cond.methodLink R_L 94 y_L_board ∈ WALL := mw 303 (by decide +kernel) (by decide +kernel)
theorem ws_L_board : Cond.static y_L_board ∈ WALL := mw 304 (by decide +kernel) (by decide +kernel)
theorem wc_L_board : Cond.codeWith y_L_board c_L_board 8 (some .int) [(0, 20, 23, 13), (0, 20, 27, 15)] ∈ WALL := mw 305 (by decide +kernel) (by decide +kernel)
theorem wm_L_21 : Cond.methodLink R_L 21 y_C_board ∈ WALL := mw 306 (by decide +kernel) (by decide +kernel)
theorem wi_C_board : Cond.instanceMethod y_C_board ∈ WALL := mw 307 (by decide +kernel) (by decide +kernel)
theorem wl_C_board : Cond.selects R_C y_C_board y_C_board ∈ WALL := mw 308 (by decide +kernel) (by decide +kernel)
theorem wc_C_board : Cond.code y_C_board c_C_board 6 (some .boolean) ∈ WALL := mw 309 (by decide +kernel) (by decide +kernel)
theorem wm_L_98 : Cond.methodLink R_L 98 y_L_assembly ∈ WALL := mw 310 (by decide +kernel) (by decide +kernel)
theorem ws_L_assembly : Cond.static y_L_assembly ∈ WALL := mw 311 (by decide +kernel) (by decide +kernel)
theorem wc_L_assembly : Cond.codeWith y_L_assembly c_L_assembly 6 (some .int) [(0, 18, 21, 13), (0, 18, 25, 15)] ∈ WALL := mw 312 (by decide +kernel) (by decide +kernel)
theorem wm_L_25 : Cond.methodLink R_L 25 y_C_assembly ∈ WALL := mw 313 (by decide +kernel) (by decide +kernel)
theorem wi_C_assembly : Cond.instanceMethod y_C_assembly ∈ WALL := mw 314 (by decide +kernel) (by decide +kernel)
theorem wl_C_assembly : Cond.selects R_C y_C_assembly y_C_assembly ∈ WALL := mw 315 (by decide +kernel) (by decide +kernel)
theorem wc_C_assembly : Cond.code y_C_assembly c_C_assembly 4 (some .boolean) ∈ WALL := mw 316 (by decide +kernel) (by decide +kernel)
theorem wv_C_92 : Cond.constantLong R_C 92 1000000 ∈ WALL := mw 317 (by decide +kernel) (by decide +kernel)
theorem wm_L_101 : Cond.methodLink R_L 101 y_L_placed ∈ WALL := mw 318 (by decide +kernel) (by decide +kernel)
theorem ws_L_placed : Cond.static y_L_placed ∈ WALL := mw 319 (by decide +kernel) (by decide +kernel)
theorem wc_L_placed : Cond.codeWith y_L_placed c_L_placed 6 (some .int) [(0, 18, 21, 13), (0, 18, 25, 15)] ∈ WALL := mw 320 (by decide +kernel) (by decide +kernel)
theorem wm_L_28 : Cond.methodLink R_L 28 y_C_placed ∈ WALL := mw 321 (by decide +kernel) (by decide +kernel)
theorem wi_C_placed : Cond.instanceMethod y_C_placed ∈ WALL := mw 322 (by decide +kernel) (by decide +kernel)
theorem wl_C_placed : Cond.selects R_C y_C_placed y_C_placed ∈ WALL := mw 323 (by decide +kernel) (by decide +kernel)
theorem wc_C_placed : Cond.code y_C_placed c_C_placed 4 (some .boolean) ∈ WALL := mw 324 (by decide +kernel) (by decide +kernel)
theorem wm_L_104 : Cond.methodLink R_L 104 y_L_yieldOf ∈ WALL := mw 325 (by decide +kernel) (by decide +kernel)
theorem ws_L_yieldOf : Cond.static y_L_yieldOf ∈ WALL := mw 326 (by decide +kernel) (by decide +kernel)
theorem wc_L_yieldOf : Cond.codeWith y_L_yieldOf c_L_yieldOf 7 (some .int) [(0, 18, 21, 15)] ∈ WALL := mw 327 (by decide +kernel) (by decide +kernel)
theorem wm_L_31 : Cond.methodLink R_L 31 y_C_yieldOf ∈ WALL := mw 328 (by decide +kernel) (by decide +kernel)
theorem wi_C_yieldOf : Cond.instanceMethod y_C_yieldOf ∈ WALL := mw 329 (by decide +kernel) (by decide +kernel)
theorem wl_C_yieldOf : Cond.selects R_C y_C_yieldOf y_C_yieldOf ∈ WALL := mw 330 (by decide +kernel) (by decide +kernel)
theorem wc_C_yieldOf : Cond.code y_C_yieldOf c_C_yieldOf 5 (some .boolean) ∈ WALL := mw 331 (by decide +kernel) (by decide +kernel)
theorem wm_C_94 : Cond.methodLink R_C 94 y_C_needRatio ∈ WALL := mw 332 (by decide +kernel) (by decide +kernel)
theorem ws_C_needRatio : Cond.static y_C_needRatio ∈ WALL := mw 333 (by decide +kernel) (by decide +kernel)
theorem wc_C_needRatio : Cond.code y_C_needRatio c_C_needRatio 4 none ∈ WALL := mw 334 (by decide +kernel) (by decide +kernel)
theorem nl_C_97 : Cond.methodLinkNest R_C 97 y_Y_add R_C ∈ NALL := mn 335 (by decide +kernel) (by decide +kernel)
theorem wi_Y_add : Cond.instanceMethod y_Y_add ∈ WALL := mw 337 (by decide +kernel) (by decide +kernel)
theorem wc_Y_add : Cond.code y_Y_add c_Y_add 5 (some .boolean) ∈ WALL := mw 338 (by decide +kernel) (by decide +kernel)
theorem wm_L_108 : Cond.methodLink R_L 108 y_L_currency ∈ WALL := mw 339 (by decide +kernel) (by decide +kernel)
theorem ws_L_currency : Cond.static y_L_currency ∈ WALL := mw 340 (by decide +kernel) (by decide +kernel)
theorem wc_L_currency : Cond.codeWith y_L_currency c_L_currency 10 (some .int) [(0, 22, 25, 13), (0, 22, 29, 15)] ∈ WALL := mw 341 (by decide +kernel) (by decide +kernel)
theorem wm_L_35 : Cond.methodLink R_L 35 y_C_currency ∈ WALL := mw 342 (by decide +kernel) (by decide +kernel)
theorem wi_C_currency : Cond.instanceMethod y_C_currency ∈ WALL := mw 343 (by decide +kernel) (by decide +kernel)
theorem wl_C_currency : Cond.selects R_C y_C_currency y_C_currency ∈ WALL := mw 344 (by decide +kernel) (by decide +kernel)
theorem wc_C_currency : Cond.code y_C_currency c_C_currency 8 (some .boolean) ∈ WALL := mw 345 (by decide +kernel) (by decide +kernel)
theorem nl_C_101 : Cond.methodLinkNest R_C 101 y_Ra_tell R_C ∈ NALL := mn 346 (by decide +kernel) (by decide +kernel)
theorem wi_Ra_tell : Cond.instanceMethod y_Ra_tell ∈ WALL := mw 348 (by decide +kernel) (by decide +kernel)
theorem wc_Ra_tell : Cond.code y_Ra_tell c_Ra_tell 11 (some .boolean) ∈ WALL := mw 349 (by decide +kernel) (by decide +kernel)
theorem nl_Ra_33 : Cond.methodLinkNest R_Ra 33 y_K_slotFor R_C ∈ NALL := mn 350 (by decide +kernel) (by decide +kernel)
theorem nl_Ra_37 : Cond.methodLinkNest R_Ra 37 y_C_tellNumber R_C ∈ NALL := mn 351 (by decide +kernel) (by decide +kernel)
theorem wm_L_112 : Cond.methodLink R_L 112 y_L_tooling ∈ WALL := mw 352 (by decide +kernel) (by decide +kernel)
theorem ws_L_tooling : Cond.static y_L_tooling ∈ WALL := mw 353 (by decide +kernel) (by decide +kernel)
theorem wc_L_tooling : Cond.codeWith y_L_tooling c_L_tooling 5 (some .int) [(0, 16, 19, 15)] ∈ WALL := mw 354 (by decide +kernel) (by decide +kernel)
theorem wm_L_39 : Cond.methodLink R_L 39 y_C_tooling ∈ WALL := mw 355 (by decide +kernel) (by decide +kernel)
theorem wi_C_tooling : Cond.instanceMethod y_C_tooling ∈ WALL := mw 356 (by decide +kernel) (by decide +kernel)
theorem wl_C_tooling : Cond.selects R_C y_C_tooling y_C_tooling ∈ WALL := mw 357 (by decide +kernel) (by decide +kernel)
theorem wc_C_tooling : Cond.code y_C_tooling c_C_tooling 4 (some .boolean) ∈ WALL := mw 358 (by decide +kernel) (by decide +kernel)
theorem wm_L_116 : Cond.methodLink R_L 116 y_L_stock ∈ WALL := mw 359 (by decide +kernel) (by decide +kernel)
theorem ws_L_stock : Cond.static y_L_stock ∈ WALL := mw 360 (by decide +kernel) (by decide +kernel)
theorem wc_L_stock : Cond.codeWith y_L_stock c_L_stock 6 (some .int) [(0, 18, 21, 13), (0, 18, 25, 15)] ∈ WALL := mw 361 (by decide +kernel) (by decide +kernel)
theorem wm_L_43 : Cond.methodLink R_L 43 y_C_stock ∈ WALL := mw 362 (by decide +kernel) (by decide +kernel)
theorem wi_C_stock : Cond.instanceMethod y_C_stock ∈ WALL := mw 363 (by decide +kernel) (by decide +kernel)
theorem wl_C_stock : Cond.selects R_C y_C_stock y_C_stock ∈ WALL := mw 364 (by decide +kernel) (by decide +kernel)
theorem wc_C_stock : Cond.code y_C_stock c_C_stock 4 (some .boolean) ∈ WALL := mw 365 (by decide +kernel) (by decide +kernel)
theorem wm_L_119 : Cond.methodLink R_L 119 y_L_total ∈ WALL := mw 366 (by decide +kernel) (by decide +kernel)
theorem ws_L_total : Cond.static y_L_total ∈ WALL := mw 367 (by decide +kernel) (by decide +kernel)
theorem wc_L_total : Cond.codeWith y_L_total c_L_total 8 (some .int) [(0, 12, 15, 13), (0, 12, 19, 15)] ∈ WALL := mw 368 (by decide +kernel) (by decide +kernel)
theorem wm_L_46 : Cond.methodLink R_L 46 y_C_total ∈ WALL := mw 369 (by decide +kernel) (by decide +kernel)
theorem wi_C_total : Cond.instanceMethod y_C_total ∈ WALL := mw 370 (by decide +kernel) (by decide +kernel)
theorem wl_C_total : Cond.selects R_C y_C_total y_C_total ∈ WALL := mw 371 (by decide +kernel) (by decide +kernel)
theorem wc_C_total : Cond.code y_C_total c_C_total 6 (some .long) ∈ WALL := mw 372 (by decide +kernel) (by decide +kernel)
theorem wm_C_106 : Cond.methodLink R_C 106 y_C_draw ∈ WALL := mw 373 (by decide +kernel) (by decide +kernel)
theorem wi_C_draw : Cond.instanceMethod y_C_draw ∈ WALL := mw 375 (by decide +kernel) (by decide +kernel)
theorem wc_C_draw : Cond.code y_C_draw c_C_draw 8 (some .boolean) ∈ WALL := mw 376 (by decide +kernel) (by decide +kernel)
theorem nl_C_119 : Cond.methodLinkNest R_C 119 y_Y_startedFor R_C ∈ NALL := mn 377 (by decide +kernel) (by decide +kernel)
theorem wi_Y_startedFor : Cond.instanceMethod y_Y_startedFor ∈ WALL := mw 379 (by decide +kernel) (by decide +kernel)
theorem wc_Y_startedFor : Cond.code y_Y_startedFor c_Y_startedFor 6 (some .long) ∈ WALL := mw 380 (by decide +kernel) (by decide +kernel)
theorem wv_Y_22 : Cond.constantLong R_Y 22 1000000000 ∈ WALL := mw 381 (by decide +kernel) (by decide +kernel)
theorem nl_Y_24 : Cond.methodLinkNest R_Y 24 y_C_divideUp R_C ∈ NALL := mn 382 (by decide +kernel) (by decide +kernel)
theorem ws_C_divideUp : Cond.static y_C_divideUp ∈ WALL := mw 383 (by decide +kernel) (by decide +kernel)
theorem wc_C_divideUp : Cond.code y_C_divideUp c_C_divideUp 4 (some .long) ∈ WALL := mw 384 (by decide +kernel) (by decide +kernel)
theorem wm_C_123 : Cond.methodLink R_C 123 y_C_drawAllButBoards ∈ WALL := mw 385 (by decide +kernel) (by decide +kernel)
theorem wi_C_drawAllButBoards : Cond.instanceMethod y_C_drawAllButBoards ∈ WALL := mw 387 (by decide +kernel) (by decide +kernel)
theorem wc_C_drawAllButBoards : Cond.code y_C_drawAllButBoards c_C_drawAllButBoards 6 (some .boolean) ∈ WALL := mw 388 (by decide +kernel) (by decide +kernel)
theorem nl_C_169 : Cond.methodLinkNest R_C 169 y_Q_begin R_C ∈ NALL := mn 389 (by decide +kernel) (by decide +kernel)
theorem wi_Q_begin : Cond.instanceMethod y_Q_begin ∈ WALL := mw 391 (by decide +kernel) (by decide +kernel)
theorem wc_Q_begin : Cond.code y_Q_begin c_Q_begin 3 none ∈ WALL := mw 392 (by decide +kernel) (by decide +kernel)
theorem wm_Q_29 : Cond.methodLink R_Q 29 y_Q_clearRow ∈ WALL := mw 393 (by decide +kernel) (by decide +kernel)
theorem wi_Q_clearRow : Cond.instanceMethod y_Q_clearRow ∈ WALL := mw 395 (by decide +kernel) (by decide +kernel)
theorem wc_Q_clearRow : Cond.code y_Q_clearRow c_Q_clearRow 2 none ∈ WALL := mw 396 (by decide +kernel) (by decide +kernel)
theorem nl_C_173 : Cond.methodLinkNest R_C 173 y_Ra_turnTo R_C ∈ NALL := mn 397 (by decide +kernel) (by decide +kernel)
theorem wi_Ra_turnTo : Cond.instanceMethod y_Ra_turnTo ∈ WALL := mw 399 (by decide +kernel) (by decide +kernel)
theorem wc_Ra_turnTo : Cond.code y_Ra_turnTo c_Ra_turnTo 5 none ∈ WALL := mw 400 (by decide +kernel) (by decide +kernel)
theorem wm_Ra_41 : Cond.methodLink R_Ra 41 y_Ra_latestSlot ∈ WALL := mw 401 (by decide +kernel) (by decide +kernel)
theorem wi_Ra_latestSlot : Cond.instanceMethod y_Ra_latestSlot ∈ WALL := mw 403 (by decide +kernel) (by decide +kernel)
theorem wc_Ra_latestSlot : Cond.code y_Ra_latestSlot c_Ra_latestSlot 9 (some .int) ∈ WALL := mw 404 (by decide +kernel) (by decide +kernel)
theorem nl_Ra_44 : Cond.methodLinkNest R_Ra 44 y_K_endSlot R_C ∈ NALL := mn 405 (by decide +kernel) (by decide +kernel)
theorem nl_Ra_48 : Cond.methodLinkNest R_Ra 48 y_K_firstSlot R_C ∈ NALL := mn 406 (by decide +kernel) (by decide +kernel)
theorem wm_C_177 : Cond.methodLink R_C 177 y_C_assemblyCost ∈ WALL := mw 407 (by decide +kernel) (by decide +kernel)
theorem wi_C_assemblyCost : Cond.instanceMethod y_C_assemblyCost ∈ WALL := mw 409 (by decide +kernel) (by decide +kernel)
theorem wc_C_assemblyCost : Cond.code y_C_assemblyCost c_C_assemblyCost 6 (some .long) ∈ WALL := mw 410 (by decide +kernel) (by decide +kernel)
theorem wm_C_223 : Cond.methodLink R_C 223 y_C_divideUp ∈ WALL := mw 411 (by decide +kernel) (by decide +kernel)
theorem wm_C_180 : Cond.methodLink R_C 180 y_C_drawPart ∈ WALL := mw 412 (by decide +kernel) (by decide +kernel)
theorem wi_C_drawPart : Cond.instanceMethod y_C_drawPart ∈ WALL := mw 414 (by decide +kernel) (by decide +kernel)
theorem wc_C_drawPart : Cond.code y_C_drawPart c_C_drawPart 9 (some .boolean) ∈ WALL := mw 415 (by decide +kernel) (by decide +kernel)
theorem wm_C_136 : Cond.methodLink R_C 136 y_C_mayStandIn ∈ WALL := mw 416 (by decide +kernel) (by decide +kernel)
theorem wi_C_mayStandIn : Cond.instanceMethod y_C_mayStandIn ∈ WALL := mw 418 (by decide +kernel) (by decide +kernel)
theorem wc_C_mayStandIn : Cond.code y_C_mayStandIn c_C_mayStandIn 3 (some .boolean) ∈ WALL := mw 419 (by decide +kernel) (by decide +kernel)
theorem wm_C_187 : Cond.methodLink R_C 187 y_C_offerSteps ∈ WALL := mw 420 (by decide +kernel) (by decide +kernel)
theorem wi_C_offerSteps : Cond.instanceMethod y_C_offerSteps ∈ WALL := mw 422 (by decide +kernel) (by decide +kernel)
theorem wc_C_offerSteps : Cond.code y_C_offerSteps c_C_offerSteps 13 none ∈ WALL := mw 423 (by decide +kernel) (by decide +kernel)
theorem nl_C_195 : Cond.methodLinkNest R_C 195 y_St_endSlot R_C ∈ NALL := mn 424 (by decide +kernel) (by decide +kernel)
theorem wi_St_endSlot : Cond.instanceMethod y_St_endSlot ∈ WALL := mw 426 (by decide +kernel) (by decide +kernel)
theorem wc_St_endSlot : Cond.code y_St_endSlot c_St_endSlot 3 (some .int) ∈ WALL := mw 427 (by decide +kernel) (by decide +kernel)
theorem nl_St_28 : Cond.methodLinkNest R_St 28 y_K_endSlot R_C ∈ NALL := mn 428 (by decide +kernel) (by decide +kernel)
theorem nl_C_199 : Cond.methodLinkNest R_C 199 y_St_firstSlot R_C ∈ NALL := mn 429 (by decide +kernel) (by decide +kernel)
theorem wi_St_firstSlot : Cond.instanceMethod y_St_firstSlot ∈ WALL := mw 431 (by decide +kernel) (by decide +kernel)
theorem wc_St_firstSlot : Cond.code y_St_firstSlot c_St_firstSlot 3 (some .int) ∈ WALL := mw 432 (by decide +kernel) (by decide +kernel)
theorem nl_St_24 : Cond.methodLinkNest R_St 24 y_K_firstSlot R_C ∈ NALL := mn 433 (by decide +kernel) (by decide +kernel)
theorem nl_C_202 : Cond.methodLinkNest R_C 202 y_St_fromAt R_C ∈ NALL := mn 434 (by decide +kernel) (by decide +kernel)
theorem wi_St_fromAt : Cond.instanceMethod y_St_fromAt ∈ WALL := mw 436 (by decide +kernel) (by decide +kernel)
theorem wc_St_fromAt : Cond.code y_St_fromAt c_St_fromAt 2 (some .long) ∈ WALL := mw 437 (by decide +kernel) (by decide +kernel)
theorem wm_C_206 : Cond.methodLink R_C 206 Lib.MathLoose.max_long.x ∈ WALL := mw 438 (by decide +kernel) (by decide +kernel)
theorem ws_maxJ : Cond.static Lib.MathLoose.max_long.x ∈ WALL := mw 439 (by decide +kernel) (by decide +kernel)
theorem wc_maxJ : Cond.code Lib.MathLoose.max_long.x Lib.MathLoose.max_long.code 4 (some .long) ∈ WALL := mw 440 (by decide +kernel) (by decide +kernel)
theorem nl_C_215 : Cond.methodLinkNest R_C 215 y_Ra_exchange R_C ∈ NALL := mn 441 (by decide +kernel) (by decide +kernel)
theorem wi_Ra_exchange : Cond.instanceMethod y_Ra_exchange ∈ WALL := mw 443 (by decide +kernel) (by decide +kernel)
theorem wc_Ra_exchange : Cond.code y_Ra_exchange c_Ra_exchange 4 (some .long) ∈ WALL := mw 444 (by decide +kernel) (by decide +kernel)
theorem nl_Ra_54 : Cond.methodLinkNest R_Ra 54 y_C_divideUp R_C ∈ NALL := mn 445 (by decide +kernel) (by decide +kernel)
theorem nl_C_219 : Cond.methodLinkNest R_C 219 y_Q_consider R_C ∈ NALL := mn 446 (by decide +kernel) (by decide +kernel)
theorem wi_Q_consider : Cond.instanceMethod y_Q_consider ∈ WALL := mw 448 (by decide +kernel) (by decide +kernel)
theorem wc_Q_consider : Cond.code y_Q_consider c_Q_consider 7 none ∈ WALL := mw 449 (by decide +kernel) (by decide +kernel)
theorem wm_Q_33 : Cond.methodLink R_Q 33 y_Q_isBought ∈ WALL := mw 450 (by decide +kernel) (by decide +kernel)
theorem wi_Q_isBought : Cond.instanceMethod y_Q_isBought ∈ WALL := mw 452 (by decide +kernel) (by decide +kernel)
theorem wc_Q_isBought : Cond.code y_Q_isBought c_Q_isBought 2 (some .boolean) ∈ WALL := mw 453 (by decide +kernel) (by decide +kernel)
theorem wm_Q_37 : Cond.methodLink R_Q 37 y_Q_isBetter ∈ WALL := mw 454 (by decide +kernel) (by decide +kernel)
theorem wi_Q_isBetter : Cond.instanceMethod y_Q_isBetter ∈ WALL := mw 456 (by decide +kernel) (by decide +kernel)
theorem wc_Q_isBetter : Cond.code y_Q_isBetter c_Q_isBetter 7 (some .boolean) ∈ WALL := mw 457 (by decide +kernel) (by decide +kernel)
theorem nl_C_191 : Cond.methodLinkNest R_C 191 y_Q_isBought R_C ∈ NALL := mn 458 (by decide +kernel) (by decide +kernel)
theorem wm_C_126 : Cond.methodLink R_C 126 y_C_drawBoards ∈ WALL := mw 459 (by decide +kernel) (by decide +kernel)
theorem wi_C_drawBoards : Cond.instanceMethod y_C_drawBoards ∈ WALL := mw 461 (by decide +kernel) (by decide +kernel)
theorem wc_C_drawBoards : Cond.code y_C_drawBoards c_C_drawBoards 4 (some .boolean) ∈ WALL := mw 462 (by decide +kernel) (by decide +kernel)
theorem nl_C_184 : Cond.methodLinkNest R_C 184 y_Q_clearRow R_C ∈ NALL := mn 463 (by decide +kernel) (by decide +kernel)
theorem wv_C_110 : Cond.constantLong R_C 110 (-1) ∈ WALL := mw 464 (by decide +kernel) (by decide +kernel)
theorem wm_C_112 : Cond.methodLink R_C 112 y_C_keepDraft ∈ WALL := mw 465 (by decide +kernel) (by decide +kernel)
theorem wi_C_keepDraft : Cond.instanceMethod y_C_keepDraft ∈ WALL := mw 467 (by decide +kernel) (by decide +kernel)
theorem wc_C_keepDraft : Cond.code y_C_keepDraft c_C_keepDraft 2 none ∈ WALL := mw 468 (by decide +kernel) (by decide +kernel)
theorem nl_C_115 : Cond.methodLinkNest R_C 115 y_Q_sum R_C ∈ NALL := mn 469 (by decide +kernel) (by decide +kernel)
theorem wi_Q_sum : Cond.instanceMethod y_Q_sum ∈ WALL := mw 471 (by decide +kernel) (by decide +kernel)
theorem wc_Q_sum : Cond.code y_Q_sum c_Q_sum 4 (some .long) ∈ WALL := mw 472 (by decide +kernel) (by decide +kernel)
theorem wm_L_123 : Cond.methodLink R_L 123 y_L_best ∈ WALL := mw 473 (by decide +kernel) (by decide +kernel)
theorem ws_L_best : Cond.static y_L_best ∈ WALL := mw 474 (by decide +kernel) (by decide +kernel)
theorem wc_L_best : Cond.codeWith y_L_best c_L_best 7 (some .int) [(0, 11, 14, 15)] ∈ WALL := mw 475 (by decide +kernel) (by decide +kernel)
theorem wm_L_50 : Cond.methodLink R_L 50 y_C_best ∈ WALL := mw 476 (by decide +kernel) (by decide +kernel)
theorem wi_C_best : Cond.instanceMethod y_C_best ∈ WALL := mw 477 (by decide +kernel) (by decide +kernel)
theorem wl_C_best : Cond.selects R_C y_C_best y_C_best ∈ WALL := mw 478 (by decide +kernel) (by decide +kernel)
theorem wc_C_best : Cond.code y_C_best c_C_best 16 (some .int) ∈ WALL := mw 479 (by decide +kernel) (by decide +kernel)
theorem nl_C_130 : Cond.methodLinkNest R_C 130 y_Q_makersBoughtOf R_C ∈ NALL := mn 480 (by decide +kernel) (by decide +kernel)
theorem wi_Q_makersBoughtOf : Cond.instanceMethod y_Q_makersBoughtOf ∈ WALL := mw 482 (by decide +kernel) (by decide +kernel)
theorem wc_Q_makersBoughtOf : Cond.code y_Q_makersBoughtOf c_Q_makersBoughtOf 3 (some .int) ∈ WALL := mw 483 (by decide +kernel) (by decide +kernel)
theorem wm_Q_41 : Cond.methodLink R_Q 41 y_JI_bitCount ∈ WALL := mw 484 (by decide +kernel) (by decide +kernel)
theorem ws_JI_bitCount : Cond.static y_JI_bitCount ∈ WALL := mw 485 (by decide +kernel) (by decide +kernel)
theorem wc_JI_bitCount : Cond.code y_JI_bitCount c_JI_bitCount 1 (some .int) ∈ WALL := mw 486 (by decide +kernel) (by decide +kernel)
theorem wv_JI_265 : Cond.constant R_JI 265 1431655765 ∈ WALL := mw 487 (by decide +kernel) (by decide +kernel)
theorem wv_JI_266 : Cond.constant R_JI 266 858993459 ∈ WALL := mw 488 (by decide +kernel) (by decide +kernel)
theorem wv_JI_267 : Cond.constant R_JI 267 252645135 ∈ WALL := mw 489 (by decide +kernel) (by decide +kernel)
theorem wm_L_126 : Cond.methodLink R_L 126 y_L_each ∈ WALL := mw 490 (by decide +kernel) (by decide +kernel)
theorem ws_L_each : Cond.static y_L_each ∈ WALL := mw 491 (by decide +kernel) (by decide +kernel)
theorem wc_L_each : Cond.codeWith y_L_each c_L_each 9 (some .int) [(0, 14, 17, 13), (0, 14, 21, 15)] ∈ WALL := mw 492 (by decide +kernel) (by decide +kernel)
theorem wm_L_54 : Cond.methodLink R_L 54 y_C_each ∈ WALL := mw 493 (by decide +kernel) (by decide +kernel)
theorem wi_C_each : Cond.instanceMethod y_C_each ∈ WALL := mw 494 (by decide +kernel) (by decide +kernel)
theorem wl_C_each : Cond.selects R_C y_C_each y_C_each ∈ WALL := mw 495 (by decide +kernel) (by decide +kernel)
theorem wc_C_each : Cond.code y_C_each c_C_each 7 (some .long) ∈ WALL := mw 496 (by decide +kernel) (by decide +kernel)
theorem wm_L_130 : Cond.methodLink R_L 130 y_L_suppliers ∈ WALL := mw 497 (by decide +kernel) (by decide +kernel)
theorem ws_L_suppliers : Cond.static y_L_suppliers ∈ WALL := mw 498 (by decide +kernel) (by decide +kernel)
theorem wc_L_suppliers : Cond.codeWith y_L_suppliers c_L_suppliers 6 (some .int) [(0, 11, 14, 13), (0, 11, 18, 15)] ∈ WALL := mw 499 (by decide +kernel) (by decide +kernel)
theorem wm_L_58 : Cond.methodLink R_L 58 y_C_suppliers ∈ WALL := mw 500 (by decide +kernel) (by decide +kernel)
theorem wi_C_suppliers : Cond.instanceMethod y_C_suppliers ∈ WALL := mw 501 (by decide +kernel) (by decide +kernel)
theorem wl_C_suppliers : Cond.selects R_C y_C_suppliers y_C_suppliers ∈ WALL := mw 502 (by decide +kernel) (by decide +kernel)
theorem wc_C_suppliers : Cond.code y_C_suppliers c_C_suppliers 4 (some .int) ∈ WALL := mw 503 (by decide +kernel) (by decide +kernel)
theorem wv_C_134 : Cond.constantLong R_C 134 9223372036854775807 ∈ WALL := mw 504 (by decide +kernel) (by decide +kernel)
theorem wm_L_134 : Cond.methodLink R_L 134 y_L_alternate ∈ WALL := mw 505 (by decide +kernel) (by decide +kernel)
theorem ws_L_alternate : Cond.static y_L_alternate ∈ WALL := mw 506 (by decide +kernel) (by decide +kernel)
theorem wc_L_alternate : Cond.codeWith y_L_alternate c_L_alternate 5 (some .int) [(0, 17, 20, 13)] ∈ WALL := mw 507 (by decide +kernel) (by decide +kernel)
theorem wm_L_62 : Cond.methodLink R_L 62 y_C_alternate ∈ WALL := mw 508 (by decide +kernel) (by decide +kernel)
theorem wi_C_alternate : Cond.instanceMethod y_C_alternate ∈ WALL := mw 509 (by decide +kernel) (by decide +kernel)
theorem wl_C_alternate : Cond.selects R_C y_C_alternate y_C_alternate ∈ WALL := mw 510 (by decide +kernel) (by decide +kernel)
theorem wc_C_alternate : Cond.code y_C_alternate c_C_alternate 3 (some .boolean) ∈ WALL := mw 511 (by decide +kernel) (by decide +kernel)
theorem wm_L_143 : Cond.methodLink R_L 143 y_L_row ∈ WALL := mw 512 (by decide +kernel) (by decide +kernel)
theorem ws_L_row : Cond.static y_L_row ∈ WALL := mw 513 (by decide +kernel) (by decide +kernel)
theorem wc_L_row : Cond.codeWith y_L_row c_L_row 5 (some .int) [(0, 10, 13, 13)] ∈ WALL := mw 514 (by decide +kernel) (by decide +kernel)
theorem wm_L_66 : Cond.methodLink R_L 66 y_C_row ∈ WALL := mw 515 (by decide +kernel) (by decide +kernel)
theorem wi_C_row : Cond.instanceMethod y_C_row ∈ WALL := mw 516 (by decide +kernel) (by decide +kernel)
theorem wl_C_row : Cond.selects R_C y_C_row y_C_row ∈ WALL := mw 517 (by decide +kernel) (by decide +kernel)
theorem wc_C_row : Cond.code y_C_row c_C_row 3 (some .int) ∈ WALL := mw 518 (by decide +kernel) (by decide +kernel)
theorem wk_L_71 : Cond.classLink R_L 71 R_M ∈ WALL := mw 519 (by decide +kernel) (by decide +kernel)
theorem wt_M : Cond.instantiable R_M 31 ∈ WALL := mw 520 (by decide +kernel) (by decide +kernel)
theorem wm_L_73 : Cond.methodLink R_L 73 y_M_init ∈ WALL := mw 521 (by decide +kernel) (by decide +kernel)
theorem wi_M_init : Cond.instanceMethod y_M_init ∈ WALL := mw 522 (by decide +kernel) (by decide +kernel)
theorem wc_M_init : Cond.code y_M_init c_M_init 1 none ∈ WALL := mw 523 (by decide +kernel) (by decide +kernel)
theorem wm_M_1 : Cond.methodLink R_M 1 objectInit ∈ WALL := mw 524 (by decide +kernel) (by decide +kernel)
theorem wf_M_80 : Cond.fieldLink R_M 80 (T_M 0).1 (T_M 0).2.1 (T_M 0).2.2.1 ∈ WALL := mw 525 (by decide +kernel) (by decide +kernel)
theorem wf_M_84 : Cond.fieldLink R_M 84 (T_M 1).1 (T_M 1).2.1 (T_M 1).2.2.1 ∈ WALL := mw 526 (by decide +kernel) (by decide +kernel)
theorem wf_M_7 : Cond.fieldLink R_M 7 (T_M 2).1 (T_M 2).2.1 (T_M 2).2.2.1 ∈ WALL := mw 527 (by decide +kernel) (by decide +kernel)
theorem wf_M_13 : Cond.fieldLink R_M 13 (T_M 3).1 (T_M 3).2.1 (T_M 3).2.2.1 ∈ WALL := mw 528 (by decide +kernel) (by decide +kernel)
theorem wf_M_17 : Cond.fieldLink R_M 17 (T_M 4).1 (T_M 4).2.1 (T_M 4).2.2.1 ∈ WALL := mw 529 (by decide +kernel) (by decide +kernel)
theorem wf_M_20 : Cond.fieldLink R_M 20 (T_M 5).1 (T_M 5).2.1 (T_M 5).2.2.1 ∈ WALL := mw 530 (by decide +kernel) (by decide +kernel)
theorem wf_M_23 : Cond.fieldLink R_M 23 (T_M 6).1 (T_M 6).2.1 (T_M 6).2.2.1 ∈ WALL := mw 531 (by decide +kernel) (by decide +kernel)
theorem wf_M_26 : Cond.fieldLink R_M 26 (T_M 7).1 (T_M 7).2.1 (T_M 7).2.2.1 ∈ WALL := mw 532 (by decide +kernel) (by decide +kernel)
theorem wf_M_29 : Cond.fieldLink R_M 29 (T_M 8).1 (T_M 8).2.1 (T_M 8).2.2.1 ∈ WALL := mw 533 (by decide +kernel) (by decide +kernel)
theorem wf_M_32 : Cond.fieldLink R_M 32 (T_M 9).1 (T_M 9).2.1 (T_M 9).2.2.1 ∈ WALL := mw 534 (by decide +kernel) (by decide +kernel)
theorem wf_M_113 : Cond.fieldLink R_M 113 (T_M 10).1 (T_M 10).2.1 (T_M 10).2.2.1 ∈ WALL := mw 535 (by decide +kernel) (by decide +kernel)
theorem wf_M_35 : Cond.fieldLink R_M 35 (T_M 11).1 (T_M 11).2.1 (T_M 11).2.2.1 ∈ WALL := mw 536 (by decide +kernel) (by decide +kernel)
theorem wf_M_38 : Cond.fieldLink R_M 38 (T_M 12).1 (T_M 12).2.1 (T_M 12).2.2.1 ∈ WALL := mw 537 (by decide +kernel) (by decide +kernel)
theorem wf_M_41 : Cond.fieldLink R_M 41 (T_M 13).1 (T_M 13).2.1 (T_M 13).2.2.1 ∈ WALL := mw 538 (by decide +kernel) (by decide +kernel)
theorem wf_M_44 : Cond.fieldLink R_M 44 (T_M 14).1 (T_M 14).2.1 (T_M 14).2.2.1 ∈ WALL := mw 539 (by decide +kernel) (by decide +kernel)
theorem wf_M_47 : Cond.fieldLink R_M 47 (T_M 15).1 (T_M 15).2.1 (T_M 15).2.2.1 ∈ WALL := mw 540 (by decide +kernel) (by decide +kernel)
theorem wf_M_50 : Cond.fieldLink R_M 50 (T_M 16).1 (T_M 16).2.1 (T_M 16).2.2.1 ∈ WALL := mw 541 (by decide +kernel) (by decide +kernel)
theorem wf_M_116 : Cond.fieldLink R_M 116 (T_M 17).1 (T_M 17).2.1 (T_M 17).2.2.1 ∈ WALL := mw 542 (by decide +kernel) (by decide +kernel)
theorem wf_M_132 : Cond.fieldLink R_M 132 (T_M 18).1 (T_M 18).2.1 (T_M 18).2.2.1 ∈ WALL := mw 543 (by decide +kernel) (by decide +kernel)
theorem wf_M_144 : Cond.fieldLink R_M 144 (T_M 19).1 (T_M 19).2.1 (T_M 19).2.2.1 ∈ WALL := mw 544 (by decide +kernel) (by decide +kernel)
theorem wf_M_53 : Cond.fieldLink R_M 53 (T_M 20).1 (T_M 20).2.1 (T_M 20).2.2.1 ∈ WALL := mw 545 (by decide +kernel) (by decide +kernel)
theorem wf_M_56 : Cond.fieldLink R_M 56 (T_M 21).1 (T_M 21).2.1 (T_M 21).2.2.1 ∈ WALL := mw 546 (by decide +kernel) (by decide +kernel)
theorem wf_M_59 : Cond.fieldLink R_M 59 (T_M 22).1 (T_M 22).2.1 (T_M 22).2.2.1 ∈ WALL := mw 547 (by decide +kernel) (by decide +kernel)
theorem wf_M_62 : Cond.fieldLink R_M 62 (T_M 23).1 (T_M 23).2.1 (T_M 23).2.2.1 ∈ WALL := mw 548 (by decide +kernel) (by decide +kernel)
theorem wf_M_161 : Cond.fieldLink R_M 161 (T_M 24).1 (T_M 24).2.1 (T_M 24).2.2.1 ∈ WALL := mw 549 (by decide +kernel) (by decide +kernel)
theorem wf_M_164 : Cond.fieldLink R_M 164 (T_M 25).1 (T_M 25).2.1 (T_M 25).2.2.1 ∈ WALL := mw 550 (by decide +kernel) (by decide +kernel)
theorem wf_M_65 : Cond.fieldLink R_M 65 (T_M 26).1 (T_M 26).2.1 (T_M 26).2.2.1 ∈ WALL := mw 551 (by decide +kernel) (by decide +kernel)
theorem wf_M_68 : Cond.fieldLink R_M 68 (T_M 27).1 (T_M 27).2.1 (T_M 27).2.2.1 ∈ WALL := mw 552 (by decide +kernel) (by decide +kernel)
theorem wf_M_71 : Cond.fieldLink R_M 71 (T_M 28).1 (T_M 28).2.1 (T_M 28).2.2.1 ∈ WALL := mw 553 (by decide +kernel) (by decide +kernel)
theorem wf_M_74 : Cond.fieldLink R_M 74 (T_M 29).1 (T_M 29).2.1 (T_M 29).2.2.1 ∈ WALL := mw 554 (by decide +kernel) (by decide +kernel)
theorem wf_M_77 : Cond.fieldLink R_M 77 (T_M 30).1 (T_M 30).2.1 (T_M 30).2.2.1 ∈ WALL := mw 555 (by decide +kernel) (by decide +kernel)
theorem wm_L_87 : Cond.methodLink R_L 87 y_M_thrown ∈ WALL := mw 619 (by decide +kernel) (by decide +kernel)
theorem wi_M_thrown : Cond.instanceMethod y_M_thrown ∈ WALL := mw 620 (by decide +kernel) (by decide +kernel)
theorem wl_M_thrown : Cond.selects R_M y_M_thrown y_M_thrown ∈ WALL := mw 621 (by decide +kernel) (by decide +kernel)
theorem wc_M_thrown : Cond.code y_M_thrown c_M_thrown 1 (some .int) ∈ WALL := mw 622 (by decide +kernel) (by decide +kernel)
theorem wm_L_78 : Cond.methodLink R_L 78 y_M_part ∈ WALL := mw 623 (by decide +kernel) (by decide +kernel)
theorem wi_M_part : Cond.instanceMethod y_M_part ∈ WALL := mw 624 (by decide +kernel) (by decide +kernel)
theorem wl_M_part : Cond.selects R_M y_M_part y_M_part ∈ WALL := mw 625 (by decide +kernel) (by decide +kernel)
theorem wc_M_part : Cond.code y_M_part c_M_part 1 (some .int) ∈ WALL := mw 626 (by decide +kernel) (by decide +kernel)
theorem wm_L_86 : Cond.methodLink R_L 86 y_M_price ∈ WALL := mw 627 (by decide +kernel) (by decide +kernel)
theorem wi_M_price : Cond.instanceMethod y_M_price ∈ WALL := mw 628 (by decide +kernel) (by decide +kernel)
theorem wl_M_price : Cond.selects R_M y_M_price y_M_price ∈ WALL := mw 629 (by decide +kernel) (by decide +kernel)
theorem wc_M_price : Cond.code y_M_price c_M_price 8 (some .boolean) ∈ WALL := mw 630 (by decide +kernel) (by decide +kernel)
theorem wv_M_87 : Cond.constantLong R_M 87 1000000000 ∈ WALL := mw 631 (by decide +kernel) (by decide +kernel)
theorem wm_M_89 : Cond.methodLink R_M 89 y_M_within ∈ WALL := mw 632 (by decide +kernel) (by decide +kernel)
theorem ws_M_within : Cond.static y_M_within ∈ WALL := mw 633 (by decide +kernel) (by decide +kernel)
theorem wc_M_within : Cond.code y_M_within c_M_within 6 (some .boolean) ∈ WALL := mw 634 (by decide +kernel) (by decide +kernel)
theorem wv_M_93 : Cond.constantLong R_M 93 100000 ∈ WALL := mw 635 (by decide +kernel) (by decide +kernel)
theorem wm_M_95 : Cond.methodLink R_M 95 y_M_isPart ∈ WALL := mw 636 (by decide +kernel) (by decide +kernel)
theorem wi_M_isPart : Cond.instanceMethod y_M_isPart ∈ WALL := mw 638 (by decide +kernel) (by decide +kernel)
theorem wc_M_isPart : Cond.code y_M_isPart c_M_isPart 2 (some .boolean) ∈ WALL := mw 639 (by decide +kernel) (by decide +kernel)
theorem wm_M_99 : Cond.methodLink R_M 99 y_M_isMaker ∈ WALL := mw 640 (by decide +kernel) (by decide +kernel)
theorem ws_M_isMaker : Cond.static y_M_isMaker ∈ WALL := mw 641 (by decide +kernel) (by decide +kernel)
theorem wc_M_isMaker : Cond.code y_M_isMaker c_M_isMaker 1 (some .boolean) ∈ WALL := mw 642 (by decide +kernel) (by decide +kernel)
theorem wm_M_102 : Cond.methodLink R_M 102 y_M_tellStep ∈ WALL := mw 643 (by decide +kernel) (by decide +kernel)
theorem wi_M_tellStep : Cond.instanceMethod y_M_tellStep ∈ WALL := mw 645 (by decide +kernel) (by decide +kernel)
theorem wc_M_tellStep : Cond.code y_M_tellStep c_M_tellStep 8 (some .boolean) ∈ WALL := mw 646 (by decide +kernel) (by decide +kernel)
theorem wm_L_97 : Cond.methodLink R_L 97 y_M_board ∈ WALL := mw 647 (by decide +kernel) (by decide +kernel)
theorem wi_M_board : Cond.instanceMethod y_M_board ∈ WALL := mw 648 (by decide +kernel) (by decide +kernel)
theorem wl_M_board : Cond.selects R_M y_M_board y_M_board ∈ WALL := mw 649 (by decide +kernel) (by decide +kernel)
theorem wc_M_board : Cond.code y_M_board c_M_board 7 (some .boolean) ∈ WALL := mw 650 (by decide +kernel) (by decide +kernel)
theorem wm_L_93 : Cond.methodLink R_L 93 y_M_uses ∈ WALL := mw 651 (by decide +kernel) (by decide +kernel)
theorem wi_M_uses : Cond.instanceMethod y_M_uses ∈ WALL := mw 652 (by decide +kernel) (by decide +kernel)
theorem wl_M_uses : Cond.selects R_M y_M_uses y_M_uses ∈ WALL := mw 653 (by decide +kernel) (by decide +kernel)
theorem wc_M_uses : Cond.code y_M_uses c_M_uses 4 (some .boolean) ∈ WALL := mw 654 (by decide +kernel) (by decide +kernel)
theorem wv_M_106 : Cond.constantLong R_M 106 1000 ∈ WALL := mw 655 (by decide +kernel) (by decide +kernel)
theorem wm_L_118 : Cond.methodLink R_L 118 y_M_stock ∈ WALL := mw 656 (by decide +kernel) (by decide +kernel)
theorem wi_M_stock : Cond.instanceMethod y_M_stock ∈ WALL := mw 657 (by decide +kernel) (by decide +kernel)
theorem wl_M_stock : Cond.selects R_M y_M_stock y_M_stock ∈ WALL := mw 658 (by decide +kernel) (by decide +kernel)
theorem wc_M_stock : Cond.code y_M_stock c_M_stock 4 (some .boolean) ∈ WALL := mw 659 (by decide +kernel) (by decide +kernel)
theorem wm_L_137 : Cond.methodLink R_L 137 y_M_alternate ∈ WALL := mw 660 (by decide +kernel) (by decide +kernel)
theorem wi_M_alternate : Cond.instanceMethod y_M_alternate ∈ WALL := mw 661 (by decide +kernel) (by decide +kernel)
theorem wl_M_alternate : Cond.selects R_M y_M_alternate y_M_alternate ∈ WALL := mw 662 (by decide +kernel) (by decide +kernel)
theorem wc_M_alternate : Cond.code y_M_alternate c_M_alternate 3 (some .boolean) ∈ WALL := mw 663 (by decide +kernel) (by decide +kernel)
theorem wm_L_100 : Cond.methodLink R_L 100 y_M_assembly ∈ WALL := mw 664 (by decide +kernel) (by decide +kernel)
theorem wi_M_assembly : Cond.instanceMethod y_M_assembly ∈ WALL := mw 665 (by decide +kernel) (by decide +kernel)
theorem wl_M_assembly : Cond.selects R_M y_M_assembly y_M_assembly ∈ WALL := mw 666 (by decide +kernel) (by decide +kernel)
theorem wc_M_assembly : Cond.code y_M_assembly c_M_assembly 4 (some .boolean) ∈ WALL := mw 667 (by decide +kernel) (by decide +kernel)
theorem wm_M_108 : Cond.methodLink R_M 108 y_M_isSort ∈ WALL := mw 668 (by decide +kernel) (by decide +kernel)
theorem ws_M_isSort : Cond.static y_M_isSort ∈ WALL := mw 669 (by decide +kernel) (by decide +kernel)
theorem wc_M_isSort : Cond.code y_M_isSort c_M_isSort 1 (some .boolean) ∈ WALL := mw 670 (by decide +kernel) (by decide +kernel)
theorem wv_M_111 : Cond.constantLong R_M 111 1000000 ∈ WALL := mw 671 (by decide +kernel) (by decide +kernel)
theorem wm_L_103 : Cond.methodLink R_L 103 y_M_placed ∈ WALL := mw 672 (by decide +kernel) (by decide +kernel)
theorem wi_M_placed : Cond.instanceMethod y_M_placed ∈ WALL := mw 673 (by decide +kernel) (by decide +kernel)
theorem wl_M_placed : Cond.selects R_M y_M_placed y_M_placed ∈ WALL := mw 674 (by decide +kernel) (by decide +kernel)
theorem wc_M_placed : Cond.code y_M_placed c_M_placed 4 (some .boolean) ∈ WALL := mw 675 (by decide +kernel) (by decide +kernel)
theorem wm_L_107 : Cond.methodLink R_L 107 y_M_yieldOf ∈ WALL := mw 676 (by decide +kernel) (by decide +kernel)
theorem wi_M_yieldOf : Cond.instanceMethod y_M_yieldOf ∈ WALL := mw 677 (by decide +kernel) (by decide +kernel)
theorem wl_M_yieldOf : Cond.selects R_M y_M_yieldOf y_M_yieldOf ∈ WALL := mw 678 (by decide +kernel) (by decide +kernel)
theorem wc_M_yieldOf : Cond.code y_M_yieldOf c_M_yieldOf 5 (some .boolean) ∈ WALL := mw 679 (by decide +kernel) (by decide +kernel)
theorem wm_L_111 : Cond.methodLink R_L 111 y_M_currency ∈ WALL := mw 680 (by decide +kernel) (by decide +kernel)
theorem wi_M_currency : Cond.instanceMethod y_M_currency ∈ WALL := mw 681 (by decide +kernel) (by decide +kernel)
theorem wl_M_currency : Cond.selects R_M y_M_currency y_M_currency ∈ WALL := mw 682 (by decide +kernel) (by decide +kernel)
theorem wc_M_currency : Cond.code y_M_currency c_M_currency 11 (some .boolean) ∈ WALL := mw 683 (by decide +kernel) (by decide +kernel)
theorem wm_L_115 : Cond.methodLink R_L 115 y_M_tooling ∈ WALL := mw 684 (by decide +kernel) (by decide +kernel)
theorem wi_M_tooling : Cond.instanceMethod y_M_tooling ∈ WALL := mw 685 (by decide +kernel) (by decide +kernel)
theorem wl_M_tooling : Cond.selects R_M y_M_tooling y_M_tooling ∈ WALL := mw 686 (by decide +kernel) (by decide +kernel)
theorem wc_M_tooling : Cond.code y_M_tooling c_M_tooling 3 (some .boolean) ∈ WALL := mw 687 (by decide +kernel) (by decide +kernel)
theorem wm_L_122 : Cond.methodLink R_L 122 y_M_total ∈ WALL := mw 688 (by decide +kernel) (by decide +kernel)
theorem wi_M_total : Cond.instanceMethod y_M_total ∈ WALL := mw 689 (by decide +kernel) (by decide +kernel)
theorem wl_M_total : Cond.selects R_M y_M_total y_M_total ∈ WALL := mw 690 (by decide +kernel) (by decide +kernel)
theorem wc_M_total : Cond.code y_M_total c_M_total 7 (some .long) ∈ WALL := mw 691 (by decide +kernel) (by decide +kernel)
theorem wm_M_151 : Cond.methodLink R_M 151 y_M_refusal ∈ WALL := mw 692 (by decide +kernel) (by decide +kernel)
theorem wi_M_refusal : Cond.instanceMethod y_M_refusal ∈ WALL := mw 694 (by decide +kernel) (by decide +kernel)
theorem wc_M_refusal : Cond.code y_M_refusal c_M_refusal 4 (some .int) ∈ WALL := mw 695 (by decide +kernel) (by decide +kernel)
theorem wm_M_147 : Cond.methodLink R_M 147 y_M_isQuantity ∈ WALL := mw 696 (by decide +kernel) (by decide +kernel)
theorem ws_M_isQuantity : Cond.static y_M_isQuantity ∈ WALL := mw 697 (by decide +kernel) (by decide +kernel)
theorem wc_M_isQuantity : Cond.code y_M_isQuantity c_M_isQuantity 2 (some .boolean) ∈ WALL := mw 698 (by decide +kernel) (by decide +kernel)
theorem wm_M_155 : Cond.methodLink R_M 155 y_M_reckon ∈ WALL := mw 699 (by decide +kernel) (by decide +kernel)
theorem wi_M_reckon : Cond.instanceMethod y_M_reckon ∈ WALL := mw 701 (by decide +kernel) (by decide +kernel)
theorem wc_M_reckon : Cond.code y_M_reckon c_M_reckon 9 none ∈ WALL := mw 702 (by decide +kernel) (by decide +kernel)
theorem wm_M_128 : Cond.methodLink R_M 128 y_M_started ∈ WALL := mw 703 (by decide +kernel) (by decide +kernel)
theorem wi_M_started : Cond.instanceMethod y_M_started ∈ WALL := mw 705 (by decide +kernel) (by decide +kernel)
theorem wc_M_started : Cond.code y_M_started c_M_started 6 (some .long) ∈ WALL := mw 706 (by decide +kernel) (by decide +kernel)
theorem wm_M_124 : Cond.methodLink R_M 124 y_M_up ∈ WALL := mw 707 (by decide +kernel) (by decide +kernel)
theorem ws_M_up : Cond.static y_M_up ∈ WALL := mw 708 (by decide +kernel) (by decide +kernel)
theorem wc_M_up : Cond.code y_M_up c_M_up 4 (some .long) ∈ WALL := mw 709 (by decide +kernel) (by decide +kernel)
theorem wm_M_136 : Cond.methodLink R_M 136 y_M_offer ∈ WALL := mw 710 (by decide +kernel) (by decide +kernel)
theorem wi_M_offer : Cond.instanceMethod y_M_offer ∈ WALL := mw 712 (by decide +kernel) (by decide +kernel)
theorem wc_M_offer : Cond.code y_M_offer c_M_offer 16 none ∈ WALL := mw 713 (by decide +kernel) (by decide +kernel)
theorem wm_M_120 : Cond.methodLink R_M 120 y_M_rateOf ∈ WALL := mw 714 (by decide +kernel) (by decide +kernel)
theorem wi_M_rateOf : Cond.instanceMethod y_M_rateOf ∈ WALL := mw 716 (by decide +kernel) (by decide +kernel)
theorem wc_M_rateOf : Cond.code y_M_rateOf c_M_rateOf 6 (some .int) ∈ WALL := mw 717 (by decide +kernel) (by decide +kernel)
theorem wm_M_140 : Cond.methodLink R_M 140 y_M_buyPart ∈ WALL := mw 718 (by decide +kernel) (by decide +kernel)
theorem wi_M_buyPart : Cond.instanceMethod y_M_buyPart ∈ WALL := mw 720 (by decide +kernel) (by decide +kernel)
theorem wc_M_buyPart : Cond.code y_M_buyPart c_M_buyPart 10 none ∈ WALL := mw 721 (by decide +kernel) (by decide +kernel)
theorem wv_M_159 : Cond.constantLong R_M 159 (-1) ∈ WALL := mw 722 (by decide +kernel) (by decide +kernel)
theorem wm_L_125 : Cond.methodLink R_L 125 y_M_best ∈ WALL := mw 723 (by decide +kernel) (by decide +kernel)
theorem wi_M_best : Cond.instanceMethod y_M_best ∈ WALL := mw 724 (by decide +kernel) (by decide +kernel)
theorem wl_M_best : Cond.selects R_M y_M_best y_M_best ∈ WALL := mw 725 (by decide +kernel) (by decide +kernel)
theorem wc_M_best : Cond.code y_M_best c_M_best 11 (some .int) ∈ WALL := mw 726 (by decide +kernel) (by decide +kernel)
theorem wm_M_167 : Cond.methodLink R_M 167 y_M_makersNow ∈ WALL := mw 727 (by decide +kernel) (by decide +kernel)
theorem wi_M_makersNow : Cond.instanceMethod y_M_makersNow ∈ WALL := mw 729 (by decide +kernel) (by decide +kernel)
theorem wc_M_makersNow : Cond.code y_M_makersNow c_M_makersNow 3 (some .int) ∈ WALL := mw 730 (by decide +kernel) (by decide +kernel)
theorem wm_L_129 : Cond.methodLink R_L 129 y_M_each ∈ WALL := mw 731 (by decide +kernel) (by decide +kernel)
theorem wi_M_each : Cond.instanceMethod y_M_each ∈ WALL := mw 732 (by decide +kernel) (by decide +kernel)
theorem wl_M_each : Cond.selects R_M y_M_each y_M_each ∈ WALL := mw 733 (by decide +kernel) (by decide +kernel)
theorem wc_M_each : Cond.code y_M_each c_M_each 8 (some .long) ∈ WALL := mw 734 (by decide +kernel) (by decide +kernel)
theorem wm_L_133 : Cond.methodLink R_L 133 y_M_suppliers ∈ WALL := mw 735 (by decide +kernel) (by decide +kernel)
theorem wi_M_suppliers : Cond.instanceMethod y_M_suppliers ∈ WALL := mw 736 (by decide +kernel) (by decide +kernel)
theorem wl_M_suppliers : Cond.selects R_M y_M_suppliers y_M_suppliers ∈ WALL := mw 737 (by decide +kernel) (by decide +kernel)
theorem wc_M_suppliers : Cond.code y_M_suppliers c_M_suppliers 4 (some .int) ∈ WALL := mw 738 (by decide +kernel) (by decide +kernel)
theorem wv_M_171 : Cond.constantLong R_M 171 9223372036854775807 ∈ WALL := mw 739 (by decide +kernel) (by decide +kernel)
theorem wm_L_142 : Cond.methodLink R_L 142 y_M_changed ∈ WALL := mw 740 (by decide +kernel) (by decide +kernel)
theorem wi_M_changed : Cond.instanceMethod y_M_changed ∈ WALL := mw 741 (by decide +kernel) (by decide +kernel)
theorem wl_M_changed : Cond.selects R_M y_M_changed y_M_changed ∈ WALL := mw 742 (by decide +kernel) (by decide +kernel)
theorem wc_M_changed : Cond.code y_M_changed c_M_changed 4 (some .int) ∈ WALL := mw 743 (by decide +kernel) (by decide +kernel)
theorem wm_L_145 : Cond.methodLink R_L 145 y_M_row ∈ WALL := mw 744 (by decide +kernel) (by decide +kernel)
theorem wi_M_row : Cond.instanceMethod y_M_row ∈ WALL := mw 745 (by decide +kernel) (by decide +kernel)
theorem wl_M_row : Cond.selects R_M y_M_row y_M_row ∈ WALL := mw 746 (by decide +kernel) (by decide +kernel)
theorem wc_M_row : Cond.code y_M_row c_M_row 3 (some .int) ∈ WALL := mw 747 (by decide +kernel) (by decide +kernel)
theorem wv_L_79 : Cond.constantLong R_L 79 4294967295 ∈ WALL := mw 748 (by decide +kernel) (by decide +kernel)
theorem wl_St_tell : Cond.selects R_St y_St_tell y_St_tell ∈ WALL := mws 1 (by decide +kernel) (by decide +kernel)
theorem wl_K_slotFor : Cond.selects R_K y_K_slotFor y_K_slotFor ∈ WALL := mws 2 (by decide +kernel) (by decide +kernel)
theorem wl_K_endSlot : Cond.selects R_K y_K_endSlot y_K_endSlot ∈ WALL := mws 3 (by decide +kernel) (by decide +kernel)
theorem wl_K_firstSlot : Cond.selects R_K y_K_firstSlot y_K_firstSlot ∈ WALL := mws 4 (by decide +kernel) (by decide +kernel)
theorem wl_Y_add : Cond.selects R_Y y_Y_add y_Y_add ∈ WALL := mws 5 (by decide +kernel) (by decide +kernel)
theorem wl_Ra_tell : Cond.selects R_Ra y_Ra_tell y_Ra_tell ∈ WALL := mws 6 (by decide +kernel) (by decide +kernel)
theorem wl_C_draw : Cond.selects R_C y_C_draw y_C_draw ∈ WALL := mws 7 (by decide +kernel) (by decide +kernel)
theorem wl_Y_startedFor : Cond.selects R_Y y_Y_startedFor y_Y_startedFor ∈ WALL := mws 8 (by decide +kernel) (by decide +kernel)
theorem wl_C_drawAllButBoards : Cond.selects R_C y_C_drawAllButBoards y_C_drawAllButBoards ∈ WALL := mws 9 (by decide +kernel) (by decide +kernel)
theorem wl_Q_begin : Cond.selects R_Q y_Q_begin y_Q_begin ∈ WALL := mws 10 (by decide +kernel) (by decide +kernel)
theorem wl_Q_clearRow : Cond.selects R_Q y_Q_clearRow y_Q_clearRow ∈ WALL := mws 11 (by decide +kernel) (by decide +kernel)
theorem wl_Ra_turnTo : Cond.selects R_Ra y_Ra_turnTo y_Ra_turnTo ∈ WALL := mws 12 (by decide +kernel) (by decide +kernel)
theorem wl_Ra_latestSlot : Cond.selects R_Ra y_Ra_latestSlot y_Ra_latestSlot ∈ WALL := mws 13 (by decide +kernel) (by decide +kernel)
theorem wl_C_assemblyCost : Cond.selects R_C y_C_assemblyCost y_C_assemblyCost ∈ WALL := mws 14 (by decide +kernel) (by decide +kernel)
theorem wl_C_drawPart : Cond.selects R_C y_C_drawPart y_C_drawPart ∈ WALL := mws 15 (by decide +kernel) (by decide +kernel)
theorem wl_C_mayStandIn : Cond.selects R_C y_C_mayStandIn y_C_mayStandIn ∈ WALL := mws 16 (by decide +kernel) (by decide +kernel)
theorem wl_C_offerSteps : Cond.selects R_C y_C_offerSteps y_C_offerSteps ∈ WALL := mws 17 (by decide +kernel) (by decide +kernel)
theorem wl_St_endSlot : Cond.selects R_St y_St_endSlot y_St_endSlot ∈ WALL := mws 18 (by decide +kernel) (by decide +kernel)
theorem wl_St_firstSlot : Cond.selects R_St y_St_firstSlot y_St_firstSlot ∈ WALL := mws 19 (by decide +kernel) (by decide +kernel)
theorem wl_St_fromAt : Cond.selects R_St y_St_fromAt y_St_fromAt ∈ WALL := mws 20 (by decide +kernel) (by decide +kernel)
theorem wl_Ra_exchange : Cond.selects R_Ra y_Ra_exchange y_Ra_exchange ∈ WALL := mws 21 (by decide +kernel) (by decide +kernel)
theorem wl_Q_consider : Cond.selects R_Q y_Q_consider y_Q_consider ∈ WALL := mws 22 (by decide +kernel) (by decide +kernel)
theorem wl_Q_isBought : Cond.selects R_Q y_Q_isBought y_Q_isBought ∈ WALL := mws 23 (by decide +kernel) (by decide +kernel)
theorem wl_Q_isBetter : Cond.selects R_Q y_Q_isBetter y_Q_isBetter ∈ WALL := mws 24 (by decide +kernel) (by decide +kernel)
theorem wl_C_drawBoards : Cond.selects R_C y_C_drawBoards y_C_drawBoards ∈ WALL := mws 25 (by decide +kernel) (by decide +kernel)
theorem wl_C_keepDraft : Cond.selects R_C y_C_keepDraft y_C_keepDraft ∈ WALL := mws 26 (by decide +kernel) (by decide +kernel)
theorem wl_Q_sum : Cond.selects R_Q y_Q_sum y_Q_sum ∈ WALL := mws 27 (by decide +kernel) (by decide +kernel)
theorem wl_Q_makersBoughtOf : Cond.selects R_Q y_Q_makersBoughtOf y_Q_makersBoughtOf ∈ WALL := mws 28 (by decide +kernel) (by decide +kernel)
theorem wl_M_isPart : Cond.selects R_M y_M_isPart y_M_isPart ∈ WALL := mws 29 (by decide +kernel) (by decide +kernel)
theorem wl_M_tellStep : Cond.selects R_M y_M_tellStep y_M_tellStep ∈ WALL := mws 30 (by decide +kernel) (by decide +kernel)
theorem wl_M_refusal : Cond.selects R_M y_M_refusal y_M_refusal ∈ WALL := mws 31 (by decide +kernel) (by decide +kernel)
theorem wl_M_reckon : Cond.selects R_M y_M_reckon y_M_reckon ∈ WALL := mws 32 (by decide +kernel) (by decide +kernel)
theorem wl_M_started : Cond.selects R_M y_M_started y_M_started ∈ WALL := mws 33 (by decide +kernel) (by decide +kernel)
theorem wl_M_offer : Cond.selects R_M y_M_offer y_M_offer ∈ WALL := mws 34 (by decide +kernel) (by decide +kernel)
theorem wl_M_rateOf : Cond.selects R_M y_M_rateOf y_M_rateOf ∈ WALL := mws 35 (by decide +kernel) (by decide +kernel)
theorem wl_M_buyPart : Cond.selects R_M y_M_buyPart y_M_buyPart ∈ WALL := mws 36 (by decide +kernel) (by decide +kernel)
theorem wl_M_makersNow : Cond.selects R_M y_M_makersNow y_M_makersNow ∈ WALL := mws 37 (by decide +kernel) (by decide +kernel)
theorem in_K : ∀ w ∈ u_ws R_K T_K 2, w ∈ WALL := by decide +kernel
theorem in_Q : ∀ w ∈ u_ws R_Q T_Q 5, w ∈ WALL := by decide +kernel
theorem in_Ra : ∀ w ∈ u_ws R_Ra T_Ra 5, w ∈ WALL := by decide +kernel
theorem in_St : ∀ w ∈ u_ws R_St T_St 2, w ∈ WALL := by decide +kernel
theorem in_Y : ∀ w ∈ u_ws R_Y T_Y 3, w ∈ WALL := by decide +kernel
theorem in_C : ∀ w ∈ u_ws R_C T_C 13, w ∈ WALL := by decide +kernel
theorem in_M : ∀ w ∈ u_ws R_M T_M 31, w ∈ WALL := by decide +kernel
end
section
theorem d_K_init_0 : decode c_K_init 0 = .ok (.aload_n 0, 1) := by decide +kernel
theorem d_K_init_1 : decode c_K_init 1 = .ok (.invokespecial 3, 3) := by decide +kernel
theorem d_K_init_4 : decode c_K_init 4 = .ok (.iload_n 1, 1) := by decide +kernel
theorem d_K_init_5 : decode c_K_init 5 = .ok (.iconst 0, 1) := by decide +kernel
theorem d_K_init_6 : decode c_K_init 6 = .ok (.invokestatic 9, 3) := by decide +kernel
theorem d_K_init_9 : decode c_K_init 9 = .ok (.istore_n 2, 1) := by decide +kernel
theorem d_K_init_10 : decode c_K_init 10 = .ok (.aload_n 0, 1) := by decide +kernel
theorem d_K_init_11 : decode c_K_init 11 = .ok (.iload_n 2, 1) := by decide +kernel
theorem d_K_init_12 : decode c_K_init 12 = .ok (.bipush 6, 2) := by decide +kernel
theorem d_K_init_14 : decode c_K_init 14 = .ok (.imul, 1) := by decide +kernel
theorem d_K_init_15 : decode c_K_init 15 = .ok (.newarray .long, 2) := by decide +kernel
theorem d_K_init_17 : decode c_K_init 17 = .ok (.putfield 15, 3) := by decide +kernel
theorem d_K_init_20 : decode c_K_init 20 = .ok (.aload_n 0, 1) := by decide +kernel
theorem d_K_init_21 : decode c_K_init 21 = .ok (.iload_n 2, 1) := by decide +kernel
theorem d_K_init_22 : decode c_K_init 22 = .ok (.newarray .int, 2) := by decide +kernel
theorem d_K_init_24 : decode c_K_init 24 = .ok (.putfield 21, 3) := by decide +kernel
theorem d_K_init_27 : decode c_K_init 27 = .ok (.return_, 1) := by decide +kernel
theorem d_K_firstSlot_0 : decode c_K_firstSlot 0 = .ok (.iload_n 1, 1) := by decide +kernel
theorem d_K_firstSlot_1 : decode c_K_firstSlot 1 = .ok (.bipush 6, 2) := by decide +kernel
theorem d_K_firstSlot_3 : decode c_K_firstSlot 3 = .ok (.imul, 1) := by decide +kernel
theorem d_K_firstSlot_4 : decode c_K_firstSlot 4 = .ok (.ireturn, 1) := by decide +kernel
theorem d_K_endSlot_0 : decode c_K_endSlot 0 = .ok (.iload_n 1, 1) := by decide +kernel
theorem d_K_endSlot_1 : decode c_K_endSlot 1 = .ok (.bipush 6, 2) := by decide +kernel
theorem d_K_endSlot_3 : decode c_K_endSlot 3 = .ok (.imul, 1) := by decide +kernel
theorem d_K_endSlot_4 : decode c_K_endSlot 4 = .ok (.aload_n 0, 1) := by decide +kernel
theorem d_K_endSlot_5 : decode c_K_endSlot 5 = .ok (.getfield 21, 3) := by decide +kernel
theorem d_K_endSlot_8 : decode c_K_endSlot 8 = .ok (.iload_n 1, 1) := by decide +kernel
theorem d_K_endSlot_9 : decode c_K_endSlot 9 = .ok (.iaload, 1) := by decide +kernel
theorem d_K_endSlot_10 : decode c_K_endSlot 10 = .ok (.iadd, 1) := by decide +kernel
theorem d_K_endSlot_11 : decode c_K_endSlot 11 = .ok (.ireturn, 1) := by decide +kernel
theorem d_K_slotFor_0 : decode c_K_slotFor 0 = .ok (.aload_n 0, 1) := by decide +kernel
theorem d_K_slotFor_1 : decode c_K_slotFor 1 = .ok (.iload_n 1, 1) := by decide +kernel
theorem d_K_slotFor_2 : decode c_K_slotFor 2 = .ok (.invokevirtual 25, 3) := by decide +kernel
theorem d_K_slotFor_5 : decode c_K_slotFor 5 = .ok (.istore 4, 2) := by decide +kernel
theorem d_K_slotFor_7 : decode c_K_slotFor 7 = .ok (.aload_n 0, 1) := by decide +kernel
theorem d_K_slotFor_8 : decode c_K_slotFor 8 = .ok (.iload_n 1, 1) := by decide +kernel
theorem d_K_slotFor_9 : decode c_K_slotFor 9 = .ok (.invokevirtual 29, 3) := by decide +kernel
theorem d_K_slotFor_12 : decode c_K_slotFor 12 = .ok (.istore 5, 2) := by decide +kernel
theorem d_K_slotFor_14 : decode c_K_slotFor 14 = .ok (.iload 5, 2) := by decide +kernel
theorem d_K_slotFor_16 : decode c_K_slotFor 16 = .ok (.iload 4, 2) := by decide +kernel
theorem d_K_slotFor_18 : decode c_K_slotFor 18 = .ok (.if_icmp .ge 24, 3) := by decide +kernel
theorem d_K_slotFor_21 : decode c_K_slotFor 21 = .ok (.aload_n 0, 1) := by decide +kernel
theorem d_K_slotFor_22 : decode c_K_slotFor 22 = .ok (.getfield 15, 3) := by decide +kernel
theorem d_K_slotFor_25 : decode c_K_slotFor 25 = .ok (.iload 5, 2) := by decide +kernel
theorem d_K_slotFor_27 : decode c_K_slotFor 27 = .ok (.laload, 1) := by decide +kernel
theorem d_K_slotFor_28 : decode c_K_slotFor 28 = .ok (.lload_n 2, 1) := by decide +kernel
theorem d_K_slotFor_29 : decode c_K_slotFor 29 = .ok (.lcmp, 1) := by decide +kernel
theorem d_K_slotFor_30 : decode c_K_slotFor 30 = .ok (.ifCond .ne 6, 3) := by decide +kernel
theorem d_K_slotFor_33 : decode c_K_slotFor 33 = .ok (.iload 5, 2) := by decide +kernel
theorem d_K_slotFor_35 : decode c_K_slotFor 35 = .ok (.ireturn, 1) := by decide +kernel
theorem d_K_slotFor_36 : decode c_K_slotFor 36 = .ok (.iinc 5 1, 3) := by decide +kernel
theorem d_K_slotFor_39 : decode c_K_slotFor 39 = .ok (.goto (-25), 3) := by decide +kernel
theorem d_K_slotFor_42 : decode c_K_slotFor 42 = .ok (.aload_n 0, 1) := by decide +kernel
theorem d_K_slotFor_43 : decode c_K_slotFor 43 = .ok (.getfield 21, 3) := by decide +kernel
theorem d_K_slotFor_46 : decode c_K_slotFor 46 = .ok (.iload_n 1, 1) := by decide +kernel
theorem d_K_slotFor_47 : decode c_K_slotFor 47 = .ok (.iaload, 1) := by decide +kernel
theorem d_K_slotFor_48 : decode c_K_slotFor 48 = .ok (.bipush 6, 2) := by decide +kernel
theorem d_K_slotFor_50 : decode c_K_slotFor 50 = .ok (.if_icmp .lt 5, 3) := by decide +kernel
theorem d_K_slotFor_53 : decode c_K_slotFor 53 = .ok (.iconst (-1), 1) := by decide +kernel
theorem d_K_slotFor_54 : decode c_K_slotFor 54 = .ok (.ireturn, 1) := by decide +kernel
theorem d_K_slotFor_55 : decode c_K_slotFor 55 = .ok (.aload_n 0, 1) := by decide +kernel
theorem d_K_slotFor_56 : decode c_K_slotFor 56 = .ok (.getfield 15, 3) := by decide +kernel
theorem d_K_slotFor_59 : decode c_K_slotFor 59 = .ok (.iload 4, 2) := by decide +kernel
theorem d_K_slotFor_61 : decode c_K_slotFor 61 = .ok (.lload_n 2, 1) := by decide +kernel
theorem d_K_slotFor_62 : decode c_K_slotFor 62 = .ok (.lastore, 1) := by decide +kernel
theorem d_K_slotFor_63 : decode c_K_slotFor 63 = .ok (.aload_n 0, 1) := by decide +kernel
theorem d_K_slotFor_64 : decode c_K_slotFor 64 = .ok (.getfield 21, 3) := by decide +kernel
theorem d_K_slotFor_67 : decode c_K_slotFor 67 = .ok (.iload_n 1, 1) := by decide +kernel
theorem d_K_slotFor_68 : decode c_K_slotFor 68 = .ok (.dup2, 1) := by decide +kernel
theorem d_K_slotFor_69 : decode c_K_slotFor 69 = .ok (.iaload, 1) := by decide +kernel
theorem d_K_slotFor_70 : decode c_K_slotFor 70 = .ok (.iconst 1, 1) := by decide +kernel
theorem d_K_slotFor_71 : decode c_K_slotFor 71 = .ok (.iadd, 1) := by decide +kernel
theorem d_K_slotFor_72 : decode c_K_slotFor 72 = .ok (.iastore, 1) := by decide +kernel
theorem d_K_slotFor_73 : decode c_K_slotFor 73 = .ok (.iload 4, 2) := by decide +kernel
theorem d_K_slotFor_75 : decode c_K_slotFor 75 = .ok (.ireturn, 1) := by decide +kernel
theorem d_Q_init_0 : decode c_Q_init 0 = .ok (.aload_n 0, 1) := by decide +kernel
theorem d_Q_init_1 : decode c_Q_init 1 = .ok (.invokespecial 3, 3) := by decide +kernel
theorem d_Q_init_4 : decode c_Q_init 4 = .ok (.aload_n 0, 1) := by decide +kernel
theorem d_Q_init_5 : decode c_Q_init 5 = .ok (.bipush 33, 2) := by decide +kernel
theorem d_Q_init_7 : decode c_Q_init 7 = .ok (.newarray .long, 2) := by decide +kernel
theorem d_Q_init_9 : decode c_Q_init 9 = .ok (.putfield 9, 3) := by decide +kernel
theorem d_Q_init_12 : decode c_Q_init 12 = .ok (.aload_n 0, 1) := by decide +kernel
theorem d_Q_init_13 : decode c_Q_init 13 = .ok (.bipush 33, 2) := by decide +kernel
theorem d_Q_init_15 : decode c_Q_init 15 = .ok (.newarray .int, 2) := by decide +kernel
theorem d_Q_init_17 : decode c_Q_init 17 = .ok (.putfield 15, 3) := by decide +kernel
theorem d_Q_init_20 : decode c_Q_init 20 = .ok (.aload_n 0, 1) := by decide +kernel
theorem d_Q_init_21 : decode c_Q_init 21 = .ok (.bipush 33, 2) := by decide +kernel
theorem d_Q_init_23 : decode c_Q_init 23 = .ok (.newarray .int, 2) := by decide +kernel
theorem d_Q_init_25 : decode c_Q_init 25 = .ok (.putfield 19, 3) := by decide +kernel
theorem d_Q_init_28 : decode c_Q_init 28 = .ok (.aload_n 0, 1) := by decide +kernel
theorem d_Q_init_29 : decode c_Q_init 29 = .ok (.bipush 33, 2) := by decide +kernel
theorem d_Q_init_31 : decode c_Q_init 31 = .ok (.newarray .int, 2) := by decide +kernel
theorem d_Q_init_33 : decode c_Q_init 33 = .ok (.putfield 22, 3) := by decide +kernel
theorem d_Q_init_36 : decode c_Q_init 36 = .ok (.aload_n 0, 1) := by decide +kernel
theorem d_Q_init_37 : decode c_Q_init 37 = .ok (.iconst 0, 1) := by decide +kernel
theorem d_Q_init_38 : decode c_Q_init 38 = .ok (.putfield 25, 3) := by decide +kernel
theorem d_Q_init_41 : decode c_Q_init 41 = .ok (.return_, 1) := by decide +kernel
theorem d_Q_begin_0 : decode c_Q_begin 0 = .ok (.aload_n 0, 1) := by decide +kernel
theorem d_Q_begin_1 : decode c_Q_begin 1 = .ok (.iload_n 1, 1) := by decide +kernel
theorem d_Q_begin_2 : decode c_Q_begin 2 = .ok (.putfield 25, 3) := by decide +kernel
theorem d_Q_begin_5 : decode c_Q_begin 5 = .ok (.iconst 0, 1) := by decide +kernel
theorem d_Q_begin_6 : decode c_Q_begin 6 = .ok (.istore_n 2, 1) := by decide +kernel
theorem d_Q_begin_7 : decode c_Q_begin 7 = .ok (.iload_n 2, 1) := by decide +kernel
theorem d_Q_begin_8 : decode c_Q_begin 8 = .ok (.bipush 33, 2) := by decide +kernel
theorem d_Q_begin_10 : decode c_Q_begin 10 = .ok (.if_icmp .ge 14, 3) := by decide +kernel
theorem d_Q_begin_13 : decode c_Q_begin 13 = .ok (.aload_n 0, 1) := by decide +kernel
theorem d_Q_begin_14 : decode c_Q_begin 14 = .ok (.iload_n 2, 1) := by decide +kernel
theorem d_Q_begin_15 : decode c_Q_begin 15 = .ok (.invokevirtual 29, 3) := by decide +kernel
theorem d_Q_begin_18 : decode c_Q_begin 18 = .ok (.iinc 2 1, 3) := by decide +kernel
theorem d_Q_begin_21 : decode c_Q_begin 21 = .ok (.goto (-14), 3) := by decide +kernel
theorem d_Q_begin_24 : decode c_Q_begin 24 = .ok (.return_, 1) := by decide +kernel
theorem d_Q_clearRow_0 : decode c_Q_clearRow 0 = .ok (.aload_n 0, 1) := by decide +kernel
theorem d_Q_clearRow_1 : decode c_Q_clearRow 1 = .ok (.getfield 9, 3) := by decide +kernel
theorem d_Q_clearRow_4 : decode c_Q_clearRow 4 = .ok (.iload_n 1, 1) := by decide +kernel
theorem d_Q_clearRow_5 : decode c_Q_clearRow 5 = .ok (.lconst 0, 1) := by decide +kernel
theorem d_Q_clearRow_6 : decode c_Q_clearRow 6 = .ok (.lastore, 1) := by decide +kernel
theorem d_Q_clearRow_7 : decode c_Q_clearRow 7 = .ok (.aload_n 0, 1) := by decide +kernel
theorem d_Q_clearRow_8 : decode c_Q_clearRow 8 = .ok (.getfield 15, 3) := by decide +kernel
theorem d_Q_clearRow_11 : decode c_Q_clearRow 11 = .ok (.iload_n 1, 1) := by decide +kernel
theorem d_Q_clearRow_12 : decode c_Q_clearRow 12 = .ok (.iconst 0, 1) := by decide +kernel
theorem d_Q_clearRow_13 : decode c_Q_clearRow 13 = .ok (.iastore, 1) := by decide +kernel
theorem d_Q_clearRow_14 : decode c_Q_clearRow 14 = .ok (.aload_n 0, 1) := by decide +kernel
theorem d_Q_clearRow_15 : decode c_Q_clearRow 15 = .ok (.getfield 19, 3) := by decide +kernel
theorem d_Q_clearRow_18 : decode c_Q_clearRow 18 = .ok (.iload_n 1, 1) := by decide +kernel
theorem d_Q_clearRow_19 : decode c_Q_clearRow 19 = .ok (.iconst (-1), 1) := by decide +kernel
theorem d_Q_clearRow_20 : decode c_Q_clearRow 20 = .ok (.iastore, 1) := by decide +kernel
theorem d_Q_clearRow_21 : decode c_Q_clearRow 21 = .ok (.aload_n 0, 1) := by decide +kernel
theorem d_Q_clearRow_22 : decode c_Q_clearRow 22 = .ok (.getfield 22, 3) := by decide +kernel
theorem d_Q_clearRow_25 : decode c_Q_clearRow 25 = .ok (.iload_n 1, 1) := by decide +kernel
theorem d_Q_clearRow_26 : decode c_Q_clearRow 26 = .ok (.iconst (-1), 1) := by decide +kernel
theorem d_Q_clearRow_27 : decode c_Q_clearRow 27 = .ok (.iastore, 1) := by decide +kernel
theorem d_Q_clearRow_28 : decode c_Q_clearRow 28 = .ok (.return_, 1) := by decide +kernel
theorem d_Q_isBought_0 : decode c_Q_isBought 0 = .ok (.aload_n 0, 1) := by decide +kernel
theorem d_Q_isBought_1 : decode c_Q_isBought 1 = .ok (.getfield 19, 3) := by decide +kernel
theorem d_Q_isBought_4 : decode c_Q_isBought 4 = .ok (.iload_n 1, 1) := by decide +kernel
theorem d_Q_isBought_5 : decode c_Q_isBought 5 = .ok (.iaload, 1) := by decide +kernel
theorem d_Q_isBought_6 : decode c_Q_isBought 6 = .ok (.iconst (-1), 1) := by decide +kernel
theorem d_Q_isBought_7 : decode c_Q_isBought 7 = .ok (.if_icmp .eq 7, 3) := by decide +kernel
theorem d_Q_isBought_10 : decode c_Q_isBought 10 = .ok (.iconst 1, 1) := by decide +kernel
theorem d_Q_isBought_11 : decode c_Q_isBought 11 = .ok (.goto 4, 3) := by decide +kernel
theorem d_Q_isBought_14 : decode c_Q_isBought 14 = .ok (.iconst 0, 1) := by decide +kernel
theorem d_Q_isBought_15 : decode c_Q_isBought 15 = .ok (.ireturn, 1) := by decide +kernel
theorem d_Q_consider_0 : decode c_Q_consider 0 = .ok (.aload_n 0, 1) := by decide +kernel
theorem d_Q_consider_1 : decode c_Q_consider 1 = .ok (.iload_n 1, 1) := by decide +kernel
theorem d_Q_consider_2 : decode c_Q_consider 2 = .ok (.invokevirtual 33, 3) := by decide +kernel
theorem d_Q_consider_5 : decode c_Q_consider 5 = .ok (.ifCond .eq 19, 3) := by decide +kernel
theorem d_Q_consider_8 : decode c_Q_consider 8 = .ok (.aload_n 0, 1) := by decide +kernel
theorem d_Q_consider_9 : decode c_Q_consider 9 = .ok (.iload_n 1, 1) := by decide +kernel
theorem d_Q_consider_10 : decode c_Q_consider 10 = .ok (.lload_n 2, 1) := by decide +kernel
theorem d_Q_consider_11 : decode c_Q_consider 11 = .ok (.iload 4, 2) := by decide +kernel
theorem d_Q_consider_13 : decode c_Q_consider 13 = .ok (.iload 5, 2) := by decide +kernel
theorem d_Q_consider_15 : decode c_Q_consider 15 = .ok (.iload 6, 2) := by decide +kernel
theorem d_Q_consider_17 : decode c_Q_consider 17 = .ok (.invokevirtual 37, 3) := by decide +kernel
theorem d_Q_consider_20 : decode c_Q_consider 20 = .ok (.ifCond .ne 4, 3) := by decide +kernel
theorem d_Q_consider_23 : decode c_Q_consider 23 = .ok (.return_, 1) := by decide +kernel
theorem d_Q_consider_24 : decode c_Q_consider 24 = .ok (.aload_n 0, 1) := by decide +kernel
theorem d_Q_consider_25 : decode c_Q_consider 25 = .ok (.getfield 9, 3) := by decide +kernel
theorem d_Q_consider_28 : decode c_Q_consider 28 = .ok (.iload_n 1, 1) := by decide +kernel
theorem d_Q_consider_29 : decode c_Q_consider 29 = .ok (.lload_n 2, 1) := by decide +kernel
theorem d_Q_consider_30 : decode c_Q_consider 30 = .ok (.lastore, 1) := by decide +kernel
theorem d_Q_consider_31 : decode c_Q_consider 31 = .ok (.aload_n 0, 1) := by decide +kernel
theorem d_Q_consider_32 : decode c_Q_consider 32 = .ok (.getfield 15, 3) := by decide +kernel
theorem d_Q_consider_35 : decode c_Q_consider 35 = .ok (.iload_n 1, 1) := by decide +kernel
theorem d_Q_consider_36 : decode c_Q_consider 36 = .ok (.iload 6, 2) := by decide +kernel
theorem d_Q_consider_38 : decode c_Q_consider 38 = .ok (.iastore, 1) := by decide +kernel
theorem d_Q_consider_39 : decode c_Q_consider 39 = .ok (.aload_n 0, 1) := by decide +kernel
theorem d_Q_consider_40 : decode c_Q_consider 40 = .ok (.getfield 19, 3) := by decide +kernel
theorem d_Q_consider_43 : decode c_Q_consider 43 = .ok (.iload_n 1, 1) := by decide +kernel
theorem d_Q_consider_44 : decode c_Q_consider 44 = .ok (.iload 5, 2) := by decide +kernel
theorem d_Q_consider_46 : decode c_Q_consider 46 = .ok (.iastore, 1) := by decide +kernel
theorem d_Q_consider_47 : decode c_Q_consider 47 = .ok (.aload_n 0, 1) := by decide +kernel
theorem d_Q_consider_48 : decode c_Q_consider 48 = .ok (.getfield 22, 3) := by decide +kernel
theorem d_Q_consider_51 : decode c_Q_consider 51 = .ok (.iload_n 1, 1) := by decide +kernel
theorem d_Q_consider_52 : decode c_Q_consider 52 = .ok (.iload 4, 2) := by decide +kernel
theorem d_Q_consider_54 : decode c_Q_consider 54 = .ok (.iastore, 1) := by decide +kernel
theorem d_Q_consider_55 : decode c_Q_consider 55 = .ok (.return_, 1) := by decide +kernel
theorem d_Q_isBetter_0 : decode c_Q_isBetter 0 = .ok (.lload_n 2, 1) := by decide +kernel
theorem d_Q_isBetter_1 : decode c_Q_isBetter 1 = .ok (.aload_n 0, 1) := by decide +kernel
theorem d_Q_isBetter_2 : decode c_Q_isBetter 2 = .ok (.getfield 9, 3) := by decide +kernel
theorem d_Q_isBetter_5 : decode c_Q_isBetter 5 = .ok (.iload_n 1, 1) := by decide +kernel
theorem d_Q_isBetter_6 : decode c_Q_isBetter 6 = .ok (.laload, 1) := by decide +kernel
theorem d_Q_isBetter_7 : decode c_Q_isBetter 7 = .ok (.lcmp, 1) := by decide +kernel
theorem d_Q_isBetter_8 : decode c_Q_isBetter 8 = .ok (.ifCond .eq 20, 3) := by decide +kernel
theorem d_Q_isBetter_11 : decode c_Q_isBetter 11 = .ok (.lload_n 2, 1) := by decide +kernel
theorem d_Q_isBetter_12 : decode c_Q_isBetter 12 = .ok (.aload_n 0, 1) := by decide +kernel
theorem d_Q_isBetter_13 : decode c_Q_isBetter 13 = .ok (.getfield 9, 3) := by decide +kernel
theorem d_Q_isBetter_16 : decode c_Q_isBetter 16 = .ok (.iload_n 1, 1) := by decide +kernel
theorem d_Q_isBetter_17 : decode c_Q_isBetter 17 = .ok (.laload, 1) := by decide +kernel
theorem d_Q_isBetter_18 : decode c_Q_isBetter 18 = .ok (.lcmp, 1) := by decide +kernel
theorem d_Q_isBetter_19 : decode c_Q_isBetter 19 = .ok (.ifCond .ge 7, 3) := by decide +kernel
theorem d_Q_isBetter_22 : decode c_Q_isBetter 22 = .ok (.iconst 1, 1) := by decide +kernel
theorem d_Q_isBetter_23 : decode c_Q_isBetter 23 = .ok (.goto 4, 3) := by decide +kernel
theorem d_Q_isBetter_26 : decode c_Q_isBetter 26 = .ok (.iconst 0, 1) := by decide +kernel
theorem d_Q_isBetter_27 : decode c_Q_isBetter 27 = .ok (.ireturn, 1) := by decide +kernel
theorem d_Q_isBetter_28 : decode c_Q_isBetter 28 = .ok (.iload 4, 2) := by decide +kernel
theorem d_Q_isBetter_30 : decode c_Q_isBetter 30 = .ok (.aload_n 0, 1) := by decide +kernel
theorem d_Q_isBetter_31 : decode c_Q_isBetter 31 = .ok (.getfield 22, 3) := by decide +kernel
theorem d_Q_isBetter_34 : decode c_Q_isBetter 34 = .ok (.iload_n 1, 1) := by decide +kernel
theorem d_Q_isBetter_35 : decode c_Q_isBetter 35 = .ok (.iaload, 1) := by decide +kernel
theorem d_Q_isBetter_36 : decode c_Q_isBetter 36 = .ok (.if_icmp .eq 20, 3) := by decide +kernel
theorem d_Q_isBetter_39 : decode c_Q_isBetter 39 = .ok (.iload 4, 2) := by decide +kernel
theorem d_Q_isBetter_41 : decode c_Q_isBetter 41 = .ok (.aload_n 0, 1) := by decide +kernel
theorem d_Q_isBetter_42 : decode c_Q_isBetter 42 = .ok (.getfield 22, 3) := by decide +kernel
theorem d_Q_isBetter_45 : decode c_Q_isBetter 45 = .ok (.iload_n 1, 1) := by decide +kernel
theorem d_Q_isBetter_46 : decode c_Q_isBetter 46 = .ok (.iaload, 1) := by decide +kernel
theorem d_Q_isBetter_47 : decode c_Q_isBetter 47 = .ok (.if_icmp .ge 7, 3) := by decide +kernel
theorem d_Q_isBetter_50 : decode c_Q_isBetter 50 = .ok (.iconst 1, 1) := by decide +kernel
theorem d_Q_isBetter_51 : decode c_Q_isBetter 51 = .ok (.goto 4, 3) := by decide +kernel
theorem d_Q_isBetter_54 : decode c_Q_isBetter 54 = .ok (.iconst 0, 1) := by decide +kernel
theorem d_Q_isBetter_55 : decode c_Q_isBetter 55 = .ok (.ireturn, 1) := by decide +kernel
theorem d_Q_isBetter_56 : decode c_Q_isBetter 56 = .ok (.iload 5, 2) := by decide +kernel
theorem d_Q_isBetter_58 : decode c_Q_isBetter 58 = .ok (.aload_n 0, 1) := by decide +kernel
theorem d_Q_isBetter_59 : decode c_Q_isBetter 59 = .ok (.getfield 19, 3) := by decide +kernel
theorem d_Q_isBetter_62 : decode c_Q_isBetter 62 = .ok (.iload_n 1, 1) := by decide +kernel
theorem d_Q_isBetter_63 : decode c_Q_isBetter 63 = .ok (.iaload, 1) := by decide +kernel
theorem d_Q_isBetter_64 : decode c_Q_isBetter 64 = .ok (.if_icmp .eq 20, 3) := by decide +kernel
theorem d_Q_isBetter_67 : decode c_Q_isBetter 67 = .ok (.iload 5, 2) := by decide +kernel
theorem d_Q_isBetter_69 : decode c_Q_isBetter 69 = .ok (.aload_n 0, 1) := by decide +kernel
theorem d_Q_isBetter_70 : decode c_Q_isBetter 70 = .ok (.getfield 19, 3) := by decide +kernel
theorem d_Q_isBetter_73 : decode c_Q_isBetter 73 = .ok (.iload_n 1, 1) := by decide +kernel
theorem d_Q_isBetter_74 : decode c_Q_isBetter 74 = .ok (.iaload, 1) := by decide +kernel
theorem d_Q_isBetter_75 : decode c_Q_isBetter 75 = .ok (.if_icmp .ge 7, 3) := by decide +kernel
theorem d_Q_isBetter_78 : decode c_Q_isBetter 78 = .ok (.iconst 1, 1) := by decide +kernel
theorem d_Q_isBetter_79 : decode c_Q_isBetter 79 = .ok (.goto 4, 3) := by decide +kernel
theorem d_Q_isBetter_82 : decode c_Q_isBetter 82 = .ok (.iconst 0, 1) := by decide +kernel
theorem d_Q_isBetter_83 : decode c_Q_isBetter 83 = .ok (.ireturn, 1) := by decide +kernel
theorem d_Q_isBetter_84 : decode c_Q_isBetter 84 = .ok (.iload 6, 2) := by decide +kernel
theorem d_Q_isBetter_86 : decode c_Q_isBetter 86 = .ok (.aload_n 0, 1) := by decide +kernel
theorem d_Q_isBetter_87 : decode c_Q_isBetter 87 = .ok (.getfield 15, 3) := by decide +kernel
theorem d_Q_isBetter_90 : decode c_Q_isBetter 90 = .ok (.iload_n 1, 1) := by decide +kernel
theorem d_Q_isBetter_91 : decode c_Q_isBetter 91 = .ok (.iaload, 1) := by decide +kernel
theorem d_Q_isBetter_92 : decode c_Q_isBetter 92 = .ok (.if_icmp .ge 7, 3) := by decide +kernel
theorem d_Q_isBetter_95 : decode c_Q_isBetter 95 = .ok (.iconst 1, 1) := by decide +kernel
theorem d_Q_isBetter_96 : decode c_Q_isBetter 96 = .ok (.goto 4, 3) := by decide +kernel
theorem d_Q_isBetter_99 : decode c_Q_isBetter 99 = .ok (.iconst 0, 1) := by decide +kernel
theorem d_Q_isBetter_100 : decode c_Q_isBetter 100 = .ok (.ireturn, 1) := by decide +kernel
theorem d_Q_sum_0 : decode c_Q_sum 0 = .ok (.lconst 0, 1) := by decide +kernel
theorem d_Q_sum_1 : decode c_Q_sum 1 = .ok (.lstore_n 1, 1) := by decide +kernel
theorem d_Q_sum_2 : decode c_Q_sum 2 = .ok (.iconst 0, 1) := by decide +kernel
theorem d_Q_sum_3 : decode c_Q_sum 3 = .ok (.istore_n 3, 1) := by decide +kernel
theorem d_Q_sum_4 : decode c_Q_sum 4 = .ok (.iload_n 3, 1) := by decide +kernel
theorem d_Q_sum_5 : decode c_Q_sum 5 = .ok (.aload_n 0, 1) := by decide +kernel
theorem d_Q_sum_6 : decode c_Q_sum 6 = .ok (.getfield 25, 3) := by decide +kernel
theorem d_Q_sum_9 : decode c_Q_sum 9 = .ok (.if_icmp .ge 18, 3) := by decide +kernel
theorem d_Q_sum_12 : decode c_Q_sum 12 = .ok (.lload_n 1, 1) := by decide +kernel
theorem d_Q_sum_13 : decode c_Q_sum 13 = .ok (.aload_n 0, 1) := by decide +kernel
theorem d_Q_sum_14 : decode c_Q_sum 14 = .ok (.getfield 9, 3) := by decide +kernel
theorem d_Q_sum_17 : decode c_Q_sum 17 = .ok (.iload_n 3, 1) := by decide +kernel
theorem d_Q_sum_18 : decode c_Q_sum 18 = .ok (.laload, 1) := by decide +kernel
theorem d_Q_sum_19 : decode c_Q_sum 19 = .ok (.ladd, 1) := by decide +kernel
theorem d_Q_sum_20 : decode c_Q_sum 20 = .ok (.lstore_n 1, 1) := by decide +kernel
theorem d_Q_sum_21 : decode c_Q_sum 21 = .ok (.iinc 3 1, 3) := by decide +kernel
theorem d_Q_sum_24 : decode c_Q_sum 24 = .ok (.goto (-20), 3) := by decide +kernel
theorem d_Q_sum_27 : decode c_Q_sum 27 = .ok (.lload_n 1, 1) := by decide +kernel
theorem d_Q_sum_28 : decode c_Q_sum 28 = .ok (.lreturn, 1) := by decide +kernel
theorem d_Q_makersBoughtOf_0 : decode c_Q_makersBoughtOf 0 = .ok (.iconst 0, 1) := by decide +kernel
theorem d_Q_makersBoughtOf_1 : decode c_Q_makersBoughtOf 1 = .ok (.istore_n 1, 1) := by decide +kernel
theorem d_Q_makersBoughtOf_2 : decode c_Q_makersBoughtOf 2 = .ok (.iconst 0, 1) := by decide +kernel
theorem d_Q_makersBoughtOf_3 : decode c_Q_makersBoughtOf 3 = .ok (.istore_n 2, 1) := by decide +kernel
theorem d_Q_makersBoughtOf_4 : decode c_Q_makersBoughtOf 4 = .ok (.iload_n 2, 1) := by decide +kernel
theorem d_Q_makersBoughtOf_5 : decode c_Q_makersBoughtOf 5 = .ok (.aload_n 0, 1) := by decide +kernel
theorem d_Q_makersBoughtOf_6 : decode c_Q_makersBoughtOf 6 = .ok (.getfield 25, 3) := by decide +kernel
theorem d_Q_makersBoughtOf_9 : decode c_Q_makersBoughtOf 9 = .ok (.if_icmp .ge 28, 3) := by decide +kernel
theorem d_Q_makersBoughtOf_12 : decode c_Q_makersBoughtOf 12 = .ok (.aload_n 0, 1) := by decide +kernel
theorem d_Q_makersBoughtOf_13 : decode c_Q_makersBoughtOf 13 = .ok (.iload_n 2, 1) := by decide +kernel
theorem d_Q_makersBoughtOf_14 : decode c_Q_makersBoughtOf 14 = .ok (.invokevirtual 33, 3) := by decide +kernel
theorem d_Q_makersBoughtOf_17 : decode c_Q_makersBoughtOf 17 = .ok (.ifCond .eq 14, 3) := by decide +kernel
theorem d_Q_makersBoughtOf_20 : decode c_Q_makersBoughtOf 20 = .ok (.iload_n 1, 1) := by decide +kernel
theorem d_Q_makersBoughtOf_21 : decode c_Q_makersBoughtOf 21 = .ok (.iconst 1, 1) := by decide +kernel
theorem d_Q_makersBoughtOf_22 : decode c_Q_makersBoughtOf 22 = .ok (.aload_n 0, 1) := by decide +kernel
theorem d_Q_makersBoughtOf_23 : decode c_Q_makersBoughtOf 23 = .ok (.getfield 19, 3) := by decide +kernel
theorem d_Q_makersBoughtOf_26 : decode c_Q_makersBoughtOf 26 = .ok (.iload_n 2, 1) := by decide +kernel
theorem d_Q_makersBoughtOf_27 : decode c_Q_makersBoughtOf 27 = .ok (.iaload, 1) := by decide +kernel
theorem d_Q_makersBoughtOf_28 : decode c_Q_makersBoughtOf 28 = .ok (.ishl, 1) := by decide +kernel
theorem d_Q_makersBoughtOf_29 : decode c_Q_makersBoughtOf 29 = .ok (.ior, 1) := by decide +kernel
theorem d_Q_makersBoughtOf_30 : decode c_Q_makersBoughtOf 30 = .ok (.istore_n 1, 1) := by decide +kernel
theorem d_Q_makersBoughtOf_31 : decode c_Q_makersBoughtOf 31 = .ok (.iinc 2 1, 3) := by decide +kernel
theorem d_Q_makersBoughtOf_34 : decode c_Q_makersBoughtOf 34 = .ok (.goto (-30), 3) := by decide +kernel
theorem d_Q_makersBoughtOf_37 : decode c_Q_makersBoughtOf 37 = .ok (.iload_n 1, 1) := by decide +kernel
theorem d_Q_makersBoughtOf_38 : decode c_Q_makersBoughtOf 38 = .ok (.invokestatic 41, 3) := by decide +kernel
theorem d_Q_makersBoughtOf_41 : decode c_Q_makersBoughtOf 41 = .ok (.ireturn, 1) := by decide +kernel
theorem d_Ra_init_0 : decode c_Ra_init 0 = .ok (.aload_n 0, 1) := by decide +kernel
theorem d_Ra_init_1 : decode c_Ra_init 1 = .ok (.invokespecial 3, 3) := by decide +kernel
theorem d_Ra_init_4 : decode c_Ra_init 4 = .ok (.aload_n 0, 1) := by decide +kernel
theorem d_Ra_init_5 : decode c_Ra_init 5 = .ok (.new 9, 3) := by decide +kernel
theorem d_Ra_init_8 : decode c_Ra_init 8 = .ok (.dup, 1) := by decide +kernel
theorem d_Ra_init_9 : decode c_Ra_init 9 = .ok (.bipush 8, 2) := by decide +kernel
theorem d_Ra_init_11 : decode c_Ra_init 11 = .ok (.invokespecial 11, 3) := by decide +kernel
theorem d_Ra_init_14 : decode c_Ra_init 14 = .ok (.putfield 14, 3) := by decide +kernel
theorem d_Ra_init_17 : decode c_Ra_init 17 = .ok (.aload_n 0, 1) := by decide +kernel
theorem d_Ra_init_18 : decode c_Ra_init 18 = .ok (.bipush 48, 2) := by decide +kernel
theorem d_Ra_init_20 : decode c_Ra_init 20 = .ok (.newarray .long, 2) := by decide +kernel
theorem d_Ra_init_22 : decode c_Ra_init 22 = .ok (.putfield 20, 3) := by decide +kernel
theorem d_Ra_init_25 : decode c_Ra_init 25 = .ok (.aload_n 0, 1) := by decide +kernel
theorem d_Ra_init_26 : decode c_Ra_init 26 = .ok (.bipush 48, 2) := by decide +kernel
theorem d_Ra_init_28 : decode c_Ra_init 28 = .ok (.newarray .long, 2) := by decide +kernel
theorem d_Ra_init_30 : decode c_Ra_init 30 = .ok (.putfield 24, 3) := by decide +kernel
theorem d_Ra_init_33 : decode c_Ra_init 33 = .ok (.aload_n 0, 1) := by decide +kernel
theorem d_Ra_init_34 : decode c_Ra_init 34 = .ok (.bipush 8, 2) := by decide +kernel
theorem d_Ra_init_36 : decode c_Ra_init 36 = .ok (.newarray .long, 2) := by decide +kernel
theorem d_Ra_init_38 : decode c_Ra_init 38 = .ok (.putfield 27, 3) := by decide +kernel
theorem d_Ra_init_41 : decode c_Ra_init 41 = .ok (.aload_n 0, 1) := by decide +kernel
theorem d_Ra_init_42 : decode c_Ra_init 42 = .ok (.bipush 8, 2) := by decide +kernel
theorem d_Ra_init_44 : decode c_Ra_init 44 = .ok (.newarray .long, 2) := by decide +kernel
theorem d_Ra_init_46 : decode c_Ra_init 46 = .ok (.putfield 30, 3) := by decide +kernel
theorem d_Ra_init_49 : decode c_Ra_init 49 = .ok (.return_, 1) := by decide +kernel
theorem d_Ra_tell_0 : decode c_Ra_tell 0 = .ok (.aload_n 0, 1) := by decide +kernel
theorem d_Ra_tell_1 : decode c_Ra_tell 1 = .ok (.getfield 14, 3) := by decide +kernel
theorem d_Ra_tell_4 : decode c_Ra_tell 4 = .ok (.iload_n 1, 1) := by decide +kernel
theorem d_Ra_tell_5 : decode c_Ra_tell 5 = .ok (.lload_n 2, 1) := by decide +kernel
theorem d_Ra_tell_6 : decode c_Ra_tell 6 = .ok (.invokevirtual 33, 3) := by decide +kernel
theorem d_Ra_tell_9 : decode c_Ra_tell 9 = .ok (.istore 8, 2) := by decide +kernel
theorem d_Ra_tell_11 : decode c_Ra_tell 11 = .ok (.iload 8, 2) := by decide +kernel
theorem d_Ra_tell_13 : decode c_Ra_tell 13 = .ok (.iconst (-1), 1) := by decide +kernel
theorem d_Ra_tell_14 : decode c_Ra_tell 14 = .ok (.if_icmp .ne 5, 3) := by decide +kernel
theorem d_Ra_tell_17 : decode c_Ra_tell 17 = .ok (.iconst 0, 1) := by decide +kernel
theorem d_Ra_tell_18 : decode c_Ra_tell 18 = .ok (.ireturn, 1) := by decide +kernel
theorem d_Ra_tell_19 : decode c_Ra_tell 19 = .ok (.aload_n 0, 1) := by decide +kernel
theorem d_Ra_tell_20 : decode c_Ra_tell 20 = .ok (.getfield 20, 3) := by decide +kernel
theorem d_Ra_tell_23 : decode c_Ra_tell 23 = .ok (.iload 8, 2) := by decide +kernel
theorem d_Ra_tell_25 : decode c_Ra_tell 25 = .ok (.lload 4, 2) := by decide +kernel
theorem d_Ra_tell_27 : decode c_Ra_tell 27 = .ok (.invokestatic 37, 3) := by decide +kernel
theorem d_Ra_tell_30 : decode c_Ra_tell 30 = .ok (.istore 9, 2) := by decide +kernel
theorem d_Ra_tell_32 : decode c_Ra_tell 32 = .ok (.aload_n 0, 1) := by decide +kernel
theorem d_Ra_tell_33 : decode c_Ra_tell 33 = .ok (.getfield 24, 3) := by decide +kernel
theorem d_Ra_tell_36 : decode c_Ra_tell 36 = .ok (.iload 8, 2) := by decide +kernel
theorem d_Ra_tell_38 : decode c_Ra_tell 38 = .ok (.lload 6, 2) := by decide +kernel
theorem d_Ra_tell_40 : decode c_Ra_tell 40 = .ok (.invokestatic 37, 3) := by decide +kernel
theorem d_Ra_tell_43 : decode c_Ra_tell 43 = .ok (.istore 10, 2) := by decide +kernel
theorem d_Ra_tell_45 : decode c_Ra_tell 45 = .ok (.iload 9, 2) := by decide +kernel
theorem d_Ra_tell_47 : decode c_Ra_tell 47 = .ok (.ifCond .ne 8, 3) := by decide +kernel
theorem d_Ra_tell_50 : decode c_Ra_tell 50 = .ok (.iload 10, 2) := by decide +kernel
theorem d_Ra_tell_52 : decode c_Ra_tell 52 = .ok (.ifCond .eq 7, 3) := by decide +kernel
theorem d_Ra_tell_55 : decode c_Ra_tell 55 = .ok (.iconst 1, 1) := by decide +kernel
theorem d_Ra_tell_56 : decode c_Ra_tell 56 = .ok (.goto 4, 3) := by decide +kernel
theorem d_Ra_tell_59 : decode c_Ra_tell 59 = .ok (.iconst 0, 1) := by decide +kernel
theorem d_Ra_tell_60 : decode c_Ra_tell 60 = .ok (.ireturn, 1) := by decide +kernel
theorem d_Ra_turnTo_0 : decode c_Ra_turnTo 0 = .ok (.iconst 0, 1) := by decide +kernel
theorem d_Ra_turnTo_1 : decode c_Ra_turnTo 1 = .ok (.istore_n 3, 1) := by decide +kernel
theorem d_Ra_turnTo_2 : decode c_Ra_turnTo 2 = .ok (.iload_n 3, 1) := by decide +kernel
theorem d_Ra_turnTo_3 : decode c_Ra_turnTo 3 = .ok (.bipush 8, 2) := by decide +kernel
theorem d_Ra_turnTo_5 : decode c_Ra_turnTo 5 = .ok (.if_icmp .ge 63, 3) := by decide +kernel
theorem d_Ra_turnTo_8 : decode c_Ra_turnTo 8 = .ok (.aload_n 0, 1) := by decide +kernel
theorem d_Ra_turnTo_9 : decode c_Ra_turnTo 9 = .ok (.iload_n 3, 1) := by decide +kernel
theorem d_Ra_turnTo_10 : decode c_Ra_turnTo 10 = .ok (.lload_n 1, 1) := by decide +kernel
theorem d_Ra_turnTo_11 : decode c_Ra_turnTo 11 = .ok (.invokevirtual 41, 3) := by decide +kernel
theorem d_Ra_turnTo_14 : decode c_Ra_turnTo 14 = .ok (.istore 4, 2) := by decide +kernel
theorem d_Ra_turnTo_16 : decode c_Ra_turnTo 16 = .ok (.aload_n 0, 1) := by decide +kernel
theorem d_Ra_turnTo_17 : decode c_Ra_turnTo 17 = .ok (.getfield 27, 3) := by decide +kernel
theorem d_Ra_turnTo_20 : decode c_Ra_turnTo 20 = .ok (.iload_n 3, 1) := by decide +kernel
theorem d_Ra_turnTo_21 : decode c_Ra_turnTo 21 = .ok (.iload 4, 2) := by decide +kernel
theorem d_Ra_turnTo_23 : decode c_Ra_turnTo 23 = .ok (.iconst (-1), 1) := by decide +kernel
theorem d_Ra_turnTo_24 : decode c_Ra_turnTo 24 = .ok (.if_icmp .ne 7, 3) := by decide +kernel
theorem d_Ra_turnTo_27 : decode c_Ra_turnTo 27 = .ok (.lconst 1, 1) := by decide +kernel
theorem d_Ra_turnTo_28 : decode c_Ra_turnTo 28 = .ok (.goto 10, 3) := by decide +kernel
theorem d_Ra_turnTo_31 : decode c_Ra_turnTo 31 = .ok (.aload_n 0, 1) := by decide +kernel
theorem d_Ra_turnTo_32 : decode c_Ra_turnTo 32 = .ok (.getfield 20, 3) := by decide +kernel
theorem d_Ra_turnTo_35 : decode c_Ra_turnTo 35 = .ok (.iload 4, 2) := by decide +kernel
theorem d_Ra_turnTo_37 : decode c_Ra_turnTo 37 = .ok (.laload, 1) := by decide +kernel
theorem d_Ra_turnTo_38 : decode c_Ra_turnTo 38 = .ok (.lastore, 1) := by decide +kernel
theorem d_Ra_turnTo_39 : decode c_Ra_turnTo 39 = .ok (.aload_n 0, 1) := by decide +kernel
theorem d_Ra_turnTo_40 : decode c_Ra_turnTo 40 = .ok (.getfield 30, 3) := by decide +kernel
theorem d_Ra_turnTo_43 : decode c_Ra_turnTo 43 = .ok (.iload_n 3, 1) := by decide +kernel
theorem d_Ra_turnTo_44 : decode c_Ra_turnTo 44 = .ok (.iload 4, 2) := by decide +kernel
theorem d_Ra_turnTo_46 : decode c_Ra_turnTo 46 = .ok (.iconst (-1), 1) := by decide +kernel
theorem d_Ra_turnTo_47 : decode c_Ra_turnTo 47 = .ok (.if_icmp .ne 7, 3) := by decide +kernel
theorem d_Ra_turnTo_50 : decode c_Ra_turnTo 50 = .ok (.lconst 1, 1) := by decide +kernel
theorem d_Ra_turnTo_51 : decode c_Ra_turnTo 51 = .ok (.goto 10, 3) := by decide +kernel
theorem d_Ra_turnTo_54 : decode c_Ra_turnTo 54 = .ok (.aload_n 0, 1) := by decide +kernel
theorem d_Ra_turnTo_55 : decode c_Ra_turnTo 55 = .ok (.getfield 24, 3) := by decide +kernel
theorem d_Ra_turnTo_58 : decode c_Ra_turnTo 58 = .ok (.iload 4, 2) := by decide +kernel
theorem d_Ra_turnTo_60 : decode c_Ra_turnTo 60 = .ok (.laload, 1) := by decide +kernel
theorem d_Ra_turnTo_61 : decode c_Ra_turnTo 61 = .ok (.lastore, 1) := by decide +kernel
theorem d_Ra_turnTo_62 : decode c_Ra_turnTo 62 = .ok (.iinc 3 1, 3) := by decide +kernel
theorem d_Ra_turnTo_65 : decode c_Ra_turnTo 65 = .ok (.goto (-63), 3) := by decide +kernel
theorem d_Ra_turnTo_68 : decode c_Ra_turnTo 68 = .ok (.return_, 1) := by decide +kernel
theorem d_Ra_latestSlot_0 : decode c_Ra_latestSlot 0 = .ok (.iconst (-1), 1) := by decide +kernel
theorem d_Ra_latestSlot_1 : decode c_Ra_latestSlot 1 = .ok (.istore 4, 2) := by decide +kernel
theorem d_Ra_latestSlot_3 : decode c_Ra_latestSlot 3 = .ok (.aload_n 0, 1) := by decide +kernel
theorem d_Ra_latestSlot_4 : decode c_Ra_latestSlot 4 = .ok (.getfield 14, 3) := by decide +kernel
theorem d_Ra_latestSlot_7 : decode c_Ra_latestSlot 7 = .ok (.iload_n 1, 1) := by decide +kernel
theorem d_Ra_latestSlot_8 : decode c_Ra_latestSlot 8 = .ok (.invokevirtual 44, 3) := by decide +kernel
theorem d_Ra_latestSlot_11 : decode c_Ra_latestSlot 11 = .ok (.istore 5, 2) := by decide +kernel
theorem d_Ra_latestSlot_13 : decode c_Ra_latestSlot 13 = .ok (.aload_n 0, 1) := by decide +kernel
theorem d_Ra_latestSlot_14 : decode c_Ra_latestSlot 14 = .ok (.getfield 14, 3) := by decide +kernel
theorem d_Ra_latestSlot_17 : decode c_Ra_latestSlot 17 = .ok (.iload_n 1, 1) := by decide +kernel
theorem d_Ra_latestSlot_18 : decode c_Ra_latestSlot 18 = .ok (.invokevirtual 48, 3) := by decide +kernel
theorem d_Ra_latestSlot_21 : decode c_Ra_latestSlot 21 = .ok (.istore 6, 2) := by decide +kernel
theorem d_Ra_latestSlot_23 : decode c_Ra_latestSlot 23 = .ok (.iload 6, 2) := by decide +kernel
theorem d_Ra_latestSlot_25 : decode c_Ra_latestSlot 25 = .ok (.iload 5, 2) := by decide +kernel
theorem d_Ra_latestSlot_27 : decode c_Ra_latestSlot 27 = .ok (.if_icmp .ge 54, 3) := by decide +kernel
theorem d_Ra_latestSlot_30 : decode c_Ra_latestSlot 30 = .ok (.aload_n 0, 1) := by decide +kernel
theorem d_Ra_latestSlot_31 : decode c_Ra_latestSlot 31 = .ok (.getfield 14, 3) := by decide +kernel
theorem d_Ra_latestSlot_34 : decode c_Ra_latestSlot 34 = .ok (.getfield 51, 3) := by decide +kernel
theorem d_Ra_latestSlot_37 : decode c_Ra_latestSlot 37 = .ok (.iload 6, 2) := by decide +kernel
theorem d_Ra_latestSlot_39 : decode c_Ra_latestSlot 39 = .ok (.laload, 1) := by decide +kernel
theorem d_Ra_latestSlot_40 : decode c_Ra_latestSlot 40 = .ok (.lstore 7, 2) := by decide +kernel
theorem d_Ra_latestSlot_42 : decode c_Ra_latestSlot 42 = .ok (.lload 7, 2) := by decide +kernel
theorem d_Ra_latestSlot_44 : decode c_Ra_latestSlot 44 = .ok (.lload_n 2, 1) := by decide +kernel
theorem d_Ra_latestSlot_45 : decode c_Ra_latestSlot 45 = .ok (.lcmp, 1) := by decide +kernel
theorem d_Ra_latestSlot_46 : decode c_Ra_latestSlot 46 = .ok (.ifCond .gt 29, 3) := by decide +kernel
theorem d_Ra_latestSlot_49 : decode c_Ra_latestSlot 49 = .ok (.iload 4, 2) := by decide +kernel
theorem d_Ra_latestSlot_51 : decode c_Ra_latestSlot 51 = .ok (.iconst (-1), 1) := by decide +kernel
theorem d_Ra_latestSlot_52 : decode c_Ra_latestSlot 52 = .ok (.if_icmp .eq 19, 3) := by decide +kernel
theorem d_Ra_latestSlot_55 : decode c_Ra_latestSlot 55 = .ok (.lload 7, 2) := by decide +kernel
theorem d_Ra_latestSlot_57 : decode c_Ra_latestSlot 57 = .ok (.aload_n 0, 1) := by decide +kernel
theorem d_Ra_latestSlot_58 : decode c_Ra_latestSlot 58 = .ok (.getfield 14, 3) := by decide +kernel
theorem d_Ra_latestSlot_61 : decode c_Ra_latestSlot 61 = .ok (.getfield 51, 3) := by decide +kernel
theorem d_Ra_latestSlot_64 : decode c_Ra_latestSlot 64 = .ok (.iload 4, 2) := by decide +kernel
theorem d_Ra_latestSlot_66 : decode c_Ra_latestSlot 66 = .ok (.laload, 1) := by decide +kernel
theorem d_Ra_latestSlot_67 : decode c_Ra_latestSlot 67 = .ok (.lcmp, 1) := by decide +kernel
theorem d_Ra_latestSlot_68 : decode c_Ra_latestSlot 68 = .ok (.ifCond .le 7, 3) := by decide +kernel
theorem d_Ra_latestSlot_71 : decode c_Ra_latestSlot 71 = .ok (.iload 6, 2) := by decide +kernel
theorem d_Ra_latestSlot_73 : decode c_Ra_latestSlot 73 = .ok (.istore 4, 2) := by decide +kernel
theorem d_Ra_latestSlot_75 : decode c_Ra_latestSlot 75 = .ok (.iinc 6 1, 3) := by decide +kernel
theorem d_Ra_latestSlot_78 : decode c_Ra_latestSlot 78 = .ok (.goto (-55), 3) := by decide +kernel
theorem d_Ra_latestSlot_81 : decode c_Ra_latestSlot 81 = .ok (.iload 4, 2) := by decide +kernel
theorem d_Ra_latestSlot_83 : decode c_Ra_latestSlot 83 = .ok (.ireturn, 1) := by decide +kernel
theorem d_Ra_exchange_0 : decode c_Ra_exchange 0 = .ok (.lload_n 2, 1) := by decide +kernel
theorem d_Ra_exchange_1 : decode c_Ra_exchange 1 = .ok (.aload_n 0, 1) := by decide +kernel
theorem d_Ra_exchange_2 : decode c_Ra_exchange 2 = .ok (.getfield 27, 3) := by decide +kernel
theorem d_Ra_exchange_5 : decode c_Ra_exchange 5 = .ok (.iload_n 1, 1) := by decide +kernel
theorem d_Ra_exchange_6 : decode c_Ra_exchange 6 = .ok (.laload, 1) := by decide +kernel
theorem d_Ra_exchange_7 : decode c_Ra_exchange 7 = .ok (.lmul, 1) := by decide +kernel
theorem d_Ra_exchange_8 : decode c_Ra_exchange 8 = .ok (.aload_n 0, 1) := by decide +kernel
theorem d_Ra_exchange_9 : decode c_Ra_exchange 9 = .ok (.getfield 30, 3) := by decide +kernel
theorem d_Ra_exchange_12 : decode c_Ra_exchange 12 = .ok (.iload_n 1, 1) := by decide +kernel
theorem d_Ra_exchange_13 : decode c_Ra_exchange 13 = .ok (.laload, 1) := by decide +kernel
theorem d_Ra_exchange_14 : decode c_Ra_exchange 14 = .ok (.invokestatic 54, 3) := by decide +kernel
theorem d_Ra_exchange_17 : decode c_Ra_exchange 17 = .ok (.lreturn, 1) := by decide +kernel
theorem d_St_init_0 : decode c_St_init 0 = .ok (.aload_n 0, 1) := by decide +kernel
theorem d_St_init_1 : decode c_St_init 1 = .ok (.invokespecial 3, 3) := by decide +kernel
theorem d_St_init_4 : decode c_St_init 4 = .ok (.aload_n 0, 1) := by decide +kernel
theorem d_St_init_5 : decode c_St_init 5 = .ok (.new 9, 3) := by decide +kernel
theorem d_St_init_8 : decode c_St_init 8 = .ok (.dup, 1) := by decide +kernel
theorem d_St_init_9 : decode c_St_init 9 = .ok (.sipush 248, 3) := by decide +kernel
theorem d_St_init_12 : decode c_St_init 12 = .ok (.invokespecial 11, 3) := by decide +kernel
theorem d_St_init_15 : decode c_St_init 15 = .ok (.putfield 14, 3) := by decide +kernel
theorem d_St_init_18 : decode c_St_init 18 = .ok (.aload_n 0, 1) := by decide +kernel
theorem d_St_init_19 : decode c_St_init 19 = .ok (.sipush 1488, 3) := by decide +kernel
theorem d_St_init_22 : decode c_St_init 22 = .ok (.newarray .long, 2) := by decide +kernel
theorem d_St_init_24 : decode c_St_init 24 = .ok (.putfield 20, 3) := by decide +kernel
theorem d_St_init_27 : decode c_St_init 27 = .ok (.return_, 1) := by decide +kernel
theorem d_St_firstSlot_0 : decode c_St_firstSlot 0 = .ok (.aload_n 0, 1) := by decide +kernel
theorem d_St_firstSlot_1 : decode c_St_firstSlot 1 = .ok (.getfield 14, 3) := by decide +kernel
theorem d_St_firstSlot_4 : decode c_St_firstSlot 4 = .ok (.iload_n 1, 1) := by decide +kernel
theorem d_St_firstSlot_5 : decode c_St_firstSlot 5 = .ok (.bipush 8, 2) := by decide +kernel
theorem d_St_firstSlot_7 : decode c_St_firstSlot 7 = .ok (.imul, 1) := by decide +kernel
theorem d_St_firstSlot_8 : decode c_St_firstSlot 8 = .ok (.iload_n 2, 1) := by decide +kernel
theorem d_St_firstSlot_9 : decode c_St_firstSlot 9 = .ok (.iadd, 1) := by decide +kernel
theorem d_St_firstSlot_10 : decode c_St_firstSlot 10 = .ok (.invokevirtual 24, 3) := by decide +kernel
theorem d_St_firstSlot_13 : decode c_St_firstSlot 13 = .ok (.ireturn, 1) := by decide +kernel
theorem d_St_endSlot_0 : decode c_St_endSlot 0 = .ok (.aload_n 0, 1) := by decide +kernel
theorem d_St_endSlot_1 : decode c_St_endSlot 1 = .ok (.getfield 14, 3) := by decide +kernel
theorem d_St_endSlot_4 : decode c_St_endSlot 4 = .ok (.iload_n 1, 1) := by decide +kernel
theorem d_St_endSlot_5 : decode c_St_endSlot 5 = .ok (.bipush 8, 2) := by decide +kernel
theorem d_St_endSlot_7 : decode c_St_endSlot 7 = .ok (.imul, 1) := by decide +kernel
theorem d_St_endSlot_8 : decode c_St_endSlot 8 = .ok (.iload_n 2, 1) := by decide +kernel
theorem d_St_endSlot_9 : decode c_St_endSlot 9 = .ok (.iadd, 1) := by decide +kernel
theorem d_St_endSlot_10 : decode c_St_endSlot 10 = .ok (.invokevirtual 28, 3) := by decide +kernel
theorem d_St_endSlot_13 : decode c_St_endSlot 13 = .ok (.ireturn, 1) := by decide +kernel
theorem d_St_fromAt_0 : decode c_St_fromAt 0 = .ok (.aload_n 0, 1) := by decide +kernel
theorem d_St_fromAt_1 : decode c_St_fromAt 1 = .ok (.getfield 14, 3) := by decide +kernel
theorem d_St_fromAt_4 : decode c_St_fromAt 4 = .ok (.getfield 31, 3) := by decide +kernel
theorem d_St_fromAt_7 : decode c_St_fromAt 7 = .ok (.iload_n 1, 1) := by decide +kernel
theorem d_St_fromAt_8 : decode c_St_fromAt 8 = .ok (.laload, 1) := by decide +kernel
theorem d_St_fromAt_9 : decode c_St_fromAt 9 = .ok (.lreturn, 1) := by decide +kernel
theorem d_St_tell_0 : decode c_St_tell 0 = .ok (.aload_n 0, 1) := by decide +kernel
theorem d_St_tell_1 : decode c_St_tell 1 = .ok (.getfield 14, 3) := by decide +kernel
theorem d_St_tell_4 : decode c_St_tell 4 = .ok (.iload_n 1, 1) := by decide +kernel
theorem d_St_tell_5 : decode c_St_tell 5 = .ok (.bipush 8, 2) := by decide +kernel
theorem d_St_tell_7 : decode c_St_tell 7 = .ok (.imul, 1) := by decide +kernel
theorem d_St_tell_8 : decode c_St_tell 8 = .ok (.iload_n 2, 1) := by decide +kernel
theorem d_St_tell_9 : decode c_St_tell 9 = .ok (.iadd, 1) := by decide +kernel
theorem d_St_tell_10 : decode c_St_tell 10 = .ok (.lload_n 3, 1) := by decide +kernel
theorem d_St_tell_11 : decode c_St_tell 11 = .ok (.invokevirtual 34, 3) := by decide +kernel
theorem d_St_tell_14 : decode c_St_tell 14 = .ok (.istore 7, 2) := by decide +kernel
theorem d_St_tell_16 : decode c_St_tell 16 = .ok (.iload 7, 2) := by decide +kernel
theorem d_St_tell_18 : decode c_St_tell 18 = .ok (.iconst (-1), 1) := by decide +kernel
theorem d_St_tell_19 : decode c_St_tell 19 = .ok (.if_icmp .eq 21, 3) := by decide +kernel
theorem d_St_tell_22 : decode c_St_tell 22 = .ok (.aload_n 0, 1) := by decide +kernel
theorem d_St_tell_23 : decode c_St_tell 23 = .ok (.getfield 20, 3) := by decide +kernel
theorem d_St_tell_26 : decode c_St_tell 26 = .ok (.iload 7, 2) := by decide +kernel
theorem d_St_tell_28 : decode c_St_tell 28 = .ok (.lload 5, 2) := by decide +kernel
theorem d_St_tell_30 : decode c_St_tell 30 = .ok (.invokestatic 38, 3) := by decide +kernel
theorem d_St_tell_33 : decode c_St_tell 33 = .ok (.ifCond .eq 7, 3) := by decide +kernel
theorem d_St_tell_36 : decode c_St_tell 36 = .ok (.iconst 1, 1) := by decide +kernel
theorem d_St_tell_37 : decode c_St_tell 37 = .ok (.goto 4, 3) := by decide +kernel
theorem d_St_tell_40 : decode c_St_tell 40 = .ok (.iconst 0, 1) := by decide +kernel
theorem d_St_tell_41 : decode c_St_tell 41 = .ok (.ireturn, 1) := by decide +kernel
theorem d_Y_init_0 : decode c_Y_init 0 = .ok (.aload_n 0, 1) := by decide +kernel
theorem d_Y_init_1 : decode c_Y_init 1 = .ok (.invokespecial 3, 3) := by decide +kernel
theorem d_Y_init_4 : decode c_Y_init 4 = .ok (.aload_n 0, 1) := by decide +kernel
theorem d_Y_init_5 : decode c_Y_init 5 = .ok (.bipush 8, 2) := by decide +kernel
theorem d_Y_init_7 : decode c_Y_init 7 = .ok (.newarray .long, 2) := by decide +kernel
theorem d_Y_init_9 : decode c_Y_init 9 = .ok (.putfield 9, 3) := by decide +kernel
theorem d_Y_init_12 : decode c_Y_init 12 = .ok (.aload_n 0, 1) := by decide +kernel
theorem d_Y_init_13 : decode c_Y_init 13 = .ok (.bipush 8, 2) := by decide +kernel
theorem d_Y_init_15 : decode c_Y_init 15 = .ok (.newarray .long, 2) := by decide +kernel
theorem d_Y_init_17 : decode c_Y_init 17 = .ok (.putfield 15, 3) := by decide +kernel
theorem d_Y_init_20 : decode c_Y_init 20 = .ok (.aload_n 0, 1) := by decide +kernel
theorem d_Y_init_21 : decode c_Y_init 21 = .ok (.iconst 0, 1) := by decide +kernel
theorem d_Y_init_22 : decode c_Y_init 22 = .ok (.putfield 18, 3) := by decide +kernel
theorem d_Y_init_25 : decode c_Y_init 25 = .ok (.return_, 1) := by decide +kernel
theorem d_Y_add_0 : decode c_Y_add 0 = .ok (.aload_n 0, 1) := by decide +kernel
theorem d_Y_add_1 : decode c_Y_add 1 = .ok (.getfield 18, 3) := by decide +kernel
theorem d_Y_add_4 : decode c_Y_add 4 = .ok (.bipush 8, 2) := by decide +kernel
theorem d_Y_add_6 : decode c_Y_add 6 = .ok (.if_icmp .lt 5, 3) := by decide +kernel
theorem d_Y_add_9 : decode c_Y_add 9 = .ok (.iconst 0, 1) := by decide +kernel
theorem d_Y_add_10 : decode c_Y_add 10 = .ok (.ireturn, 1) := by decide +kernel
theorem d_Y_add_11 : decode c_Y_add 11 = .ok (.aload_n 0, 1) := by decide +kernel
theorem d_Y_add_12 : decode c_Y_add 12 = .ok (.getfield 9, 3) := by decide +kernel
theorem d_Y_add_15 : decode c_Y_add 15 = .ok (.aload_n 0, 1) := by decide +kernel
theorem d_Y_add_16 : decode c_Y_add 16 = .ok (.getfield 18, 3) := by decide +kernel
theorem d_Y_add_19 : decode c_Y_add 19 = .ok (.lload_n 1, 1) := by decide +kernel
theorem d_Y_add_20 : decode c_Y_add 20 = .ok (.lastore, 1) := by decide +kernel
theorem d_Y_add_21 : decode c_Y_add 21 = .ok (.aload_n 0, 1) := by decide +kernel
theorem d_Y_add_22 : decode c_Y_add 22 = .ok (.getfield 15, 3) := by decide +kernel
theorem d_Y_add_25 : decode c_Y_add 25 = .ok (.aload_n 0, 1) := by decide +kernel
theorem d_Y_add_26 : decode c_Y_add 26 = .ok (.getfield 18, 3) := by decide +kernel
theorem d_Y_add_29 : decode c_Y_add 29 = .ok (.lload_n 3, 1) := by decide +kernel
theorem d_Y_add_30 : decode c_Y_add 30 = .ok (.lastore, 1) := by decide +kernel
theorem d_Y_add_31 : decode c_Y_add 31 = .ok (.aload_n 0, 1) := by decide +kernel
theorem d_Y_add_32 : decode c_Y_add 32 = .ok (.dup, 1) := by decide +kernel
theorem d_Y_add_33 : decode c_Y_add 33 = .ok (.getfield 18, 3) := by decide +kernel
theorem d_Y_add_36 : decode c_Y_add 36 = .ok (.iconst 1, 1) := by decide +kernel
theorem d_Y_add_37 : decode c_Y_add 37 = .ok (.iadd, 1) := by decide +kernel
theorem d_Y_add_38 : decode c_Y_add 38 = .ok (.putfield 18, 3) := by decide +kernel
theorem d_Y_add_41 : decode c_Y_add 41 = .ok (.iconst 1, 1) := by decide +kernel
theorem d_Y_add_42 : decode c_Y_add 42 = .ok (.ireturn, 1) := by decide +kernel
theorem d_Y_startedFor_0 : decode c_Y_startedFor 0 = .ok (.lload_n 1, 1) := by decide +kernel
theorem d_Y_startedFor_1 : decode c_Y_startedFor 1 = .ok (.lstore_n 3, 1) := by decide +kernel
theorem d_Y_startedFor_2 : decode c_Y_startedFor 2 = .ok (.aload_n 0, 1) := by decide +kernel
theorem d_Y_startedFor_3 : decode c_Y_startedFor 3 = .ok (.getfield 18, 3) := by decide +kernel
theorem d_Y_startedFor_6 : decode c_Y_startedFor 6 = .ok (.iconst 1, 1) := by decide +kernel
theorem d_Y_startedFor_7 : decode c_Y_startedFor 7 = .ok (.isub, 1) := by decide +kernel
theorem d_Y_startedFor_8 : decode c_Y_startedFor 8 = .ok (.istore 5, 2) := by decide +kernel
theorem d_Y_startedFor_10 : decode c_Y_startedFor 10 = .ok (.iload 5, 2) := by decide +kernel
theorem d_Y_startedFor_12 : decode c_Y_startedFor 12 = .ok (.ifCond .lt 37, 3) := by decide +kernel
theorem d_Y_startedFor_15 : decode c_Y_startedFor 15 = .ok (.lload_n 3, 1) := by decide +kernel
theorem d_Y_startedFor_16 : decode c_Y_startedFor 16 = .ok (.ldc2_w 22, 3) := by decide +kernel
theorem d_Y_startedFor_19 : decode c_Y_startedFor 19 = .ok (.lcmp, 1) := by decide +kernel
theorem d_Y_startedFor_20 : decode c_Y_startedFor 20 = .ok (.ifCond .gt 29, 3) := by decide +kernel
theorem d_Y_startedFor_23 : decode c_Y_startedFor 23 = .ok (.lload_n 3, 1) := by decide +kernel
theorem d_Y_startedFor_24 : decode c_Y_startedFor 24 = .ok (.aload_n 0, 1) := by decide +kernel
theorem d_Y_startedFor_25 : decode c_Y_startedFor 25 = .ok (.getfield 15, 3) := by decide +kernel
theorem d_Y_startedFor_28 : decode c_Y_startedFor 28 = .ok (.iload 5, 2) := by decide +kernel
theorem d_Y_startedFor_30 : decode c_Y_startedFor 30 = .ok (.laload, 1) := by decide +kernel
theorem d_Y_startedFor_31 : decode c_Y_startedFor 31 = .ok (.lmul, 1) := by decide +kernel
theorem d_Y_startedFor_32 : decode c_Y_startedFor 32 = .ok (.aload_n 0, 1) := by decide +kernel
theorem d_Y_startedFor_33 : decode c_Y_startedFor 33 = .ok (.getfield 9, 3) := by decide +kernel
theorem d_Y_startedFor_36 : decode c_Y_startedFor 36 = .ok (.iload 5, 2) := by decide +kernel
theorem d_Y_startedFor_38 : decode c_Y_startedFor 38 = .ok (.laload, 1) := by decide +kernel
theorem d_Y_startedFor_39 : decode c_Y_startedFor 39 = .ok (.invokestatic 24, 3) := by decide +kernel
theorem d_Y_startedFor_42 : decode c_Y_startedFor 42 = .ok (.lstore_n 3, 1) := by decide +kernel
theorem d_Y_startedFor_43 : decode c_Y_startedFor 43 = .ok (.iinc 5 (-1), 3) := by decide +kernel
theorem d_Y_startedFor_46 : decode c_Y_startedFor 46 = .ok (.goto (-36), 3) := by decide +kernel
theorem d_Y_startedFor_49 : decode c_Y_startedFor 49 = .ok (.lload_n 3, 1) := by decide +kernel
theorem d_Y_startedFor_50 : decode c_Y_startedFor 50 = .ok (.lreturn, 1) := by decide +kernel
theorem d_C_init_0 : decode c_C_init 0 = .ok (.aload_n 0, 1) := by decide +kernel
theorem d_C_init_1 : decode c_C_init 1 = .ok (.invokespecial 5, 3) := by decide +kernel
theorem d_C_init_4 : decode c_C_init 4 = .ok (.aload_n 0, 1) := by decide +kernel
theorem d_C_init_5 : decode c_C_init 5 = .ok (.bipush 30, 2) := by decide +kernel
theorem d_C_init_7 : decode c_C_init 7 = .ok (.newarray .long, 2) := by decide +kernel
theorem d_C_init_9 : decode c_C_init 9 = .ok (.putfield 11, 3) := by decide +kernel
theorem d_C_init_12 : decode c_C_init 12 = .ok (.aload_n 0, 1) := by decide +kernel
theorem d_C_init_13 : decode c_C_init 13 = .ok (.bipush 30, 2) := by decide +kernel
theorem d_C_init_15 : decode c_C_init 15 = .ok (.newarray .long, 2) := by decide +kernel
theorem d_C_init_17 : decode c_C_init 17 = .ok (.putfield 15, 3) := by decide +kernel
theorem d_C_init_20 : decode c_C_init 20 = .ok (.aload_n 0, 1) := by decide +kernel
theorem d_C_init_21 : decode c_C_init 21 = .ok (.bipush 30, 2) := by decide +kernel
theorem d_C_init_23 : decode c_C_init 23 = .ok (.newarray .int, 2) := by decide +kernel
theorem d_C_init_25 : decode c_C_init 25 = .ok (.putfield 18, 3) := by decide +kernel
theorem d_C_init_28 : decode c_C_init 28 = .ok (.aload_n 0, 1) := by decide +kernel
theorem d_C_init_29 : decode c_C_init 29 = .ok (.bipush 8, 2) := by decide +kernel
theorem d_C_init_31 : decode c_C_init 31 = .ok (.newarray .long, 2) := by decide +kernel
theorem d_C_init_33 : decode c_C_init 33 = .ok (.putfield 22, 3) := by decide +kernel
theorem d_C_init_36 : decode c_C_init 36 = .ok (.aload_n 0, 1) := by decide +kernel
theorem d_C_init_37 : decode c_C_init 37 = .ok (.bipush 8, 2) := by decide +kernel
theorem d_C_init_39 : decode c_C_init 39 = .ok (.newarray .long, 2) := by decide +kernel
theorem d_C_init_41 : decode c_C_init 41 = .ok (.putfield 25, 3) := by decide +kernel
theorem d_C_init_44 : decode c_C_init 44 = .ok (.aload_n 0, 1) := by decide +kernel
theorem d_C_init_45 : decode c_C_init 45 = .ok (.new 28, 3) := by decide +kernel
theorem d_C_init_48 : decode c_C_init 48 = .ok (.dup, 1) := by decide +kernel
theorem d_C_init_49 : decode c_C_init 49 = .ok (.invokespecial 30, 3) := by decide +kernel
theorem d_C_init_52 : decode c_C_init 52 = .ok (.putfield 31, 3) := by decide +kernel
theorem d_C_init_55 : decode c_C_init 55 = .ok (.aload_n 0, 1) := by decide +kernel
theorem d_C_init_56 : decode c_C_init 56 = .ok (.new 35, 3) := by decide +kernel
theorem d_C_init_59 : decode c_C_init 59 = .ok (.dup, 1) := by decide +kernel
theorem d_C_init_60 : decode c_C_init 60 = .ok (.invokespecial 37, 3) := by decide +kernel
theorem d_C_init_63 : decode c_C_init 63 = .ok (.putfield 38, 3) := by decide +kernel
theorem d_C_init_66 : decode c_C_init 66 = .ok (.aload_n 0, 1) := by decide +kernel
theorem d_C_init_67 : decode c_C_init 67 = .ok (.new 42, 3) := by decide +kernel
theorem d_C_init_70 : decode c_C_init 70 = .ok (.dup, 1) := by decide +kernel
theorem d_C_init_71 : decode c_C_init 71 = .ok (.invokespecial 44, 3) := by decide +kernel
theorem d_C_init_74 : decode c_C_init 74 = .ok (.putfield 45, 3) := by decide +kernel
theorem d_C_init_77 : decode c_C_init 77 = .ok (.aload_n 0, 1) := by decide +kernel
theorem d_C_init_78 : decode c_C_init 78 = .ok (.iconst 0, 1) := by decide +kernel
theorem d_C_init_79 : decode c_C_init 79 = .ok (.putfield 49, 3) := by decide +kernel
theorem d_C_init_82 : decode c_C_init 82 = .ok (.aload_n 0, 1) := by decide +kernel
theorem d_C_init_83 : decode c_C_init 83 = .ok (.lconst 0, 1) := by decide +kernel
theorem d_C_init_84 : decode c_C_init 84 = .ok (.putfield 53, 3) := by decide +kernel
theorem d_C_init_87 : decode c_C_init 87 = .ok (.aload_n 0, 1) := by decide +kernel
theorem d_C_init_88 : decode c_C_init 88 = .ok (.new 57, 3) := by decide +kernel
theorem d_C_init_91 : decode c_C_init 91 = .ok (.dup, 1) := by decide +kernel
theorem d_C_init_92 : decode c_C_init 92 = .ok (.invokespecial 59, 3) := by decide +kernel
theorem d_C_init_95 : decode c_C_init 95 = .ok (.putfield 60, 3) := by decide +kernel
theorem d_C_init_98 : decode c_C_init 98 = .ok (.aload_n 0, 1) := by decide +kernel
theorem d_C_init_99 : decode c_C_init 99 = .ok (.new 57, 3) := by decide +kernel
theorem d_C_init_102 : decode c_C_init 102 = .ok (.dup, 1) := by decide +kernel
theorem d_C_init_103 : decode c_C_init 103 = .ok (.invokespecial 59, 3) := by decide +kernel
theorem d_C_init_106 : decode c_C_init 106 = .ok (.putfield 64, 3) := by decide +kernel
theorem d_C_init_109 : decode c_C_init 109 = .ok (.aload_n 0, 1) := by decide +kernel
theorem d_C_init_110 : decode c_C_init 110 = .ok (.new 57, 3) := by decide +kernel
theorem d_C_init_113 : decode c_C_init 113 = .ok (.dup, 1) := by decide +kernel
theorem d_C_init_114 : decode c_C_init 114 = .ok (.invokespecial 59, 3) := by decide +kernel
theorem d_C_init_117 : decode c_C_init 117 = .ok (.putfield 67, 3) := by decide +kernel
theorem d_C_init_120 : decode c_C_init 120 = .ok (.return_, 1) := by decide +kernel
theorem d_C_part_0 : decode c_C_part 0 = .ok (.aload_n 0, 1) := by decide +kernel
theorem d_C_part_1 : decode c_C_part 1 = .ok (.getfield 49, 3) := by decide +kernel
theorem d_C_part_4 : decode c_C_part 4 = .ok (.bipush 30, 2) := by decide +kernel
theorem d_C_part_6 : decode c_C_part 6 = .ok (.if_icmp .lt 5, 3) := by decide +kernel
theorem d_C_part_9 : decode c_C_part 9 = .ok (.iconst (-1), 1) := by decide +kernel
theorem d_C_part_10 : decode c_C_part 10 = .ok (.ireturn, 1) := by decide +kernel
theorem d_C_part_11 : decode c_C_part 11 = .ok (.aload_n 0, 1) := by decide +kernel
theorem d_C_part_12 : decode c_C_part 12 = .ok (.getfield 49, 3) := by decide +kernel
theorem d_C_part_15 : decode c_C_part 15 = .ok (.istore_n 1, 1) := by decide +kernel
theorem d_C_part_16 : decode c_C_part 16 = .ok (.aload_n 0, 1) := by decide +kernel
theorem d_C_part_17 : decode c_C_part 17 = .ok (.dup, 1) := by decide +kernel
theorem d_C_part_18 : decode c_C_part 18 = .ok (.getfield 49, 3) := by decide +kernel
theorem d_C_part_21 : decode c_C_part 21 = .ok (.iconst 1, 1) := by decide +kernel
theorem d_C_part_22 : decode c_C_part 22 = .ok (.iadd, 1) := by decide +kernel
theorem d_C_part_23 : decode c_C_part 23 = .ok (.putfield 49, 3) := by decide +kernel
theorem d_C_part_26 : decode c_C_part 26 = .ok (.iload_n 1, 1) := by decide +kernel
theorem d_C_part_27 : decode c_C_part 27 = .ok (.ireturn, 1) := by decide +kernel
theorem d_C_price_0 : decode c_C_price 0 = .ok (.iload_n 1, 1) := by decide +kernel
theorem d_C_price_1 : decode c_C_price 1 = .ok (.aload_n 0, 1) := by decide +kernel
theorem d_C_price_2 : decode c_C_price 2 = .ok (.getfield 49, 3) := by decide +kernel
theorem d_C_price_5 : decode c_C_price 5 = .ok (.invokestatic 70, 3) := by decide +kernel
theorem d_C_price_8 : decode c_C_price 8 = .ok (.iload_n 2, 1) := by decide +kernel
theorem d_C_price_9 : decode c_C_price 9 = .ok (.bipush 8, 2) := by decide +kernel
theorem d_C_price_11 : decode c_C_price 11 = .ok (.invokestatic 70, 3) := by decide +kernel
theorem d_C_price_14 : decode c_C_price 14 = .ok (.lload_n 3, 1) := by decide +kernel
theorem d_C_price_15 : decode c_C_price 15 = .ok (.lload 5, 2) := by decide +kernel
theorem d_C_price_17 : decode c_C_price 17 = .ok (.invokestatic 74, 3) := by decide +kernel
theorem d_C_price_20 : decode c_C_price 20 = .ok (.aload_n 0, 1) := by decide +kernel
theorem d_C_price_21 : decode c_C_price 21 = .ok (.getfield 31, 3) := by decide +kernel
theorem d_C_price_24 : decode c_C_price 24 = .ok (.iload_n 1, 1) := by decide +kernel
theorem d_C_price_25 : decode c_C_price 25 = .ok (.iload_n 2, 1) := by decide +kernel
theorem d_C_price_26 : decode c_C_price 26 = .ok (.lload_n 3, 1) := by decide +kernel
theorem d_C_price_27 : decode c_C_price 27 = .ok (.lload 5, 2) := by decide +kernel
theorem d_C_price_29 : decode c_C_price 29 = .ok (.invokevirtual 78, 3) := by decide +kernel
theorem d_C_price_32 : decode c_C_price 32 = .ok (.ireturn, 1) := by decide +kernel
theorem d_C_uses_0 : decode c_C_uses 0 = .ok (.iload_n 1, 1) := by decide +kernel
theorem d_C_uses_1 : decode c_C_uses 1 = .ok (.aload_n 0, 1) := by decide +kernel
theorem d_C_uses_2 : decode c_C_uses 2 = .ok (.getfield 49, 3) := by decide +kernel
theorem d_C_uses_5 : decode c_C_uses 5 = .ok (.invokestatic 70, 3) := by decide +kernel
theorem d_C_uses_8 : decode c_C_uses 8 = .ok (.lload_n 2, 1) := by decide +kernel
theorem d_C_uses_9 : decode c_C_uses 9 = .ok (.lconst 0, 1) := by decide +kernel
theorem d_C_uses_10 : decode c_C_uses 10 = .ok (.ldc2_w 82, 3) := by decide +kernel
theorem d_C_uses_13 : decode c_C_uses 13 = .ok (.invokestatic 84, 3) := by decide +kernel
theorem d_C_uses_16 : decode c_C_uses 16 = .ok (.aload_n 0, 1) := by decide +kernel
theorem d_C_uses_17 : decode c_C_uses 17 = .ok (.getfield 11, 3) := by decide +kernel
theorem d_C_uses_20 : decode c_C_uses 20 = .ok (.iload_n 1, 1) := by decide +kernel
theorem d_C_uses_21 : decode c_C_uses 21 = .ok (.lload_n 2, 1) := by decide +kernel
theorem d_C_uses_22 : decode c_C_uses 22 = .ok (.invokestatic 88, 3) := by decide +kernel
theorem d_C_uses_25 : decode c_C_uses 25 = .ok (.ireturn, 1) := by decide +kernel
theorem d_C_board_0 : decode c_C_board 0 = .ok (.iload_n 1, 1) := by decide +kernel
theorem d_C_board_1 : decode c_C_board 1 = .ok (.bipush 8, 2) := by decide +kernel
theorem d_C_board_3 : decode c_C_board 3 = .ok (.invokestatic 70, 3) := by decide +kernel
theorem d_C_board_6 : decode c_C_board 6 = .ok (.lload_n 2, 1) := by decide +kernel
theorem d_C_board_7 : decode c_C_board 7 = .ok (.lload 4, 2) := by decide +kernel
theorem d_C_board_9 : decode c_C_board 9 = .ok (.invokestatic 74, 3) := by decide +kernel
theorem d_C_board_12 : decode c_C_board 12 = .ok (.aload_n 0, 1) := by decide +kernel
theorem d_C_board_13 : decode c_C_board 13 = .ok (.getfield 31, 3) := by decide +kernel
theorem d_C_board_16 : decode c_C_board 16 = .ok (.bipush 30, 2) := by decide +kernel
theorem d_C_board_18 : decode c_C_board 18 = .ok (.iload_n 1, 1) := by decide +kernel
theorem d_C_board_19 : decode c_C_board 19 = .ok (.lload_n 2, 1) := by decide +kernel
theorem d_C_board_20 : decode c_C_board 20 = .ok (.lload 4, 2) := by decide +kernel
theorem d_C_board_22 : decode c_C_board 22 = .ok (.invokevirtual 78, 3) := by decide +kernel
theorem d_C_board_25 : decode c_C_board 25 = .ok (.ireturn, 1) := by decide +kernel
theorem d_C_assembly_0 : decode c_C_assembly 0 = .ok (.iload_n 1, 1) := by decide +kernel
theorem d_C_assembly_1 : decode c_C_assembly 1 = .ok (.bipush 8, 2) := by decide +kernel
theorem d_C_assembly_3 : decode c_C_assembly 3 = .ok (.invokestatic 70, 3) := by decide +kernel
theorem d_C_assembly_6 : decode c_C_assembly 6 = .ok (.lload_n 2, 1) := by decide +kernel
theorem d_C_assembly_7 : decode c_C_assembly 7 = .ok (.lconst 0, 1) := by decide +kernel
theorem d_C_assembly_8 : decode c_C_assembly 8 = .ok (.ldc2_w 92, 3) := by decide +kernel
theorem d_C_assembly_11 : decode c_C_assembly 11 = .ok (.invokestatic 84, 3) := by decide +kernel
theorem d_C_assembly_14 : decode c_C_assembly 14 = .ok (.aload_n 0, 1) := by decide +kernel
theorem d_C_assembly_15 : decode c_C_assembly 15 = .ok (.getfield 22, 3) := by decide +kernel
theorem d_C_assembly_18 : decode c_C_assembly 18 = .ok (.iload_n 1, 1) := by decide +kernel
theorem d_C_assembly_19 : decode c_C_assembly 19 = .ok (.lload_n 2, 1) := by decide +kernel
theorem d_C_assembly_20 : decode c_C_assembly 20 = .ok (.invokestatic 88, 3) := by decide +kernel
theorem d_C_assembly_23 : decode c_C_assembly 23 = .ok (.ireturn, 1) := by decide +kernel
theorem d_C_placed_0 : decode c_C_placed 0 = .ok (.iload_n 1, 1) := by decide +kernel
theorem d_C_placed_1 : decode c_C_placed 1 = .ok (.bipush 8, 2) := by decide +kernel
theorem d_C_placed_3 : decode c_C_placed 3 = .ok (.invokestatic 70, 3) := by decide +kernel
theorem d_C_placed_6 : decode c_C_placed 6 = .ok (.lload_n 2, 1) := by decide +kernel
theorem d_C_placed_7 : decode c_C_placed 7 = .ok (.lconst 0, 1) := by decide +kernel
theorem d_C_placed_8 : decode c_C_placed 8 = .ok (.ldc2_w 82, 3) := by decide +kernel
theorem d_C_placed_11 : decode c_C_placed 11 = .ok (.invokestatic 84, 3) := by decide +kernel
theorem d_C_placed_14 : decode c_C_placed 14 = .ok (.aload_n 0, 1) := by decide +kernel
theorem d_C_placed_15 : decode c_C_placed 15 = .ok (.getfield 25, 3) := by decide +kernel
theorem d_C_placed_18 : decode c_C_placed 18 = .ok (.iload_n 1, 1) := by decide +kernel
theorem d_C_placed_19 : decode c_C_placed 19 = .ok (.lload_n 2, 1) := by decide +kernel
theorem d_C_placed_20 : decode c_C_placed 20 = .ok (.invokestatic 88, 3) := by decide +kernel
theorem d_C_placed_23 : decode c_C_placed 23 = .ok (.ireturn, 1) := by decide +kernel
theorem d_C_yieldOf_0 : decode c_C_yieldOf 0 = .ok (.lload_n 1, 1) := by decide +kernel
theorem d_C_yieldOf_1 : decode c_C_yieldOf 1 = .ok (.lload_n 3, 1) := by decide +kernel
theorem d_C_yieldOf_2 : decode c_C_yieldOf 2 = .ok (.invokestatic 94, 3) := by decide +kernel
theorem d_C_yieldOf_5 : decode c_C_yieldOf 5 = .ok (.lload_n 1, 1) := by decide +kernel
theorem d_C_yieldOf_6 : decode c_C_yieldOf 6 = .ok (.lconst 1, 1) := by decide +kernel
theorem d_C_yieldOf_7 : decode c_C_yieldOf 7 = .ok (.lload_n 3, 1) := by decide +kernel
theorem d_C_yieldOf_8 : decode c_C_yieldOf 8 = .ok (.invokestatic 84, 3) := by decide +kernel
theorem d_C_yieldOf_11 : decode c_C_yieldOf 11 = .ok (.aload_n 0, 1) := by decide +kernel
theorem d_C_yieldOf_12 : decode c_C_yieldOf 12 = .ok (.getfield 45, 3) := by decide +kernel
theorem d_C_yieldOf_15 : decode c_C_yieldOf 15 = .ok (.lload_n 1, 1) := by decide +kernel
theorem d_C_yieldOf_16 : decode c_C_yieldOf 16 = .ok (.lload_n 3, 1) := by decide +kernel
theorem d_C_yieldOf_17 : decode c_C_yieldOf 17 = .ok (.invokevirtual 97, 3) := by decide +kernel
theorem d_C_yieldOf_20 : decode c_C_yieldOf 20 = .ok (.ireturn, 1) := by decide +kernel
theorem d_C_currency_0 : decode c_C_currency 0 = .ok (.iload_n 1, 1) := by decide +kernel
theorem d_C_currency_1 : decode c_C_currency 1 = .ok (.bipush 8, 2) := by decide +kernel
theorem d_C_currency_3 : decode c_C_currency 3 = .ok (.invokestatic 70, 3) := by decide +kernel
theorem d_C_currency_6 : decode c_C_currency 6 = .ok (.lload 4, 2) := by decide +kernel
theorem d_C_currency_8 : decode c_C_currency 8 = .ok (.lload 6, 2) := by decide +kernel
theorem d_C_currency_10 : decode c_C_currency 10 = .ok (.invokestatic 94, 3) := by decide +kernel
theorem d_C_currency_13 : decode c_C_currency 13 = .ok (.aload_n 0, 1) := by decide +kernel
theorem d_C_currency_14 : decode c_C_currency 14 = .ok (.getfield 38, 3) := by decide +kernel
theorem d_C_currency_17 : decode c_C_currency 17 = .ok (.iload_n 1, 1) := by decide +kernel
theorem d_C_currency_18 : decode c_C_currency 18 = .ok (.lload_n 2, 1) := by decide +kernel
theorem d_C_currency_19 : decode c_C_currency 19 = .ok (.lload 4, 2) := by decide +kernel
theorem d_C_currency_21 : decode c_C_currency 21 = .ok (.lload 6, 2) := by decide +kernel
theorem d_C_currency_23 : decode c_C_currency 23 = .ok (.invokevirtual 101, 3) := by decide +kernel
theorem d_C_currency_26 : decode c_C_currency 26 = .ok (.ireturn, 1) := by decide +kernel
theorem d_C_tooling_0 : decode c_C_tooling 0 = .ok (.lload_n 1, 1) := by decide +kernel
theorem d_C_tooling_1 : decode c_C_tooling 1 = .ok (.lconst 0, 1) := by decide +kernel
theorem d_C_tooling_2 : decode c_C_tooling 2 = .ok (.ldc2_w 104, 3) := by decide +kernel
theorem d_C_tooling_5 : decode c_C_tooling 5 = .ok (.invokestatic 84, 3) := by decide +kernel
theorem d_C_tooling_8 : decode c_C_tooling 8 = .ok (.aload_n 0, 1) := by decide +kernel
theorem d_C_tooling_9 : decode c_C_tooling 9 = .ok (.getfield 53, 3) := by decide +kernel
theorem d_C_tooling_12 : decode c_C_tooling 12 = .ok (.lload_n 1, 1) := by decide +kernel
theorem d_C_tooling_13 : decode c_C_tooling 13 = .ok (.lcmp, 1) := by decide +kernel
theorem d_C_tooling_14 : decode c_C_tooling 14 = .ok (.ifCond .eq 7, 3) := by decide +kernel
theorem d_C_tooling_17 : decode c_C_tooling 17 = .ok (.iconst 1, 1) := by decide +kernel
theorem d_C_tooling_18 : decode c_C_tooling 18 = .ok (.goto 4, 3) := by decide +kernel
theorem d_C_tooling_21 : decode c_C_tooling 21 = .ok (.iconst 0, 1) := by decide +kernel
theorem d_C_tooling_22 : decode c_C_tooling 22 = .ok (.istore_n 3, 1) := by decide +kernel
theorem d_C_tooling_23 : decode c_C_tooling 23 = .ok (.aload_n 0, 1) := by decide +kernel
theorem d_C_tooling_24 : decode c_C_tooling 24 = .ok (.lload_n 1, 1) := by decide +kernel
theorem d_C_tooling_25 : decode c_C_tooling 25 = .ok (.putfield 53, 3) := by decide +kernel
theorem d_C_tooling_28 : decode c_C_tooling 28 = .ok (.iload_n 3, 1) := by decide +kernel
theorem d_C_tooling_29 : decode c_C_tooling 29 = .ok (.ireturn, 1) := by decide +kernel
theorem d_C_stock_0 : decode c_C_stock 0 = .ok (.iload_n 1, 1) := by decide +kernel
theorem d_C_stock_1 : decode c_C_stock 1 = .ok (.aload_n 0, 1) := by decide +kernel
theorem d_C_stock_2 : decode c_C_stock 2 = .ok (.getfield 49, 3) := by decide +kernel
theorem d_C_stock_5 : decode c_C_stock 5 = .ok (.invokestatic 70, 3) := by decide +kernel
theorem d_C_stock_8 : decode c_C_stock 8 = .ok (.lload_n 2, 1) := by decide +kernel
theorem d_C_stock_9 : decode c_C_stock 9 = .ok (.lconst 0, 1) := by decide +kernel
theorem d_C_stock_10 : decode c_C_stock 10 = .ok (.ldc2_w 104, 3) := by decide +kernel
theorem d_C_stock_13 : decode c_C_stock 13 = .ok (.invokestatic 84, 3) := by decide +kernel
theorem d_C_stock_16 : decode c_C_stock 16 = .ok (.aload_n 0, 1) := by decide +kernel
theorem d_C_stock_17 : decode c_C_stock 17 = .ok (.getfield 15, 3) := by decide +kernel
theorem d_C_stock_20 : decode c_C_stock 20 = .ok (.iload_n 1, 1) := by decide +kernel
theorem d_C_stock_21 : decode c_C_stock 21 = .ok (.lload_n 2, 1) := by decide +kernel
theorem d_C_stock_22 : decode c_C_stock 22 = .ok (.invokestatic 88, 3) := by decide +kernel
theorem d_C_stock_25 : decode c_C_stock 25 = .ok (.ireturn, 1) := by decide +kernel
theorem d_C_total_0 : decode c_C_total 0 = .ok (.iload_n 3, 1) := by decide +kernel
theorem d_C_total_1 : decode c_C_total 1 = .ok (.bipush 8, 2) := by decide +kernel
theorem d_C_total_3 : decode c_C_total 3 = .ok (.invokestatic 70, 3) := by decide +kernel
theorem d_C_total_6 : decode c_C_total 6 = .ok (.lload_n 1, 1) := by decide +kernel
theorem d_C_total_7 : decode c_C_total 7 = .ok (.lconst 0, 1) := by decide +kernel
theorem d_C_total_8 : decode c_C_total 8 = .ok (.ldc2_w 92, 3) := by decide +kernel
theorem d_C_total_11 : decode c_C_total 11 = .ok (.invokestatic 84, 3) := by decide +kernel
theorem d_C_total_14 : decode c_C_total 14 = .ok (.aload_n 0, 1) := by decide +kernel
theorem d_C_total_15 : decode c_C_total 15 = .ok (.lload_n 1, 1) := by decide +kernel
theorem d_C_total_16 : decode c_C_total 16 = .ok (.iload_n 3, 1) := by decide +kernel
theorem d_C_total_17 : decode c_C_total 17 = .ok (.lload 4, 2) := by decide +kernel
theorem d_C_total_19 : decode c_C_total 19 = .ok (.invokevirtual 106, 3) := by decide +kernel
theorem d_C_total_22 : decode c_C_total 22 = .ok (.ifCond .ne 7, 3) := by decide +kernel
theorem d_C_total_25 : decode c_C_total 25 = .ok (.ldc2_w 110, 3) := by decide +kernel
theorem d_C_total_28 : decode c_C_total 28 = .ok (.lreturn, 1) := by decide +kernel
theorem d_C_total_29 : decode c_C_total 29 = .ok (.aload_n 0, 1) := by decide +kernel
theorem d_C_total_30 : decode c_C_total 30 = .ok (.invokevirtual 112, 3) := by decide +kernel
theorem d_C_total_33 : decode c_C_total 33 = .ok (.aload_n 0, 1) := by decide +kernel
theorem d_C_total_34 : decode c_C_total 34 = .ok (.getfield 64, 3) := by decide +kernel
theorem d_C_total_37 : decode c_C_total 37 = .ok (.invokevirtual 115, 3) := by decide +kernel
theorem d_C_total_40 : decode c_C_total 40 = .ok (.lreturn, 1) := by decide +kernel
theorem d_C_best_0 : decode c_C_best 0 = .ok (.lload_n 1, 1) := by decide +kernel
theorem d_C_best_1 : decode c_C_best 1 = .ok (.lconst 0, 1) := by decide +kernel
theorem d_C_best_2 : decode c_C_best 2 = .ok (.ldc2_w 92, 3) := by decide +kernel
theorem d_C_best_5 : decode c_C_best 5 = .ok (.invokestatic 84, 3) := by decide +kernel
theorem d_C_best_8 : decode c_C_best 8 = .ok (.aload_n 0, 1) := by decide +kernel
theorem d_C_best_9 : decode c_C_best 9 = .ok (.getfield 45, 3) := by decide +kernel
theorem d_C_best_12 : decode c_C_best 12 = .ok (.lload_n 1, 1) := by decide +kernel
theorem d_C_best_13 : decode c_C_best 13 = .ok (.invokevirtual 119, 3) := by decide +kernel
theorem d_C_best_16 : decode c_C_best 16 = .ok (.lstore 5, 2) := by decide +kernel
theorem d_C_best_18 : decode c_C_best 18 = .ok (.aload_n 0, 1) := by decide +kernel
theorem d_C_best_19 : decode c_C_best 19 = .ok (.lload 5, 2) := by decide +kernel
theorem d_C_best_21 : decode c_C_best 21 = .ok (.lload_n 3, 1) := by decide +kernel
theorem d_C_best_22 : decode c_C_best 22 = .ok (.invokevirtual 123, 3) := by decide +kernel
theorem d_C_best_25 : decode c_C_best 25 = .ok (.ifCond .ne 5, 3) := by decide +kernel
theorem d_C_best_28 : decode c_C_best 28 = .ok (.iconst (-1), 1) := by decide +kernel
theorem d_C_best_29 : decode c_C_best 29 = .ok (.ireturn, 1) := by decide +kernel
theorem d_C_best_30 : decode c_C_best 30 = .ok (.iconst (-1), 1) := by decide +kernel
theorem d_C_best_31 : decode c_C_best 31 = .ok (.istore 7, 2) := by decide +kernel
theorem d_C_best_33 : decode c_C_best 33 = .ok (.lconst 0, 1) := by decide +kernel
theorem d_C_best_34 : decode c_C_best 34 = .ok (.lstore 8, 2) := by decide +kernel
theorem d_C_best_36 : decode c_C_best 36 = .ok (.iconst 0, 1) := by decide +kernel
theorem d_C_best_37 : decode c_C_best 37 = .ok (.istore 10, 2) := by decide +kernel
theorem d_C_best_39 : decode c_C_best 39 = .ok (.iconst 0, 1) := by decide +kernel
theorem d_C_best_40 : decode c_C_best 40 = .ok (.istore 11, 2) := by decide +kernel
theorem d_C_best_42 : decode c_C_best 42 = .ok (.iload 11, 2) := by decide +kernel
theorem d_C_best_44 : decode c_C_best 44 = .ok (.bipush 8, 2) := by decide +kernel
theorem d_C_best_46 : decode c_C_best 46 = .ok (.if_icmp .ge 94, 3) := by decide +kernel
theorem d_C_best_49 : decode c_C_best 49 = .ok (.aload_n 0, 1) := by decide +kernel
theorem d_C_best_50 : decode c_C_best 50 = .ok (.lload 5, 2) := by decide +kernel
theorem d_C_best_52 : decode c_C_best 52 = .ok (.iload 11, 2) := by decide +kernel
theorem d_C_best_54 : decode c_C_best 54 = .ok (.invokevirtual 126, 3) := by decide +kernel
theorem d_C_best_57 : decode c_C_best 57 = .ok (.ifCond .ne 6, 3) := by decide +kernel
theorem d_C_best_60 : decode c_C_best 60 = .ok (.goto 74, 3) := by decide +kernel
theorem d_C_best_63 : decode c_C_best 63 = .ok (.aload_n 0, 1) := by decide +kernel
theorem d_C_best_64 : decode c_C_best 64 = .ok (.getfield 60, 3) := by decide +kernel
theorem d_C_best_67 : decode c_C_best 67 = .ok (.invokevirtual 115, 3) := by decide +kernel
theorem d_C_best_70 : decode c_C_best 70 = .ok (.lstore 12, 2) := by decide +kernel
theorem d_C_best_72 : decode c_C_best 72 = .ok (.aload_n 0, 1) := by decide +kernel
theorem d_C_best_73 : decode c_C_best 73 = .ok (.getfield 60, 3) := by decide +kernel
theorem d_C_best_76 : decode c_C_best 76 = .ok (.invokevirtual 130, 3) := by decide +kernel
theorem d_C_best_79 : decode c_C_best 79 = .ok (.istore 14, 2) := by decide +kernel
theorem d_C_best_81 : decode c_C_best 81 = .ok (.lload 12, 2) := by decide +kernel
theorem d_C_best_83 : decode c_C_best 83 = .ok (.lload 8, 2) := by decide +kernel
theorem d_C_best_85 : decode c_C_best 85 = .ok (.lcmp, 1) := by decide +kernel
theorem d_C_best_86 : decode c_C_best 86 = .ok (.ifCond .lt 18, 3) := by decide +kernel
theorem d_C_best_89 : decode c_C_best 89 = .ok (.lload 12, 2) := by decide +kernel
theorem d_C_best_91 : decode c_C_best 91 = .ok (.lload 8, 2) := by decide +kernel
theorem d_C_best_93 : decode c_C_best 93 = .ok (.lcmp, 1) := by decide +kernel
theorem d_C_best_94 : decode c_C_best 94 = .ok (.ifCond .ne 14, 3) := by decide +kernel
theorem d_C_best_97 : decode c_C_best 97 = .ok (.iload 14, 2) := by decide +kernel
theorem d_C_best_99 : decode c_C_best 99 = .ok (.iload 10, 2) := by decide +kernel
theorem d_C_best_101 : decode c_C_best 101 = .ok (.if_icmp .ge 7, 3) := by decide +kernel
theorem d_C_best_104 : decode c_C_best 104 = .ok (.iconst 1, 1) := by decide +kernel
theorem d_C_best_105 : decode c_C_best 105 = .ok (.goto 4, 3) := by decide +kernel
theorem d_C_best_108 : decode c_C_best 108 = .ok (.iconst 0, 1) := by decide +kernel
theorem d_C_best_109 : decode c_C_best 109 = .ok (.istore 15, 2) := by decide +kernel
theorem d_C_best_111 : decode c_C_best 111 = .ok (.iload 7, 2) := by decide +kernel
theorem d_C_best_113 : decode c_C_best 113 = .ok (.iconst (-1), 1) := by decide +kernel
theorem d_C_best_114 : decode c_C_best 114 = .ok (.if_icmp .eq 8, 3) := by decide +kernel
theorem d_C_best_117 : decode c_C_best 117 = .ok (.iload 15, 2) := by decide +kernel
theorem d_C_best_119 : decode c_C_best 119 = .ok (.ifCond .eq 15, 3) := by decide +kernel
theorem d_C_best_122 : decode c_C_best 122 = .ok (.iload 11, 2) := by decide +kernel
theorem d_C_best_124 : decode c_C_best 124 = .ok (.istore 7, 2) := by decide +kernel
theorem d_C_best_126 : decode c_C_best 126 = .ok (.lload 12, 2) := by decide +kernel
theorem d_C_best_128 : decode c_C_best 128 = .ok (.lstore 8, 2) := by decide +kernel
theorem d_C_best_130 : decode c_C_best 130 = .ok (.iload 14, 2) := by decide +kernel
theorem d_C_best_132 : decode c_C_best 132 = .ok (.istore 10, 2) := by decide +kernel
theorem d_C_best_134 : decode c_C_best 134 = .ok (.iinc 11 1, 3) := by decide +kernel
theorem d_C_best_137 : decode c_C_best 137 = .ok (.goto (-95), 3) := by decide +kernel
theorem d_C_best_140 : decode c_C_best 140 = .ok (.iload 7, 2) := by decide +kernel
theorem d_C_best_142 : decode c_C_best 142 = .ok (.ireturn, 1) := by decide +kernel
theorem d_C_each_0 : decode c_C_each 0 = .ok (.iload_n 3, 1) := by decide +kernel
theorem d_C_each_1 : decode c_C_each 1 = .ok (.bipush 8, 2) := by decide +kernel
theorem d_C_each_3 : decode c_C_each 3 = .ok (.invokestatic 70, 3) := by decide +kernel
theorem d_C_each_6 : decode c_C_each 6 = .ok (.iload 6, 2) := by decide +kernel
theorem d_C_each_8 : decode c_C_each 8 = .ok (.iconst 2, 1) := by decide +kernel
theorem d_C_each_9 : decode c_C_each 9 = .ok (.invokestatic 70, 3) := by decide +kernel
theorem d_C_each_12 : decode c_C_each 12 = .ok (.lload_n 1, 1) := by decide +kernel
theorem d_C_each_13 : decode c_C_each 13 = .ok (.lconst 1, 1) := by decide +kernel
theorem d_C_each_14 : decode c_C_each 14 = .ok (.ldc2_w 92, 3) := by decide +kernel
theorem d_C_each_17 : decode c_C_each 17 = .ok (.invokestatic 84, 3) := by decide +kernel
theorem d_C_each_20 : decode c_C_each 20 = .ok (.aload_n 0, 1) := by decide +kernel
theorem d_C_each_21 : decode c_C_each 21 = .ok (.lload_n 1, 1) := by decide +kernel
theorem d_C_each_22 : decode c_C_each 22 = .ok (.iload_n 3, 1) := by decide +kernel
theorem d_C_each_23 : decode c_C_each 23 = .ok (.lload 4, 2) := by decide +kernel
theorem d_C_each_25 : decode c_C_each 25 = .ok (.invokevirtual 106, 3) := by decide +kernel
theorem d_C_each_28 : decode c_C_each 28 = .ok (.ifCond .ne 7, 3) := by decide +kernel
theorem d_C_each_31 : decode c_C_each 31 = .ok (.ldc2_w 110, 3) := by decide +kernel
theorem d_C_each_34 : decode c_C_each 34 = .ok (.lreturn, 1) := by decide +kernel
theorem d_C_each_35 : decode c_C_each 35 = .ok (.iload 6, 2) := by decide +kernel
theorem d_C_each_37 : decode c_C_each 37 = .ok (.ifCond .ne 15, 3) := by decide +kernel
theorem d_C_each_40 : decode c_C_each 40 = .ok (.aload_n 0, 1) := by decide +kernel
theorem d_C_each_41 : decode c_C_each 41 = .ok (.getfield 60, 3) := by decide +kernel
theorem d_C_each_44 : decode c_C_each 44 = .ok (.invokevirtual 115, 3) := by decide +kernel
theorem d_C_each_47 : decode c_C_each 47 = .ok (.lload_n 1, 1) := by decide +kernel
theorem d_C_each_48 : decode c_C_each 48 = .ok (.ldiv, 1) := by decide +kernel
theorem d_C_each_49 : decode c_C_each 49 = .ok (.goto 12, 3) := by decide +kernel
theorem d_C_each_52 : decode c_C_each 52 = .ok (.aload_n 0, 1) := by decide +kernel
theorem d_C_each_53 : decode c_C_each 53 = .ok (.getfield 60, 3) := by decide +kernel
theorem d_C_each_56 : decode c_C_each 56 = .ok (.invokevirtual 115, 3) := by decide +kernel
theorem d_C_each_59 : decode c_C_each 59 = .ok (.lload_n 1, 1) := by decide +kernel
theorem d_C_each_60 : decode c_C_each 60 = .ok (.lrem, 1) := by decide +kernel
theorem d_C_each_61 : decode c_C_each 61 = .ok (.lreturn, 1) := by decide +kernel
theorem d_C_suppliers_0 : decode c_C_suppliers 0 = .ok (.iload_n 3, 1) := by decide +kernel
theorem d_C_suppliers_1 : decode c_C_suppliers 1 = .ok (.bipush 8, 2) := by decide +kernel
theorem d_C_suppliers_3 : decode c_C_suppliers 3 = .ok (.invokestatic 70, 3) := by decide +kernel
theorem d_C_suppliers_6 : decode c_C_suppliers 6 = .ok (.lload_n 1, 1) := by decide +kernel
theorem d_C_suppliers_7 : decode c_C_suppliers 7 = .ok (.lconst 0, 1) := by decide +kernel
theorem d_C_suppliers_8 : decode c_C_suppliers 8 = .ok (.ldc2_w 92, 3) := by decide +kernel
theorem d_C_suppliers_11 : decode c_C_suppliers 11 = .ok (.invokestatic 84, 3) := by decide +kernel
theorem d_C_suppliers_14 : decode c_C_suppliers 14 = .ok (.aload_n 0, 1) := by decide +kernel
theorem d_C_suppliers_15 : decode c_C_suppliers 15 = .ok (.lload_n 1, 1) := by decide +kernel
theorem d_C_suppliers_16 : decode c_C_suppliers 16 = .ok (.iload_n 3, 1) := by decide +kernel
theorem d_C_suppliers_17 : decode c_C_suppliers 17 = .ok (.ldc2_w 134, 3) := by decide +kernel
theorem d_C_suppliers_20 : decode c_C_suppliers 20 = .ok (.invokevirtual 106, 3) := by decide +kernel
theorem d_C_suppliers_23 : decode c_C_suppliers 23 = .ok (.ifCond .ne 5, 3) := by decide +kernel
theorem d_C_suppliers_26 : decode c_C_suppliers 26 = .ok (.iconst (-1), 1) := by decide +kernel
theorem d_C_suppliers_27 : decode c_C_suppliers 27 = .ok (.ireturn, 1) := by decide +kernel
theorem d_C_suppliers_28 : decode c_C_suppliers 28 = .ok (.aload_n 0, 1) := by decide +kernel
theorem d_C_suppliers_29 : decode c_C_suppliers 29 = .ok (.getfield 60, 3) := by decide +kernel
theorem d_C_suppliers_32 : decode c_C_suppliers 32 = .ok (.invokevirtual 130, 3) := by decide +kernel
theorem d_C_suppliers_35 : decode c_C_suppliers 35 = .ok (.ireturn, 1) := by decide +kernel
theorem d_C_alternate_0 : decode c_C_alternate 0 = .ok (.iload_n 1, 1) := by decide +kernel
theorem d_C_alternate_1 : decode c_C_alternate 1 = .ok (.aload_n 0, 1) := by decide +kernel
theorem d_C_alternate_2 : decode c_C_alternate 2 = .ok (.getfield 49, 3) := by decide +kernel
theorem d_C_alternate_5 : decode c_C_alternate 5 = .ok (.invokestatic 70, 3) := by decide +kernel
theorem d_C_alternate_8 : decode c_C_alternate 8 = .ok (.iload_n 2, 1) := by decide +kernel
theorem d_C_alternate_9 : decode c_C_alternate 9 = .ok (.aload_n 0, 1) := by decide +kernel
theorem d_C_alternate_10 : decode c_C_alternate 10 = .ok (.getfield 49, 3) := by decide +kernel
theorem d_C_alternate_13 : decode c_C_alternate 13 = .ok (.invokestatic 70, 3) := by decide +kernel
theorem d_C_alternate_16 : decode c_C_alternate 16 = .ok (.aload_n 0, 1) := by decide +kernel
theorem d_C_alternate_17 : decode c_C_alternate 17 = .ok (.iload_n 2, 1) := by decide +kernel
theorem d_C_alternate_18 : decode c_C_alternate 18 = .ok (.iload_n 1, 1) := by decide +kernel
theorem d_C_alternate_19 : decode c_C_alternate 19 = .ok (.invokevirtual 136, 3) := by decide +kernel
theorem d_C_alternate_22 : decode c_C_alternate 22 = .ok (.ifCond .eq 5, 3) := by decide +kernel
theorem d_C_alternate_25 : decode c_C_alternate 25 = .ok (.iconst 0, 1) := by decide +kernel
theorem d_C_alternate_26 : decode c_C_alternate 26 = .ok (.ireturn, 1) := by decide +kernel
theorem d_C_alternate_27 : decode c_C_alternate 27 = .ok (.aload_n 0, 1) := by decide +kernel
theorem d_C_alternate_28 : decode c_C_alternate 28 = .ok (.getfield 18, 3) := by decide +kernel
theorem d_C_alternate_31 : decode c_C_alternate 31 = .ok (.iload_n 1, 1) := by decide +kernel
theorem d_C_alternate_32 : decode c_C_alternate 32 = .ok (.dup2, 1) := by decide +kernel
theorem d_C_alternate_33 : decode c_C_alternate 33 = .ok (.iaload, 1) := by decide +kernel
theorem d_C_alternate_34 : decode c_C_alternate 34 = .ok (.iconst 1, 1) := by decide +kernel
theorem d_C_alternate_35 : decode c_C_alternate 35 = .ok (.iload_n 2, 1) := by decide +kernel
theorem d_C_alternate_36 : decode c_C_alternate 36 = .ok (.ishl, 1) := by decide +kernel
theorem d_C_alternate_37 : decode c_C_alternate 37 = .ok (.ior, 1) := by decide +kernel
theorem d_C_alternate_38 : decode c_C_alternate 38 = .ok (.iastore, 1) := by decide +kernel
theorem d_C_alternate_39 : decode c_C_alternate 39 = .ok (.iconst 1, 1) := by decide +kernel
theorem d_C_alternate_40 : decode c_C_alternate 40 = .ok (.ireturn, 1) := by decide +kernel
theorem d_C_changed_0 : decode c_C_changed 0 = .ok (.iload_n 1, 1) := by decide +kernel
theorem d_C_changed_1 : decode c_C_changed 1 = .ok (.ifCond .ge 5, 3) := by decide +kernel
theorem d_C_changed_4 : decode c_C_changed 4 = .ok (.iconst (-1), 1) := by decide +kernel
theorem d_C_changed_5 : decode c_C_changed 5 = .ok (.ireturn, 1) := by decide +kernel
theorem d_C_changed_6 : decode c_C_changed 6 = .ok (.iload_n 1, 1) := by decide +kernel
theorem d_C_changed_7 : decode c_C_changed 7 = .ok (.istore_n 2, 1) := by decide +kernel
theorem d_C_changed_8 : decode c_C_changed 8 = .ok (.iconst 0, 1) := by decide +kernel
theorem d_C_changed_9 : decode c_C_changed 9 = .ok (.istore_n 3, 1) := by decide +kernel
theorem d_C_changed_10 : decode c_C_changed 10 = .ok (.iload_n 3, 1) := by decide +kernel
theorem d_C_changed_11 : decode c_C_changed 11 = .ok (.aload_n 0, 1) := by decide +kernel
theorem d_C_changed_12 : decode c_C_changed 12 = .ok (.getfield 64, 3) := by decide +kernel
theorem d_C_changed_15 : decode c_C_changed 15 = .ok (.getfield 140, 3) := by decide +kernel
theorem d_C_changed_18 : decode c_C_changed 18 = .ok (.if_icmp .ge 43, 3) := by decide +kernel
theorem d_C_changed_21 : decode c_C_changed 21 = .ok (.aload_n 0, 1) := by decide +kernel
theorem d_C_changed_22 : decode c_C_changed 22 = .ok (.getfield 64, 3) := by decide +kernel
theorem d_C_changed_25 : decode c_C_changed 25 = .ok (.getfield 143, 3) := by decide +kernel
theorem d_C_changed_28 : decode c_C_changed 28 = .ok (.iload_n 3, 1) := by decide +kernel
theorem d_C_changed_29 : decode c_C_changed 29 = .ok (.laload, 1) := by decide +kernel
theorem d_C_changed_30 : decode c_C_changed 30 = .ok (.aload_n 0, 1) := by decide +kernel
theorem d_C_changed_31 : decode c_C_changed 31 = .ok (.getfield 67, 3) := by decide +kernel
theorem d_C_changed_34 : decode c_C_changed 34 = .ok (.getfield 143, 3) := by decide +kernel
theorem d_C_changed_37 : decode c_C_changed 37 = .ok (.iload_n 3, 1) := by decide +kernel
theorem d_C_changed_38 : decode c_C_changed 38 = .ok (.laload, 1) := by decide +kernel
theorem d_C_changed_39 : decode c_C_changed 39 = .ok (.lcmp, 1) := by decide +kernel
theorem d_C_changed_40 : decode c_C_changed 40 = .ok (.ifCond .ne 6, 3) := by decide +kernel
theorem d_C_changed_43 : decode c_C_changed 43 = .ok (.goto 12, 3) := by decide +kernel
theorem d_C_changed_46 : decode c_C_changed 46 = .ok (.iload_n 2, 1) := by decide +kernel
theorem d_C_changed_47 : decode c_C_changed 47 = .ok (.ifCond .ne 5, 3) := by decide +kernel
theorem d_C_changed_50 : decode c_C_changed 50 = .ok (.iload_n 3, 1) := by decide +kernel
theorem d_C_changed_51 : decode c_C_changed 51 = .ok (.ireturn, 1) := by decide +kernel
theorem d_C_changed_52 : decode c_C_changed 52 = .ok (.iinc 2 (-1), 3) := by decide +kernel
theorem d_C_changed_55 : decode c_C_changed 55 = .ok (.iinc 3 1, 3) := by decide +kernel
theorem d_C_changed_58 : decode c_C_changed 58 = .ok (.goto (-48), 3) := by decide +kernel
theorem d_C_changed_61 : decode c_C_changed 61 = .ok (.iconst (-1), 1) := by decide +kernel
theorem d_C_changed_62 : decode c_C_changed 62 = .ok (.ireturn, 1) := by decide +kernel
theorem d_C_row_0 : decode c_C_row 0 = .ok (.iload_n 1, 1) := by decide +kernel
theorem d_C_row_1 : decode c_C_row 1 = .ok (.aload_n 0, 1) := by decide +kernel
theorem d_C_row_2 : decode c_C_row 2 = .ok (.getfield 64, 3) := by decide +kernel
theorem d_C_row_5 : decode c_C_row 5 = .ok (.getfield 140, 3) := by decide +kernel
theorem d_C_row_8 : decode c_C_row 8 = .ok (.invokestatic 70, 3) := by decide +kernel
theorem d_C_row_11 : decode c_C_row 11 = .ok (.iload_n 2, 1) := by decide +kernel
theorem d_C_row_12 : decode c_C_row 12 = .ok (.iconst 3, 1) := by decide +kernel
theorem d_C_row_13 : decode c_C_row 13 = .ok (.invokestatic 70, 3) := by decide +kernel
theorem d_C_row_16 : decode c_C_row 16 = .ok (.iload_n 2, 1) := by decide +kernel
theorem d_C_row_17 : decode c_C_row 17 = .ok (.ifCond .ne 13, 3) := by decide +kernel
theorem d_C_row_20 : decode c_C_row 20 = .ok (.aload_n 0, 1) := by decide +kernel
theorem d_C_row_21 : decode c_C_row 21 = .ok (.getfield 64, 3) := by decide +kernel
theorem d_C_row_24 : decode c_C_row 24 = .ok (.getfield 146, 3) := by decide +kernel
theorem d_C_row_27 : decode c_C_row 27 = .ok (.iload_n 1, 1) := by decide +kernel
theorem d_C_row_28 : decode c_C_row 28 = .ok (.iaload, 1) := by decide +kernel
theorem d_C_row_29 : decode c_C_row 29 = .ok (.ireturn, 1) := by decide +kernel
theorem d_C_row_30 : decode c_C_row 30 = .ok (.iload_n 2, 1) := by decide +kernel
theorem d_C_row_31 : decode c_C_row 31 = .ok (.iconst 1, 1) := by decide +kernel
theorem d_C_row_32 : decode c_C_row 32 = .ok (.if_icmp .ne 15, 3) := by decide +kernel
theorem d_C_row_35 : decode c_C_row 35 = .ok (.aload_n 0, 1) := by decide +kernel
theorem d_C_row_36 : decode c_C_row 36 = .ok (.getfield 64, 3) := by decide +kernel
theorem d_C_row_39 : decode c_C_row 39 = .ok (.getfield 149, 3) := by decide +kernel
theorem d_C_row_42 : decode c_C_row 42 = .ok (.iload_n 1, 1) := by decide +kernel
theorem d_C_row_43 : decode c_C_row 43 = .ok (.iaload, 1) := by decide +kernel
theorem d_C_row_44 : decode c_C_row 44 = .ok (.goto 12, 3) := by decide +kernel
theorem d_C_row_47 : decode c_C_row 47 = .ok (.aload_n 0, 1) := by decide +kernel
theorem d_C_row_48 : decode c_C_row 48 = .ok (.getfield 64, 3) := by decide +kernel
theorem d_C_row_51 : decode c_C_row 51 = .ok (.getfield 152, 3) := by decide +kernel
theorem d_C_row_54 : decode c_C_row 54 = .ok (.iload_n 1, 1) := by decide +kernel
theorem d_C_row_55 : decode c_C_row 55 = .ok (.iaload, 1) := by decide +kernel
theorem d_C_row_56 : decode c_C_row 56 = .ok (.ireturn, 1) := by decide +kernel
theorem d_C_needIndex_0 : decode c_C_needIndex 0 = .ok (.iload_n 0, 1) := by decide +kernel
theorem d_C_needIndex_1 : decode c_C_needIndex 1 = .ok (.ifCond .lt 8, 3) := by decide +kernel
theorem d_C_needIndex_4 : decode c_C_needIndex 4 = .ok (.iload_n 0, 1) := by decide +kernel
theorem d_C_needIndex_5 : decode c_C_needIndex 5 = .ok (.iload_n 1, 1) := by decide +kernel
theorem d_C_needIndex_6 : decode c_C_needIndex 6 = .ok (.if_icmp .lt 13, 3) := by decide +kernel
theorem d_C_needIndex_9 : decode c_C_needIndex 9 = .ok (.new 155, 3) := by decide +kernel
theorem d_C_needIndex_12 : decode c_C_needIndex 12 = .ok (.dup, 1) := by decide +kernel
theorem d_C_needIndex_13 : decode c_C_needIndex 13 = .ok (.ldc 157, 2) := by decide +kernel
theorem d_C_needIndex_15 : decode c_C_needIndex 15 = .ok (.invokespecial 159, 3) := by decide +kernel
theorem d_C_needIndex_18 : decode c_C_needIndex 18 = .ok (.athrow, 1) := by decide +kernel
theorem d_C_needIndex_19 : decode c_C_needIndex 19 = .ok (.return_, 1) := by decide +kernel
theorem d_C_needNumber_0 : decode c_C_needNumber 0 = .ok (.lload_n 0, 1) := by decide +kernel
theorem d_C_needNumber_1 : decode c_C_needNumber 1 = .ok (.lload_n 2, 1) := by decide +kernel
theorem d_C_needNumber_2 : decode c_C_needNumber 2 = .ok (.lcmp, 1) := by decide +kernel
theorem d_C_needNumber_3 : decode c_C_needNumber 3 = .ok (.ifCond .lt 10, 3) := by decide +kernel
theorem d_C_needNumber_6 : decode c_C_needNumber 6 = .ok (.lload_n 0, 1) := by decide +kernel
theorem d_C_needNumber_7 : decode c_C_needNumber 7 = .ok (.lload 4, 2) := by decide +kernel
theorem d_C_needNumber_9 : decode c_C_needNumber 9 = .ok (.lcmp, 1) := by decide +kernel
theorem d_C_needNumber_10 : decode c_C_needNumber 10 = .ok (.ifCond .le 13, 3) := by decide +kernel
theorem d_C_needNumber_13 : decode c_C_needNumber 13 = .ok (.new 162, 3) := by decide +kernel
theorem d_C_needNumber_16 : decode c_C_needNumber 16 = .ok (.dup, 1) := by decide +kernel
theorem d_C_needNumber_17 : decode c_C_needNumber 17 = .ok (.ldc 164, 2) := by decide +kernel
theorem d_C_needNumber_19 : decode c_C_needNumber 19 = .ok (.invokespecial 166, 3) := by decide +kernel
theorem d_C_needNumber_22 : decode c_C_needNumber 22 = .ok (.athrow, 1) := by decide +kernel
theorem d_C_needNumber_23 : decode c_C_needNumber 23 = .ok (.return_, 1) := by decide +kernel
theorem d_C_needStep_0 : decode c_C_needStep 0 = .ok (.lload_n 0, 1) := by decide +kernel
theorem d_C_needStep_1 : decode c_C_needStep 1 = .ok (.lconst 1, 1) := by decide +kernel
theorem d_C_needStep_2 : decode c_C_needStep 2 = .ok (.ldc2_w 104, 3) := by decide +kernel
theorem d_C_needStep_5 : decode c_C_needStep 5 = .ok (.invokestatic 84, 3) := by decide +kernel
theorem d_C_needStep_8 : decode c_C_needStep 8 = .ok (.lload_n 2, 1) := by decide +kernel
theorem d_C_needStep_9 : decode c_C_needStep 9 = .ok (.lconst 1, 1) := by decide +kernel
theorem d_C_needStep_10 : decode c_C_needStep 10 = .ok (.ldc2_w 167, 3) := by decide +kernel
theorem d_C_needStep_13 : decode c_C_needStep 13 = .ok (.invokestatic 84, 3) := by decide +kernel
theorem d_C_needStep_16 : decode c_C_needStep 16 = .ok (.return_, 1) := by decide +kernel
theorem d_C_needRatio_0 : decode c_C_needRatio 0 = .ok (.lload_n 0, 1) := by decide +kernel
theorem d_C_needRatio_1 : decode c_C_needRatio 1 = .ok (.lconst 1, 1) := by decide +kernel
theorem d_C_needRatio_2 : decode c_C_needRatio 2 = .ok (.ldc2_w 82, 3) := by decide +kernel
theorem d_C_needRatio_5 : decode c_C_needRatio 5 = .ok (.invokestatic 84, 3) := by decide +kernel
theorem d_C_needRatio_8 : decode c_C_needRatio 8 = .ok (.lload_n 2, 1) := by decide +kernel
theorem d_C_needRatio_9 : decode c_C_needRatio 9 = .ok (.lconst 1, 1) := by decide +kernel
theorem d_C_needRatio_10 : decode c_C_needRatio 10 = .ok (.ldc2_w 82, 3) := by decide +kernel
theorem d_C_needRatio_13 : decode c_C_needRatio 13 = .ok (.invokestatic 84, 3) := by decide +kernel
theorem d_C_needRatio_16 : decode c_C_needRatio 16 = .ok (.return_, 1) := by decide +kernel
theorem d_C_tellNumber_0 : decode c_C_tellNumber 0 = .ok (.aload_n 0, 1) := by decide +kernel
theorem d_C_tellNumber_1 : decode c_C_tellNumber 1 = .ok (.iload_n 1, 1) := by decide +kernel
theorem d_C_tellNumber_2 : decode c_C_tellNumber 2 = .ok (.laload, 1) := by decide +kernel
theorem d_C_tellNumber_3 : decode c_C_tellNumber 3 = .ok (.lload_n 2, 1) := by decide +kernel
theorem d_C_tellNumber_4 : decode c_C_tellNumber 4 = .ok (.lcmp, 1) := by decide +kernel
theorem d_C_tellNumber_5 : decode c_C_tellNumber 5 = .ok (.ifCond .eq 7, 3) := by decide +kernel
theorem d_C_tellNumber_8 : decode c_C_tellNumber 8 = .ok (.iconst 1, 1) := by decide +kernel
theorem d_C_tellNumber_9 : decode c_C_tellNumber 9 = .ok (.goto 4, 3) := by decide +kernel
theorem d_C_tellNumber_12 : decode c_C_tellNumber 12 = .ok (.iconst 0, 1) := by decide +kernel
theorem d_C_tellNumber_13 : decode c_C_tellNumber 13 = .ok (.istore 4, 2) := by decide +kernel
theorem d_C_tellNumber_15 : decode c_C_tellNumber 15 = .ok (.aload_n 0, 1) := by decide +kernel
theorem d_C_tellNumber_16 : decode c_C_tellNumber 16 = .ok (.iload_n 1, 1) := by decide +kernel
theorem d_C_tellNumber_17 : decode c_C_tellNumber 17 = .ok (.lload_n 2, 1) := by decide +kernel
theorem d_C_tellNumber_18 : decode c_C_tellNumber 18 = .ok (.lastore, 1) := by decide +kernel
theorem d_C_tellNumber_19 : decode c_C_tellNumber 19 = .ok (.iload 4, 2) := by decide +kernel
theorem d_C_tellNumber_21 : decode c_C_tellNumber 21 = .ok (.ireturn, 1) := by decide +kernel
theorem d_C_divideUp_0 : decode c_C_divideUp 0 = .ok (.lload_n 2, 1) := by decide +kernel
theorem d_C_divideUp_1 : decode c_C_divideUp 1 = .ok (.lconst 0, 1) := by decide +kernel
theorem d_C_divideUp_2 : decode c_C_divideUp 2 = .ok (.lcmp, 1) := by decide +kernel
theorem d_C_divideUp_3 : decode c_C_divideUp 3 = .ok (.ifCond .gt 5, 3) := by decide +kernel
theorem d_C_divideUp_6 : decode c_C_divideUp 6 = .ok (.lconst 0, 1) := by decide +kernel
theorem d_C_divideUp_7 : decode c_C_divideUp 7 = .ok (.lreturn, 1) := by decide +kernel
theorem d_C_divideUp_8 : decode c_C_divideUp 8 = .ok (.lload_n 0, 1) := by decide +kernel
theorem d_C_divideUp_9 : decode c_C_divideUp 9 = .ok (.lload_n 2, 1) := by decide +kernel
theorem d_C_divideUp_10 : decode c_C_divideUp 10 = .ok (.ladd, 1) := by decide +kernel
theorem d_C_divideUp_11 : decode c_C_divideUp 11 = .ok (.lconst 1, 1) := by decide +kernel
theorem d_C_divideUp_12 : decode c_C_divideUp 12 = .ok (.lsub, 1) := by decide +kernel
theorem d_C_divideUp_13 : decode c_C_divideUp 13 = .ok (.lload_n 2, 1) := by decide +kernel
theorem d_C_divideUp_14 : decode c_C_divideUp 14 = .ok (.ldiv, 1) := by decide +kernel
theorem d_C_divideUp_15 : decode c_C_divideUp 15 = .ok (.lreturn, 1) := by decide +kernel
theorem d_C_mayStandIn_0 : decode c_C_mayStandIn 0 = .ok (.iload_n 1, 1) := by decide +kernel
theorem d_C_mayStandIn_1 : decode c_C_mayStandIn 1 = .ok (.iload_n 2, 1) := by decide +kernel
theorem d_C_mayStandIn_2 : decode c_C_mayStandIn 2 = .ok (.if_icmp .eq 16, 3) := by decide +kernel
theorem d_C_mayStandIn_5 : decode c_C_mayStandIn 5 = .ok (.aload_n 0, 1) := by decide +kernel
theorem d_C_mayStandIn_6 : decode c_C_mayStandIn 6 = .ok (.getfield 18, 3) := by decide +kernel
theorem d_C_mayStandIn_9 : decode c_C_mayStandIn 9 = .ok (.iload_n 2, 1) := by decide +kernel
theorem d_C_mayStandIn_10 : decode c_C_mayStandIn 10 = .ok (.iaload, 1) := by decide +kernel
theorem d_C_mayStandIn_11 : decode c_C_mayStandIn 11 = .ok (.iconst 1, 1) := by decide +kernel
theorem d_C_mayStandIn_12 : decode c_C_mayStandIn 12 = .ok (.iload_n 1, 1) := by decide +kernel
theorem d_C_mayStandIn_13 : decode c_C_mayStandIn 13 = .ok (.ishl, 1) := by decide +kernel
theorem d_C_mayStandIn_14 : decode c_C_mayStandIn 14 = .ok (.iand, 1) := by decide +kernel
theorem d_C_mayStandIn_15 : decode c_C_mayStandIn 15 = .ok (.ifCond .eq 7, 3) := by decide +kernel
theorem d_C_mayStandIn_18 : decode c_C_mayStandIn 18 = .ok (.iconst 1, 1) := by decide +kernel
theorem d_C_mayStandIn_19 : decode c_C_mayStandIn 19 = .ok (.goto 4, 3) := by decide +kernel
theorem d_C_mayStandIn_22 : decode c_C_mayStandIn 22 = .ok (.iconst 0, 1) := by decide +kernel
theorem d_C_mayStandIn_23 : decode c_C_mayStandIn 23 = .ok (.ireturn, 1) := by decide +kernel
theorem d_C_draw_0 : decode c_C_draw 0 = .ok (.aload_n 0, 1) := by decide +kernel
theorem d_C_draw_1 : decode c_C_draw 1 = .ok (.getfield 45, 3) := by decide +kernel
theorem d_C_draw_4 : decode c_C_draw 4 = .ok (.lload_n 1, 1) := by decide +kernel
theorem d_C_draw_5 : decode c_C_draw 5 = .ok (.invokevirtual 119, 3) := by decide +kernel
theorem d_C_draw_8 : decode c_C_draw 8 = .ok (.lstore 6, 2) := by decide +kernel
theorem d_C_draw_10 : decode c_C_draw 10 = .ok (.aload_n 0, 1) := by decide +kernel
theorem d_C_draw_11 : decode c_C_draw 11 = .ok (.lload 6, 2) := by decide +kernel
theorem d_C_draw_13 : decode c_C_draw 13 = .ok (.lload 4, 2) := by decide +kernel
theorem d_C_draw_15 : decode c_C_draw 15 = .ok (.invokevirtual 123, 3) := by decide +kernel
theorem d_C_draw_18 : decode c_C_draw 18 = .ok (.ifCond .eq 17, 3) := by decide +kernel
theorem d_C_draw_21 : decode c_C_draw 21 = .ok (.aload_n 0, 1) := by decide +kernel
theorem d_C_draw_22 : decode c_C_draw 22 = .ok (.lload 6, 2) := by decide +kernel
theorem d_C_draw_24 : decode c_C_draw 24 = .ok (.iload_n 3, 1) := by decide +kernel
theorem d_C_draw_25 : decode c_C_draw 25 = .ok (.invokevirtual 126, 3) := by decide +kernel
theorem d_C_draw_28 : decode c_C_draw 28 = .ok (.ifCond .eq 7, 3) := by decide +kernel
theorem d_C_draw_31 : decode c_C_draw 31 = .ok (.iconst 1, 1) := by decide +kernel
theorem d_C_draw_32 : decode c_C_draw 32 = .ok (.goto 4, 3) := by decide +kernel
theorem d_C_draw_35 : decode c_C_draw 35 = .ok (.iconst 0, 1) := by decide +kernel
theorem d_C_draw_36 : decode c_C_draw 36 = .ok (.ireturn, 1) := by decide +kernel
theorem d_C_drawAllButBoards_0 : decode c_C_drawAllButBoards 0 = .ok (.aload_n 0, 1) := by decide +kernel
theorem d_C_drawAllButBoards_1 : decode c_C_drawAllButBoards 1 = .ok (.getfield 60, 3) := by decide +kernel
theorem d_C_drawAllButBoards_4 : decode c_C_drawAllButBoards 4 = .ok (.iconst 3, 1) := by decide +kernel
theorem d_C_drawAllButBoards_5 : decode c_C_drawAllButBoards 5 = .ok (.aload_n 0, 1) := by decide +kernel
theorem d_C_drawAllButBoards_6 : decode c_C_drawAllButBoards 6 = .ok (.getfield 49, 3) := by decide +kernel
theorem d_C_drawAllButBoards_9 : decode c_C_drawAllButBoards 9 = .ok (.iadd, 1) := by decide +kernel
theorem d_C_drawAllButBoards_10 : decode c_C_drawAllButBoards 10 = .ok (.invokevirtual 169, 3) := by decide +kernel
theorem d_C_drawAllButBoards_13 : decode c_C_drawAllButBoards 13 = .ok (.lload_n 1, 1) := by decide +kernel
theorem d_C_drawAllButBoards_14 : decode c_C_drawAllButBoards 14 = .ok (.ldc2_w 104, 3) := by decide +kernel
theorem d_C_drawAllButBoards_17 : decode c_C_drawAllButBoards 17 = .ok (.lcmp, 1) := by decide +kernel
theorem d_C_drawAllButBoards_18 : decode c_C_drawAllButBoards 18 = .ok (.ifCond .le 5, 3) := by decide +kernel
theorem d_C_drawAllButBoards_21 : decode c_C_drawAllButBoards 21 = .ok (.iconst 0, 1) := by decide +kernel
theorem d_C_drawAllButBoards_22 : decode c_C_drawAllButBoards 22 = .ok (.ireturn, 1) := by decide +kernel
theorem d_C_drawAllButBoards_23 : decode c_C_drawAllButBoards 23 = .ok (.aload_n 0, 1) := by decide +kernel
theorem d_C_drawAllButBoards_24 : decode c_C_drawAllButBoards 24 = .ok (.getfield 38, 3) := by decide +kernel
theorem d_C_drawAllButBoards_27 : decode c_C_drawAllButBoards 27 = .ok (.lload_n 3, 1) := by decide +kernel
theorem d_C_drawAllButBoards_28 : decode c_C_drawAllButBoards 28 = .ok (.invokevirtual 173, 3) := by decide +kernel
theorem d_C_drawAllButBoards_31 : decode c_C_drawAllButBoards 31 = .ok (.aload_n 0, 1) := by decide +kernel
theorem d_C_drawAllButBoards_32 : decode c_C_drawAllButBoards 32 = .ok (.getfield 60, 3) := by decide +kernel
theorem d_C_drawAllButBoards_35 : decode c_C_drawAllButBoards 35 = .ok (.getfield 143, 3) := by decide +kernel
theorem d_C_drawAllButBoards_38 : decode c_C_drawAllButBoards 38 = .ok (.iconst 0, 1) := by decide +kernel
theorem d_C_drawAllButBoards_39 : decode c_C_drawAllButBoards 39 = .ok (.aload_n 0, 1) := by decide +kernel
theorem d_C_drawAllButBoards_40 : decode c_C_drawAllButBoards 40 = .ok (.getfield 53, 3) := by decide +kernel
theorem d_C_drawAllButBoards_43 : decode c_C_drawAllButBoards 43 = .ok (.lastore, 1) := by decide +kernel
theorem d_C_drawAllButBoards_44 : decode c_C_drawAllButBoards 44 = .ok (.aload_n 0, 1) := by decide +kernel
theorem d_C_drawAllButBoards_45 : decode c_C_drawAllButBoards 45 = .ok (.getfield 60, 3) := by decide +kernel
theorem d_C_drawAllButBoards_48 : decode c_C_drawAllButBoards 48 = .ok (.getfield 143, 3) := by decide +kernel
theorem d_C_drawAllButBoards_51 : decode c_C_drawAllButBoards 51 = .ok (.iconst 2, 1) := by decide +kernel
theorem d_C_drawAllButBoards_52 : decode c_C_drawAllButBoards 52 = .ok (.aload_n 0, 1) := by decide +kernel
theorem d_C_drawAllButBoards_53 : decode c_C_drawAllButBoards 53 = .ok (.lload_n 1, 1) := by decide +kernel
theorem d_C_drawAllButBoards_54 : decode c_C_drawAllButBoards 54 = .ok (.invokevirtual 177, 3) := by decide +kernel
theorem d_C_drawAllButBoards_57 : decode c_C_drawAllButBoards 57 = .ok (.lastore, 1) := by decide +kernel
theorem d_C_drawAllButBoards_58 : decode c_C_drawAllButBoards 58 = .ok (.iconst 0, 1) := by decide +kernel
theorem d_C_drawAllButBoards_59 : decode c_C_drawAllButBoards 59 = .ok (.istore 5, 2) := by decide +kernel
theorem d_C_drawAllButBoards_61 : decode c_C_drawAllButBoards 61 = .ok (.iload 5, 2) := by decide +kernel
theorem d_C_drawAllButBoards_63 : decode c_C_drawAllButBoards 63 = .ok (.aload_n 0, 1) := by decide +kernel
theorem d_C_drawAllButBoards_64 : decode c_C_drawAllButBoards 64 = .ok (.getfield 49, 3) := by decide +kernel
theorem d_C_drawAllButBoards_67 : decode c_C_drawAllButBoards 67 = .ok (.if_icmp .ge 21, 3) := by decide +kernel
theorem d_C_drawAllButBoards_70 : decode c_C_drawAllButBoards 70 = .ok (.aload_n 0, 1) := by decide +kernel
theorem d_C_drawAllButBoards_71 : decode c_C_drawAllButBoards 71 = .ok (.iload 5, 2) := by decide +kernel
theorem d_C_drawAllButBoards_73 : decode c_C_drawAllButBoards 73 = .ok (.lload_n 1, 1) := by decide +kernel
theorem d_C_drawAllButBoards_74 : decode c_C_drawAllButBoards 74 = .ok (.invokevirtual 180, 3) := by decide +kernel
theorem d_C_drawAllButBoards_77 : decode c_C_drawAllButBoards 77 = .ok (.ifCond .ne 5, 3) := by decide +kernel
theorem d_C_drawAllButBoards_80 : decode c_C_drawAllButBoards 80 = .ok (.iconst 0, 1) := by decide +kernel
theorem d_C_drawAllButBoards_81 : decode c_C_drawAllButBoards 81 = .ok (.ireturn, 1) := by decide +kernel
theorem d_C_drawAllButBoards_82 : decode c_C_drawAllButBoards 82 = .ok (.iinc 5 1, 3) := by decide +kernel
theorem d_C_drawAllButBoards_85 : decode c_C_drawAllButBoards 85 = .ok (.goto (-24), 3) := by decide +kernel
theorem d_C_drawAllButBoards_88 : decode c_C_drawAllButBoards 88 = .ok (.iconst 1, 1) := by decide +kernel
theorem d_C_drawAllButBoards_89 : decode c_C_drawAllButBoards 89 = .ok (.ireturn, 1) := by decide +kernel
theorem d_C_drawBoards_0 : decode c_C_drawBoards 0 = .ok (.aload_n 0, 1) := by decide +kernel
theorem d_C_drawBoards_1 : decode c_C_drawBoards 1 = .ok (.getfield 60, 3) := by decide +kernel
theorem d_C_drawBoards_4 : decode c_C_drawBoards 4 = .ok (.iconst 1, 1) := by decide +kernel
theorem d_C_drawBoards_5 : decode c_C_drawBoards 5 = .ok (.invokevirtual 184, 3) := by decide +kernel
theorem d_C_drawBoards_8 : decode c_C_drawBoards 8 = .ok (.lload_n 1, 1) := by decide +kernel
theorem d_C_drawBoards_9 : decode c_C_drawBoards 9 = .ok (.lconst 0, 1) := by decide +kernel
theorem d_C_drawBoards_10 : decode c_C_drawBoards 10 = .ok (.lcmp, 1) := by decide +kernel
theorem d_C_drawBoards_11 : decode c_C_drawBoards 11 = .ok (.ifCond .gt 5, 3) := by decide +kernel
theorem d_C_drawBoards_14 : decode c_C_drawBoards 14 = .ok (.iconst 1, 1) := by decide +kernel
theorem d_C_drawBoards_15 : decode c_C_drawBoards 15 = .ok (.ireturn, 1) := by decide +kernel
theorem d_C_drawBoards_16 : decode c_C_drawBoards 16 = .ok (.aload_n 0, 1) := by decide +kernel
theorem d_C_drawBoards_17 : decode c_C_drawBoards 17 = .ok (.iconst 1, 1) := by decide +kernel
theorem d_C_drawBoards_18 : decode c_C_drawBoards 18 = .ok (.lload_n 1, 1) := by decide +kernel
theorem d_C_drawBoards_19 : decode c_C_drawBoards 19 = .ok (.bipush 30, 2) := by decide +kernel
theorem d_C_drawBoards_21 : decode c_C_drawBoards 21 = .ok (.iload_n 3, 1) := by decide +kernel
theorem d_C_drawBoards_22 : decode c_C_drawBoards 22 = .ok (.invokevirtual 187, 3) := by decide +kernel
theorem d_C_drawBoards_25 : decode c_C_drawBoards 25 = .ok (.aload_n 0, 1) := by decide +kernel
theorem d_C_drawBoards_26 : decode c_C_drawBoards 26 = .ok (.getfield 60, 3) := by decide +kernel
theorem d_C_drawBoards_29 : decode c_C_drawBoards 29 = .ok (.iconst 1, 1) := by decide +kernel
theorem d_C_drawBoards_30 : decode c_C_drawBoards 30 = .ok (.invokevirtual 191, 3) := by decide +kernel
theorem d_C_drawBoards_33 : decode c_C_drawBoards 33 = .ok (.ireturn, 1) := by decide +kernel
theorem d_C_drawPart_0 : decode c_C_drawPart 0 = .ok (.lload_n 2, 1) := by decide +kernel
theorem d_C_drawPart_1 : decode c_C_drawPart 1 = .ok (.aload_n 0, 1) := by decide +kernel
theorem d_C_drawPart_2 : decode c_C_drawPart 2 = .ok (.getfield 11, 3) := by decide +kernel
theorem d_C_drawPart_5 : decode c_C_drawPart 5 = .ok (.iload_n 1, 1) := by decide +kernel
theorem d_C_drawPart_6 : decode c_C_drawPart 6 = .ok (.laload, 1) := by decide +kernel
theorem d_C_drawPart_7 : decode c_C_drawPart 7 = .ok (.lmul, 1) := by decide +kernel
theorem d_C_drawPart_8 : decode c_C_drawPart 8 = .ok (.aload_n 0, 1) := by decide +kernel
theorem d_C_drawPart_9 : decode c_C_drawPart 9 = .ok (.getfield 15, 3) := by decide +kernel
theorem d_C_drawPart_12 : decode c_C_drawPart 12 = .ok (.iload_n 1, 1) := by decide +kernel
theorem d_C_drawPart_13 : decode c_C_drawPart 13 = .ok (.laload, 1) := by decide +kernel
theorem d_C_drawPart_14 : decode c_C_drawPart 14 = .ok (.lsub, 1) := by decide +kernel
theorem d_C_drawPart_15 : decode c_C_drawPart 15 = .ok (.lstore 4, 2) := by decide +kernel
theorem d_C_drawPart_17 : decode c_C_drawPart 17 = .ok (.lload 4, 2) := by decide +kernel
theorem d_C_drawPart_19 : decode c_C_drawPart 19 = .ok (.lconst 0, 1) := by decide +kernel
theorem d_C_drawPart_20 : decode c_C_drawPart 20 = .ok (.lcmp, 1) := by decide +kernel
theorem d_C_drawPart_21 : decode c_C_drawPart 21 = .ok (.ifCond .gt 5, 3) := by decide +kernel
theorem d_C_drawPart_24 : decode c_C_drawPart 24 = .ok (.iconst 1, 1) := by decide +kernel
theorem d_C_drawPart_25 : decode c_C_drawPart 25 = .ok (.ireturn, 1) := by decide +kernel
theorem d_C_drawPart_26 : decode c_C_drawPart 26 = .ok (.lload 4, 2) := by decide +kernel
theorem d_C_drawPart_28 : decode c_C_drawPart 28 = .ok (.ldc2_w 104, 3) := by decide +kernel
theorem d_C_drawPart_31 : decode c_C_drawPart 31 = .ok (.lcmp, 1) := by decide +kernel
theorem d_C_drawPart_32 : decode c_C_drawPart 32 = .ok (.ifCond .le 5, 3) := by decide +kernel
theorem d_C_drawPart_35 : decode c_C_drawPart 35 = .ok (.iconst 0, 1) := by decide +kernel
theorem d_C_drawPart_36 : decode c_C_drawPart 36 = .ok (.ireturn, 1) := by decide +kernel
theorem d_C_drawPart_37 : decode c_C_drawPart 37 = .ok (.iconst 3, 1) := by decide +kernel
theorem d_C_drawPart_38 : decode c_C_drawPart 38 = .ok (.iload_n 1, 1) := by decide +kernel
theorem d_C_drawPart_39 : decode c_C_drawPart 39 = .ok (.iadd, 1) := by decide +kernel
theorem d_C_drawPart_40 : decode c_C_drawPart 40 = .ok (.istore 6, 2) := by decide +kernel
theorem d_C_drawPart_42 : decode c_C_drawPart 42 = .ok (.iconst 0, 1) := by decide +kernel
theorem d_C_drawPart_43 : decode c_C_drawPart 43 = .ok (.istore 7, 2) := by decide +kernel
theorem d_C_drawPart_45 : decode c_C_drawPart 45 = .ok (.iload 7, 2) := by decide +kernel
theorem d_C_drawPart_47 : decode c_C_drawPart 47 = .ok (.aload_n 0, 1) := by decide +kernel
theorem d_C_drawPart_48 : decode c_C_drawPart 48 = .ok (.getfield 49, 3) := by decide +kernel
theorem d_C_drawPart_51 : decode c_C_drawPart 51 = .ok (.if_icmp .ge 50, 3) := by decide +kernel
theorem d_C_drawPart_54 : decode c_C_drawPart 54 = .ok (.aload_n 0, 1) := by decide +kernel
theorem d_C_drawPart_55 : decode c_C_drawPart 55 = .ok (.iload 7, 2) := by decide +kernel
theorem d_C_drawPart_57 : decode c_C_drawPart 57 = .ok (.iload_n 1, 1) := by decide +kernel
theorem d_C_drawPart_58 : decode c_C_drawPart 58 = .ok (.invokevirtual 136, 3) := by decide +kernel
theorem d_C_drawPart_61 : decode c_C_drawPart 61 = .ok (.ifCond .ne 6, 3) := by decide +kernel
theorem d_C_drawPart_64 : decode c_C_drawPart 64 = .ok (.goto 31, 3) := by decide +kernel
theorem d_C_drawPart_67 : decode c_C_drawPart 67 = .ok (.iconst 0, 1) := by decide +kernel
theorem d_C_drawPart_68 : decode c_C_drawPart 68 = .ok (.istore 8, 2) := by decide +kernel
theorem d_C_drawPart_70 : decode c_C_drawPart 70 = .ok (.iload 8, 2) := by decide +kernel
theorem d_C_drawPart_72 : decode c_C_drawPart 72 = .ok (.bipush 8, 2) := by decide +kernel
theorem d_C_drawPart_74 : decode c_C_drawPart 74 = .ok (.if_icmp .ge 21, 3) := by decide +kernel
theorem d_C_drawPart_77 : decode c_C_drawPart 77 = .ok (.aload_n 0, 1) := by decide +kernel
theorem d_C_drawPart_78 : decode c_C_drawPart 78 = .ok (.iload 6, 2) := by decide +kernel
theorem d_C_drawPart_80 : decode c_C_drawPart 80 = .ok (.lload 4, 2) := by decide +kernel
theorem d_C_drawPart_82 : decode c_C_drawPart 82 = .ok (.iload 7, 2) := by decide +kernel
theorem d_C_drawPart_84 : decode c_C_drawPart 84 = .ok (.iload 8, 2) := by decide +kernel
theorem d_C_drawPart_86 : decode c_C_drawPart 86 = .ok (.invokevirtual 187, 3) := by decide +kernel
theorem d_C_drawPart_89 : decode c_C_drawPart 89 = .ok (.iinc 8 1, 3) := by decide +kernel
theorem d_C_drawPart_92 : decode c_C_drawPart 92 = .ok (.goto (-22), 3) := by decide +kernel
theorem d_C_drawPart_95 : decode c_C_drawPart 95 = .ok (.iinc 7 1, 3) := by decide +kernel
theorem d_C_drawPart_98 : decode c_C_drawPart 98 = .ok (.goto (-53), 3) := by decide +kernel
theorem d_C_drawPart_101 : decode c_C_drawPart 101 = .ok (.aload_n 0, 1) := by decide +kernel
theorem d_C_drawPart_102 : decode c_C_drawPart 102 = .ok (.getfield 60, 3) := by decide +kernel
theorem d_C_drawPart_105 : decode c_C_drawPart 105 = .ok (.iload 6, 2) := by decide +kernel
theorem d_C_drawPart_107 : decode c_C_drawPart 107 = .ok (.invokevirtual 191, 3) := by decide +kernel
theorem d_C_drawPart_110 : decode c_C_drawPart 110 = .ok (.ireturn, 1) := by decide +kernel
theorem d_C_offerSteps_0 : decode c_C_offerSteps 0 = .ok (.iload 4, 2) := by decide +kernel
theorem d_C_offerSteps_2 : decode c_C_offerSteps 2 = .ok (.bipush 30, 2) := by decide +kernel
theorem d_C_offerSteps_4 : decode c_C_offerSteps 4 = .ok (.if_icmp .ne 7, 3) := by decide +kernel
theorem d_C_offerSteps_7 : decode c_C_offerSteps 7 = .ok (.iconst (-1), 1) := by decide +kernel
theorem d_C_offerSteps_8 : decode c_C_offerSteps 8 = .ok (.goto 5, 3) := by decide +kernel
theorem d_C_offerSteps_11 : decode c_C_offerSteps 11 = .ok (.iload 4, 2) := by decide +kernel
theorem d_C_offerSteps_13 : decode c_C_offerSteps 13 = .ok (.istore 6, 2) := by decide +kernel
theorem d_C_offerSteps_15 : decode c_C_offerSteps 15 = .ok (.aload_n 0, 1) := by decide +kernel
theorem d_C_offerSteps_16 : decode c_C_offerSteps 16 = .ok (.getfield 31, 3) := by decide +kernel
theorem d_C_offerSteps_19 : decode c_C_offerSteps 19 = .ok (.iload 4, 2) := by decide +kernel
theorem d_C_offerSteps_21 : decode c_C_offerSteps 21 = .ok (.iload 5, 2) := by decide +kernel
theorem d_C_offerSteps_23 : decode c_C_offerSteps 23 = .ok (.invokevirtual 195, 3) := by decide +kernel
theorem d_C_offerSteps_26 : decode c_C_offerSteps 26 = .ok (.istore 7, 2) := by decide +kernel
theorem d_C_offerSteps_28 : decode c_C_offerSteps 28 = .ok (.aload_n 0, 1) := by decide +kernel
theorem d_C_offerSteps_29 : decode c_C_offerSteps 29 = .ok (.getfield 31, 3) := by decide +kernel
theorem d_C_offerSteps_32 : decode c_C_offerSteps 32 = .ok (.iload 4, 2) := by decide +kernel
theorem d_C_offerSteps_34 : decode c_C_offerSteps 34 = .ok (.iload 5, 2) := by decide +kernel
theorem d_C_offerSteps_36 : decode c_C_offerSteps 36 = .ok (.invokevirtual 199, 3) := by decide +kernel
theorem d_C_offerSteps_39 : decode c_C_offerSteps 39 = .ok (.istore 8, 2) := by decide +kernel
theorem d_C_offerSteps_41 : decode c_C_offerSteps 41 = .ok (.iload 8, 2) := by decide +kernel
theorem d_C_offerSteps_43 : decode c_C_offerSteps 43 = .ok (.iload 7, 2) := by decide +kernel
theorem d_C_offerSteps_45 : decode c_C_offerSteps 45 = .ok (.if_icmp .ge 65, 3) := by decide +kernel
theorem d_C_offerSteps_48 : decode c_C_offerSteps 48 = .ok (.lload_n 2, 1) := by decide +kernel
theorem d_C_offerSteps_49 : decode c_C_offerSteps 49 = .ok (.aload_n 0, 1) := by decide +kernel
theorem d_C_offerSteps_50 : decode c_C_offerSteps 50 = .ok (.getfield 31, 3) := by decide +kernel
theorem d_C_offerSteps_53 : decode c_C_offerSteps 53 = .ok (.iload 8, 2) := by decide +kernel
theorem d_C_offerSteps_55 : decode c_C_offerSteps 55 = .ok (.invokevirtual 202, 3) := by decide +kernel
theorem d_C_offerSteps_58 : decode c_C_offerSteps 58 = .ok (.invokestatic 206, 3) := by decide +kernel
theorem d_C_offerSteps_61 : decode c_C_offerSteps 61 = .ok (.lstore 9, 2) := by decide +kernel
theorem d_C_offerSteps_63 : decode c_C_offerSteps 63 = .ok (.aload_n 0, 1) := by decide +kernel
theorem d_C_offerSteps_64 : decode c_C_offerSteps 64 = .ok (.getfield 38, 3) := by decide +kernel
theorem d_C_offerSteps_67 : decode c_C_offerSteps 67 = .ok (.iload 5, 2) := by decide +kernel
theorem d_C_offerSteps_69 : decode c_C_offerSteps 69 = .ok (.lload 9, 2) := by decide +kernel
theorem d_C_offerSteps_71 : decode c_C_offerSteps 71 = .ok (.aload_n 0, 1) := by decide +kernel
theorem d_C_offerSteps_72 : decode c_C_offerSteps 72 = .ok (.getfield 31, 3) := by decide +kernel
theorem d_C_offerSteps_75 : decode c_C_offerSteps 75 = .ok (.getfield 212, 3) := by decide +kernel
theorem d_C_offerSteps_78 : decode c_C_offerSteps 78 = .ok (.iload 8, 2) := by decide +kernel
theorem d_C_offerSteps_80 : decode c_C_offerSteps 80 = .ok (.laload, 1) := by decide +kernel
theorem d_C_offerSteps_81 : decode c_C_offerSteps 81 = .ok (.lmul, 1) := by decide +kernel
theorem d_C_offerSteps_82 : decode c_C_offerSteps 82 = .ok (.invokevirtual 215, 3) := by decide +kernel
theorem d_C_offerSteps_85 : decode c_C_offerSteps 85 = .ok (.lstore 11, 2) := by decide +kernel
theorem d_C_offerSteps_87 : decode c_C_offerSteps 87 = .ok (.aload_n 0, 1) := by decide +kernel
theorem d_C_offerSteps_88 : decode c_C_offerSteps 88 = .ok (.getfield 60, 3) := by decide +kernel
theorem d_C_offerSteps_91 : decode c_C_offerSteps 91 = .ok (.iload_n 1, 1) := by decide +kernel
theorem d_C_offerSteps_92 : decode c_C_offerSteps 92 = .ok (.lload 11, 2) := by decide +kernel
theorem d_C_offerSteps_94 : decode c_C_offerSteps 94 = .ok (.iload 6, 2) := by decide +kernel
theorem d_C_offerSteps_96 : decode c_C_offerSteps 96 = .ok (.iload 5, 2) := by decide +kernel
theorem d_C_offerSteps_98 : decode c_C_offerSteps 98 = .ok (.lload 9, 2) := by decide +kernel
theorem d_C_offerSteps_100 : decode c_C_offerSteps 100 = .ok (.l2i, 1) := by decide +kernel
theorem d_C_offerSteps_101 : decode c_C_offerSteps 101 = .ok (.invokevirtual 219, 3) := by decide +kernel
theorem d_C_offerSteps_104 : decode c_C_offerSteps 104 = .ok (.iinc 8 1, 3) := by decide +kernel
theorem d_C_offerSteps_107 : decode c_C_offerSteps 107 = .ok (.goto (-66), 3) := by decide +kernel
theorem d_C_offerSteps_110 : decode c_C_offerSteps 110 = .ok (.return_, 1) := by decide +kernel
theorem d_C_assemblyCost_0 : decode c_C_assemblyCost 0 = .ok (.lconst 0, 1) := by decide +kernel
theorem d_C_assemblyCost_1 : decode c_C_assemblyCost 1 = .ok (.lstore_n 3, 1) := by decide +kernel
theorem d_C_assemblyCost_2 : decode c_C_assemblyCost 2 = .ok (.iconst 0, 1) := by decide +kernel
theorem d_C_assemblyCost_3 : decode c_C_assemblyCost 3 = .ok (.istore 5, 2) := by decide +kernel
theorem d_C_assemblyCost_5 : decode c_C_assemblyCost 5 = .ok (.iload 5, 2) := by decide +kernel
theorem d_C_assemblyCost_7 : decode c_C_assemblyCost 7 = .ok (.bipush 8, 2) := by decide +kernel
theorem d_C_assemblyCost_9 : decode c_C_assemblyCost 9 = .ok (.if_icmp .ge 35, 3) := by decide +kernel
theorem d_C_assemblyCost_12 : decode c_C_assemblyCost 12 = .ok (.lload_n 3, 1) := by decide +kernel
theorem d_C_assemblyCost_13 : decode c_C_assemblyCost 13 = .ok (.lload_n 1, 1) := by decide +kernel
theorem d_C_assemblyCost_14 : decode c_C_assemblyCost 14 = .ok (.aload_n 0, 1) := by decide +kernel
theorem d_C_assemblyCost_15 : decode c_C_assemblyCost 15 = .ok (.getfield 25, 3) := by decide +kernel
theorem d_C_assemblyCost_18 : decode c_C_assemblyCost 18 = .ok (.iload 5, 2) := by decide +kernel
theorem d_C_assemblyCost_20 : decode c_C_assemblyCost 20 = .ok (.laload, 1) := by decide +kernel
theorem d_C_assemblyCost_21 : decode c_C_assemblyCost 21 = .ok (.lmul, 1) := by decide +kernel
theorem d_C_assemblyCost_22 : decode c_C_assemblyCost 22 = .ok (.aload_n 0, 1) := by decide +kernel
theorem d_C_assemblyCost_23 : decode c_C_assemblyCost 23 = .ok (.getfield 22, 3) := by decide +kernel
theorem d_C_assemblyCost_26 : decode c_C_assemblyCost 26 = .ok (.iload 5, 2) := by decide +kernel
theorem d_C_assemblyCost_28 : decode c_C_assemblyCost 28 = .ok (.laload, 1) := by decide +kernel
theorem d_C_assemblyCost_29 : decode c_C_assemblyCost 29 = .ok (.lmul, 1) := by decide +kernel
theorem d_C_assemblyCost_30 : decode c_C_assemblyCost 30 = .ok (.ldc2_w 82, 3) := by decide +kernel
theorem d_C_assemblyCost_33 : decode c_C_assemblyCost 33 = .ok (.invokestatic 223, 3) := by decide +kernel
theorem d_C_assemblyCost_36 : decode c_C_assemblyCost 36 = .ok (.ladd, 1) := by decide +kernel
theorem d_C_assemblyCost_37 : decode c_C_assemblyCost 37 = .ok (.lstore_n 3, 1) := by decide +kernel
theorem d_C_assemblyCost_38 : decode c_C_assemblyCost 38 = .ok (.iinc 5 1, 3) := by decide +kernel
theorem d_C_assemblyCost_41 : decode c_C_assemblyCost 41 = .ok (.goto (-36), 3) := by decide +kernel
theorem d_C_assemblyCost_44 : decode c_C_assemblyCost 44 = .ok (.lload_n 3, 1) := by decide +kernel
theorem d_C_assemblyCost_45 : decode c_C_assemblyCost 45 = .ok (.lreturn, 1) := by decide +kernel
theorem d_C_keepDraft_0 : decode c_C_keepDraft 0 = .ok (.aload_n 0, 1) := by decide +kernel
theorem d_C_keepDraft_1 : decode c_C_keepDraft 1 = .ok (.getfield 67, 3) := by decide +kernel
theorem d_C_keepDraft_4 : decode c_C_keepDraft 4 = .ok (.astore_n 1, 1) := by decide +kernel
theorem d_C_keepDraft_5 : decode c_C_keepDraft 5 = .ok (.aload_n 0, 1) := by decide +kernel
theorem d_C_keepDraft_6 : decode c_C_keepDraft 6 = .ok (.aload_n 0, 1) := by decide +kernel
theorem d_C_keepDraft_7 : decode c_C_keepDraft 7 = .ok (.getfield 64, 3) := by decide +kernel
theorem d_C_keepDraft_10 : decode c_C_keepDraft 10 = .ok (.putfield 67, 3) := by decide +kernel
theorem d_C_keepDraft_13 : decode c_C_keepDraft 13 = .ok (.aload_n 0, 1) := by decide +kernel
theorem d_C_keepDraft_14 : decode c_C_keepDraft 14 = .ok (.aload_n 0, 1) := by decide +kernel
theorem d_C_keepDraft_15 : decode c_C_keepDraft 15 = .ok (.getfield 60, 3) := by decide +kernel
theorem d_C_keepDraft_18 : decode c_C_keepDraft 18 = .ok (.putfield 64, 3) := by decide +kernel
theorem d_C_keepDraft_21 : decode c_C_keepDraft 21 = .ok (.aload_n 0, 1) := by decide +kernel
theorem d_C_keepDraft_22 : decode c_C_keepDraft 22 = .ok (.aload_n 1, 1) := by decide +kernel
theorem d_C_keepDraft_23 : decode c_C_keepDraft 23 = .ok (.putfield 60, 3) := by decide +kernel
theorem d_C_keepDraft_26 : decode c_C_keepDraft 26 = .ok (.return_, 1) := by decide +kernel
theorem d_L_price_0 : decode c_L_price 0 = .ok (.aload 7, 2) := by decide +kernel
theorem d_L_price_2 : decode c_L_price 2 = .ok (.iconst 0, 1) := by decide +kernel
theorem d_L_price_3 : decode c_L_price 3 = .ok (.aload_n 0, 1) := by decide +kernel
theorem d_L_price_4 : decode c_L_price 4 = .ok (.iload_n 1, 1) := by decide +kernel
theorem d_L_price_5 : decode c_L_price 5 = .ok (.iload_n 2, 1) := by decide +kernel
theorem d_L_price_6 : decode c_L_price 6 = .ok (.lload_n 3, 1) := by decide +kernel
theorem d_L_price_7 : decode c_L_price 7 = .ok (.lload 5, 2) := by decide +kernel
theorem d_L_price_9 : decode c_L_price 9 = .ok (.invokevirtual 7, 3) := by decide +kernel
theorem d_L_price_12 : decode c_L_price 12 = .ok (.ifCond .eq 7, 3) := by decide +kernel
theorem d_L_price_15 : decode c_L_price 15 = .ok (.lconst 1, 1) := by decide +kernel
theorem d_L_price_16 : decode c_L_price 16 = .ok (.goto 4, 3) := by decide +kernel
theorem d_L_price_19 : decode c_L_price 19 = .ok (.lconst 0, 1) := by decide +kernel
theorem d_L_price_20 : decode c_L_price 20 = .ok (.lastore, 1) := by decide +kernel
theorem d_L_price_21 : decode c_L_price 21 = .ok (.goto 11, 3) := by decide +kernel
theorem d_L_price_24 : decode c_L_price 24 = .ok (.astore 8, 2) := by decide +kernel
theorem d_L_price_26 : decode c_L_price 26 = .ok (.iconst 1, 1) := by decide +kernel
theorem d_L_price_27 : decode c_L_price 27 = .ok (.ireturn, 1) := by decide +kernel
theorem d_L_price_28 : decode c_L_price 28 = .ok (.astore 8, 2) := by decide +kernel
theorem d_L_price_30 : decode c_L_price 30 = .ok (.iconst 2, 1) := by decide +kernel
theorem d_L_price_31 : decode c_L_price 31 = .ok (.ireturn, 1) := by decide +kernel
theorem d_L_price_32 : decode c_L_price 32 = .ok (.iconst 0, 1) := by decide +kernel
theorem d_L_price_33 : decode c_L_price 33 = .ok (.ireturn, 1) := by decide +kernel
theorem d_L_uses_0 : decode c_L_uses 0 = .ok (.aload 4, 2) := by decide +kernel
theorem d_L_uses_2 : decode c_L_uses 2 = .ok (.iconst 0, 1) := by decide +kernel
theorem d_L_uses_3 : decode c_L_uses 3 = .ok (.aload_n 0, 1) := by decide +kernel
theorem d_L_uses_4 : decode c_L_uses 4 = .ok (.iload_n 1, 1) := by decide +kernel
theorem d_L_uses_5 : decode c_L_uses 5 = .ok (.lload_n 2, 1) := by decide +kernel
theorem d_L_uses_6 : decode c_L_uses 6 = .ok (.invokevirtual 17, 3) := by decide +kernel
theorem d_L_uses_9 : decode c_L_uses 9 = .ok (.ifCond .eq 7, 3) := by decide +kernel
theorem d_L_uses_12 : decode c_L_uses 12 = .ok (.lconst 1, 1) := by decide +kernel
theorem d_L_uses_13 : decode c_L_uses 13 = .ok (.goto 4, 3) := by decide +kernel
theorem d_L_uses_16 : decode c_L_uses 16 = .ok (.lconst 0, 1) := by decide +kernel
theorem d_L_uses_17 : decode c_L_uses 17 = .ok (.lastore, 1) := by decide +kernel
theorem d_L_uses_18 : decode c_L_uses 18 = .ok (.goto 11, 3) := by decide +kernel
theorem d_L_uses_21 : decode c_L_uses 21 = .ok (.astore 5, 2) := by decide +kernel
theorem d_L_uses_23 : decode c_L_uses 23 = .ok (.iconst 1, 1) := by decide +kernel
theorem d_L_uses_24 : decode c_L_uses 24 = .ok (.ireturn, 1) := by decide +kernel
theorem d_L_uses_25 : decode c_L_uses 25 = .ok (.astore 5, 2) := by decide +kernel
theorem d_L_uses_27 : decode c_L_uses 27 = .ok (.iconst 2, 1) := by decide +kernel
theorem d_L_uses_28 : decode c_L_uses 28 = .ok (.ireturn, 1) := by decide +kernel
theorem d_L_uses_29 : decode c_L_uses 29 = .ok (.iconst 0, 1) := by decide +kernel
theorem d_L_uses_30 : decode c_L_uses 30 = .ok (.ireturn, 1) := by decide +kernel
theorem d_L_board_0 : decode c_L_board 0 = .ok (.aload 6, 2) := by decide +kernel
theorem d_L_board_2 : decode c_L_board 2 = .ok (.iconst 0, 1) := by decide +kernel
theorem d_L_board_3 : decode c_L_board 3 = .ok (.aload_n 0, 1) := by decide +kernel
theorem d_L_board_4 : decode c_L_board 4 = .ok (.iload_n 1, 1) := by decide +kernel
theorem d_L_board_5 : decode c_L_board 5 = .ok (.lload_n 2, 1) := by decide +kernel
theorem d_L_board_6 : decode c_L_board 6 = .ok (.lload 4, 2) := by decide +kernel
theorem d_L_board_8 : decode c_L_board 8 = .ok (.invokevirtual 21, 3) := by decide +kernel
theorem d_L_board_11 : decode c_L_board 11 = .ok (.ifCond .eq 7, 3) := by decide +kernel
theorem d_L_board_14 : decode c_L_board 14 = .ok (.lconst 1, 1) := by decide +kernel
theorem d_L_board_15 : decode c_L_board 15 = .ok (.goto 4, 3) := by decide +kernel
theorem d_L_board_18 : decode c_L_board 18 = .ok (.lconst 0, 1) := by decide +kernel
theorem d_L_board_19 : decode c_L_board 19 = .ok (.lastore, 1) := by decide +kernel
theorem d_L_board_20 : decode c_L_board 20 = .ok (.goto 11, 3) := by decide +kernel
theorem d_L_board_23 : decode c_L_board 23 = .ok (.astore 7, 2) := by decide +kernel
theorem d_L_board_25 : decode c_L_board 25 = .ok (.iconst 1, 1) := by decide +kernel
theorem d_L_board_26 : decode c_L_board 26 = .ok (.ireturn, 1) := by decide +kernel
theorem d_L_board_27 : decode c_L_board 27 = .ok (.astore 7, 2) := by decide +kernel
theorem d_L_board_29 : decode c_L_board 29 = .ok (.iconst 2, 1) := by decide +kernel
theorem d_L_board_30 : decode c_L_board 30 = .ok (.ireturn, 1) := by decide +kernel
theorem d_L_board_31 : decode c_L_board 31 = .ok (.iconst 0, 1) := by decide +kernel
theorem d_L_board_32 : decode c_L_board 32 = .ok (.ireturn, 1) := by decide +kernel
theorem d_L_assembly_0 : decode c_L_assembly 0 = .ok (.aload 4, 2) := by decide +kernel
theorem d_L_assembly_2 : decode c_L_assembly 2 = .ok (.iconst 0, 1) := by decide +kernel
theorem d_L_assembly_3 : decode c_L_assembly 3 = .ok (.aload_n 0, 1) := by decide +kernel
theorem d_L_assembly_4 : decode c_L_assembly 4 = .ok (.iload_n 1, 1) := by decide +kernel
theorem d_L_assembly_5 : decode c_L_assembly 5 = .ok (.lload_n 2, 1) := by decide +kernel
theorem d_L_assembly_6 : decode c_L_assembly 6 = .ok (.invokevirtual 25, 3) := by decide +kernel
theorem d_L_assembly_9 : decode c_L_assembly 9 = .ok (.ifCond .eq 7, 3) := by decide +kernel
theorem d_L_assembly_12 : decode c_L_assembly 12 = .ok (.lconst 1, 1) := by decide +kernel
theorem d_L_assembly_13 : decode c_L_assembly 13 = .ok (.goto 4, 3) := by decide +kernel
theorem d_L_assembly_16 : decode c_L_assembly 16 = .ok (.lconst 0, 1) := by decide +kernel
theorem d_L_assembly_17 : decode c_L_assembly 17 = .ok (.lastore, 1) := by decide +kernel
theorem d_L_assembly_18 : decode c_L_assembly 18 = .ok (.goto 11, 3) := by decide +kernel
theorem d_L_assembly_21 : decode c_L_assembly 21 = .ok (.astore 5, 2) := by decide +kernel
theorem d_L_assembly_23 : decode c_L_assembly 23 = .ok (.iconst 1, 1) := by decide +kernel
theorem d_L_assembly_24 : decode c_L_assembly 24 = .ok (.ireturn, 1) := by decide +kernel
theorem d_L_assembly_25 : decode c_L_assembly 25 = .ok (.astore 5, 2) := by decide +kernel
theorem d_L_assembly_27 : decode c_L_assembly 27 = .ok (.iconst 2, 1) := by decide +kernel
theorem d_L_assembly_28 : decode c_L_assembly 28 = .ok (.ireturn, 1) := by decide +kernel
theorem d_L_assembly_29 : decode c_L_assembly 29 = .ok (.iconst 0, 1) := by decide +kernel
theorem d_L_assembly_30 : decode c_L_assembly 30 = .ok (.ireturn, 1) := by decide +kernel
theorem d_L_placed_0 : decode c_L_placed 0 = .ok (.aload 4, 2) := by decide +kernel
theorem d_L_placed_2 : decode c_L_placed 2 = .ok (.iconst 0, 1) := by decide +kernel
theorem d_L_placed_3 : decode c_L_placed 3 = .ok (.aload_n 0, 1) := by decide +kernel
theorem d_L_placed_4 : decode c_L_placed 4 = .ok (.iload_n 1, 1) := by decide +kernel
theorem d_L_placed_5 : decode c_L_placed 5 = .ok (.lload_n 2, 1) := by decide +kernel
theorem d_L_placed_6 : decode c_L_placed 6 = .ok (.invokevirtual 28, 3) := by decide +kernel
theorem d_L_placed_9 : decode c_L_placed 9 = .ok (.ifCond .eq 7, 3) := by decide +kernel
theorem d_L_placed_12 : decode c_L_placed 12 = .ok (.lconst 1, 1) := by decide +kernel
theorem d_L_placed_13 : decode c_L_placed 13 = .ok (.goto 4, 3) := by decide +kernel
theorem d_L_placed_16 : decode c_L_placed 16 = .ok (.lconst 0, 1) := by decide +kernel
theorem d_L_placed_17 : decode c_L_placed 17 = .ok (.lastore, 1) := by decide +kernel
theorem d_L_placed_18 : decode c_L_placed 18 = .ok (.goto 11, 3) := by decide +kernel
theorem d_L_placed_21 : decode c_L_placed 21 = .ok (.astore 5, 2) := by decide +kernel
theorem d_L_placed_23 : decode c_L_placed 23 = .ok (.iconst 1, 1) := by decide +kernel
theorem d_L_placed_24 : decode c_L_placed 24 = .ok (.ireturn, 1) := by decide +kernel
theorem d_L_placed_25 : decode c_L_placed 25 = .ok (.astore 5, 2) := by decide +kernel
theorem d_L_placed_27 : decode c_L_placed 27 = .ok (.iconst 2, 1) := by decide +kernel
theorem d_L_placed_28 : decode c_L_placed 28 = .ok (.ireturn, 1) := by decide +kernel
theorem d_L_placed_29 : decode c_L_placed 29 = .ok (.iconst 0, 1) := by decide +kernel
theorem d_L_placed_30 : decode c_L_placed 30 = .ok (.ireturn, 1) := by decide +kernel
theorem d_L_yieldOf_0 : decode c_L_yieldOf 0 = .ok (.aload 5, 2) := by decide +kernel
theorem d_L_yieldOf_2 : decode c_L_yieldOf 2 = .ok (.iconst 0, 1) := by decide +kernel
theorem d_L_yieldOf_3 : decode c_L_yieldOf 3 = .ok (.aload_n 0, 1) := by decide +kernel
theorem d_L_yieldOf_4 : decode c_L_yieldOf 4 = .ok (.lload_n 1, 1) := by decide +kernel
theorem d_L_yieldOf_5 : decode c_L_yieldOf 5 = .ok (.lload_n 3, 1) := by decide +kernel
theorem d_L_yieldOf_6 : decode c_L_yieldOf 6 = .ok (.invokevirtual 31, 3) := by decide +kernel
theorem d_L_yieldOf_9 : decode c_L_yieldOf 9 = .ok (.ifCond .eq 7, 3) := by decide +kernel
theorem d_L_yieldOf_12 : decode c_L_yieldOf 12 = .ok (.lconst 1, 1) := by decide +kernel
theorem d_L_yieldOf_13 : decode c_L_yieldOf 13 = .ok (.goto 4, 3) := by decide +kernel
theorem d_L_yieldOf_16 : decode c_L_yieldOf 16 = .ok (.lconst 0, 1) := by decide +kernel
theorem d_L_yieldOf_17 : decode c_L_yieldOf 17 = .ok (.lastore, 1) := by decide +kernel
theorem d_L_yieldOf_18 : decode c_L_yieldOf 18 = .ok (.goto 7, 3) := by decide +kernel
theorem d_L_yieldOf_21 : decode c_L_yieldOf 21 = .ok (.astore 6, 2) := by decide +kernel
theorem d_L_yieldOf_23 : decode c_L_yieldOf 23 = .ok (.iconst 1, 1) := by decide +kernel
theorem d_L_yieldOf_24 : decode c_L_yieldOf 24 = .ok (.ireturn, 1) := by decide +kernel
theorem d_L_yieldOf_25 : decode c_L_yieldOf 25 = .ok (.iconst 0, 1) := by decide +kernel
theorem d_L_yieldOf_26 : decode c_L_yieldOf 26 = .ok (.ireturn, 1) := by decide +kernel
theorem d_L_currency_0 : decode c_L_currency 0 = .ok (.aload 8, 2) := by decide +kernel
theorem d_L_currency_2 : decode c_L_currency 2 = .ok (.iconst 0, 1) := by decide +kernel
theorem d_L_currency_3 : decode c_L_currency 3 = .ok (.aload_n 0, 1) := by decide +kernel
theorem d_L_currency_4 : decode c_L_currency 4 = .ok (.iload_n 1, 1) := by decide +kernel
theorem d_L_currency_5 : decode c_L_currency 5 = .ok (.lload_n 2, 1) := by decide +kernel
theorem d_L_currency_6 : decode c_L_currency 6 = .ok (.lload 4, 2) := by decide +kernel
theorem d_L_currency_8 : decode c_L_currency 8 = .ok (.lload 6, 2) := by decide +kernel
theorem d_L_currency_10 : decode c_L_currency 10 = .ok (.invokevirtual 35, 3) := by decide +kernel
theorem d_L_currency_13 : decode c_L_currency 13 = .ok (.ifCond .eq 7, 3) := by decide +kernel
theorem d_L_currency_16 : decode c_L_currency 16 = .ok (.lconst 1, 1) := by decide +kernel
theorem d_L_currency_17 : decode c_L_currency 17 = .ok (.goto 4, 3) := by decide +kernel
theorem d_L_currency_20 : decode c_L_currency 20 = .ok (.lconst 0, 1) := by decide +kernel
theorem d_L_currency_21 : decode c_L_currency 21 = .ok (.lastore, 1) := by decide +kernel
theorem d_L_currency_22 : decode c_L_currency 22 = .ok (.goto 11, 3) := by decide +kernel
theorem d_L_currency_25 : decode c_L_currency 25 = .ok (.astore 9, 2) := by decide +kernel
theorem d_L_currency_27 : decode c_L_currency 27 = .ok (.iconst 1, 1) := by decide +kernel
theorem d_L_currency_28 : decode c_L_currency 28 = .ok (.ireturn, 1) := by decide +kernel
theorem d_L_currency_29 : decode c_L_currency 29 = .ok (.astore 9, 2) := by decide +kernel
theorem d_L_currency_31 : decode c_L_currency 31 = .ok (.iconst 2, 1) := by decide +kernel
theorem d_L_currency_32 : decode c_L_currency 32 = .ok (.ireturn, 1) := by decide +kernel
theorem d_L_currency_33 : decode c_L_currency 33 = .ok (.iconst 0, 1) := by decide +kernel
theorem d_L_currency_34 : decode c_L_currency 34 = .ok (.ireturn, 1) := by decide +kernel
theorem d_L_tooling_0 : decode c_L_tooling 0 = .ok (.aload_n 3, 1) := by decide +kernel
theorem d_L_tooling_1 : decode c_L_tooling 1 = .ok (.iconst 0, 1) := by decide +kernel
theorem d_L_tooling_2 : decode c_L_tooling 2 = .ok (.aload_n 0, 1) := by decide +kernel
theorem d_L_tooling_3 : decode c_L_tooling 3 = .ok (.lload_n 1, 1) := by decide +kernel
theorem d_L_tooling_4 : decode c_L_tooling 4 = .ok (.invokevirtual 39, 3) := by decide +kernel
theorem d_L_tooling_7 : decode c_L_tooling 7 = .ok (.ifCond .eq 7, 3) := by decide +kernel
theorem d_L_tooling_10 : decode c_L_tooling 10 = .ok (.lconst 1, 1) := by decide +kernel
theorem d_L_tooling_11 : decode c_L_tooling 11 = .ok (.goto 4, 3) := by decide +kernel
theorem d_L_tooling_14 : decode c_L_tooling 14 = .ok (.lconst 0, 1) := by decide +kernel
theorem d_L_tooling_15 : decode c_L_tooling 15 = .ok (.lastore, 1) := by decide +kernel
theorem d_L_tooling_16 : decode c_L_tooling 16 = .ok (.goto 7, 3) := by decide +kernel
theorem d_L_tooling_19 : decode c_L_tooling 19 = .ok (.astore 4, 2) := by decide +kernel
theorem d_L_tooling_21 : decode c_L_tooling 21 = .ok (.iconst 1, 1) := by decide +kernel
theorem d_L_tooling_22 : decode c_L_tooling 22 = .ok (.ireturn, 1) := by decide +kernel
theorem d_L_tooling_23 : decode c_L_tooling 23 = .ok (.iconst 0, 1) := by decide +kernel
theorem d_L_tooling_24 : decode c_L_tooling 24 = .ok (.ireturn, 1) := by decide +kernel
theorem d_L_stock_0 : decode c_L_stock 0 = .ok (.aload 4, 2) := by decide +kernel
theorem d_L_stock_2 : decode c_L_stock 2 = .ok (.iconst 0, 1) := by decide +kernel
theorem d_L_stock_3 : decode c_L_stock 3 = .ok (.aload_n 0, 1) := by decide +kernel
theorem d_L_stock_4 : decode c_L_stock 4 = .ok (.iload_n 1, 1) := by decide +kernel
theorem d_L_stock_5 : decode c_L_stock 5 = .ok (.lload_n 2, 1) := by decide +kernel
theorem d_L_stock_6 : decode c_L_stock 6 = .ok (.invokevirtual 43, 3) := by decide +kernel
theorem d_L_stock_9 : decode c_L_stock 9 = .ok (.ifCond .eq 7, 3) := by decide +kernel
theorem d_L_stock_12 : decode c_L_stock 12 = .ok (.lconst 1, 1) := by decide +kernel
theorem d_L_stock_13 : decode c_L_stock 13 = .ok (.goto 4, 3) := by decide +kernel
theorem d_L_stock_16 : decode c_L_stock 16 = .ok (.lconst 0, 1) := by decide +kernel
theorem d_L_stock_17 : decode c_L_stock 17 = .ok (.lastore, 1) := by decide +kernel
theorem d_L_stock_18 : decode c_L_stock 18 = .ok (.goto 11, 3) := by decide +kernel
theorem d_L_stock_21 : decode c_L_stock 21 = .ok (.astore 5, 2) := by decide +kernel
theorem d_L_stock_23 : decode c_L_stock 23 = .ok (.iconst 1, 1) := by decide +kernel
theorem d_L_stock_24 : decode c_L_stock 24 = .ok (.ireturn, 1) := by decide +kernel
theorem d_L_stock_25 : decode c_L_stock 25 = .ok (.astore 5, 2) := by decide +kernel
theorem d_L_stock_27 : decode c_L_stock 27 = .ok (.iconst 2, 1) := by decide +kernel
theorem d_L_stock_28 : decode c_L_stock 28 = .ok (.ireturn, 1) := by decide +kernel
theorem d_L_stock_29 : decode c_L_stock 29 = .ok (.iconst 0, 1) := by decide +kernel
theorem d_L_stock_30 : decode c_L_stock 30 = .ok (.ireturn, 1) := by decide +kernel
theorem d_L_total_0 : decode c_L_total 0 = .ok (.aload 6, 2) := by decide +kernel
theorem d_L_total_2 : decode c_L_total 2 = .ok (.iconst 0, 1) := by decide +kernel
theorem d_L_total_3 : decode c_L_total 3 = .ok (.aload_n 0, 1) := by decide +kernel
theorem d_L_total_4 : decode c_L_total 4 = .ok (.lload_n 1, 1) := by decide +kernel
theorem d_L_total_5 : decode c_L_total 5 = .ok (.iload_n 3, 1) := by decide +kernel
theorem d_L_total_6 : decode c_L_total 6 = .ok (.lload 4, 2) := by decide +kernel
theorem d_L_total_8 : decode c_L_total 8 = .ok (.invokevirtual 46, 3) := by decide +kernel
theorem d_L_total_11 : decode c_L_total 11 = .ok (.lastore, 1) := by decide +kernel
theorem d_L_total_12 : decode c_L_total 12 = .ok (.goto 11, 3) := by decide +kernel
theorem d_L_total_15 : decode c_L_total 15 = .ok (.astore 7, 2) := by decide +kernel
theorem d_L_total_17 : decode c_L_total 17 = .ok (.iconst 1, 1) := by decide +kernel
theorem d_L_total_18 : decode c_L_total 18 = .ok (.ireturn, 1) := by decide +kernel
theorem d_L_total_19 : decode c_L_total 19 = .ok (.astore 7, 2) := by decide +kernel
theorem d_L_total_21 : decode c_L_total 21 = .ok (.iconst 2, 1) := by decide +kernel
theorem d_L_total_22 : decode c_L_total 22 = .ok (.ireturn, 1) := by decide +kernel
theorem d_L_total_23 : decode c_L_total 23 = .ok (.iconst 0, 1) := by decide +kernel
theorem d_L_total_24 : decode c_L_total 24 = .ok (.ireturn, 1) := by decide +kernel
theorem d_L_best_0 : decode c_L_best 0 = .ok (.aload 5, 2) := by decide +kernel
theorem d_L_best_2 : decode c_L_best 2 = .ok (.iconst 0, 1) := by decide +kernel
theorem d_L_best_3 : decode c_L_best 3 = .ok (.aload_n 0, 1) := by decide +kernel
theorem d_L_best_4 : decode c_L_best 4 = .ok (.lload_n 1, 1) := by decide +kernel
theorem d_L_best_5 : decode c_L_best 5 = .ok (.lload_n 3, 1) := by decide +kernel
theorem d_L_best_6 : decode c_L_best 6 = .ok (.invokevirtual 50, 3) := by decide +kernel
theorem d_L_best_9 : decode c_L_best 9 = .ok (.i2l, 1) := by decide +kernel
theorem d_L_best_10 : decode c_L_best 10 = .ok (.lastore, 1) := by decide +kernel
theorem d_L_best_11 : decode c_L_best 11 = .ok (.goto 7, 3) := by decide +kernel
theorem d_L_best_14 : decode c_L_best 14 = .ok (.astore 6, 2) := by decide +kernel
theorem d_L_best_16 : decode c_L_best 16 = .ok (.iconst 1, 1) := by decide +kernel
theorem d_L_best_17 : decode c_L_best 17 = .ok (.ireturn, 1) := by decide +kernel
theorem d_L_best_18 : decode c_L_best 18 = .ok (.iconst 0, 1) := by decide +kernel
theorem d_L_best_19 : decode c_L_best 19 = .ok (.ireturn, 1) := by decide +kernel
theorem d_L_each_0 : decode c_L_each 0 = .ok (.aload 7, 2) := by decide +kernel
theorem d_L_each_2 : decode c_L_each 2 = .ok (.iconst 0, 1) := by decide +kernel
theorem d_L_each_3 : decode c_L_each 3 = .ok (.aload_n 0, 1) := by decide +kernel
theorem d_L_each_4 : decode c_L_each 4 = .ok (.lload_n 1, 1) := by decide +kernel
theorem d_L_each_5 : decode c_L_each 5 = .ok (.iload_n 3, 1) := by decide +kernel
theorem d_L_each_6 : decode c_L_each 6 = .ok (.lload 4, 2) := by decide +kernel
theorem d_L_each_8 : decode c_L_each 8 = .ok (.iload 6, 2) := by decide +kernel
theorem d_L_each_10 : decode c_L_each 10 = .ok (.invokevirtual 54, 3) := by decide +kernel
theorem d_L_each_13 : decode c_L_each 13 = .ok (.lastore, 1) := by decide +kernel
theorem d_L_each_14 : decode c_L_each 14 = .ok (.goto 11, 3) := by decide +kernel
theorem d_L_each_17 : decode c_L_each 17 = .ok (.astore 8, 2) := by decide +kernel
theorem d_L_each_19 : decode c_L_each 19 = .ok (.iconst 1, 1) := by decide +kernel
theorem d_L_each_20 : decode c_L_each 20 = .ok (.ireturn, 1) := by decide +kernel
theorem d_L_each_21 : decode c_L_each 21 = .ok (.astore 8, 2) := by decide +kernel
theorem d_L_each_23 : decode c_L_each 23 = .ok (.iconst 2, 1) := by decide +kernel
theorem d_L_each_24 : decode c_L_each 24 = .ok (.ireturn, 1) := by decide +kernel
theorem d_L_each_25 : decode c_L_each 25 = .ok (.iconst 0, 1) := by decide +kernel
theorem d_L_each_26 : decode c_L_each 26 = .ok (.ireturn, 1) := by decide +kernel
theorem d_L_suppliers_0 : decode c_L_suppliers 0 = .ok (.aload 4, 2) := by decide +kernel
theorem d_L_suppliers_2 : decode c_L_suppliers 2 = .ok (.iconst 0, 1) := by decide +kernel
theorem d_L_suppliers_3 : decode c_L_suppliers 3 = .ok (.aload_n 0, 1) := by decide +kernel
theorem d_L_suppliers_4 : decode c_L_suppliers 4 = .ok (.lload_n 1, 1) := by decide +kernel
theorem d_L_suppliers_5 : decode c_L_suppliers 5 = .ok (.iload_n 3, 1) := by decide +kernel
theorem d_L_suppliers_6 : decode c_L_suppliers 6 = .ok (.invokevirtual 58, 3) := by decide +kernel
theorem d_L_suppliers_9 : decode c_L_suppliers 9 = .ok (.i2l, 1) := by decide +kernel
theorem d_L_suppliers_10 : decode c_L_suppliers 10 = .ok (.lastore, 1) := by decide +kernel
theorem d_L_suppliers_11 : decode c_L_suppliers 11 = .ok (.goto 11, 3) := by decide +kernel
theorem d_L_suppliers_14 : decode c_L_suppliers 14 = .ok (.astore 5, 2) := by decide +kernel
theorem d_L_suppliers_16 : decode c_L_suppliers 16 = .ok (.iconst 1, 1) := by decide +kernel
theorem d_L_suppliers_17 : decode c_L_suppliers 17 = .ok (.ireturn, 1) := by decide +kernel
theorem d_L_suppliers_18 : decode c_L_suppliers 18 = .ok (.astore 5, 2) := by decide +kernel
theorem d_L_suppliers_20 : decode c_L_suppliers 20 = .ok (.iconst 2, 1) := by decide +kernel
theorem d_L_suppliers_21 : decode c_L_suppliers 21 = .ok (.ireturn, 1) := by decide +kernel
theorem d_L_suppliers_22 : decode c_L_suppliers 22 = .ok (.iconst 0, 1) := by decide +kernel
theorem d_L_suppliers_23 : decode c_L_suppliers 23 = .ok (.ireturn, 1) := by decide +kernel
theorem d_L_alternate_0 : decode c_L_alternate 0 = .ok (.aload_n 3, 1) := by decide +kernel
theorem d_L_alternate_1 : decode c_L_alternate 1 = .ok (.iconst 0, 1) := by decide +kernel
theorem d_L_alternate_2 : decode c_L_alternate 2 = .ok (.aload_n 0, 1) := by decide +kernel
theorem d_L_alternate_3 : decode c_L_alternate 3 = .ok (.iload_n 1, 1) := by decide +kernel
theorem d_L_alternate_4 : decode c_L_alternate 4 = .ok (.iload_n 2, 1) := by decide +kernel
theorem d_L_alternate_5 : decode c_L_alternate 5 = .ok (.invokevirtual 62, 3) := by decide +kernel
theorem d_L_alternate_8 : decode c_L_alternate 8 = .ok (.ifCond .eq 7, 3) := by decide +kernel
theorem d_L_alternate_11 : decode c_L_alternate 11 = .ok (.lconst 1, 1) := by decide +kernel
theorem d_L_alternate_12 : decode c_L_alternate 12 = .ok (.goto 4, 3) := by decide +kernel
theorem d_L_alternate_15 : decode c_L_alternate 15 = .ok (.lconst 0, 1) := by decide +kernel
theorem d_L_alternate_16 : decode c_L_alternate 16 = .ok (.lastore, 1) := by decide +kernel
theorem d_L_alternate_17 : decode c_L_alternate 17 = .ok (.goto 7, 3) := by decide +kernel
theorem d_L_alternate_20 : decode c_L_alternate 20 = .ok (.astore 4, 2) := by decide +kernel
theorem d_L_alternate_22 : decode c_L_alternate 22 = .ok (.iconst 1, 1) := by decide +kernel
theorem d_L_alternate_23 : decode c_L_alternate 23 = .ok (.ireturn, 1) := by decide +kernel
theorem d_L_alternate_24 : decode c_L_alternate 24 = .ok (.iconst 0, 1) := by decide +kernel
theorem d_L_alternate_25 : decode c_L_alternate 25 = .ok (.ireturn, 1) := by decide +kernel
theorem d_L_row_0 : decode c_L_row 0 = .ok (.aload_n 3, 1) := by decide +kernel
theorem d_L_row_1 : decode c_L_row 1 = .ok (.iconst 0, 1) := by decide +kernel
theorem d_L_row_2 : decode c_L_row 2 = .ok (.aload_n 0, 1) := by decide +kernel
theorem d_L_row_3 : decode c_L_row 3 = .ok (.iload_n 1, 1) := by decide +kernel
theorem d_L_row_4 : decode c_L_row 4 = .ok (.iload_n 2, 1) := by decide +kernel
theorem d_L_row_5 : decode c_L_row 5 = .ok (.invokevirtual 66, 3) := by decide +kernel
theorem d_L_row_8 : decode c_L_row 8 = .ok (.i2l, 1) := by decide +kernel
theorem d_L_row_9 : decode c_L_row 9 = .ok (.lastore, 1) := by decide +kernel
theorem d_L_row_10 : decode c_L_row 10 = .ok (.goto 7, 3) := by decide +kernel
theorem d_L_row_13 : decode c_L_row 13 = .ok (.astore 4, 2) := by decide +kernel
theorem d_L_row_15 : decode c_L_row 15 = .ok (.iconst 1, 1) := by decide +kernel
theorem d_L_row_16 : decode c_L_row 16 = .ok (.ireturn, 1) := by decide +kernel
theorem d_L_row_17 : decode c_L_row 17 = .ok (.iconst 0, 1) := by decide +kernel
theorem d_L_row_18 : decode c_L_row 18 = .ok (.ireturn, 1) := by decide +kernel
theorem d_JI_bitCount_0 : decode c_JI_bitCount 0 = .ok (.iload_n 0, 1) := by decide +kernel
theorem d_JI_bitCount_1 : decode c_JI_bitCount 1 = .ok (.iload_n 0, 1) := by decide +kernel
theorem d_JI_bitCount_2 : decode c_JI_bitCount 2 = .ok (.iconst 1, 1) := by decide +kernel
theorem d_JI_bitCount_3 : decode c_JI_bitCount 3 = .ok (.iushr, 1) := by decide +kernel
theorem d_JI_bitCount_4 : decode c_JI_bitCount 4 = .ok (.ldc_w 265, 3) := by decide +kernel
theorem d_JI_bitCount_7 : decode c_JI_bitCount 7 = .ok (.iand, 1) := by decide +kernel
theorem d_JI_bitCount_8 : decode c_JI_bitCount 8 = .ok (.isub, 1) := by decide +kernel
theorem d_JI_bitCount_9 : decode c_JI_bitCount 9 = .ok (.istore_n 0, 1) := by decide +kernel
theorem d_JI_bitCount_10 : decode c_JI_bitCount 10 = .ok (.iload_n 0, 1) := by decide +kernel
theorem d_JI_bitCount_11 : decode c_JI_bitCount 11 = .ok (.ldc_w 266, 3) := by decide +kernel
theorem d_JI_bitCount_14 : decode c_JI_bitCount 14 = .ok (.iand, 1) := by decide +kernel
theorem d_JI_bitCount_15 : decode c_JI_bitCount 15 = .ok (.iload_n 0, 1) := by decide +kernel
theorem d_JI_bitCount_16 : decode c_JI_bitCount 16 = .ok (.iconst 2, 1) := by decide +kernel
theorem d_JI_bitCount_17 : decode c_JI_bitCount 17 = .ok (.iushr, 1) := by decide +kernel
theorem d_JI_bitCount_18 : decode c_JI_bitCount 18 = .ok (.ldc_w 266, 3) := by decide +kernel
theorem d_JI_bitCount_21 : decode c_JI_bitCount 21 = .ok (.iand, 1) := by decide +kernel
theorem d_JI_bitCount_22 : decode c_JI_bitCount 22 = .ok (.iadd, 1) := by decide +kernel
theorem d_JI_bitCount_23 : decode c_JI_bitCount 23 = .ok (.istore_n 0, 1) := by decide +kernel
theorem d_JI_bitCount_24 : decode c_JI_bitCount 24 = .ok (.iload_n 0, 1) := by decide +kernel
theorem d_JI_bitCount_25 : decode c_JI_bitCount 25 = .ok (.iload_n 0, 1) := by decide +kernel
theorem d_JI_bitCount_26 : decode c_JI_bitCount 26 = .ok (.iconst 4, 1) := by decide +kernel
theorem d_JI_bitCount_27 : decode c_JI_bitCount 27 = .ok (.iushr, 1) := by decide +kernel
theorem d_JI_bitCount_28 : decode c_JI_bitCount 28 = .ok (.iadd, 1) := by decide +kernel
theorem d_JI_bitCount_29 : decode c_JI_bitCount 29 = .ok (.ldc_w 267, 3) := by decide +kernel
theorem d_JI_bitCount_32 : decode c_JI_bitCount 32 = .ok (.iand, 1) := by decide +kernel
theorem d_JI_bitCount_33 : decode c_JI_bitCount 33 = .ok (.istore_n 0, 1) := by decide +kernel
theorem d_JI_bitCount_34 : decode c_JI_bitCount 34 = .ok (.iload_n 0, 1) := by decide +kernel
theorem d_JI_bitCount_35 : decode c_JI_bitCount 35 = .ok (.iload_n 0, 1) := by decide +kernel
theorem d_JI_bitCount_36 : decode c_JI_bitCount 36 = .ok (.bipush 8, 2) := by decide +kernel
theorem d_JI_bitCount_38 : decode c_JI_bitCount 38 = .ok (.iushr, 1) := by decide +kernel
theorem d_JI_bitCount_39 : decode c_JI_bitCount 39 = .ok (.iadd, 1) := by decide +kernel
theorem d_JI_bitCount_40 : decode c_JI_bitCount 40 = .ok (.istore_n 0, 1) := by decide +kernel
theorem d_JI_bitCount_41 : decode c_JI_bitCount 41 = .ok (.iload_n 0, 1) := by decide +kernel
theorem d_JI_bitCount_42 : decode c_JI_bitCount 42 = .ok (.iload_n 0, 1) := by decide +kernel
theorem d_JI_bitCount_43 : decode c_JI_bitCount 43 = .ok (.bipush 16, 2) := by decide +kernel
theorem d_JI_bitCount_45 : decode c_JI_bitCount 45 = .ok (.iushr, 1) := by decide +kernel
theorem d_JI_bitCount_46 : decode c_JI_bitCount 46 = .ok (.iadd, 1) := by decide +kernel
theorem d_JI_bitCount_47 : decode c_JI_bitCount 47 = .ok (.istore_n 0, 1) := by decide +kernel
theorem d_JI_bitCount_48 : decode c_JI_bitCount 48 = .ok (.iload_n 0, 1) := by decide +kernel
theorem d_JI_bitCount_49 : decode c_JI_bitCount 49 = .ok (.bipush 63, 2) := by decide +kernel
theorem d_JI_bitCount_51 : decode c_JI_bitCount 51 = .ok (.iand, 1) := by decide +kernel
theorem d_JI_bitCount_52 : decode c_JI_bitCount 52 = .ok (.ireturn, 1) := by decide +kernel
end
section
theorem d_M_init_0 : decode c_M_init 0 = .ok (.aload_n 0, 1) := by decide +kernel
theorem d_M_init_1 : decode c_M_init 1 = .ok (.invokespecial 1, 3) := by decide +kernel
theorem d_M_init_4 : decode c_M_init 4 = .ok (.aload_n 0, 1) := by decide +kernel
theorem d_M_init_5 : decode c_M_init 5 = .ok (.sipush 248, 3) := by decide +kernel
theorem d_M_init_8 : decode c_M_init 8 = .ok (.newarray .int, 2) := by decide +kernel
theorem d_M_init_10 : decode c_M_init 10 = .ok (.putfield 7, 3) := by decide +kernel
theorem d_M_init_13 : decode c_M_init 13 = .ok (.aload_n 0, 1) := by decide +kernel
theorem d_M_init_14 : decode c_M_init 14 = .ok (.sipush 1488, 3) := by decide +kernel
theorem d_M_init_17 : decode c_M_init 17 = .ok (.newarray .long, 2) := by decide +kernel
theorem d_M_init_19 : decode c_M_init 19 = .ok (.putfield 13, 3) := by decide +kernel
theorem d_M_init_22 : decode c_M_init 22 = .ok (.aload_n 0, 1) := by decide +kernel
theorem d_M_init_23 : decode c_M_init 23 = .ok (.sipush 1488, 3) := by decide +kernel
theorem d_M_init_26 : decode c_M_init 26 = .ok (.newarray .long, 2) := by decide +kernel
theorem d_M_init_28 : decode c_M_init 28 = .ok (.putfield 17, 3) := by decide +kernel
theorem d_M_init_31 : decode c_M_init 31 = .ok (.aload_n 0, 1) := by decide +kernel
theorem d_M_init_32 : decode c_M_init 32 = .ok (.bipush 30, 2) := by decide +kernel
theorem d_M_init_34 : decode c_M_init 34 = .ok (.newarray .long, 2) := by decide +kernel
theorem d_M_init_36 : decode c_M_init 36 = .ok (.putfield 20, 3) := by decide +kernel
theorem d_M_init_39 : decode c_M_init 39 = .ok (.aload_n 0, 1) := by decide +kernel
theorem d_M_init_40 : decode c_M_init 40 = .ok (.bipush 30, 2) := by decide +kernel
theorem d_M_init_42 : decode c_M_init 42 = .ok (.newarray .long, 2) := by decide +kernel
theorem d_M_init_44 : decode c_M_init 44 = .ok (.putfield 23, 3) := by decide +kernel
theorem d_M_init_47 : decode c_M_init 47 = .ok (.aload_n 0, 1) := by decide +kernel
theorem d_M_init_48 : decode c_M_init 48 = .ok (.bipush 30, 2) := by decide +kernel
theorem d_M_init_50 : decode c_M_init 50 = .ok (.newarray .int, 2) := by decide +kernel
theorem d_M_init_52 : decode c_M_init 52 = .ok (.putfield 26, 3) := by decide +kernel
theorem d_M_init_55 : decode c_M_init 55 = .ok (.aload_n 0, 1) := by decide +kernel
theorem d_M_init_56 : decode c_M_init 56 = .ok (.bipush 8, 2) := by decide +kernel
theorem d_M_init_58 : decode c_M_init 58 = .ok (.newarray .long, 2) := by decide +kernel
theorem d_M_init_60 : decode c_M_init 60 = .ok (.putfield 29, 3) := by decide +kernel
theorem d_M_init_63 : decode c_M_init 63 = .ok (.aload_n 0, 1) := by decide +kernel
theorem d_M_init_64 : decode c_M_init 64 = .ok (.bipush 8, 2) := by decide +kernel
theorem d_M_init_66 : decode c_M_init 66 = .ok (.newarray .long, 2) := by decide +kernel
theorem d_M_init_68 : decode c_M_init 68 = .ok (.putfield 32, 3) := by decide +kernel
theorem d_M_init_71 : decode c_M_init 71 = .ok (.aload_n 0, 1) := by decide +kernel
theorem d_M_init_72 : decode c_M_init 72 = .ok (.bipush 8, 2) := by decide +kernel
theorem d_M_init_74 : decode c_M_init 74 = .ok (.newarray .long, 2) := by decide +kernel
theorem d_M_init_76 : decode c_M_init 76 = .ok (.putfield 35, 3) := by decide +kernel
theorem d_M_init_79 : decode c_M_init 79 = .ok (.aload_n 0, 1) := by decide +kernel
theorem d_M_init_80 : decode c_M_init 80 = .ok (.bipush 8, 2) := by decide +kernel
theorem d_M_init_82 : decode c_M_init 82 = .ok (.newarray .long, 2) := by decide +kernel
theorem d_M_init_84 : decode c_M_init 84 = .ok (.putfield 38, 3) := by decide +kernel
theorem d_M_init_87 : decode c_M_init 87 = .ok (.aload_n 0, 1) := by decide +kernel
theorem d_M_init_88 : decode c_M_init 88 = .ok (.bipush 8, 2) := by decide +kernel
theorem d_M_init_90 : decode c_M_init 90 = .ok (.newarray .int, 2) := by decide +kernel
theorem d_M_init_92 : decode c_M_init 92 = .ok (.putfield 41, 3) := by decide +kernel
theorem d_M_init_95 : decode c_M_init 95 = .ok (.aload_n 0, 1) := by decide +kernel
theorem d_M_init_96 : decode c_M_init 96 = .ok (.bipush 48, 2) := by decide +kernel
theorem d_M_init_98 : decode c_M_init 98 = .ok (.newarray .long, 2) := by decide +kernel
theorem d_M_init_100 : decode c_M_init 100 = .ok (.putfield 44, 3) := by decide +kernel
theorem d_M_init_103 : decode c_M_init 103 = .ok (.aload_n 0, 1) := by decide +kernel
theorem d_M_init_104 : decode c_M_init 104 = .ok (.bipush 48, 2) := by decide +kernel
theorem d_M_init_106 : decode c_M_init 106 = .ok (.newarray .long, 2) := by decide +kernel
theorem d_M_init_108 : decode c_M_init 108 = .ok (.putfield 47, 3) := by decide +kernel
theorem d_M_init_111 : decode c_M_init 111 = .ok (.aload_n 0, 1) := by decide +kernel
theorem d_M_init_112 : decode c_M_init 112 = .ok (.bipush 48, 2) := by decide +kernel
theorem d_M_init_114 : decode c_M_init 114 = .ok (.newarray .long, 2) := by decide +kernel
theorem d_M_init_116 : decode c_M_init 116 = .ok (.putfield 50, 3) := by decide +kernel
theorem d_M_init_119 : decode c_M_init 119 = .ok (.aload_n 0, 1) := by decide +kernel
theorem d_M_init_120 : decode c_M_init 120 = .ok (.bipush 33, 2) := by decide +kernel
theorem d_M_init_122 : decode c_M_init 122 = .ok (.newarray .long, 2) := by decide +kernel
theorem d_M_init_124 : decode c_M_init 124 = .ok (.putfield 53, 3) := by decide +kernel
theorem d_M_init_127 : decode c_M_init 127 = .ok (.aload_n 0, 1) := by decide +kernel
theorem d_M_init_128 : decode c_M_init 128 = .ok (.bipush 33, 2) := by decide +kernel
theorem d_M_init_130 : decode c_M_init 130 = .ok (.newarray .long, 2) := by decide +kernel
theorem d_M_init_132 : decode c_M_init 132 = .ok (.putfield 56, 3) := by decide +kernel
theorem d_M_init_135 : decode c_M_init 135 = .ok (.aload_n 0, 1) := by decide +kernel
theorem d_M_init_136 : decode c_M_init 136 = .ok (.bipush 33, 2) := by decide +kernel
theorem d_M_init_138 : decode c_M_init 138 = .ok (.newarray .int, 2) := by decide +kernel
theorem d_M_init_140 : decode c_M_init 140 = .ok (.putfield 59, 3) := by decide +kernel
theorem d_M_init_143 : decode c_M_init 143 = .ok (.aload_n 0, 1) := by decide +kernel
theorem d_M_init_144 : decode c_M_init 144 = .ok (.bipush 33, 2) := by decide +kernel
theorem d_M_init_146 : decode c_M_init 146 = .ok (.newarray .int, 2) := by decide +kernel
theorem d_M_init_148 : decode c_M_init 148 = .ok (.putfield 62, 3) := by decide +kernel
theorem d_M_init_151 : decode c_M_init 151 = .ok (.aload_n 0, 1) := by decide +kernel
theorem d_M_init_152 : decode c_M_init 152 = .ok (.bipush 33, 2) := by decide +kernel
theorem d_M_init_154 : decode c_M_init 154 = .ok (.newarray .long, 2) := by decide +kernel
theorem d_M_init_156 : decode c_M_init 156 = .ok (.putfield 65, 3) := by decide +kernel
theorem d_M_init_159 : decode c_M_init 159 = .ok (.aload_n 0, 1) := by decide +kernel
theorem d_M_init_160 : decode c_M_init 160 = .ok (.bipush 33, 2) := by decide +kernel
theorem d_M_init_162 : decode c_M_init 162 = .ok (.newarray .long, 2) := by decide +kernel
theorem d_M_init_164 : decode c_M_init 164 = .ok (.putfield 68, 3) := by decide +kernel
theorem d_M_init_167 : decode c_M_init 167 = .ok (.aload_n 0, 1) := by decide +kernel
theorem d_M_init_168 : decode c_M_init 168 = .ok (.bipush 33, 2) := by decide +kernel
theorem d_M_init_170 : decode c_M_init 170 = .ok (.newarray .int, 2) := by decide +kernel
theorem d_M_init_172 : decode c_M_init 172 = .ok (.putfield 71, 3) := by decide +kernel
theorem d_M_init_175 : decode c_M_init 175 = .ok (.aload_n 0, 1) := by decide +kernel
theorem d_M_init_176 : decode c_M_init 176 = .ok (.bipush 33, 2) := by decide +kernel
theorem d_M_init_178 : decode c_M_init 178 = .ok (.newarray .int, 2) := by decide +kernel
theorem d_M_init_180 : decode c_M_init 180 = .ok (.putfield 74, 3) := by decide +kernel
theorem d_M_init_183 : decode c_M_init 183 = .ok (.aload_n 0, 1) := by decide +kernel
theorem d_M_init_184 : decode c_M_init 184 = .ok (.bipush 33, 2) := by decide +kernel
theorem d_M_init_186 : decode c_M_init 186 = .ok (.newarray .long, 2) := by decide +kernel
theorem d_M_init_188 : decode c_M_init 188 = .ok (.putfield 77, 3) := by decide +kernel
theorem d_M_init_191 : decode c_M_init 191 = .ok (.return_, 1) := by decide +kernel
theorem d_M_thrown_0 : decode c_M_thrown 0 = .ok (.aload_n 0, 1) := by decide +kernel
theorem d_M_thrown_1 : decode c_M_thrown 1 = .ok (.getfield 80, 3) := by decide +kernel
theorem d_M_thrown_4 : decode c_M_thrown 4 = .ok (.ireturn, 1) := by decide +kernel
theorem d_M_isPart_0 : decode c_M_isPart 0 = .ok (.iload_n 1, 1) := by decide +kernel
theorem d_M_isPart_1 : decode c_M_isPart 1 = .ok (.ifCond .lt 15, 3) := by decide +kernel
theorem d_M_isPart_4 : decode c_M_isPart 4 = .ok (.iload_n 1, 1) := by decide +kernel
theorem d_M_isPart_5 : decode c_M_isPart 5 = .ok (.aload_n 0, 1) := by decide +kernel
theorem d_M_isPart_6 : decode c_M_isPart 6 = .ok (.getfield 84, 3) := by decide +kernel
theorem d_M_isPart_9 : decode c_M_isPart 9 = .ok (.if_icmp .ge 7, 3) := by decide +kernel
theorem d_M_isPart_12 : decode c_M_isPart 12 = .ok (.iconst 1, 1) := by decide +kernel
theorem d_M_isPart_13 : decode c_M_isPart 13 = .ok (.goto 4, 3) := by decide +kernel
theorem d_M_isPart_16 : decode c_M_isPart 16 = .ok (.iconst 0, 1) := by decide +kernel
theorem d_M_isPart_17 : decode c_M_isPart 17 = .ok (.ireturn, 1) := by decide +kernel
theorem d_M_isMaker_0 : decode c_M_isMaker 0 = .ok (.iload_n 0, 1) := by decide +kernel
theorem d_M_isMaker_1 : decode c_M_isMaker 1 = .ok (.ifCond .lt 13, 3) := by decide +kernel
theorem d_M_isMaker_4 : decode c_M_isMaker 4 = .ok (.iload_n 0, 1) := by decide +kernel
theorem d_M_isMaker_5 : decode c_M_isMaker 5 = .ok (.bipush 8, 2) := by decide +kernel
theorem d_M_isMaker_7 : decode c_M_isMaker 7 = .ok (.if_icmp .ge 7, 3) := by decide +kernel
theorem d_M_isMaker_10 : decode c_M_isMaker 10 = .ok (.iconst 1, 1) := by decide +kernel
theorem d_M_isMaker_11 : decode c_M_isMaker 11 = .ok (.goto 4, 3) := by decide +kernel
theorem d_M_isMaker_14 : decode c_M_isMaker 14 = .ok (.iconst 0, 1) := by decide +kernel
theorem d_M_isMaker_15 : decode c_M_isMaker 15 = .ok (.ireturn, 1) := by decide +kernel
theorem d_M_within_0 : decode c_M_within 0 = .ok (.lload_n 0, 1) := by decide +kernel
theorem d_M_within_1 : decode c_M_within 1 = .ok (.lload_n 2, 1) := by decide +kernel
theorem d_M_within_2 : decode c_M_within 2 = .ok (.lcmp, 1) := by decide +kernel
theorem d_M_within_3 : decode c_M_within 3 = .ok (.ifCond .lt 14, 3) := by decide +kernel
theorem d_M_within_6 : decode c_M_within 6 = .ok (.lload_n 0, 1) := by decide +kernel
theorem d_M_within_7 : decode c_M_within 7 = .ok (.lload 4, 2) := by decide +kernel
theorem d_M_within_9 : decode c_M_within 9 = .ok (.lcmp, 1) := by decide +kernel
theorem d_M_within_10 : decode c_M_within 10 = .ok (.ifCond .gt 7, 3) := by decide +kernel
theorem d_M_within_13 : decode c_M_within 13 = .ok (.iconst 1, 1) := by decide +kernel
theorem d_M_within_14 : decode c_M_within 14 = .ok (.goto 4, 3) := by decide +kernel
theorem d_M_within_17 : decode c_M_within 17 = .ok (.iconst 0, 1) := by decide +kernel
theorem d_M_within_18 : decode c_M_within 18 = .ok (.ireturn, 1) := by decide +kernel
theorem d_M_part_0 : decode c_M_part 0 = .ok (.aload_n 0, 1) := by decide +kernel
theorem d_M_part_1 : decode c_M_part 1 = .ok (.iconst 0, 1) := by decide +kernel
theorem d_M_part_2 : decode c_M_part 2 = .ok (.putfield 80, 3) := by decide +kernel
theorem d_M_part_5 : decode c_M_part 5 = .ok (.aload_n 0, 1) := by decide +kernel
theorem d_M_part_6 : decode c_M_part 6 = .ok (.getfield 84, 3) := by decide +kernel
theorem d_M_part_9 : decode c_M_part 9 = .ok (.bipush 30, 2) := by decide +kernel
theorem d_M_part_11 : decode c_M_part 11 = .ok (.if_icmp .ne 5, 3) := by decide +kernel
theorem d_M_part_14 : decode c_M_part 14 = .ok (.iconst (-1), 1) := by decide +kernel
theorem d_M_part_15 : decode c_M_part 15 = .ok (.ireturn, 1) := by decide +kernel
theorem d_M_part_16 : decode c_M_part 16 = .ok (.aload_n 0, 1) := by decide +kernel
theorem d_M_part_17 : decode c_M_part 17 = .ok (.dup, 1) := by decide +kernel
theorem d_M_part_18 : decode c_M_part 18 = .ok (.getfield 84, 3) := by decide +kernel
theorem d_M_part_21 : decode c_M_part 21 = .ok (.iconst 1, 1) := by decide +kernel
theorem d_M_part_22 : decode c_M_part 22 = .ok (.iadd, 1) := by decide +kernel
theorem d_M_part_23 : decode c_M_part 23 = .ok (.putfield 84, 3) := by decide +kernel
theorem d_M_part_26 : decode c_M_part 26 = .ok (.aload_n 0, 1) := by decide +kernel
theorem d_M_part_27 : decode c_M_part 27 = .ok (.getfield 84, 3) := by decide +kernel
theorem d_M_part_30 : decode c_M_part 30 = .ok (.iconst 1, 1) := by decide +kernel
theorem d_M_part_31 : decode c_M_part 31 = .ok (.isub, 1) := by decide +kernel
theorem d_M_part_32 : decode c_M_part 32 = .ok (.ireturn, 1) := by decide +kernel
theorem d_M_tellStep_0 : decode c_M_tellStep 0 = .ok (.bipush 6, 2) := by decide +kernel
theorem d_M_tellStep_2 : decode c_M_tellStep 2 = .ok (.iload_n 1, 1) := by decide +kernel
theorem d_M_tellStep_3 : decode c_M_tellStep 3 = .ok (.imul, 1) := by decide +kernel
theorem d_M_tellStep_4 : decode c_M_tellStep 4 = .ok (.istore 6, 2) := by decide +kernel
theorem d_M_tellStep_6 : decode c_M_tellStep 6 = .ok (.iload 6, 2) := by decide +kernel
theorem d_M_tellStep_8 : decode c_M_tellStep 8 = .ok (.bipush 6, 2) := by decide +kernel
theorem d_M_tellStep_10 : decode c_M_tellStep 10 = .ok (.iload_n 1, 1) := by decide +kernel
theorem d_M_tellStep_11 : decode c_M_tellStep 11 = .ok (.imul, 1) := by decide +kernel
theorem d_M_tellStep_12 : decode c_M_tellStep 12 = .ok (.aload_n 0, 1) := by decide +kernel
theorem d_M_tellStep_13 : decode c_M_tellStep 13 = .ok (.getfield 7, 3) := by decide +kernel
theorem d_M_tellStep_16 : decode c_M_tellStep 16 = .ok (.iload_n 1, 1) := by decide +kernel
theorem d_M_tellStep_17 : decode c_M_tellStep 17 = .ok (.iaload, 1) := by decide +kernel
theorem d_M_tellStep_18 : decode c_M_tellStep 18 = .ok (.iadd, 1) := by decide +kernel
theorem d_M_tellStep_19 : decode c_M_tellStep 19 = .ok (.if_icmp .ge 21, 3) := by decide +kernel
theorem d_M_tellStep_22 : decode c_M_tellStep 22 = .ok (.aload_n 0, 1) := by decide +kernel
theorem d_M_tellStep_23 : decode c_M_tellStep 23 = .ok (.getfield 13, 3) := by decide +kernel
theorem d_M_tellStep_26 : decode c_M_tellStep 26 = .ok (.iload 6, 2) := by decide +kernel
theorem d_M_tellStep_28 : decode c_M_tellStep 28 = .ok (.laload, 1) := by decide +kernel
theorem d_M_tellStep_29 : decode c_M_tellStep 29 = .ok (.lload_n 2, 1) := by decide +kernel
theorem d_M_tellStep_30 : decode c_M_tellStep 30 = .ok (.lcmp, 1) := by decide +kernel
theorem d_M_tellStep_31 : decode c_M_tellStep 31 = .ok (.ifCond .eq 9, 3) := by decide +kernel
theorem d_M_tellStep_34 : decode c_M_tellStep 34 = .ok (.iinc 6 1, 3) := by decide +kernel
theorem d_M_tellStep_37 : decode c_M_tellStep 37 = .ok (.goto (-31), 3) := by decide +kernel
theorem d_M_tellStep_40 : decode c_M_tellStep 40 = .ok (.iload 6, 2) := by decide +kernel
theorem d_M_tellStep_42 : decode c_M_tellStep 42 = .ok (.bipush 6, 2) := by decide +kernel
theorem d_M_tellStep_44 : decode c_M_tellStep 44 = .ok (.iload_n 1, 1) := by decide +kernel
theorem d_M_tellStep_45 : decode c_M_tellStep 45 = .ok (.imul, 1) := by decide +kernel
theorem d_M_tellStep_46 : decode c_M_tellStep 46 = .ok (.aload_n 0, 1) := by decide +kernel
theorem d_M_tellStep_47 : decode c_M_tellStep 47 = .ok (.getfield 7, 3) := by decide +kernel
theorem d_M_tellStep_50 : decode c_M_tellStep 50 = .ok (.iload_n 1, 1) := by decide +kernel
theorem d_M_tellStep_51 : decode c_M_tellStep 51 = .ok (.iaload, 1) := by decide +kernel
theorem d_M_tellStep_52 : decode c_M_tellStep 52 = .ok (.iadd, 1) := by decide +kernel
theorem d_M_tellStep_53 : decode c_M_tellStep 53 = .ok (.if_icmp .ge 7, 3) := by decide +kernel
theorem d_M_tellStep_56 : decode c_M_tellStep 56 = .ok (.iconst 1, 1) := by decide +kernel
theorem d_M_tellStep_57 : decode c_M_tellStep 57 = .ok (.goto 4, 3) := by decide +kernel
theorem d_M_tellStep_60 : decode c_M_tellStep 60 = .ok (.iconst 0, 1) := by decide +kernel
theorem d_M_tellStep_61 : decode c_M_tellStep 61 = .ok (.istore 7, 2) := by decide +kernel
theorem d_M_tellStep_63 : decode c_M_tellStep 63 = .ok (.iload 7, 2) := by decide +kernel
theorem d_M_tellStep_65 : decode c_M_tellStep 65 = .ok (.ifCond .eq 19, 3) := by decide +kernel
theorem d_M_tellStep_68 : decode c_M_tellStep 68 = .ok (.aload_n 0, 1) := by decide +kernel
theorem d_M_tellStep_69 : decode c_M_tellStep 69 = .ok (.getfield 17, 3) := by decide +kernel
theorem d_M_tellStep_72 : decode c_M_tellStep 72 = .ok (.iload 6, 2) := by decide +kernel
theorem d_M_tellStep_74 : decode c_M_tellStep 74 = .ok (.laload, 1) := by decide +kernel
theorem d_M_tellStep_75 : decode c_M_tellStep 75 = .ok (.lload 4, 2) := by decide +kernel
theorem d_M_tellStep_77 : decode c_M_tellStep 77 = .ok (.lcmp, 1) := by decide +kernel
theorem d_M_tellStep_78 : decode c_M_tellStep 78 = .ok (.ifCond .ne 19, 3) := by decide +kernel
theorem d_M_tellStep_81 : decode c_M_tellStep 81 = .ok (.goto 14, 3) := by decide +kernel
theorem d_M_tellStep_84 : decode c_M_tellStep 84 = .ok (.aload_n 0, 1) := by decide +kernel
theorem d_M_tellStep_85 : decode c_M_tellStep 85 = .ok (.getfield 7, 3) := by decide +kernel
theorem d_M_tellStep_88 : decode c_M_tellStep 88 = .ok (.iload_n 1, 1) := by decide +kernel
theorem d_M_tellStep_89 : decode c_M_tellStep 89 = .ok (.iaload, 1) := by decide +kernel
theorem d_M_tellStep_90 : decode c_M_tellStep 90 = .ok (.bipush 6, 2) := by decide +kernel
theorem d_M_tellStep_92 : decode c_M_tellStep 92 = .ok (.if_icmp .ne 5, 3) := by decide +kernel
theorem d_M_tellStep_95 : decode c_M_tellStep 95 = .ok (.iconst 0, 1) := by decide +kernel
theorem d_M_tellStep_96 : decode c_M_tellStep 96 = .ok (.ireturn, 1) := by decide +kernel
theorem d_M_tellStep_97 : decode c_M_tellStep 97 = .ok (.iload 7, 2) := by decide +kernel
theorem d_M_tellStep_99 : decode c_M_tellStep 99 = .ok (.ifCond .ne 13, 3) := by decide +kernel
theorem d_M_tellStep_102 : decode c_M_tellStep 102 = .ok (.aload_n 0, 1) := by decide +kernel
theorem d_M_tellStep_103 : decode c_M_tellStep 103 = .ok (.getfield 7, 3) := by decide +kernel
theorem d_M_tellStep_106 : decode c_M_tellStep 106 = .ok (.iload_n 1, 1) := by decide +kernel
theorem d_M_tellStep_107 : decode c_M_tellStep 107 = .ok (.dup2, 1) := by decide +kernel
theorem d_M_tellStep_108 : decode c_M_tellStep 108 = .ok (.iaload, 1) := by decide +kernel
theorem d_M_tellStep_109 : decode c_M_tellStep 109 = .ok (.iconst 1, 1) := by decide +kernel
theorem d_M_tellStep_110 : decode c_M_tellStep 110 = .ok (.iadd, 1) := by decide +kernel
theorem d_M_tellStep_111 : decode c_M_tellStep 111 = .ok (.iastore, 1) := by decide +kernel
theorem d_M_tellStep_112 : decode c_M_tellStep 112 = .ok (.aload_n 0, 1) := by decide +kernel
theorem d_M_tellStep_113 : decode c_M_tellStep 113 = .ok (.getfield 13, 3) := by decide +kernel
theorem d_M_tellStep_116 : decode c_M_tellStep 116 = .ok (.iload 6, 2) := by decide +kernel
theorem d_M_tellStep_118 : decode c_M_tellStep 118 = .ok (.lload_n 2, 1) := by decide +kernel
theorem d_M_tellStep_119 : decode c_M_tellStep 119 = .ok (.lastore, 1) := by decide +kernel
theorem d_M_tellStep_120 : decode c_M_tellStep 120 = .ok (.aload_n 0, 1) := by decide +kernel
theorem d_M_tellStep_121 : decode c_M_tellStep 121 = .ok (.getfield 17, 3) := by decide +kernel
theorem d_M_tellStep_124 : decode c_M_tellStep 124 = .ok (.iload 6, 2) := by decide +kernel
theorem d_M_tellStep_126 : decode c_M_tellStep 126 = .ok (.lload 4, 2) := by decide +kernel
theorem d_M_tellStep_128 : decode c_M_tellStep 128 = .ok (.lastore, 1) := by decide +kernel
theorem d_M_tellStep_129 : decode c_M_tellStep 129 = .ok (.iconst 1, 1) := by decide +kernel
theorem d_M_tellStep_130 : decode c_M_tellStep 130 = .ok (.ireturn, 1) := by decide +kernel
theorem d_M_price_0 : decode c_M_price 0 = .ok (.lload_n 3, 1) := by decide +kernel
theorem d_M_price_1 : decode c_M_price 1 = .ok (.lconst 1, 1) := by decide +kernel
theorem d_M_price_2 : decode c_M_price 2 = .ok (.ldc2_w 87, 3) := by decide +kernel
theorem d_M_price_5 : decode c_M_price 5 = .ok (.invokestatic 89, 3) := by decide +kernel
theorem d_M_price_8 : decode c_M_price 8 = .ok (.ifCond .eq 19, 3) := by decide +kernel
theorem d_M_price_11 : decode c_M_price 11 = .ok (.lload 5, 2) := by decide +kernel
theorem d_M_price_13 : decode c_M_price 13 = .ok (.lconst 1, 1) := by decide +kernel
theorem d_M_price_14 : decode c_M_price 14 = .ok (.ldc2_w 93, 3) := by decide +kernel
theorem d_M_price_17 : decode c_M_price 17 = .ok (.invokestatic 89, 3) := by decide +kernel
theorem d_M_price_20 : decode c_M_price 20 = .ok (.ifCond .eq 7, 3) := by decide +kernel
theorem d_M_price_23 : decode c_M_price 23 = .ok (.iconst 1, 1) := by decide +kernel
theorem d_M_price_24 : decode c_M_price 24 = .ok (.goto 4, 3) := by decide +kernel
theorem d_M_price_27 : decode c_M_price 27 = .ok (.iconst 0, 1) := by decide +kernel
theorem d_M_price_28 : decode c_M_price 28 = .ok (.istore 7, 2) := by decide +kernel
theorem d_M_price_30 : decode c_M_price 30 = .ok (.aload_n 0, 1) := by decide +kernel
theorem d_M_price_31 : decode c_M_price 31 = .ok (.aload_n 0, 1) := by decide +kernel
theorem d_M_price_32 : decode c_M_price 32 = .ok (.iload_n 1, 1) := by decide +kernel
theorem d_M_price_33 : decode c_M_price 33 = .ok (.invokevirtual 95, 3) := by decide +kernel
theorem d_M_price_36 : decode c_M_price 36 = .ok (.ifCond .eq 10, 3) := by decide +kernel
theorem d_M_price_39 : decode c_M_price 39 = .ok (.iload_n 2, 1) := by decide +kernel
theorem d_M_price_40 : decode c_M_price 40 = .ok (.invokestatic 99, 3) := by decide +kernel
theorem d_M_price_43 : decode c_M_price 43 = .ok (.ifCond .ne 7, 3) := by decide +kernel
theorem d_M_price_46 : decode c_M_price 46 = .ok (.iconst 1, 1) := by decide +kernel
theorem d_M_price_47 : decode c_M_price 47 = .ok (.goto 13, 3) := by decide +kernel
theorem d_M_price_50 : decode c_M_price 50 = .ok (.iload 7, 2) := by decide +kernel
theorem d_M_price_52 : decode c_M_price 52 = .ok (.ifCond .eq 7, 3) := by decide +kernel
theorem d_M_price_55 : decode c_M_price 55 = .ok (.iconst 0, 1) := by decide +kernel
theorem d_M_price_56 : decode c_M_price 56 = .ok (.goto 4, 3) := by decide +kernel
theorem d_M_price_59 : decode c_M_price 59 = .ok (.iconst 2, 1) := by decide +kernel
theorem d_M_price_60 : decode c_M_price 60 = .ok (.putfield 80, 3) := by decide +kernel
theorem d_M_price_63 : decode c_M_price 63 = .ok (.aload_n 0, 1) := by decide +kernel
theorem d_M_price_64 : decode c_M_price 64 = .ok (.getfield 80, 3) := by decide +kernel
theorem d_M_price_67 : decode c_M_price 67 = .ok (.ifCond .ne 23, 3) := by decide +kernel
theorem d_M_price_70 : decode c_M_price 70 = .ok (.aload_n 0, 1) := by decide +kernel
theorem d_M_price_71 : decode c_M_price 71 = .ok (.bipush 8, 2) := by decide +kernel
theorem d_M_price_73 : decode c_M_price 73 = .ok (.iload_n 1, 1) := by decide +kernel
theorem d_M_price_74 : decode c_M_price 74 = .ok (.imul, 1) := by decide +kernel
theorem d_M_price_75 : decode c_M_price 75 = .ok (.iload_n 2, 1) := by decide +kernel
theorem d_M_price_76 : decode c_M_price 76 = .ok (.iadd, 1) := by decide +kernel
theorem d_M_price_77 : decode c_M_price 77 = .ok (.lload_n 3, 1) := by decide +kernel
theorem d_M_price_78 : decode c_M_price 78 = .ok (.lload 5, 2) := by decide +kernel
theorem d_M_price_80 : decode c_M_price 80 = .ok (.invokevirtual 102, 3) := by decide +kernel
theorem d_M_price_83 : decode c_M_price 83 = .ok (.ifCond .eq 7, 3) := by decide +kernel
theorem d_M_price_86 : decode c_M_price 86 = .ok (.iconst 1, 1) := by decide +kernel
theorem d_M_price_87 : decode c_M_price 87 = .ok (.goto 4, 3) := by decide +kernel
theorem d_M_price_90 : decode c_M_price 90 = .ok (.iconst 0, 1) := by decide +kernel
theorem d_M_price_91 : decode c_M_price 91 = .ok (.ireturn, 1) := by decide +kernel
theorem d_M_board_0 : decode c_M_board 0 = .ok (.lload_n 2, 1) := by decide +kernel
theorem d_M_board_1 : decode c_M_board 1 = .ok (.lconst 1, 1) := by decide +kernel
theorem d_M_board_2 : decode c_M_board 2 = .ok (.ldc2_w 87, 3) := by decide +kernel
theorem d_M_board_5 : decode c_M_board 5 = .ok (.invokestatic 89, 3) := by decide +kernel
theorem d_M_board_8 : decode c_M_board 8 = .ok (.ifCond .eq 19, 3) := by decide +kernel
theorem d_M_board_11 : decode c_M_board 11 = .ok (.lload 4, 2) := by decide +kernel
theorem d_M_board_13 : decode c_M_board 13 = .ok (.lconst 1, 1) := by decide +kernel
theorem d_M_board_14 : decode c_M_board 14 = .ok (.ldc2_w 93, 3) := by decide +kernel
theorem d_M_board_17 : decode c_M_board 17 = .ok (.invokestatic 89, 3) := by decide +kernel
theorem d_M_board_20 : decode c_M_board 20 = .ok (.ifCond .eq 7, 3) := by decide +kernel
theorem d_M_board_23 : decode c_M_board 23 = .ok (.iconst 1, 1) := by decide +kernel
theorem d_M_board_24 : decode c_M_board 24 = .ok (.goto 4, 3) := by decide +kernel
theorem d_M_board_27 : decode c_M_board 27 = .ok (.iconst 0, 1) := by decide +kernel
theorem d_M_board_28 : decode c_M_board 28 = .ok (.istore 6, 2) := by decide +kernel
theorem d_M_board_30 : decode c_M_board 30 = .ok (.aload_n 0, 1) := by decide +kernel
theorem d_M_board_31 : decode c_M_board 31 = .ok (.iload_n 1, 1) := by decide +kernel
theorem d_M_board_32 : decode c_M_board 32 = .ok (.invokestatic 99, 3) := by decide +kernel
theorem d_M_board_35 : decode c_M_board 35 = .ok (.ifCond .ne 7, 3) := by decide +kernel
theorem d_M_board_38 : decode c_M_board 38 = .ok (.iconst 1, 1) := by decide +kernel
theorem d_M_board_39 : decode c_M_board 39 = .ok (.goto 13, 3) := by decide +kernel
theorem d_M_board_42 : decode c_M_board 42 = .ok (.iload 6, 2) := by decide +kernel
theorem d_M_board_44 : decode c_M_board 44 = .ok (.ifCond .eq 7, 3) := by decide +kernel
theorem d_M_board_47 : decode c_M_board 47 = .ok (.iconst 0, 1) := by decide +kernel
theorem d_M_board_48 : decode c_M_board 48 = .ok (.goto 4, 3) := by decide +kernel
theorem d_M_board_51 : decode c_M_board 51 = .ok (.iconst 2, 1) := by decide +kernel
theorem d_M_board_52 : decode c_M_board 52 = .ok (.putfield 80, 3) := by decide +kernel
theorem d_M_board_55 : decode c_M_board 55 = .ok (.aload_n 0, 1) := by decide +kernel
theorem d_M_board_56 : decode c_M_board 56 = .ok (.getfield 80, 3) := by decide +kernel
theorem d_M_board_59 : decode c_M_board 59 = .ok (.ifCond .ne 22, 3) := by decide +kernel
theorem d_M_board_62 : decode c_M_board 62 = .ok (.aload_n 0, 1) := by decide +kernel
theorem d_M_board_63 : decode c_M_board 63 = .ok (.sipush 240, 3) := by decide +kernel
theorem d_M_board_66 : decode c_M_board 66 = .ok (.iload_n 1, 1) := by decide +kernel
theorem d_M_board_67 : decode c_M_board 67 = .ok (.iadd, 1) := by decide +kernel
theorem d_M_board_68 : decode c_M_board 68 = .ok (.lload_n 2, 1) := by decide +kernel
theorem d_M_board_69 : decode c_M_board 69 = .ok (.lload 4, 2) := by decide +kernel
theorem d_M_board_71 : decode c_M_board 71 = .ok (.invokevirtual 102, 3) := by decide +kernel
theorem d_M_board_74 : decode c_M_board 74 = .ok (.ifCond .eq 7, 3) := by decide +kernel
theorem d_M_board_77 : decode c_M_board 77 = .ok (.iconst 1, 1) := by decide +kernel
theorem d_M_board_78 : decode c_M_board 78 = .ok (.goto 4, 3) := by decide +kernel
theorem d_M_board_81 : decode c_M_board 81 = .ok (.iconst 0, 1) := by decide +kernel
theorem d_M_board_82 : decode c_M_board 82 = .ok (.ireturn, 1) := by decide +kernel
theorem d_M_uses_0 : decode c_M_uses 0 = .ok (.aload_n 0, 1) := by decide +kernel
theorem d_M_uses_1 : decode c_M_uses 1 = .ok (.aload_n 0, 1) := by decide +kernel
theorem d_M_uses_2 : decode c_M_uses 2 = .ok (.iload_n 1, 1) := by decide +kernel
theorem d_M_uses_3 : decode c_M_uses 3 = .ok (.invokevirtual 95, 3) := by decide +kernel
theorem d_M_uses_6 : decode c_M_uses 6 = .ok (.ifCond .ne 7, 3) := by decide +kernel
theorem d_M_uses_9 : decode c_M_uses 9 = .ok (.iconst 1, 1) := by decide +kernel
theorem d_M_uses_10 : decode c_M_uses 10 = .ok (.goto 19, 3) := by decide +kernel
theorem d_M_uses_13 : decode c_M_uses 13 = .ok (.lload_n 2, 1) := by decide +kernel
theorem d_M_uses_14 : decode c_M_uses 14 = .ok (.lconst 0, 1) := by decide +kernel
theorem d_M_uses_15 : decode c_M_uses 15 = .ok (.ldc2_w 106, 3) := by decide +kernel
theorem d_M_uses_18 : decode c_M_uses 18 = .ok (.invokestatic 89, 3) := by decide +kernel
theorem d_M_uses_21 : decode c_M_uses 21 = .ok (.ifCond .eq 7, 3) := by decide +kernel
theorem d_M_uses_24 : decode c_M_uses 24 = .ok (.iconst 0, 1) := by decide +kernel
theorem d_M_uses_25 : decode c_M_uses 25 = .ok (.goto 4, 3) := by decide +kernel
theorem d_M_uses_28 : decode c_M_uses 28 = .ok (.iconst 2, 1) := by decide +kernel
theorem d_M_uses_29 : decode c_M_uses 29 = .ok (.putfield 80, 3) := by decide +kernel
theorem d_M_uses_32 : decode c_M_uses 32 = .ok (.aload_n 0, 1) := by decide +kernel
theorem d_M_uses_33 : decode c_M_uses 33 = .ok (.getfield 80, 3) := by decide +kernel
theorem d_M_uses_36 : decode c_M_uses 36 = .ok (.ifCond .ne 14, 3) := by decide +kernel
theorem d_M_uses_39 : decode c_M_uses 39 = .ok (.aload_n 0, 1) := by decide +kernel
theorem d_M_uses_40 : decode c_M_uses 40 = .ok (.getfield 20, 3) := by decide +kernel
theorem d_M_uses_43 : decode c_M_uses 43 = .ok (.iload_n 1, 1) := by decide +kernel
theorem d_M_uses_44 : decode c_M_uses 44 = .ok (.laload, 1) := by decide +kernel
theorem d_M_uses_45 : decode c_M_uses 45 = .ok (.lload_n 2, 1) := by decide +kernel
theorem d_M_uses_46 : decode c_M_uses 46 = .ok (.lcmp, 1) := by decide +kernel
theorem d_M_uses_47 : decode c_M_uses 47 = .ok (.ifCond .ne 5, 3) := by decide +kernel
theorem d_M_uses_50 : decode c_M_uses 50 = .ok (.iconst 0, 1) := by decide +kernel
theorem d_M_uses_51 : decode c_M_uses 51 = .ok (.ireturn, 1) := by decide +kernel
theorem d_M_uses_52 : decode c_M_uses 52 = .ok (.aload_n 0, 1) := by decide +kernel
theorem d_M_uses_53 : decode c_M_uses 53 = .ok (.getfield 20, 3) := by decide +kernel
theorem d_M_uses_56 : decode c_M_uses 56 = .ok (.iload_n 1, 1) := by decide +kernel
theorem d_M_uses_57 : decode c_M_uses 57 = .ok (.lload_n 2, 1) := by decide +kernel
theorem d_M_uses_58 : decode c_M_uses 58 = .ok (.lastore, 1) := by decide +kernel
theorem d_M_uses_59 : decode c_M_uses 59 = .ok (.iconst 1, 1) := by decide +kernel
theorem d_M_uses_60 : decode c_M_uses 60 = .ok (.ireturn, 1) := by decide +kernel
theorem d_M_stock_0 : decode c_M_stock 0 = .ok (.aload_n 0, 1) := by decide +kernel
theorem d_M_stock_1 : decode c_M_stock 1 = .ok (.aload_n 0, 1) := by decide +kernel
theorem d_M_stock_2 : decode c_M_stock 2 = .ok (.iload_n 1, 1) := by decide +kernel
theorem d_M_stock_3 : decode c_M_stock 3 = .ok (.invokevirtual 95, 3) := by decide +kernel
theorem d_M_stock_6 : decode c_M_stock 6 = .ok (.ifCond .ne 7, 3) := by decide +kernel
theorem d_M_stock_9 : decode c_M_stock 9 = .ok (.iconst 1, 1) := by decide +kernel
theorem d_M_stock_10 : decode c_M_stock 10 = .ok (.goto 19, 3) := by decide +kernel
theorem d_M_stock_13 : decode c_M_stock 13 = .ok (.lload_n 2, 1) := by decide +kernel
theorem d_M_stock_14 : decode c_M_stock 14 = .ok (.lconst 0, 1) := by decide +kernel
theorem d_M_stock_15 : decode c_M_stock 15 = .ok (.ldc2_w 87, 3) := by decide +kernel
theorem d_M_stock_18 : decode c_M_stock 18 = .ok (.invokestatic 89, 3) := by decide +kernel
theorem d_M_stock_21 : decode c_M_stock 21 = .ok (.ifCond .eq 7, 3) := by decide +kernel
theorem d_M_stock_24 : decode c_M_stock 24 = .ok (.iconst 0, 1) := by decide +kernel
theorem d_M_stock_25 : decode c_M_stock 25 = .ok (.goto 4, 3) := by decide +kernel
theorem d_M_stock_28 : decode c_M_stock 28 = .ok (.iconst 2, 1) := by decide +kernel
theorem d_M_stock_29 : decode c_M_stock 29 = .ok (.putfield 80, 3) := by decide +kernel
theorem d_M_stock_32 : decode c_M_stock 32 = .ok (.aload_n 0, 1) := by decide +kernel
theorem d_M_stock_33 : decode c_M_stock 33 = .ok (.getfield 80, 3) := by decide +kernel
theorem d_M_stock_36 : decode c_M_stock 36 = .ok (.ifCond .ne 14, 3) := by decide +kernel
theorem d_M_stock_39 : decode c_M_stock 39 = .ok (.aload_n 0, 1) := by decide +kernel
theorem d_M_stock_40 : decode c_M_stock 40 = .ok (.getfield 23, 3) := by decide +kernel
theorem d_M_stock_43 : decode c_M_stock 43 = .ok (.iload_n 1, 1) := by decide +kernel
theorem d_M_stock_44 : decode c_M_stock 44 = .ok (.laload, 1) := by decide +kernel
theorem d_M_stock_45 : decode c_M_stock 45 = .ok (.lload_n 2, 1) := by decide +kernel
theorem d_M_stock_46 : decode c_M_stock 46 = .ok (.lcmp, 1) := by decide +kernel
theorem d_M_stock_47 : decode c_M_stock 47 = .ok (.ifCond .ne 5, 3) := by decide +kernel
theorem d_M_stock_50 : decode c_M_stock 50 = .ok (.iconst 0, 1) := by decide +kernel
theorem d_M_stock_51 : decode c_M_stock 51 = .ok (.ireturn, 1) := by decide +kernel
theorem d_M_stock_52 : decode c_M_stock 52 = .ok (.aload_n 0, 1) := by decide +kernel
theorem d_M_stock_53 : decode c_M_stock 53 = .ok (.getfield 23, 3) := by decide +kernel
theorem d_M_stock_56 : decode c_M_stock 56 = .ok (.iload_n 1, 1) := by decide +kernel
theorem d_M_stock_57 : decode c_M_stock 57 = .ok (.lload_n 2, 1) := by decide +kernel
theorem d_M_stock_58 : decode c_M_stock 58 = .ok (.lastore, 1) := by decide +kernel
theorem d_M_stock_59 : decode c_M_stock 59 = .ok (.iconst 1, 1) := by decide +kernel
theorem d_M_stock_60 : decode c_M_stock 60 = .ok (.ireturn, 1) := by decide +kernel
theorem d_M_alternate_0 : decode c_M_alternate 0 = .ok (.aload_n 0, 1) := by decide +kernel
theorem d_M_alternate_1 : decode c_M_alternate 1 = .ok (.aload_n 0, 1) := by decide +kernel
theorem d_M_alternate_2 : decode c_M_alternate 2 = .ok (.iload_n 1, 1) := by decide +kernel
theorem d_M_alternate_3 : decode c_M_alternate 3 = .ok (.invokevirtual 95, 3) := by decide +kernel
theorem d_M_alternate_6 : decode c_M_alternate 6 = .ok (.ifCond .eq 15, 3) := by decide +kernel
theorem d_M_alternate_9 : decode c_M_alternate 9 = .ok (.aload_n 0, 1) := by decide +kernel
theorem d_M_alternate_10 : decode c_M_alternate 10 = .ok (.iload_n 2, 1) := by decide +kernel
theorem d_M_alternate_11 : decode c_M_alternate 11 = .ok (.invokevirtual 95, 3) := by decide +kernel
theorem d_M_alternate_14 : decode c_M_alternate 14 = .ok (.ifCond .eq 7, 3) := by decide +kernel
theorem d_M_alternate_17 : decode c_M_alternate 17 = .ok (.iconst 0, 1) := by decide +kernel
theorem d_M_alternate_18 : decode c_M_alternate 18 = .ok (.goto 4, 3) := by decide +kernel
theorem d_M_alternate_21 : decode c_M_alternate 21 = .ok (.iconst 1, 1) := by decide +kernel
theorem d_M_alternate_22 : decode c_M_alternate 22 = .ok (.putfield 80, 3) := by decide +kernel
theorem d_M_alternate_25 : decode c_M_alternate 25 = .ok (.aload_n 0, 1) := by decide +kernel
theorem d_M_alternate_26 : decode c_M_alternate 26 = .ok (.getfield 80, 3) := by decide +kernel
theorem d_M_alternate_29 : decode c_M_alternate 29 = .ok (.ifCond .ne 22, 3) := by decide +kernel
theorem d_M_alternate_32 : decode c_M_alternate 32 = .ok (.iload_n 1, 1) := by decide +kernel
theorem d_M_alternate_33 : decode c_M_alternate 33 = .ok (.iload_n 2, 1) := by decide +kernel
theorem d_M_alternate_34 : decode c_M_alternate 34 = .ok (.if_icmp .eq 17, 3) := by decide +kernel
theorem d_M_alternate_37 : decode c_M_alternate 37 = .ok (.aload_n 0, 1) := by decide +kernel
theorem d_M_alternate_38 : decode c_M_alternate 38 = .ok (.getfield 26, 3) := by decide +kernel
theorem d_M_alternate_41 : decode c_M_alternate 41 = .ok (.iload_n 1, 1) := by decide +kernel
theorem d_M_alternate_42 : decode c_M_alternate 42 = .ok (.iaload, 1) := by decide +kernel
theorem d_M_alternate_43 : decode c_M_alternate 43 = .ok (.iload_n 2, 1) := by decide +kernel
theorem d_M_alternate_44 : decode c_M_alternate 44 = .ok (.ishr, 1) := by decide +kernel
theorem d_M_alternate_45 : decode c_M_alternate 45 = .ok (.iconst 1, 1) := by decide +kernel
theorem d_M_alternate_46 : decode c_M_alternate 46 = .ok (.iand, 1) := by decide +kernel
theorem d_M_alternate_47 : decode c_M_alternate 47 = .ok (.iconst 1, 1) := by decide +kernel
theorem d_M_alternate_48 : decode c_M_alternate 48 = .ok (.if_icmp .ne 5, 3) := by decide +kernel
theorem d_M_alternate_51 : decode c_M_alternate 51 = .ok (.iconst 0, 1) := by decide +kernel
theorem d_M_alternate_52 : decode c_M_alternate 52 = .ok (.ireturn, 1) := by decide +kernel
theorem d_M_alternate_53 : decode c_M_alternate 53 = .ok (.aload_n 0, 1) := by decide +kernel
theorem d_M_alternate_54 : decode c_M_alternate 54 = .ok (.getfield 26, 3) := by decide +kernel
theorem d_M_alternate_57 : decode c_M_alternate 57 = .ok (.iload_n 1, 1) := by decide +kernel
theorem d_M_alternate_58 : decode c_M_alternate 58 = .ok (.aload_n 0, 1) := by decide +kernel
theorem d_M_alternate_59 : decode c_M_alternate 59 = .ok (.getfield 26, 3) := by decide +kernel
theorem d_M_alternate_62 : decode c_M_alternate 62 = .ok (.iload_n 1, 1) := by decide +kernel
theorem d_M_alternate_63 : decode c_M_alternate 63 = .ok (.iaload, 1) := by decide +kernel
theorem d_M_alternate_64 : decode c_M_alternate 64 = .ok (.iconst 1, 1) := by decide +kernel
theorem d_M_alternate_65 : decode c_M_alternate 65 = .ok (.iload_n 2, 1) := by decide +kernel
theorem d_M_alternate_66 : decode c_M_alternate 66 = .ok (.ishl, 1) := by decide +kernel
theorem d_M_alternate_67 : decode c_M_alternate 67 = .ok (.ior, 1) := by decide +kernel
theorem d_M_alternate_68 : decode c_M_alternate 68 = .ok (.iastore, 1) := by decide +kernel
theorem d_M_alternate_69 : decode c_M_alternate 69 = .ok (.iconst 1, 1) := by decide +kernel
theorem d_M_alternate_70 : decode c_M_alternate 70 = .ok (.ireturn, 1) := by decide +kernel
theorem d_M_isSort_0 : decode c_M_isSort 0 = .ok (.iload_n 0, 1) := by decide +kernel
theorem d_M_isSort_1 : decode c_M_isSort 1 = .ok (.ifCond .lt 13, 3) := by decide +kernel
theorem d_M_isSort_4 : decode c_M_isSort 4 = .ok (.iload_n 0, 1) := by decide +kernel
theorem d_M_isSort_5 : decode c_M_isSort 5 = .ok (.bipush 8, 2) := by decide +kernel
theorem d_M_isSort_7 : decode c_M_isSort 7 = .ok (.if_icmp .ge 7, 3) := by decide +kernel
theorem d_M_isSort_10 : decode c_M_isSort 10 = .ok (.iconst 1, 1) := by decide +kernel
theorem d_M_isSort_11 : decode c_M_isSort 11 = .ok (.goto 4, 3) := by decide +kernel
theorem d_M_isSort_14 : decode c_M_isSort 14 = .ok (.iconst 0, 1) := by decide +kernel
theorem d_M_isSort_15 : decode c_M_isSort 15 = .ok (.ireturn, 1) := by decide +kernel
theorem d_M_assembly_0 : decode c_M_assembly 0 = .ok (.aload_n 0, 1) := by decide +kernel
theorem d_M_assembly_1 : decode c_M_assembly 1 = .ok (.iload_n 1, 1) := by decide +kernel
theorem d_M_assembly_2 : decode c_M_assembly 2 = .ok (.invokestatic 108, 3) := by decide +kernel
theorem d_M_assembly_5 : decode c_M_assembly 5 = .ok (.ifCond .ne 7, 3) := by decide +kernel
theorem d_M_assembly_8 : decode c_M_assembly 8 = .ok (.iconst 1, 1) := by decide +kernel
theorem d_M_assembly_9 : decode c_M_assembly 9 = .ok (.goto 19, 3) := by decide +kernel
theorem d_M_assembly_12 : decode c_M_assembly 12 = .ok (.lload_n 2, 1) := by decide +kernel
theorem d_M_assembly_13 : decode c_M_assembly 13 = .ok (.lconst 0, 1) := by decide +kernel
theorem d_M_assembly_14 : decode c_M_assembly 14 = .ok (.ldc2_w 111, 3) := by decide +kernel
theorem d_M_assembly_17 : decode c_M_assembly 17 = .ok (.invokestatic 89, 3) := by decide +kernel
theorem d_M_assembly_20 : decode c_M_assembly 20 = .ok (.ifCond .eq 7, 3) := by decide +kernel
theorem d_M_assembly_23 : decode c_M_assembly 23 = .ok (.iconst 0, 1) := by decide +kernel
theorem d_M_assembly_24 : decode c_M_assembly 24 = .ok (.goto 4, 3) := by decide +kernel
theorem d_M_assembly_27 : decode c_M_assembly 27 = .ok (.iconst 2, 1) := by decide +kernel
theorem d_M_assembly_28 : decode c_M_assembly 28 = .ok (.putfield 80, 3) := by decide +kernel
theorem d_M_assembly_31 : decode c_M_assembly 31 = .ok (.aload_n 0, 1) := by decide +kernel
theorem d_M_assembly_32 : decode c_M_assembly 32 = .ok (.getfield 80, 3) := by decide +kernel
theorem d_M_assembly_35 : decode c_M_assembly 35 = .ok (.ifCond .ne 14, 3) := by decide +kernel
theorem d_M_assembly_38 : decode c_M_assembly 38 = .ok (.aload_n 0, 1) := by decide +kernel
theorem d_M_assembly_39 : decode c_M_assembly 39 = .ok (.getfield 29, 3) := by decide +kernel
theorem d_M_assembly_42 : decode c_M_assembly 42 = .ok (.iload_n 1, 1) := by decide +kernel
theorem d_M_assembly_43 : decode c_M_assembly 43 = .ok (.laload, 1) := by decide +kernel
theorem d_M_assembly_44 : decode c_M_assembly 44 = .ok (.lload_n 2, 1) := by decide +kernel
theorem d_M_assembly_45 : decode c_M_assembly 45 = .ok (.lcmp, 1) := by decide +kernel
theorem d_M_assembly_46 : decode c_M_assembly 46 = .ok (.ifCond .ne 5, 3) := by decide +kernel
theorem d_M_assembly_49 : decode c_M_assembly 49 = .ok (.iconst 0, 1) := by decide +kernel
theorem d_M_assembly_50 : decode c_M_assembly 50 = .ok (.ireturn, 1) := by decide +kernel
theorem d_M_assembly_51 : decode c_M_assembly 51 = .ok (.aload_n 0, 1) := by decide +kernel
theorem d_M_assembly_52 : decode c_M_assembly 52 = .ok (.getfield 29, 3) := by decide +kernel
theorem d_M_assembly_55 : decode c_M_assembly 55 = .ok (.iload_n 1, 1) := by decide +kernel
theorem d_M_assembly_56 : decode c_M_assembly 56 = .ok (.lload_n 2, 1) := by decide +kernel
theorem d_M_assembly_57 : decode c_M_assembly 57 = .ok (.lastore, 1) := by decide +kernel
theorem d_M_assembly_58 : decode c_M_assembly 58 = .ok (.iconst 1, 1) := by decide +kernel
theorem d_M_assembly_59 : decode c_M_assembly 59 = .ok (.ireturn, 1) := by decide +kernel
theorem d_M_placed_0 : decode c_M_placed 0 = .ok (.aload_n 0, 1) := by decide +kernel
theorem d_M_placed_1 : decode c_M_placed 1 = .ok (.iload_n 1, 1) := by decide +kernel
theorem d_M_placed_2 : decode c_M_placed 2 = .ok (.invokestatic 108, 3) := by decide +kernel
theorem d_M_placed_5 : decode c_M_placed 5 = .ok (.ifCond .ne 7, 3) := by decide +kernel
theorem d_M_placed_8 : decode c_M_placed 8 = .ok (.iconst 1, 1) := by decide +kernel
theorem d_M_placed_9 : decode c_M_placed 9 = .ok (.goto 19, 3) := by decide +kernel
theorem d_M_placed_12 : decode c_M_placed 12 = .ok (.lload_n 2, 1) := by decide +kernel
theorem d_M_placed_13 : decode c_M_placed 13 = .ok (.lconst 0, 1) := by decide +kernel
theorem d_M_placed_14 : decode c_M_placed 14 = .ok (.ldc2_w 106, 3) := by decide +kernel
theorem d_M_placed_17 : decode c_M_placed 17 = .ok (.invokestatic 89, 3) := by decide +kernel
theorem d_M_placed_20 : decode c_M_placed 20 = .ok (.ifCond .eq 7, 3) := by decide +kernel
theorem d_M_placed_23 : decode c_M_placed 23 = .ok (.iconst 0, 1) := by decide +kernel
theorem d_M_placed_24 : decode c_M_placed 24 = .ok (.goto 4, 3) := by decide +kernel
theorem d_M_placed_27 : decode c_M_placed 27 = .ok (.iconst 2, 1) := by decide +kernel
theorem d_M_placed_28 : decode c_M_placed 28 = .ok (.putfield 80, 3) := by decide +kernel
theorem d_M_placed_31 : decode c_M_placed 31 = .ok (.aload_n 0, 1) := by decide +kernel
theorem d_M_placed_32 : decode c_M_placed 32 = .ok (.getfield 80, 3) := by decide +kernel
theorem d_M_placed_35 : decode c_M_placed 35 = .ok (.ifCond .ne 14, 3) := by decide +kernel
theorem d_M_placed_38 : decode c_M_placed 38 = .ok (.aload_n 0, 1) := by decide +kernel
theorem d_M_placed_39 : decode c_M_placed 39 = .ok (.getfield 32, 3) := by decide +kernel
theorem d_M_placed_42 : decode c_M_placed 42 = .ok (.iload_n 1, 1) := by decide +kernel
theorem d_M_placed_43 : decode c_M_placed 43 = .ok (.laload, 1) := by decide +kernel
theorem d_M_placed_44 : decode c_M_placed 44 = .ok (.lload_n 2, 1) := by decide +kernel
theorem d_M_placed_45 : decode c_M_placed 45 = .ok (.lcmp, 1) := by decide +kernel
theorem d_M_placed_46 : decode c_M_placed 46 = .ok (.ifCond .ne 5, 3) := by decide +kernel
theorem d_M_placed_49 : decode c_M_placed 49 = .ok (.iconst 0, 1) := by decide +kernel
theorem d_M_placed_50 : decode c_M_placed 50 = .ok (.ireturn, 1) := by decide +kernel
theorem d_M_placed_51 : decode c_M_placed 51 = .ok (.aload_n 0, 1) := by decide +kernel
theorem d_M_placed_52 : decode c_M_placed 52 = .ok (.getfield 32, 3) := by decide +kernel
theorem d_M_placed_55 : decode c_M_placed 55 = .ok (.iload_n 1, 1) := by decide +kernel
theorem d_M_placed_56 : decode c_M_placed 56 = .ok (.lload_n 2, 1) := by decide +kernel
theorem d_M_placed_57 : decode c_M_placed 57 = .ok (.lastore, 1) := by decide +kernel
theorem d_M_placed_58 : decode c_M_placed 58 = .ok (.iconst 1, 1) := by decide +kernel
theorem d_M_placed_59 : decode c_M_placed 59 = .ok (.ireturn, 1) := by decide +kernel
theorem d_M_yieldOf_0 : decode c_M_yieldOf 0 = .ok (.aload_n 0, 1) := by decide +kernel
theorem d_M_yieldOf_1 : decode c_M_yieldOf 1 = .ok (.lload_n 1, 1) := by decide +kernel
theorem d_M_yieldOf_2 : decode c_M_yieldOf 2 = .ok (.lconst 1, 1) := by decide +kernel
theorem d_M_yieldOf_3 : decode c_M_yieldOf 3 = .ok (.lcmp, 1) := by decide +kernel
theorem d_M_yieldOf_4 : decode c_M_yieldOf 4 = .ok (.ifCond .lt 21, 3) := by decide +kernel
theorem d_M_yieldOf_7 : decode c_M_yieldOf 7 = .ok (.lload_n 1, 1) := by decide +kernel
theorem d_M_yieldOf_8 : decode c_M_yieldOf 8 = .ok (.lload_n 3, 1) := by decide +kernel
theorem d_M_yieldOf_9 : decode c_M_yieldOf 9 = .ok (.lcmp, 1) := by decide +kernel
theorem d_M_yieldOf_10 : decode c_M_yieldOf 10 = .ok (.ifCond .gt 15, 3) := by decide +kernel
theorem d_M_yieldOf_13 : decode c_M_yieldOf 13 = .ok (.lload_n 3, 1) := by decide +kernel
theorem d_M_yieldOf_14 : decode c_M_yieldOf 14 = .ok (.ldc2_w 106, 3) := by decide +kernel
theorem d_M_yieldOf_17 : decode c_M_yieldOf 17 = .ok (.lcmp, 1) := by decide +kernel
theorem d_M_yieldOf_18 : decode c_M_yieldOf 18 = .ok (.ifCond .gt 7, 3) := by decide +kernel
theorem d_M_yieldOf_21 : decode c_M_yieldOf 21 = .ok (.iconst 0, 1) := by decide +kernel
theorem d_M_yieldOf_22 : decode c_M_yieldOf 22 = .ok (.goto 4, 3) := by decide +kernel
theorem d_M_yieldOf_25 : decode c_M_yieldOf 25 = .ok (.iconst 1, 1) := by decide +kernel
theorem d_M_yieldOf_26 : decode c_M_yieldOf 26 = .ok (.putfield 80, 3) := by decide +kernel
theorem d_M_yieldOf_29 : decode c_M_yieldOf 29 = .ok (.aload_n 0, 1) := by decide +kernel
theorem d_M_yieldOf_30 : decode c_M_yieldOf 30 = .ok (.getfield 80, 3) := by decide +kernel
theorem d_M_yieldOf_33 : decode c_M_yieldOf 33 = .ok (.ifCond .ne 12, 3) := by decide +kernel
theorem d_M_yieldOf_36 : decode c_M_yieldOf 36 = .ok (.aload_n 0, 1) := by decide +kernel
theorem d_M_yieldOf_37 : decode c_M_yieldOf 37 = .ok (.getfield 113, 3) := by decide +kernel
theorem d_M_yieldOf_40 : decode c_M_yieldOf 40 = .ok (.bipush 8, 2) := by decide +kernel
theorem d_M_yieldOf_42 : decode c_M_yieldOf 42 = .ok (.if_icmp .ne 5, 3) := by decide +kernel
theorem d_M_yieldOf_45 : decode c_M_yieldOf 45 = .ok (.iconst 0, 1) := by decide +kernel
theorem d_M_yieldOf_46 : decode c_M_yieldOf 46 = .ok (.ireturn, 1) := by decide +kernel
theorem d_M_yieldOf_47 : decode c_M_yieldOf 47 = .ok (.aload_n 0, 1) := by decide +kernel
theorem d_M_yieldOf_48 : decode c_M_yieldOf 48 = .ok (.getfield 35, 3) := by decide +kernel
theorem d_M_yieldOf_51 : decode c_M_yieldOf 51 = .ok (.aload_n 0, 1) := by decide +kernel
theorem d_M_yieldOf_52 : decode c_M_yieldOf 52 = .ok (.getfield 113, 3) := by decide +kernel
theorem d_M_yieldOf_55 : decode c_M_yieldOf 55 = .ok (.lload_n 1, 1) := by decide +kernel
theorem d_M_yieldOf_56 : decode c_M_yieldOf 56 = .ok (.lastore, 1) := by decide +kernel
theorem d_M_yieldOf_57 : decode c_M_yieldOf 57 = .ok (.aload_n 0, 1) := by decide +kernel
theorem d_M_yieldOf_58 : decode c_M_yieldOf 58 = .ok (.getfield 38, 3) := by decide +kernel
theorem d_M_yieldOf_61 : decode c_M_yieldOf 61 = .ok (.aload_n 0, 1) := by decide +kernel
theorem d_M_yieldOf_62 : decode c_M_yieldOf 62 = .ok (.getfield 113, 3) := by decide +kernel
theorem d_M_yieldOf_65 : decode c_M_yieldOf 65 = .ok (.lload_n 3, 1) := by decide +kernel
theorem d_M_yieldOf_66 : decode c_M_yieldOf 66 = .ok (.lastore, 1) := by decide +kernel
theorem d_M_yieldOf_67 : decode c_M_yieldOf 67 = .ok (.aload_n 0, 1) := by decide +kernel
theorem d_M_yieldOf_68 : decode c_M_yieldOf 68 = .ok (.dup, 1) := by decide +kernel
theorem d_M_yieldOf_69 : decode c_M_yieldOf 69 = .ok (.getfield 113, 3) := by decide +kernel
theorem d_M_yieldOf_72 : decode c_M_yieldOf 72 = .ok (.iconst 1, 1) := by decide +kernel
theorem d_M_yieldOf_73 : decode c_M_yieldOf 73 = .ok (.iadd, 1) := by decide +kernel
theorem d_M_yieldOf_74 : decode c_M_yieldOf 74 = .ok (.putfield 113, 3) := by decide +kernel
theorem d_M_yieldOf_77 : decode c_M_yieldOf 77 = .ok (.iconst 1, 1) := by decide +kernel
theorem d_M_yieldOf_78 : decode c_M_yieldOf 78 = .ok (.ireturn, 1) := by decide +kernel
theorem d_M_currency_0 : decode c_M_currency 0 = .ok (.lload 4, 2) := by decide +kernel
theorem d_M_currency_2 : decode c_M_currency 2 = .ok (.lconst 1, 1) := by decide +kernel
theorem d_M_currency_3 : decode c_M_currency 3 = .ok (.ldc2_w 106, 3) := by decide +kernel
theorem d_M_currency_6 : decode c_M_currency 6 = .ok (.invokestatic 89, 3) := by decide +kernel
theorem d_M_currency_9 : decode c_M_currency 9 = .ok (.ifCond .eq 19, 3) := by decide +kernel
theorem d_M_currency_12 : decode c_M_currency 12 = .ok (.lload 6, 2) := by decide +kernel
theorem d_M_currency_14 : decode c_M_currency 14 = .ok (.lconst 1, 1) := by decide +kernel
theorem d_M_currency_15 : decode c_M_currency 15 = .ok (.ldc2_w 106, 3) := by decide +kernel
theorem d_M_currency_18 : decode c_M_currency 18 = .ok (.invokestatic 89, 3) := by decide +kernel
theorem d_M_currency_21 : decode c_M_currency 21 = .ok (.ifCond .eq 7, 3) := by decide +kernel
theorem d_M_currency_24 : decode c_M_currency 24 = .ok (.iconst 1, 1) := by decide +kernel
theorem d_M_currency_25 : decode c_M_currency 25 = .ok (.goto 4, 3) := by decide +kernel
theorem d_M_currency_28 : decode c_M_currency 28 = .ok (.iconst 0, 1) := by decide +kernel
theorem d_M_currency_29 : decode c_M_currency 29 = .ok (.istore 8, 2) := by decide +kernel
theorem d_M_currency_31 : decode c_M_currency 31 = .ok (.aload_n 0, 1) := by decide +kernel
theorem d_M_currency_32 : decode c_M_currency 32 = .ok (.iload_n 1, 1) := by decide +kernel
theorem d_M_currency_33 : decode c_M_currency 33 = .ok (.invokestatic 99, 3) := by decide +kernel
theorem d_M_currency_36 : decode c_M_currency 36 = .ok (.ifCond .ne 7, 3) := by decide +kernel
theorem d_M_currency_39 : decode c_M_currency 39 = .ok (.iconst 1, 1) := by decide +kernel
theorem d_M_currency_40 : decode c_M_currency 40 = .ok (.goto 13, 3) := by decide +kernel
theorem d_M_currency_43 : decode c_M_currency 43 = .ok (.iload 8, 2) := by decide +kernel
theorem d_M_currency_45 : decode c_M_currency 45 = .ok (.ifCond .eq 7, 3) := by decide +kernel
theorem d_M_currency_48 : decode c_M_currency 48 = .ok (.iconst 0, 1) := by decide +kernel
theorem d_M_currency_49 : decode c_M_currency 49 = .ok (.goto 4, 3) := by decide +kernel
theorem d_M_currency_52 : decode c_M_currency 52 = .ok (.iconst 2, 1) := by decide +kernel
theorem d_M_currency_53 : decode c_M_currency 53 = .ok (.putfield 80, 3) := by decide +kernel
theorem d_M_currency_56 : decode c_M_currency 56 = .ok (.aload_n 0, 1) := by decide +kernel
theorem d_M_currency_57 : decode c_M_currency 57 = .ok (.getfield 80, 3) := by decide +kernel
theorem d_M_currency_60 : decode c_M_currency 60 = .ok (.ifCond .eq 5, 3) := by decide +kernel
theorem d_M_currency_63 : decode c_M_currency 63 = .ok (.iconst 0, 1) := by decide +kernel
theorem d_M_currency_64 : decode c_M_currency 64 = .ok (.ireturn, 1) := by decide +kernel
theorem d_M_currency_65 : decode c_M_currency 65 = .ok (.bipush 6, 2) := by decide +kernel
theorem d_M_currency_67 : decode c_M_currency 67 = .ok (.iload_n 1, 1) := by decide +kernel
theorem d_M_currency_68 : decode c_M_currency 68 = .ok (.imul, 1) := by decide +kernel
theorem d_M_currency_69 : decode c_M_currency 69 = .ok (.istore 9, 2) := by decide +kernel
theorem d_M_currency_71 : decode c_M_currency 71 = .ok (.iload 9, 2) := by decide +kernel
theorem d_M_currency_73 : decode c_M_currency 73 = .ok (.bipush 6, 2) := by decide +kernel
theorem d_M_currency_75 : decode c_M_currency 75 = .ok (.iload_n 1, 1) := by decide +kernel
theorem d_M_currency_76 : decode c_M_currency 76 = .ok (.imul, 1) := by decide +kernel
theorem d_M_currency_77 : decode c_M_currency 77 = .ok (.aload_n 0, 1) := by decide +kernel
theorem d_M_currency_78 : decode c_M_currency 78 = .ok (.getfield 41, 3) := by decide +kernel
theorem d_M_currency_81 : decode c_M_currency 81 = .ok (.iload_n 1, 1) := by decide +kernel
theorem d_M_currency_82 : decode c_M_currency 82 = .ok (.iaload, 1) := by decide +kernel
theorem d_M_currency_83 : decode c_M_currency 83 = .ok (.iadd, 1) := by decide +kernel
theorem d_M_currency_84 : decode c_M_currency 84 = .ok (.if_icmp .ge 21, 3) := by decide +kernel
theorem d_M_currency_87 : decode c_M_currency 87 = .ok (.aload_n 0, 1) := by decide +kernel
theorem d_M_currency_88 : decode c_M_currency 88 = .ok (.getfield 44, 3) := by decide +kernel
theorem d_M_currency_91 : decode c_M_currency 91 = .ok (.iload 9, 2) := by decide +kernel
theorem d_M_currency_93 : decode c_M_currency 93 = .ok (.laload, 1) := by decide +kernel
theorem d_M_currency_94 : decode c_M_currency 94 = .ok (.lload_n 2, 1) := by decide +kernel
theorem d_M_currency_95 : decode c_M_currency 95 = .ok (.lcmp, 1) := by decide +kernel
theorem d_M_currency_96 : decode c_M_currency 96 = .ok (.ifCond .eq 9, 3) := by decide +kernel
theorem d_M_currency_99 : decode c_M_currency 99 = .ok (.iinc 9 1, 3) := by decide +kernel
theorem d_M_currency_102 : decode c_M_currency 102 = .ok (.goto (-31), 3) := by decide +kernel
theorem d_M_currency_105 : decode c_M_currency 105 = .ok (.iload 9, 2) := by decide +kernel
theorem d_M_currency_107 : decode c_M_currency 107 = .ok (.bipush 6, 2) := by decide +kernel
theorem d_M_currency_109 : decode c_M_currency 109 = .ok (.iload_n 1, 1) := by decide +kernel
theorem d_M_currency_110 : decode c_M_currency 110 = .ok (.imul, 1) := by decide +kernel
theorem d_M_currency_111 : decode c_M_currency 111 = .ok (.aload_n 0, 1) := by decide +kernel
theorem d_M_currency_112 : decode c_M_currency 112 = .ok (.getfield 41, 3) := by decide +kernel
theorem d_M_currency_115 : decode c_M_currency 115 = .ok (.iload_n 1, 1) := by decide +kernel
theorem d_M_currency_116 : decode c_M_currency 116 = .ok (.iaload, 1) := by decide +kernel
theorem d_M_currency_117 : decode c_M_currency 117 = .ok (.iadd, 1) := by decide +kernel
theorem d_M_currency_118 : decode c_M_currency 118 = .ok (.if_icmp .ge 7, 3) := by decide +kernel
theorem d_M_currency_121 : decode c_M_currency 121 = .ok (.iconst 1, 1) := by decide +kernel
theorem d_M_currency_122 : decode c_M_currency 122 = .ok (.goto 4, 3) := by decide +kernel
theorem d_M_currency_125 : decode c_M_currency 125 = .ok (.iconst 0, 1) := by decide +kernel
theorem d_M_currency_126 : decode c_M_currency 126 = .ok (.istore 10, 2) := by decide +kernel
theorem d_M_currency_128 : decode c_M_currency 128 = .ok (.iload 10, 2) := by decide +kernel
theorem d_M_currency_130 : decode c_M_currency 130 = .ok (.ifCond .eq 32, 3) := by decide +kernel
theorem d_M_currency_133 : decode c_M_currency 133 = .ok (.aload_n 0, 1) := by decide +kernel
theorem d_M_currency_134 : decode c_M_currency 134 = .ok (.getfield 47, 3) := by decide +kernel
theorem d_M_currency_137 : decode c_M_currency 137 = .ok (.iload 9, 2) := by decide +kernel
theorem d_M_currency_139 : decode c_M_currency 139 = .ok (.laload, 1) := by decide +kernel
theorem d_M_currency_140 : decode c_M_currency 140 = .ok (.lload 4, 2) := by decide +kernel
theorem d_M_currency_142 : decode c_M_currency 142 = .ok (.lcmp, 1) := by decide +kernel
theorem d_M_currency_143 : decode c_M_currency 143 = .ok (.ifCond .ne 32, 3) := by decide +kernel
theorem d_M_currency_146 : decode c_M_currency 146 = .ok (.aload_n 0, 1) := by decide +kernel
theorem d_M_currency_147 : decode c_M_currency 147 = .ok (.getfield 50, 3) := by decide +kernel
theorem d_M_currency_150 : decode c_M_currency 150 = .ok (.iload 9, 2) := by decide +kernel
theorem d_M_currency_152 : decode c_M_currency 152 = .ok (.laload, 1) := by decide +kernel
theorem d_M_currency_153 : decode c_M_currency 153 = .ok (.lload 6, 2) := by decide +kernel
theorem d_M_currency_155 : decode c_M_currency 155 = .ok (.lcmp, 1) := by decide +kernel
theorem d_M_currency_156 : decode c_M_currency 156 = .ok (.ifCond .ne 19, 3) := by decide +kernel
theorem d_M_currency_159 : decode c_M_currency 159 = .ok (.goto 14, 3) := by decide +kernel
theorem d_M_currency_162 : decode c_M_currency 162 = .ok (.aload_n 0, 1) := by decide +kernel
theorem d_M_currency_163 : decode c_M_currency 163 = .ok (.getfield 41, 3) := by decide +kernel
theorem d_M_currency_166 : decode c_M_currency 166 = .ok (.iload_n 1, 1) := by decide +kernel
theorem d_M_currency_167 : decode c_M_currency 167 = .ok (.iaload, 1) := by decide +kernel
theorem d_M_currency_168 : decode c_M_currency 168 = .ok (.bipush 6, 2) := by decide +kernel
theorem d_M_currency_170 : decode c_M_currency 170 = .ok (.if_icmp .ne 5, 3) := by decide +kernel
theorem d_M_currency_173 : decode c_M_currency 173 = .ok (.iconst 0, 1) := by decide +kernel
theorem d_M_currency_174 : decode c_M_currency 174 = .ok (.ireturn, 1) := by decide +kernel
theorem d_M_currency_175 : decode c_M_currency 175 = .ok (.iload 10, 2) := by decide +kernel
theorem d_M_currency_177 : decode c_M_currency 177 = .ok (.ifCond .ne 13, 3) := by decide +kernel
theorem d_M_currency_180 : decode c_M_currency 180 = .ok (.aload_n 0, 1) := by decide +kernel
theorem d_M_currency_181 : decode c_M_currency 181 = .ok (.getfield 41, 3) := by decide +kernel
theorem d_M_currency_184 : decode c_M_currency 184 = .ok (.iload_n 1, 1) := by decide +kernel
theorem d_M_currency_185 : decode c_M_currency 185 = .ok (.dup2, 1) := by decide +kernel
theorem d_M_currency_186 : decode c_M_currency 186 = .ok (.iaload, 1) := by decide +kernel
theorem d_M_currency_187 : decode c_M_currency 187 = .ok (.iconst 1, 1) := by decide +kernel
theorem d_M_currency_188 : decode c_M_currency 188 = .ok (.iadd, 1) := by decide +kernel
theorem d_M_currency_189 : decode c_M_currency 189 = .ok (.iastore, 1) := by decide +kernel
theorem d_M_currency_190 : decode c_M_currency 190 = .ok (.aload_n 0, 1) := by decide +kernel
theorem d_M_currency_191 : decode c_M_currency 191 = .ok (.getfield 44, 3) := by decide +kernel
theorem d_M_currency_194 : decode c_M_currency 194 = .ok (.iload 9, 2) := by decide +kernel
theorem d_M_currency_196 : decode c_M_currency 196 = .ok (.lload_n 2, 1) := by decide +kernel
theorem d_M_currency_197 : decode c_M_currency 197 = .ok (.lastore, 1) := by decide +kernel
theorem d_M_currency_198 : decode c_M_currency 198 = .ok (.aload_n 0, 1) := by decide +kernel
theorem d_M_currency_199 : decode c_M_currency 199 = .ok (.getfield 47, 3) := by decide +kernel
theorem d_M_currency_202 : decode c_M_currency 202 = .ok (.iload 9, 2) := by decide +kernel
theorem d_M_currency_204 : decode c_M_currency 204 = .ok (.lload 4, 2) := by decide +kernel
theorem d_M_currency_206 : decode c_M_currency 206 = .ok (.lastore, 1) := by decide +kernel
theorem d_M_currency_207 : decode c_M_currency 207 = .ok (.aload_n 0, 1) := by decide +kernel
theorem d_M_currency_208 : decode c_M_currency 208 = .ok (.getfield 50, 3) := by decide +kernel
theorem d_M_currency_211 : decode c_M_currency 211 = .ok (.iload 9, 2) := by decide +kernel
theorem d_M_currency_213 : decode c_M_currency 213 = .ok (.lload 6, 2) := by decide +kernel
theorem d_M_currency_215 : decode c_M_currency 215 = .ok (.lastore, 1) := by decide +kernel
theorem d_M_currency_216 : decode c_M_currency 216 = .ok (.iconst 1, 1) := by decide +kernel
theorem d_M_currency_217 : decode c_M_currency 217 = .ok (.ireturn, 1) := by decide +kernel
theorem d_M_tooling_0 : decode c_M_tooling 0 = .ok (.aload_n 0, 1) := by decide +kernel
theorem d_M_tooling_1 : decode c_M_tooling 1 = .ok (.lload_n 1, 1) := by decide +kernel
theorem d_M_tooling_2 : decode c_M_tooling 2 = .ok (.lconst 0, 1) := by decide +kernel
theorem d_M_tooling_3 : decode c_M_tooling 3 = .ok (.ldc2_w 87, 3) := by decide +kernel
theorem d_M_tooling_6 : decode c_M_tooling 6 = .ok (.invokestatic 89, 3) := by decide +kernel
theorem d_M_tooling_9 : decode c_M_tooling 9 = .ok (.ifCond .eq 7, 3) := by decide +kernel
theorem d_M_tooling_12 : decode c_M_tooling 12 = .ok (.iconst 0, 1) := by decide +kernel
theorem d_M_tooling_13 : decode c_M_tooling 13 = .ok (.goto 4, 3) := by decide +kernel
theorem d_M_tooling_16 : decode c_M_tooling 16 = .ok (.iconst 1, 1) := by decide +kernel
theorem d_M_tooling_17 : decode c_M_tooling 17 = .ok (.putfield 80, 3) := by decide +kernel
theorem d_M_tooling_20 : decode c_M_tooling 20 = .ok (.aload_n 0, 1) := by decide +kernel
theorem d_M_tooling_21 : decode c_M_tooling 21 = .ok (.getfield 80, 3) := by decide +kernel
theorem d_M_tooling_24 : decode c_M_tooling 24 = .ok (.ifCond .ne 12, 3) := by decide +kernel
theorem d_M_tooling_27 : decode c_M_tooling 27 = .ok (.aload_n 0, 1) := by decide +kernel
theorem d_M_tooling_28 : decode c_M_tooling 28 = .ok (.getfield 116, 3) := by decide +kernel
theorem d_M_tooling_31 : decode c_M_tooling 31 = .ok (.lload_n 1, 1) := by decide +kernel
theorem d_M_tooling_32 : decode c_M_tooling 32 = .ok (.lcmp, 1) := by decide +kernel
theorem d_M_tooling_33 : decode c_M_tooling 33 = .ok (.ifCond .ne 5, 3) := by decide +kernel
theorem d_M_tooling_36 : decode c_M_tooling 36 = .ok (.iconst 0, 1) := by decide +kernel
theorem d_M_tooling_37 : decode c_M_tooling 37 = .ok (.ireturn, 1) := by decide +kernel
theorem d_M_tooling_38 : decode c_M_tooling 38 = .ok (.aload_n 0, 1) := by decide +kernel
theorem d_M_tooling_39 : decode c_M_tooling 39 = .ok (.lload_n 1, 1) := by decide +kernel
theorem d_M_tooling_40 : decode c_M_tooling 40 = .ok (.putfield 116, 3) := by decide +kernel
theorem d_M_tooling_43 : decode c_M_tooling 43 = .ok (.iconst 1, 1) := by decide +kernel
theorem d_M_tooling_44 : decode c_M_tooling 44 = .ok (.ireturn, 1) := by decide +kernel
theorem d_M_up_0 : decode c_M_up 0 = .ok (.lload_n 0, 1) := by decide +kernel
theorem d_M_up_1 : decode c_M_up 1 = .ok (.lload_n 2, 1) := by decide +kernel
theorem d_M_up_2 : decode c_M_up 2 = .ok (.ladd, 1) := by decide +kernel
theorem d_M_up_3 : decode c_M_up 3 = .ok (.lconst 1, 1) := by decide +kernel
theorem d_M_up_4 : decode c_M_up 4 = .ok (.lsub, 1) := by decide +kernel
theorem d_M_up_5 : decode c_M_up 5 = .ok (.lload_n 2, 1) := by decide +kernel
theorem d_M_up_6 : decode c_M_up 6 = .ok (.ldiv, 1) := by decide +kernel
theorem d_M_up_7 : decode c_M_up 7 = .ok (.lreturn, 1) := by decide +kernel
theorem d_M_rateOf_0 : decode c_M_rateOf 0 = .ok (.iconst (-1), 1) := by decide +kernel
theorem d_M_rateOf_1 : decode c_M_rateOf 1 = .ok (.istore 4, 2) := by decide +kernel
theorem d_M_rateOf_3 : decode c_M_rateOf 3 = .ok (.bipush 6, 2) := by decide +kernel
theorem d_M_rateOf_5 : decode c_M_rateOf 5 = .ok (.iload_n 1, 1) := by decide +kernel
theorem d_M_rateOf_6 : decode c_M_rateOf 6 = .ok (.imul, 1) := by decide +kernel
theorem d_M_rateOf_7 : decode c_M_rateOf 7 = .ok (.istore 5, 2) := by decide +kernel
theorem d_M_rateOf_9 : decode c_M_rateOf 9 = .ok (.iload 5, 2) := by decide +kernel
theorem d_M_rateOf_11 : decode c_M_rateOf 11 = .ok (.bipush 6, 2) := by decide +kernel
theorem d_M_rateOf_13 : decode c_M_rateOf 13 = .ok (.iload_n 1, 1) := by decide +kernel
theorem d_M_rateOf_14 : decode c_M_rateOf 14 = .ok (.imul, 1) := by decide +kernel
theorem d_M_rateOf_15 : decode c_M_rateOf 15 = .ok (.aload_n 0, 1) := by decide +kernel
theorem d_M_rateOf_16 : decode c_M_rateOf 16 = .ok (.getfield 41, 3) := by decide +kernel
theorem d_M_rateOf_19 : decode c_M_rateOf 19 = .ok (.iload_n 1, 1) := by decide +kernel
theorem d_M_rateOf_20 : decode c_M_rateOf 20 = .ok (.iaload, 1) := by decide +kernel
theorem d_M_rateOf_21 : decode c_M_rateOf 21 = .ok (.iadd, 1) := by decide +kernel
theorem d_M_rateOf_22 : decode c_M_rateOf 22 = .ok (.if_icmp .ge 49, 3) := by decide +kernel
theorem d_M_rateOf_25 : decode c_M_rateOf 25 = .ok (.aload_n 0, 1) := by decide +kernel
theorem d_M_rateOf_26 : decode c_M_rateOf 26 = .ok (.getfield 44, 3) := by decide +kernel
theorem d_M_rateOf_29 : decode c_M_rateOf 29 = .ok (.iload 5, 2) := by decide +kernel
theorem d_M_rateOf_31 : decode c_M_rateOf 31 = .ok (.laload, 1) := by decide +kernel
theorem d_M_rateOf_32 : decode c_M_rateOf 32 = .ok (.lload_n 2, 1) := by decide +kernel
theorem d_M_rateOf_33 : decode c_M_rateOf 33 = .ok (.lcmp, 1) := by decide +kernel
theorem d_M_rateOf_34 : decode c_M_rateOf 34 = .ok (.ifCond .gt 31, 3) := by decide +kernel
theorem d_M_rateOf_37 : decode c_M_rateOf 37 = .ok (.iload 4, 2) := by decide +kernel
theorem d_M_rateOf_39 : decode c_M_rateOf 39 = .ok (.iconst (-1), 1) := by decide +kernel
theorem d_M_rateOf_40 : decode c_M_rateOf 40 = .ok (.if_icmp .eq 21, 3) := by decide +kernel
theorem d_M_rateOf_43 : decode c_M_rateOf 43 = .ok (.aload_n 0, 1) := by decide +kernel
theorem d_M_rateOf_44 : decode c_M_rateOf 44 = .ok (.getfield 44, 3) := by decide +kernel
theorem d_M_rateOf_47 : decode c_M_rateOf 47 = .ok (.iload 5, 2) := by decide +kernel
theorem d_M_rateOf_49 : decode c_M_rateOf 49 = .ok (.laload, 1) := by decide +kernel
theorem d_M_rateOf_50 : decode c_M_rateOf 50 = .ok (.aload_n 0, 1) := by decide +kernel
theorem d_M_rateOf_51 : decode c_M_rateOf 51 = .ok (.getfield 44, 3) := by decide +kernel
theorem d_M_rateOf_54 : decode c_M_rateOf 54 = .ok (.iload 4, 2) := by decide +kernel
theorem d_M_rateOf_56 : decode c_M_rateOf 56 = .ok (.laload, 1) := by decide +kernel
theorem d_M_rateOf_57 : decode c_M_rateOf 57 = .ok (.lcmp, 1) := by decide +kernel
theorem d_M_rateOf_58 : decode c_M_rateOf 58 = .ok (.ifCond .le 7, 3) := by decide +kernel
theorem d_M_rateOf_61 : decode c_M_rateOf 61 = .ok (.iload 5, 2) := by decide +kernel
theorem d_M_rateOf_63 : decode c_M_rateOf 63 = .ok (.istore 4, 2) := by decide +kernel
theorem d_M_rateOf_65 : decode c_M_rateOf 65 = .ok (.iinc 5 1, 3) := by decide +kernel
theorem d_M_rateOf_68 : decode c_M_rateOf 68 = .ok (.goto (-59), 3) := by decide +kernel
theorem d_M_rateOf_71 : decode c_M_rateOf 71 = .ok (.iload 4, 2) := by decide +kernel
theorem d_M_rateOf_73 : decode c_M_rateOf 73 = .ok (.ireturn, 1) := by decide +kernel
theorem d_M_offer_0 : decode c_M_offer 0 = .ok (.bipush 8, 2) := by decide +kernel
theorem d_M_offer_2 : decode c_M_offer 2 = .ok (.iload_n 2, 1) := by decide +kernel
theorem d_M_offer_3 : decode c_M_offer 3 = .ok (.imul, 1) := by decide +kernel
theorem d_M_offer_4 : decode c_M_offer 4 = .ok (.iload_n 3, 1) := by decide +kernel
theorem d_M_offer_5 : decode c_M_offer 5 = .ok (.iadd, 1) := by decide +kernel
theorem d_M_offer_6 : decode c_M_offer 6 = .ok (.istore 8, 2) := by decide +kernel
theorem d_M_offer_8 : decode c_M_offer 8 = .ok (.aload_n 0, 1) := by decide +kernel
theorem d_M_offer_9 : decode c_M_offer 9 = .ok (.iload_n 3, 1) := by decide +kernel
theorem d_M_offer_10 : decode c_M_offer 10 = .ok (.lload 6, 2) := by decide +kernel
theorem d_M_offer_12 : decode c_M_offer 12 = .ok (.invokevirtual 120, 3) := by decide +kernel
theorem d_M_offer_15 : decode c_M_offer 15 = .ok (.istore 9, 2) := by decide +kernel
theorem d_M_offer_17 : decode c_M_offer 17 = .ok (.bipush 6, 2) := by decide +kernel
theorem d_M_offer_19 : decode c_M_offer 19 = .ok (.iload 8, 2) := by decide +kernel
theorem d_M_offer_21 : decode c_M_offer 21 = .ok (.imul, 1) := by decide +kernel
theorem d_M_offer_22 : decode c_M_offer 22 = .ok (.istore 10, 2) := by decide +kernel
theorem d_M_offer_24 : decode c_M_offer 24 = .ok (.iload 10, 2) := by decide +kernel
theorem d_M_offer_26 : decode c_M_offer 26 = .ok (.bipush 6, 2) := by decide +kernel
theorem d_M_offer_28 : decode c_M_offer 28 = .ok (.iload 8, 2) := by decide +kernel
theorem d_M_offer_30 : decode c_M_offer 30 = .ok (.imul, 1) := by decide +kernel
theorem d_M_offer_31 : decode c_M_offer 31 = .ok (.aload_n 0, 1) := by decide +kernel
theorem d_M_offer_32 : decode c_M_offer 32 = .ok (.getfield 7, 3) := by decide +kernel
theorem d_M_offer_35 : decode c_M_offer 35 = .ok (.iload 8, 2) := by decide +kernel
theorem d_M_offer_37 : decode c_M_offer 37 = .ok (.iaload, 1) := by decide +kernel
theorem d_M_offer_38 : decode c_M_offer 38 = .ok (.iadd, 1) := by decide +kernel
theorem d_M_offer_39 : decode c_M_offer 39 = .ok (.if_icmp .ge 197, 3) := by decide +kernel
theorem d_M_offer_42 : decode c_M_offer 42 = .ok (.aload_n 0, 1) := by decide +kernel
theorem d_M_offer_43 : decode c_M_offer 43 = .ok (.getfield 13, 3) := by decide +kernel
theorem d_M_offer_46 : decode c_M_offer 46 = .ok (.iload 10, 2) := by decide +kernel
theorem d_M_offer_48 : decode c_M_offer 48 = .ok (.laload, 1) := by decide +kernel
theorem d_M_offer_49 : decode c_M_offer 49 = .ok (.lload 4, 2) := by decide +kernel
theorem d_M_offer_51 : decode c_M_offer 51 = .ok (.lcmp, 1) := by decide +kernel
theorem d_M_offer_52 : decode c_M_offer 52 = .ok (.ifCond .le 13, 3) := by decide +kernel
theorem d_M_offer_55 : decode c_M_offer 55 = .ok (.aload_n 0, 1) := by decide +kernel
theorem d_M_offer_56 : decode c_M_offer 56 = .ok (.getfield 13, 3) := by decide +kernel
theorem d_M_offer_59 : decode c_M_offer 59 = .ok (.iload 10, 2) := by decide +kernel
theorem d_M_offer_61 : decode c_M_offer 61 = .ok (.laload, 1) := by decide +kernel
theorem d_M_offer_62 : decode c_M_offer 62 = .ok (.goto 5, 3) := by decide +kernel
theorem d_M_offer_65 : decode c_M_offer 65 = .ok (.lload 4, 2) := by decide +kernel
theorem d_M_offer_67 : decode c_M_offer 67 = .ok (.lstore 11, 2) := by decide +kernel
theorem d_M_offer_69 : decode c_M_offer 69 = .ok (.iload 9, 2) := by decide +kernel
theorem d_M_offer_71 : decode c_M_offer 71 = .ok (.iconst (-1), 1) := by decide +kernel
theorem d_M_offer_72 : decode c_M_offer 72 = .ok (.if_icmp .ne 16, 3) := by decide +kernel
theorem d_M_offer_75 : decode c_M_offer 75 = .ok (.lload 11, 2) := by decide +kernel
theorem d_M_offer_77 : decode c_M_offer 77 = .ok (.aload_n 0, 1) := by decide +kernel
theorem d_M_offer_78 : decode c_M_offer 78 = .ok (.getfield 17, 3) := by decide +kernel
theorem d_M_offer_81 : decode c_M_offer 81 = .ok (.iload 10, 2) := by decide +kernel
theorem d_M_offer_83 : decode c_M_offer 83 = .ok (.laload, 1) := by decide +kernel
theorem d_M_offer_84 : decode c_M_offer 84 = .ok (.lmul, 1) := by decide +kernel
theorem d_M_offer_85 : decode c_M_offer 85 = .ok (.goto 31, 3) := by decide +kernel
theorem d_M_offer_88 : decode c_M_offer 88 = .ok (.lload 11, 2) := by decide +kernel
theorem d_M_offer_90 : decode c_M_offer 90 = .ok (.aload_n 0, 1) := by decide +kernel
theorem d_M_offer_91 : decode c_M_offer 91 = .ok (.getfield 17, 3) := by decide +kernel
theorem d_M_offer_94 : decode c_M_offer 94 = .ok (.iload 10, 2) := by decide +kernel
theorem d_M_offer_96 : decode c_M_offer 96 = .ok (.laload, 1) := by decide +kernel
theorem d_M_offer_97 : decode c_M_offer 97 = .ok (.lmul, 1) := by decide +kernel
theorem d_M_offer_98 : decode c_M_offer 98 = .ok (.aload_n 0, 1) := by decide +kernel
theorem d_M_offer_99 : decode c_M_offer 99 = .ok (.getfield 47, 3) := by decide +kernel
theorem d_M_offer_102 : decode c_M_offer 102 = .ok (.iload 9, 2) := by decide +kernel
theorem d_M_offer_104 : decode c_M_offer 104 = .ok (.laload, 1) := by decide +kernel
theorem d_M_offer_105 : decode c_M_offer 105 = .ok (.lmul, 1) := by decide +kernel
theorem d_M_offer_106 : decode c_M_offer 106 = .ok (.aload_n 0, 1) := by decide +kernel
theorem d_M_offer_107 : decode c_M_offer 107 = .ok (.getfield 50, 3) := by decide +kernel
theorem d_M_offer_110 : decode c_M_offer 110 = .ok (.iload 9, 2) := by decide +kernel
theorem d_M_offer_112 : decode c_M_offer 112 = .ok (.laload, 1) := by decide +kernel
theorem d_M_offer_113 : decode c_M_offer 113 = .ok (.invokestatic 124, 3) := by decide +kernel
theorem d_M_offer_116 : decode c_M_offer 116 = .ok (.lstore 13, 2) := by decide +kernel
theorem d_M_offer_118 : decode c_M_offer 118 = .ok (.aload_n 0, 1) := by decide +kernel
theorem d_M_offer_119 : decode c_M_offer 119 = .ok (.getfield 56, 3) := by decide +kernel
theorem d_M_offer_122 : decode c_M_offer 122 = .ok (.iload_n 1, 1) := by decide +kernel
theorem d_M_offer_123 : decode c_M_offer 123 = .ok (.laload, 1) := by decide +kernel
theorem d_M_offer_124 : decode c_M_offer 124 = .ok (.lconst 0, 1) := by decide +kernel
theorem d_M_offer_125 : decode c_M_offer 125 = .ok (.lcmp, 1) := by decide +kernel
theorem d_M_offer_126 : decode c_M_offer 126 = .ok (.ifCond .eq 59, 3) := by decide +kernel
theorem d_M_offer_129 : decode c_M_offer 129 = .ok (.lload 13, 2) := by decide +kernel
theorem d_M_offer_131 : decode c_M_offer 131 = .ok (.aload_n 0, 1) := by decide +kernel
theorem d_M_offer_132 : decode c_M_offer 132 = .ok (.getfield 53, 3) := by decide +kernel
theorem d_M_offer_135 : decode c_M_offer 135 = .ok (.iload_n 1, 1) := by decide +kernel
theorem d_M_offer_136 : decode c_M_offer 136 = .ok (.laload, 1) := by decide +kernel
theorem d_M_offer_137 : decode c_M_offer 137 = .ok (.lcmp, 1) := by decide +kernel
theorem d_M_offer_138 : decode c_M_offer 138 = .ok (.ifCond .lt 47, 3) := by decide +kernel
theorem d_M_offer_141 : decode c_M_offer 141 = .ok (.lload 13, 2) := by decide +kernel
theorem d_M_offer_143 : decode c_M_offer 143 = .ok (.aload_n 0, 1) := by decide +kernel
theorem d_M_offer_144 : decode c_M_offer 144 = .ok (.getfield 53, 3) := by decide +kernel
theorem d_M_offer_147 : decode c_M_offer 147 = .ok (.iload_n 1, 1) := by decide +kernel
theorem d_M_offer_148 : decode c_M_offer 148 = .ok (.laload, 1) := by decide +kernel
theorem d_M_offer_149 : decode c_M_offer 149 = .ok (.lcmp, 1) := by decide +kernel
theorem d_M_offer_150 : decode c_M_offer 150 = .ok (.ifCond .ne 39, 3) := by decide +kernel
theorem d_M_offer_153 : decode c_M_offer 153 = .ok (.aload_n 0, 1) := by decide +kernel
theorem d_M_offer_154 : decode c_M_offer 154 = .ok (.getfield 59, 3) := by decide +kernel
theorem d_M_offer_157 : decode c_M_offer 157 = .ok (.iload_n 1, 1) := by decide +kernel
theorem d_M_offer_158 : decode c_M_offer 158 = .ok (.iaload, 1) := by decide +kernel
theorem d_M_offer_159 : decode c_M_offer 159 = .ok (.iload_n 3, 1) := by decide +kernel
theorem d_M_offer_160 : decode c_M_offer 160 = .ok (.if_icmp .ne 29, 3) := by decide +kernel
theorem d_M_offer_163 : decode c_M_offer 163 = .ok (.aload_n 0, 1) := by decide +kernel
theorem d_M_offer_164 : decode c_M_offer 164 = .ok (.getfield 62, 3) := by decide +kernel
theorem d_M_offer_167 : decode c_M_offer 167 = .ok (.iload_n 1, 1) := by decide +kernel
theorem d_M_offer_168 : decode c_M_offer 168 = .ok (.iaload, 1) := by decide +kernel
theorem d_M_offer_169 : decode c_M_offer 169 = .ok (.iload_n 2, 1) := by decide +kernel
theorem d_M_offer_170 : decode c_M_offer 170 = .ok (.if_icmp .ne 19, 3) := by decide +kernel
theorem d_M_offer_173 : decode c_M_offer 173 = .ok (.lload 11, 2) := by decide +kernel
theorem d_M_offer_175 : decode c_M_offer 175 = .ok (.aload_n 0, 1) := by decide +kernel
theorem d_M_offer_176 : decode c_M_offer 176 = .ok (.getfield 56, 3) := by decide +kernel
theorem d_M_offer_179 : decode c_M_offer 179 = .ok (.iload_n 1, 1) := by decide +kernel
theorem d_M_offer_180 : decode c_M_offer 180 = .ok (.laload, 1) := by decide +kernel
theorem d_M_offer_181 : decode c_M_offer 181 = .ok (.lcmp, 1) := by decide +kernel
theorem d_M_offer_182 : decode c_M_offer 182 = .ok (.ifCond .ge 7, 3) := by decide +kernel
theorem d_M_offer_185 : decode c_M_offer 185 = .ok (.iconst 1, 1) := by decide +kernel
theorem d_M_offer_186 : decode c_M_offer 186 = .ok (.goto 4, 3) := by decide +kernel
theorem d_M_offer_189 : decode c_M_offer 189 = .ok (.iconst 0, 1) := by decide +kernel
theorem d_M_offer_190 : decode c_M_offer 190 = .ok (.istore 15, 2) := by decide +kernel
theorem d_M_offer_192 : decode c_M_offer 192 = .ok (.iload 15, 2) := by decide +kernel
theorem d_M_offer_194 : decode c_M_offer 194 = .ok (.ifCond .ne 6, 3) := by decide +kernel
theorem d_M_offer_197 : decode c_M_offer 197 = .ok (.goto 33, 3) := by decide +kernel
theorem d_M_offer_200 : decode c_M_offer 200 = .ok (.aload_n 0, 1) := by decide +kernel
theorem d_M_offer_201 : decode c_M_offer 201 = .ok (.getfield 53, 3) := by decide +kernel
theorem d_M_offer_204 : decode c_M_offer 204 = .ok (.iload_n 1, 1) := by decide +kernel
theorem d_M_offer_205 : decode c_M_offer 205 = .ok (.lload 13, 2) := by decide +kernel
theorem d_M_offer_207 : decode c_M_offer 207 = .ok (.lastore, 1) := by decide +kernel
theorem d_M_offer_208 : decode c_M_offer 208 = .ok (.aload_n 0, 1) := by decide +kernel
theorem d_M_offer_209 : decode c_M_offer 209 = .ok (.getfield 56, 3) := by decide +kernel
theorem d_M_offer_212 : decode c_M_offer 212 = .ok (.iload_n 1, 1) := by decide +kernel
theorem d_M_offer_213 : decode c_M_offer 213 = .ok (.lload 11, 2) := by decide +kernel
theorem d_M_offer_215 : decode c_M_offer 215 = .ok (.lastore, 1) := by decide +kernel
theorem d_M_offer_216 : decode c_M_offer 216 = .ok (.aload_n 0, 1) := by decide +kernel
theorem d_M_offer_217 : decode c_M_offer 217 = .ok (.getfield 59, 3) := by decide +kernel
theorem d_M_offer_220 : decode c_M_offer 220 = .ok (.iload_n 1, 1) := by decide +kernel
theorem d_M_offer_221 : decode c_M_offer 221 = .ok (.iload_n 3, 1) := by decide +kernel
theorem d_M_offer_222 : decode c_M_offer 222 = .ok (.iastore, 1) := by decide +kernel
theorem d_M_offer_223 : decode c_M_offer 223 = .ok (.aload_n 0, 1) := by decide +kernel
theorem d_M_offer_224 : decode c_M_offer 224 = .ok (.getfield 62, 3) := by decide +kernel
theorem d_M_offer_227 : decode c_M_offer 227 = .ok (.iload_n 1, 1) := by decide +kernel
theorem d_M_offer_228 : decode c_M_offer 228 = .ok (.iload_n 2, 1) := by decide +kernel
theorem d_M_offer_229 : decode c_M_offer 229 = .ok (.iastore, 1) := by decide +kernel
theorem d_M_offer_230 : decode c_M_offer 230 = .ok (.iinc 10 1, 3) := by decide +kernel
theorem d_M_offer_233 : decode c_M_offer 233 = .ok (.goto (-209), 3) := by decide +kernel
theorem d_M_offer_236 : decode c_M_offer 236 = .ok (.return_, 1) := by decide +kernel
theorem d_M_started_0 : decode c_M_started 0 = .ok (.lload_n 1, 1) := by decide +kernel
theorem d_M_started_1 : decode c_M_started 1 = .ok (.lstore_n 3, 1) := by decide +kernel
theorem d_M_started_2 : decode c_M_started 2 = .ok (.aload_n 0, 1) := by decide +kernel
theorem d_M_started_3 : decode c_M_started 3 = .ok (.getfield 113, 3) := by decide +kernel
theorem d_M_started_6 : decode c_M_started 6 = .ok (.iconst 1, 1) := by decide +kernel
theorem d_M_started_7 : decode c_M_started 7 = .ok (.isub, 1) := by decide +kernel
theorem d_M_started_8 : decode c_M_started 8 = .ok (.istore 5, 2) := by decide +kernel
theorem d_M_started_10 : decode c_M_started 10 = .ok (.iload 5, 2) := by decide +kernel
theorem d_M_started_12 : decode c_M_started 12 = .ok (.ifCond .lt 37, 3) := by decide +kernel
theorem d_M_started_15 : decode c_M_started 15 = .ok (.lload_n 3, 1) := by decide +kernel
theorem d_M_started_16 : decode c_M_started 16 = .ok (.ldc2_w 87, 3) := by decide +kernel
theorem d_M_started_19 : decode c_M_started 19 = .ok (.lcmp, 1) := by decide +kernel
theorem d_M_started_20 : decode c_M_started 20 = .ok (.ifCond .gt 29, 3) := by decide +kernel
theorem d_M_started_23 : decode c_M_started 23 = .ok (.lload_n 3, 1) := by decide +kernel
theorem d_M_started_24 : decode c_M_started 24 = .ok (.aload_n 0, 1) := by decide +kernel
theorem d_M_started_25 : decode c_M_started 25 = .ok (.getfield 38, 3) := by decide +kernel
theorem d_M_started_28 : decode c_M_started 28 = .ok (.iload 5, 2) := by decide +kernel
theorem d_M_started_30 : decode c_M_started 30 = .ok (.laload, 1) := by decide +kernel
theorem d_M_started_31 : decode c_M_started 31 = .ok (.lmul, 1) := by decide +kernel
theorem d_M_started_32 : decode c_M_started 32 = .ok (.aload_n 0, 1) := by decide +kernel
theorem d_M_started_33 : decode c_M_started 33 = .ok (.getfield 35, 3) := by decide +kernel
theorem d_M_started_36 : decode c_M_started 36 = .ok (.iload 5, 2) := by decide +kernel
theorem d_M_started_38 : decode c_M_started 38 = .ok (.laload, 1) := by decide +kernel
theorem d_M_started_39 : decode c_M_started 39 = .ok (.invokestatic 124, 3) := by decide +kernel
theorem d_M_started_42 : decode c_M_started 42 = .ok (.lstore_n 3, 1) := by decide +kernel
theorem d_M_started_43 : decode c_M_started 43 = .ok (.iinc 5 (-1), 3) := by decide +kernel
theorem d_M_started_46 : decode c_M_started 46 = .ok (.goto (-36), 3) := by decide +kernel
theorem d_M_started_49 : decode c_M_started 49 = .ok (.lload_n 3, 1) := by decide +kernel
theorem d_M_started_50 : decode c_M_started 50 = .ok (.lreturn, 1) := by decide +kernel
theorem d_M_reckon_0 : decode c_M_reckon 0 = .ok (.iconst 0, 1) := by decide +kernel
theorem d_M_reckon_1 : decode c_M_reckon 1 = .ok (.istore 6, 2) := by decide +kernel
theorem d_M_reckon_3 : decode c_M_reckon 3 = .ok (.iload 6, 2) := by decide +kernel
theorem d_M_reckon_5 : decode c_M_reckon 5 = .ok (.bipush 33, 2) := by decide +kernel
theorem d_M_reckon_7 : decode c_M_reckon 7 = .ok (.if_icmp .ge 41, 3) := by decide +kernel
theorem d_M_reckon_10 : decode c_M_reckon 10 = .ok (.aload_n 0, 1) := by decide +kernel
theorem d_M_reckon_11 : decode c_M_reckon 11 = .ok (.getfield 53, 3) := by decide +kernel
theorem d_M_reckon_14 : decode c_M_reckon 14 = .ok (.iload 6, 2) := by decide +kernel
theorem d_M_reckon_16 : decode c_M_reckon 16 = .ok (.lconst 0, 1) := by decide +kernel
theorem d_M_reckon_17 : decode c_M_reckon 17 = .ok (.lastore, 1) := by decide +kernel
theorem d_M_reckon_18 : decode c_M_reckon 18 = .ok (.aload_n 0, 1) := by decide +kernel
theorem d_M_reckon_19 : decode c_M_reckon 19 = .ok (.getfield 56, 3) := by decide +kernel
theorem d_M_reckon_22 : decode c_M_reckon 22 = .ok (.iload 6, 2) := by decide +kernel
theorem d_M_reckon_24 : decode c_M_reckon 24 = .ok (.lconst 0, 1) := by decide +kernel
theorem d_M_reckon_25 : decode c_M_reckon 25 = .ok (.lastore, 1) := by decide +kernel
theorem d_M_reckon_26 : decode c_M_reckon 26 = .ok (.aload_n 0, 1) := by decide +kernel
theorem d_M_reckon_27 : decode c_M_reckon 27 = .ok (.getfield 59, 3) := by decide +kernel
theorem d_M_reckon_30 : decode c_M_reckon 30 = .ok (.iload 6, 2) := by decide +kernel
theorem d_M_reckon_32 : decode c_M_reckon 32 = .ok (.iconst (-1), 1) := by decide +kernel
theorem d_M_reckon_33 : decode c_M_reckon 33 = .ok (.iastore, 1) := by decide +kernel
theorem d_M_reckon_34 : decode c_M_reckon 34 = .ok (.aload_n 0, 1) := by decide +kernel
theorem d_M_reckon_35 : decode c_M_reckon 35 = .ok (.getfield 62, 3) := by decide +kernel
theorem d_M_reckon_38 : decode c_M_reckon 38 = .ok (.iload 6, 2) := by decide +kernel
theorem d_M_reckon_40 : decode c_M_reckon 40 = .ok (.iconst (-1), 1) := by decide +kernel
theorem d_M_reckon_41 : decode c_M_reckon 41 = .ok (.iastore, 1) := by decide +kernel
theorem d_M_reckon_42 : decode c_M_reckon 42 = .ok (.iinc 6 1, 3) := by decide +kernel
theorem d_M_reckon_45 : decode c_M_reckon 45 = .ok (.goto (-42), 3) := by decide +kernel
theorem d_M_reckon_48 : decode c_M_reckon 48 = .ok (.aload_n 0, 1) := by decide +kernel
theorem d_M_reckon_49 : decode c_M_reckon 49 = .ok (.lload_n 1, 1) := by decide +kernel
theorem d_M_reckon_50 : decode c_M_reckon 50 = .ok (.invokevirtual 128, 3) := by decide +kernel
theorem d_M_reckon_53 : decode c_M_reckon 53 = .ok (.lstore 6, 2) := by decide +kernel
theorem d_M_reckon_55 : decode c_M_reckon 55 = .ok (.aload_n 0, 1) := by decide +kernel
theorem d_M_reckon_56 : decode c_M_reckon 56 = .ok (.lload 6, 2) := by decide +kernel
theorem d_M_reckon_58 : decode c_M_reckon 58 = .ok (.ldc2_w 87, 3) := by decide +kernel
theorem d_M_reckon_61 : decode c_M_reckon 61 = .ok (.lcmp, 1) := by decide +kernel
theorem d_M_reckon_62 : decode c_M_reckon 62 = .ok (.ifCond .gt 7, 3) := by decide +kernel
theorem d_M_reckon_65 : decode c_M_reckon 65 = .ok (.iconst 1, 1) := by decide +kernel
theorem d_M_reckon_66 : decode c_M_reckon 66 = .ok (.goto 4, 3) := by decide +kernel
theorem d_M_reckon_69 : decode c_M_reckon 69 = .ok (.iconst 0, 1) := by decide +kernel
theorem d_M_reckon_70 : decode c_M_reckon 70 = .ok (.putfield 132, 3) := by decide +kernel
theorem d_M_reckon_73 : decode c_M_reckon 73 = .ok (.aload_n 0, 1) := by decide +kernel
theorem d_M_reckon_74 : decode c_M_reckon 74 = .ok (.getfield 53, 3) := by decide +kernel
theorem d_M_reckon_77 : decode c_M_reckon 77 = .ok (.iconst 0, 1) := by decide +kernel
theorem d_M_reckon_78 : decode c_M_reckon 78 = .ok (.aload_n 0, 1) := by decide +kernel
theorem d_M_reckon_79 : decode c_M_reckon 79 = .ok (.getfield 116, 3) := by decide +kernel
theorem d_M_reckon_82 : decode c_M_reckon 82 = .ok (.lastore, 1) := by decide +kernel
theorem d_M_reckon_83 : decode c_M_reckon 83 = .ok (.aload_n 0, 1) := by decide +kernel
theorem d_M_reckon_84 : decode c_M_reckon 84 = .ok (.getfield 132, 3) := by decide +kernel
theorem d_M_reckon_87 : decode c_M_reckon 87 = .ok (.ifCond .eq 126, 3) := by decide +kernel
theorem d_M_reckon_90 : decode c_M_reckon 90 = .ok (.lload 6, 2) := by decide +kernel
theorem d_M_reckon_92 : decode c_M_reckon 92 = .ok (.lconst 0, 1) := by decide +kernel
theorem d_M_reckon_93 : decode c_M_reckon 93 = .ok (.lcmp, 1) := by decide +kernel
theorem d_M_reckon_94 : decode c_M_reckon 94 = .ok (.ifCond .le 119, 3) := by decide +kernel
theorem d_M_reckon_97 : decode c_M_reckon 97 = .ok (.aload_n 0, 1) := by decide +kernel
theorem d_M_reckon_98 : decode c_M_reckon 98 = .ok (.iconst 1, 1) := by decide +kernel
theorem d_M_reckon_99 : decode c_M_reckon 99 = .ok (.bipush 30, 2) := by decide +kernel
theorem d_M_reckon_101 : decode c_M_reckon 101 = .ok (.iload_n 3, 1) := by decide +kernel
theorem d_M_reckon_102 : decode c_M_reckon 102 = .ok (.lload 6, 2) := by decide +kernel
theorem d_M_reckon_104 : decode c_M_reckon 104 = .ok (.lload 4, 2) := by decide +kernel
theorem d_M_reckon_106 : decode c_M_reckon 106 = .ok (.invokevirtual 136, 3) := by decide +kernel
theorem d_M_reckon_109 : decode c_M_reckon 109 = .ok (.aload_n 0, 1) := by decide +kernel
theorem d_M_reckon_110 : decode c_M_reckon 110 = .ok (.aload_n 0, 1) := by decide +kernel
theorem d_M_reckon_111 : decode c_M_reckon 111 = .ok (.getfield 56, 3) := by decide +kernel
theorem d_M_reckon_114 : decode c_M_reckon 114 = .ok (.iconst 1, 1) := by decide +kernel
theorem d_M_reckon_115 : decode c_M_reckon 115 = .ok (.laload, 1) := by decide +kernel
theorem d_M_reckon_116 : decode c_M_reckon 116 = .ok (.lconst 0, 1) := by decide +kernel
theorem d_M_reckon_117 : decode c_M_reckon 117 = .ok (.lcmp, 1) := by decide +kernel
theorem d_M_reckon_118 : decode c_M_reckon 118 = .ok (.ifCond .le 7, 3) := by decide +kernel
theorem d_M_reckon_121 : decode c_M_reckon 121 = .ok (.iconst 1, 1) := by decide +kernel
theorem d_M_reckon_122 : decode c_M_reckon 122 = .ok (.goto 4, 3) := by decide +kernel
theorem d_M_reckon_125 : decode c_M_reckon 125 = .ok (.iconst 0, 1) := by decide +kernel
theorem d_M_reckon_126 : decode c_M_reckon 126 = .ok (.putfield 132, 3) := by decide +kernel
theorem d_M_reckon_129 : decode c_M_reckon 129 = .ok (.iconst 0, 1) := by decide +kernel
theorem d_M_reckon_130 : decode c_M_reckon 130 = .ok (.istore 8, 2) := by decide +kernel
theorem d_M_reckon_132 : decode c_M_reckon 132 = .ok (.iload 8, 2) := by decide +kernel
theorem d_M_reckon_134 : decode c_M_reckon 134 = .ok (.bipush 8, 2) := by decide +kernel
theorem d_M_reckon_136 : decode c_M_reckon 136 = .ok (.if_icmp .ge 42, 3) := by decide +kernel
theorem d_M_reckon_139 : decode c_M_reckon 139 = .ok (.aload_n 0, 1) := by decide +kernel
theorem d_M_reckon_140 : decode c_M_reckon 140 = .ok (.getfield 53, 3) := by decide +kernel
theorem d_M_reckon_143 : decode c_M_reckon 143 = .ok (.iconst 2, 1) := by decide +kernel
theorem d_M_reckon_144 : decode c_M_reckon 144 = .ok (.dup2, 1) := by decide +kernel
theorem d_M_reckon_145 : decode c_M_reckon 145 = .ok (.laload, 1) := by decide +kernel
theorem d_M_reckon_146 : decode c_M_reckon 146 = .ok (.lload 6, 2) := by decide +kernel
theorem d_M_reckon_148 : decode c_M_reckon 148 = .ok (.aload_n 0, 1) := by decide +kernel
theorem d_M_reckon_149 : decode c_M_reckon 149 = .ok (.getfield 32, 3) := by decide +kernel
theorem d_M_reckon_152 : decode c_M_reckon 152 = .ok (.iload 8, 2) := by decide +kernel
theorem d_M_reckon_154 : decode c_M_reckon 154 = .ok (.laload, 1) := by decide +kernel
theorem d_M_reckon_155 : decode c_M_reckon 155 = .ok (.lmul, 1) := by decide +kernel
theorem d_M_reckon_156 : decode c_M_reckon 156 = .ok (.aload_n 0, 1) := by decide +kernel
theorem d_M_reckon_157 : decode c_M_reckon 157 = .ok (.getfield 29, 3) := by decide +kernel
theorem d_M_reckon_160 : decode c_M_reckon 160 = .ok (.iload 8, 2) := by decide +kernel
theorem d_M_reckon_162 : decode c_M_reckon 162 = .ok (.laload, 1) := by decide +kernel
theorem d_M_reckon_163 : decode c_M_reckon 163 = .ok (.lmul, 1) := by decide +kernel
theorem d_M_reckon_164 : decode c_M_reckon 164 = .ok (.ldc2_w 106, 3) := by decide +kernel
theorem d_M_reckon_167 : decode c_M_reckon 167 = .ok (.invokestatic 124, 3) := by decide +kernel
theorem d_M_reckon_170 : decode c_M_reckon 170 = .ok (.ladd, 1) := by decide +kernel
theorem d_M_reckon_171 : decode c_M_reckon 171 = .ok (.lastore, 1) := by decide +kernel
theorem d_M_reckon_172 : decode c_M_reckon 172 = .ok (.iinc 8 1, 3) := by decide +kernel
theorem d_M_reckon_175 : decode c_M_reckon 175 = .ok (.goto (-43), 3) := by decide +kernel
theorem d_M_reckon_178 : decode c_M_reckon 178 = .ok (.iconst 0, 1) := by decide +kernel
theorem d_M_reckon_179 : decode c_M_reckon 179 = .ok (.istore 8, 2) := by decide +kernel
theorem d_M_reckon_181 : decode c_M_reckon 181 = .ok (.iload 8, 2) := by decide +kernel
theorem d_M_reckon_183 : decode c_M_reckon 183 = .ok (.aload_n 0, 1) := by decide +kernel
theorem d_M_reckon_184 : decode c_M_reckon 184 = .ok (.getfield 84, 3) := by decide +kernel
theorem d_M_reckon_187 : decode c_M_reckon 187 = .ok (.if_icmp .ge 26, 3) := by decide +kernel
theorem d_M_reckon_190 : decode c_M_reckon 190 = .ok (.aload_n 0, 1) := by decide +kernel
theorem d_M_reckon_191 : decode c_M_reckon 191 = .ok (.getfield 132, 3) := by decide +kernel
theorem d_M_reckon_194 : decode c_M_reckon 194 = .ok (.ifCond .eq 19, 3) := by decide +kernel
theorem d_M_reckon_197 : decode c_M_reckon 197 = .ok (.aload_n 0, 1) := by decide +kernel
theorem d_M_reckon_198 : decode c_M_reckon 198 = .ok (.iload 8, 2) := by decide +kernel
theorem d_M_reckon_200 : decode c_M_reckon 200 = .ok (.lload 6, 2) := by decide +kernel
theorem d_M_reckon_202 : decode c_M_reckon 202 = .ok (.lload 4, 2) := by decide +kernel
theorem d_M_reckon_204 : decode c_M_reckon 204 = .ok (.invokevirtual 140, 3) := by decide +kernel
theorem d_M_reckon_207 : decode c_M_reckon 207 = .ok (.iinc 8 1, 3) := by decide +kernel
theorem d_M_reckon_210 : decode c_M_reckon 210 = .ok (.goto (-29), 3) := by decide +kernel
theorem d_M_reckon_213 : decode c_M_reckon 213 = .ok (.aload_n 0, 1) := by decide +kernel
theorem d_M_reckon_214 : decode c_M_reckon 214 = .ok (.getfield 62, 3) := by decide +kernel
theorem d_M_reckon_217 : decode c_M_reckon 217 = .ok (.iconst 1, 1) := by decide +kernel
theorem d_M_reckon_218 : decode c_M_reckon 218 = .ok (.iconst (-1), 1) := by decide +kernel
theorem d_M_reckon_219 : decode c_M_reckon 219 = .ok (.iastore, 1) := by decide +kernel
theorem d_M_reckon_220 : decode c_M_reckon 220 = .ok (.aload_n 0, 1) := by decide +kernel
theorem d_M_reckon_221 : decode c_M_reckon 221 = .ok (.lconst 0, 1) := by decide +kernel
theorem d_M_reckon_222 : decode c_M_reckon 222 = .ok (.putfield 144, 3) := by decide +kernel
theorem d_M_reckon_225 : decode c_M_reckon 225 = .ok (.iconst 0, 1) := by decide +kernel
theorem d_M_reckon_226 : decode c_M_reckon 226 = .ok (.istore 8, 2) := by decide +kernel
theorem d_M_reckon_228 : decode c_M_reckon 228 = .ok (.iload 8, 2) := by decide +kernel
theorem d_M_reckon_230 : decode c_M_reckon 230 = .ok (.bipush 33, 2) := by decide +kernel
theorem d_M_reckon_232 : decode c_M_reckon 232 = .ok (.if_icmp .ge 25, 3) := by decide +kernel
theorem d_M_reckon_235 : decode c_M_reckon 235 = .ok (.aload_n 0, 1) := by decide +kernel
theorem d_M_reckon_236 : decode c_M_reckon 236 = .ok (.dup, 1) := by decide +kernel
theorem d_M_reckon_237 : decode c_M_reckon 237 = .ok (.getfield 144, 3) := by decide +kernel
theorem d_M_reckon_240 : decode c_M_reckon 240 = .ok (.aload_n 0, 1) := by decide +kernel
theorem d_M_reckon_241 : decode c_M_reckon 241 = .ok (.getfield 53, 3) := by decide +kernel
theorem d_M_reckon_244 : decode c_M_reckon 244 = .ok (.iload 8, 2) := by decide +kernel
theorem d_M_reckon_246 : decode c_M_reckon 246 = .ok (.laload, 1) := by decide +kernel
theorem d_M_reckon_247 : decode c_M_reckon 247 = .ok (.ladd, 1) := by decide +kernel
theorem d_M_reckon_248 : decode c_M_reckon 248 = .ok (.putfield 144, 3) := by decide +kernel
theorem d_M_reckon_251 : decode c_M_reckon 251 = .ok (.iinc 8 1, 3) := by decide +kernel
theorem d_M_reckon_254 : decode c_M_reckon 254 = .ok (.goto (-26), 3) := by decide +kernel
theorem d_M_reckon_257 : decode c_M_reckon 257 = .ok (.return_, 1) := by decide +kernel
theorem d_M_buyPart_0 : decode c_M_buyPart 0 = .ok (.lload_n 2, 1) := by decide +kernel
theorem d_M_buyPart_1 : decode c_M_buyPart 1 = .ok (.aload_n 0, 1) := by decide +kernel
theorem d_M_buyPart_2 : decode c_M_buyPart 2 = .ok (.getfield 20, 3) := by decide +kernel
theorem d_M_buyPart_5 : decode c_M_buyPart 5 = .ok (.iload_n 1, 1) := by decide +kernel
theorem d_M_buyPart_6 : decode c_M_buyPart 6 = .ok (.laload, 1) := by decide +kernel
theorem d_M_buyPart_7 : decode c_M_buyPart 7 = .ok (.lmul, 1) := by decide +kernel
theorem d_M_buyPart_8 : decode c_M_buyPart 8 = .ok (.aload_n 0, 1) := by decide +kernel
theorem d_M_buyPart_9 : decode c_M_buyPart 9 = .ok (.getfield 23, 3) := by decide +kernel
theorem d_M_buyPart_12 : decode c_M_buyPart 12 = .ok (.iload_n 1, 1) := by decide +kernel
theorem d_M_buyPart_13 : decode c_M_buyPart 13 = .ok (.laload, 1) := by decide +kernel
theorem d_M_buyPart_14 : decode c_M_buyPart 14 = .ok (.lsub, 1) := by decide +kernel
theorem d_M_buyPart_15 : decode c_M_buyPart 15 = .ok (.lstore 6, 2) := by decide +kernel
theorem d_M_buyPart_17 : decode c_M_buyPart 17 = .ok (.lload 6, 2) := by decide +kernel
theorem d_M_buyPart_19 : decode c_M_buyPart 19 = .ok (.lconst 0, 1) := by decide +kernel
theorem d_M_buyPart_20 : decode c_M_buyPart 20 = .ok (.lcmp, 1) := by decide +kernel
theorem d_M_buyPart_21 : decode c_M_buyPart 21 = .ok (.ifCond .gt 4, 3) := by decide +kernel
theorem d_M_buyPart_24 : decode c_M_buyPart 24 = .ok (.return_, 1) := by decide +kernel
theorem d_M_buyPart_25 : decode c_M_buyPart 25 = .ok (.lload 6, 2) := by decide +kernel
theorem d_M_buyPart_27 : decode c_M_buyPart 27 = .ok (.ldc2_w 87, 3) := by decide +kernel
theorem d_M_buyPart_30 : decode c_M_buyPart 30 = .ok (.lcmp, 1) := by decide +kernel
theorem d_M_buyPart_31 : decode c_M_buyPart 31 = .ok (.ifCond .le 9, 3) := by decide +kernel
theorem d_M_buyPart_34 : decode c_M_buyPart 34 = .ok (.aload_n 0, 1) := by decide +kernel
theorem d_M_buyPart_35 : decode c_M_buyPart 35 = .ok (.iconst 0, 1) := by decide +kernel
theorem d_M_buyPart_36 : decode c_M_buyPart 36 = .ok (.putfield 132, 3) := by decide +kernel
theorem d_M_buyPart_39 : decode c_M_buyPart 39 = .ok (.return_, 1) := by decide +kernel
theorem d_M_buyPart_40 : decode c_M_buyPart 40 = .ok (.iconst 0, 1) := by decide +kernel
theorem d_M_buyPart_41 : decode c_M_buyPart 41 = .ok (.istore 8, 2) := by decide +kernel
theorem d_M_buyPart_43 : decode c_M_buyPart 43 = .ok (.iload 8, 2) := by decide +kernel
theorem d_M_buyPart_45 : decode c_M_buyPart 45 = .ok (.aload_n 0, 1) := by decide +kernel
theorem d_M_buyPart_46 : decode c_M_buyPart 46 = .ok (.getfield 84, 3) := by decide +kernel
theorem d_M_buyPart_49 : decode c_M_buyPart 49 = .ok (.if_icmp .ge 63, 3) := by decide +kernel
theorem d_M_buyPart_52 : decode c_M_buyPart 52 = .ok (.iload 8, 2) := by decide +kernel
theorem d_M_buyPart_54 : decode c_M_buyPart 54 = .ok (.iload_n 1, 1) := by decide +kernel
theorem d_M_buyPart_55 : decode c_M_buyPart 55 = .ok (.if_icmp .eq 20, 3) := by decide +kernel
theorem d_M_buyPart_58 : decode c_M_buyPart 58 = .ok (.aload_n 0, 1) := by decide +kernel
theorem d_M_buyPart_59 : decode c_M_buyPart 59 = .ok (.getfield 26, 3) := by decide +kernel
theorem d_M_buyPart_62 : decode c_M_buyPart 62 = .ok (.iload_n 1, 1) := by decide +kernel
theorem d_M_buyPart_63 : decode c_M_buyPart 63 = .ok (.iaload, 1) := by decide +kernel
theorem d_M_buyPart_64 : decode c_M_buyPart 64 = .ok (.iload 8, 2) := by decide +kernel
theorem d_M_buyPart_66 : decode c_M_buyPart 66 = .ok (.ishr, 1) := by decide +kernel
theorem d_M_buyPart_67 : decode c_M_buyPart 67 = .ok (.iconst 1, 1) := by decide +kernel
theorem d_M_buyPart_68 : decode c_M_buyPart 68 = .ok (.iand, 1) := by decide +kernel
theorem d_M_buyPart_69 : decode c_M_buyPart 69 = .ok (.ifCond .ne 6, 3) := by decide +kernel
theorem d_M_buyPart_72 : decode c_M_buyPart 72 = .ok (.goto 34, 3) := by decide +kernel
theorem d_M_buyPart_75 : decode c_M_buyPart 75 = .ok (.iconst 0, 1) := by decide +kernel
theorem d_M_buyPart_76 : decode c_M_buyPart 76 = .ok (.istore 9, 2) := by decide +kernel
theorem d_M_buyPart_78 : decode c_M_buyPart 78 = .ok (.iload 9, 2) := by decide +kernel
theorem d_M_buyPart_80 : decode c_M_buyPart 80 = .ok (.bipush 8, 2) := by decide +kernel
theorem d_M_buyPart_82 : decode c_M_buyPart 82 = .ok (.if_icmp .ge 24, 3) := by decide +kernel
theorem d_M_buyPart_85 : decode c_M_buyPart 85 = .ok (.aload_n 0, 1) := by decide +kernel
theorem d_M_buyPart_86 : decode c_M_buyPart 86 = .ok (.iconst 3, 1) := by decide +kernel
theorem d_M_buyPart_87 : decode c_M_buyPart 87 = .ok (.iload_n 1, 1) := by decide +kernel
theorem d_M_buyPart_88 : decode c_M_buyPart 88 = .ok (.iadd, 1) := by decide +kernel
theorem d_M_buyPart_89 : decode c_M_buyPart 89 = .ok (.iload 8, 2) := by decide +kernel
theorem d_M_buyPart_91 : decode c_M_buyPart 91 = .ok (.iload 9, 2) := by decide +kernel
theorem d_M_buyPart_93 : decode c_M_buyPart 93 = .ok (.lload 6, 2) := by decide +kernel
theorem d_M_buyPart_95 : decode c_M_buyPart 95 = .ok (.lload 4, 2) := by decide +kernel
theorem d_M_buyPart_97 : decode c_M_buyPart 97 = .ok (.invokevirtual 136, 3) := by decide +kernel
theorem d_M_buyPart_100 : decode c_M_buyPart 100 = .ok (.iinc 9 1, 3) := by decide +kernel
theorem d_M_buyPart_103 : decode c_M_buyPart 103 = .ok (.goto (-25), 3) := by decide +kernel
theorem d_M_buyPart_106 : decode c_M_buyPart 106 = .ok (.iinc 8 1, 3) := by decide +kernel
theorem d_M_buyPart_109 : decode c_M_buyPart 109 = .ok (.goto (-66), 3) := by decide +kernel
theorem d_M_buyPart_112 : decode c_M_buyPart 112 = .ok (.aload_n 0, 1) := by decide +kernel
theorem d_M_buyPart_113 : decode c_M_buyPart 113 = .ok (.aload_n 0, 1) := by decide +kernel
theorem d_M_buyPart_114 : decode c_M_buyPart 114 = .ok (.getfield 56, 3) := by decide +kernel
theorem d_M_buyPart_117 : decode c_M_buyPart 117 = .ok (.iconst 3, 1) := by decide +kernel
theorem d_M_buyPart_118 : decode c_M_buyPart 118 = .ok (.iload_n 1, 1) := by decide +kernel
theorem d_M_buyPart_119 : decode c_M_buyPart 119 = .ok (.iadd, 1) := by decide +kernel
theorem d_M_buyPart_120 : decode c_M_buyPart 120 = .ok (.laload, 1) := by decide +kernel
theorem d_M_buyPart_121 : decode c_M_buyPart 121 = .ok (.lconst 0, 1) := by decide +kernel
theorem d_M_buyPart_122 : decode c_M_buyPart 122 = .ok (.lcmp, 1) := by decide +kernel
theorem d_M_buyPart_123 : decode c_M_buyPart 123 = .ok (.ifCond .le 7, 3) := by decide +kernel
theorem d_M_buyPart_126 : decode c_M_buyPart 126 = .ok (.iconst 1, 1) := by decide +kernel
theorem d_M_buyPart_127 : decode c_M_buyPart 127 = .ok (.goto 4, 3) := by decide +kernel
theorem d_M_buyPart_130 : decode c_M_buyPart 130 = .ok (.iconst 0, 1) := by decide +kernel
theorem d_M_buyPart_131 : decode c_M_buyPart 131 = .ok (.putfield 132, 3) := by decide +kernel
theorem d_M_buyPart_134 : decode c_M_buyPart 134 = .ok (.return_, 1) := by decide +kernel
theorem d_M_isQuantity_0 : decode c_M_isQuantity 0 = .ok (.lload_n 0, 1) := by decide +kernel
theorem d_M_isQuantity_1 : decode c_M_isQuantity 1 = .ok (.lconst 0, 1) := by decide +kernel
theorem d_M_isQuantity_2 : decode c_M_isQuantity 2 = .ok (.ldc2_w 111, 3) := by decide +kernel
theorem d_M_isQuantity_5 : decode c_M_isQuantity 5 = .ok (.invokestatic 89, 3) := by decide +kernel
theorem d_M_isQuantity_8 : decode c_M_isQuantity 8 = .ok (.ireturn, 1) := by decide +kernel
theorem d_M_refusal_0 : decode c_M_refusal 0 = .ok (.iload_n 3, 1) := by decide +kernel
theorem d_M_refusal_1 : decode c_M_refusal 1 = .ok (.invokestatic 99, 3) := by decide +kernel
theorem d_M_refusal_4 : decode c_M_refusal 4 = .ok (.ifCond .ne 7, 3) := by decide +kernel
theorem d_M_refusal_7 : decode c_M_refusal 7 = .ok (.iconst 1, 1) := by decide +kernel
theorem d_M_refusal_8 : decode c_M_refusal 8 = .ok (.goto 15, 3) := by decide +kernel
theorem d_M_refusal_11 : decode c_M_refusal 11 = .ok (.lload_n 1, 1) := by decide +kernel
theorem d_M_refusal_12 : decode c_M_refusal 12 = .ok (.invokestatic 147, 3) := by decide +kernel
theorem d_M_refusal_15 : decode c_M_refusal 15 = .ok (.ifCond .eq 7, 3) := by decide +kernel
theorem d_M_refusal_18 : decode c_M_refusal 18 = .ok (.iconst 0, 1) := by decide +kernel
theorem d_M_refusal_19 : decode c_M_refusal 19 = .ok (.goto 4, 3) := by decide +kernel
theorem d_M_refusal_22 : decode c_M_refusal 22 = .ok (.iconst 2, 1) := by decide +kernel
theorem d_M_refusal_23 : decode c_M_refusal 23 = .ok (.ireturn, 1) := by decide +kernel
theorem d_M_total_0 : decode c_M_total 0 = .ok (.aload_n 0, 1) := by decide +kernel
theorem d_M_total_1 : decode c_M_total 1 = .ok (.aload_n 0, 1) := by decide +kernel
theorem d_M_total_2 : decode c_M_total 2 = .ok (.lload_n 1, 1) := by decide +kernel
theorem d_M_total_3 : decode c_M_total 3 = .ok (.iload_n 3, 1) := by decide +kernel
theorem d_M_total_4 : decode c_M_total 4 = .ok (.invokevirtual 151, 3) := by decide +kernel
theorem d_M_total_7 : decode c_M_total 7 = .ok (.putfield 80, 3) := by decide +kernel
theorem d_M_total_10 : decode c_M_total 10 = .ok (.aload_n 0, 1) := by decide +kernel
theorem d_M_total_11 : decode c_M_total 11 = .ok (.getfield 80, 3) := by decide +kernel
theorem d_M_total_14 : decode c_M_total 14 = .ok (.ifCond .eq 5, 3) := by decide +kernel
theorem d_M_total_17 : decode c_M_total 17 = .ok (.lconst 0, 1) := by decide +kernel
theorem d_M_total_18 : decode c_M_total 18 = .ok (.lreturn, 1) := by decide +kernel
theorem d_M_total_19 : decode c_M_total 19 = .ok (.aload_n 0, 1) := by decide +kernel
theorem d_M_total_20 : decode c_M_total 20 = .ok (.lload_n 1, 1) := by decide +kernel
theorem d_M_total_21 : decode c_M_total 21 = .ok (.iload_n 3, 1) := by decide +kernel
theorem d_M_total_22 : decode c_M_total 22 = .ok (.lload 4, 2) := by decide +kernel
theorem d_M_total_24 : decode c_M_total 24 = .ok (.invokevirtual 155, 3) := by decide +kernel
theorem d_M_total_27 : decode c_M_total 27 = .ok (.aload_n 0, 1) := by decide +kernel
theorem d_M_total_28 : decode c_M_total 28 = .ok (.getfield 132, 3) := by decide +kernel
theorem d_M_total_31 : decode c_M_total 31 = .ok (.ifCond .ne 7, 3) := by decide +kernel
theorem d_M_total_34 : decode c_M_total 34 = .ok (.ldc2_w 159, 3) := by decide +kernel
theorem d_M_total_37 : decode c_M_total 37 = .ok (.lreturn, 1) := by decide +kernel
theorem d_M_total_38 : decode c_M_total 38 = .ok (.iconst 0, 1) := by decide +kernel
theorem d_M_total_39 : decode c_M_total 39 = .ok (.istore 6, 2) := by decide +kernel
theorem d_M_total_41 : decode c_M_total 41 = .ok (.iload 6, 2) := by decide +kernel
theorem d_M_total_43 : decode c_M_total 43 = .ok (.bipush 33, 2) := by decide +kernel
theorem d_M_total_45 : decode c_M_total 45 = .ok (.if_icmp .ge 79, 3) := by decide +kernel
theorem d_M_total_48 : decode c_M_total 48 = .ok (.aload_n 0, 1) := by decide +kernel
theorem d_M_total_49 : decode c_M_total 49 = .ok (.getfield 77, 3) := by decide +kernel
theorem d_M_total_52 : decode c_M_total 52 = .ok (.iload 6, 2) := by decide +kernel
theorem d_M_total_54 : decode c_M_total 54 = .ok (.aload_n 0, 1) := by decide +kernel
theorem d_M_total_55 : decode c_M_total 55 = .ok (.getfield 65, 3) := by decide +kernel
theorem d_M_total_58 : decode c_M_total 58 = .ok (.iload 6, 2) := by decide +kernel
theorem d_M_total_60 : decode c_M_total 60 = .ok (.laload, 1) := by decide +kernel
theorem d_M_total_61 : decode c_M_total 61 = .ok (.lastore, 1) := by decide +kernel
theorem d_M_total_62 : decode c_M_total 62 = .ok (.aload_n 0, 1) := by decide +kernel
theorem d_M_total_63 : decode c_M_total 63 = .ok (.getfield 65, 3) := by decide +kernel
theorem d_M_total_66 : decode c_M_total 66 = .ok (.iload 6, 2) := by decide +kernel
theorem d_M_total_68 : decode c_M_total 68 = .ok (.aload_n 0, 1) := by decide +kernel
theorem d_M_total_69 : decode c_M_total 69 = .ok (.getfield 53, 3) := by decide +kernel
theorem d_M_total_72 : decode c_M_total 72 = .ok (.iload 6, 2) := by decide +kernel
theorem d_M_total_74 : decode c_M_total 74 = .ok (.laload, 1) := by decide +kernel
theorem d_M_total_75 : decode c_M_total 75 = .ok (.lastore, 1) := by decide +kernel
theorem d_M_total_76 : decode c_M_total 76 = .ok (.aload_n 0, 1) := by decide +kernel
theorem d_M_total_77 : decode c_M_total 77 = .ok (.getfield 68, 3) := by decide +kernel
theorem d_M_total_80 : decode c_M_total 80 = .ok (.iload 6, 2) := by decide +kernel
theorem d_M_total_82 : decode c_M_total 82 = .ok (.aload_n 0, 1) := by decide +kernel
theorem d_M_total_83 : decode c_M_total 83 = .ok (.getfield 56, 3) := by decide +kernel
theorem d_M_total_86 : decode c_M_total 86 = .ok (.iload 6, 2) := by decide +kernel
theorem d_M_total_88 : decode c_M_total 88 = .ok (.laload, 1) := by decide +kernel
theorem d_M_total_89 : decode c_M_total 89 = .ok (.lastore, 1) := by decide +kernel
theorem d_M_total_90 : decode c_M_total 90 = .ok (.aload_n 0, 1) := by decide +kernel
theorem d_M_total_91 : decode c_M_total 91 = .ok (.getfield 71, 3) := by decide +kernel
theorem d_M_total_94 : decode c_M_total 94 = .ok (.iload 6, 2) := by decide +kernel
theorem d_M_total_96 : decode c_M_total 96 = .ok (.aload_n 0, 1) := by decide +kernel
theorem d_M_total_97 : decode c_M_total 97 = .ok (.getfield 59, 3) := by decide +kernel
theorem d_M_total_100 : decode c_M_total 100 = .ok (.iload 6, 2) := by decide +kernel
theorem d_M_total_102 : decode c_M_total 102 = .ok (.iaload, 1) := by decide +kernel
theorem d_M_total_103 : decode c_M_total 103 = .ok (.iastore, 1) := by decide +kernel
theorem d_M_total_104 : decode c_M_total 104 = .ok (.aload_n 0, 1) := by decide +kernel
theorem d_M_total_105 : decode c_M_total 105 = .ok (.getfield 74, 3) := by decide +kernel
theorem d_M_total_108 : decode c_M_total 108 = .ok (.iload 6, 2) := by decide +kernel
theorem d_M_total_110 : decode c_M_total 110 = .ok (.aload_n 0, 1) := by decide +kernel
theorem d_M_total_111 : decode c_M_total 111 = .ok (.getfield 62, 3) := by decide +kernel
theorem d_M_total_114 : decode c_M_total 114 = .ok (.iload 6, 2) := by decide +kernel
theorem d_M_total_116 : decode c_M_total 116 = .ok (.iaload, 1) := by decide +kernel
theorem d_M_total_117 : decode c_M_total 117 = .ok (.iastore, 1) := by decide +kernel
theorem d_M_total_118 : decode c_M_total 118 = .ok (.iinc 6 1, 3) := by decide +kernel
theorem d_M_total_121 : decode c_M_total 121 = .ok (.goto (-80), 3) := by decide +kernel
theorem d_M_total_124 : decode c_M_total 124 = .ok (.aload_n 0, 1) := by decide +kernel
theorem d_M_total_125 : decode c_M_total 125 = .ok (.iconst 1, 1) := by decide +kernel
theorem d_M_total_126 : decode c_M_total 126 = .ok (.putfield 161, 3) := by decide +kernel
theorem d_M_total_129 : decode c_M_total 129 = .ok (.aload_n 0, 1) := by decide +kernel
theorem d_M_total_130 : decode c_M_total 130 = .ok (.iconst 3, 1) := by decide +kernel
theorem d_M_total_131 : decode c_M_total 131 = .ok (.aload_n 0, 1) := by decide +kernel
theorem d_M_total_132 : decode c_M_total 132 = .ok (.getfield 84, 3) := by decide +kernel
theorem d_M_total_135 : decode c_M_total 135 = .ok (.iadd, 1) := by decide +kernel
theorem d_M_total_136 : decode c_M_total 136 = .ok (.putfield 164, 3) := by decide +kernel
theorem d_M_total_139 : decode c_M_total 139 = .ok (.aload_n 0, 1) := by decide +kernel
theorem d_M_total_140 : decode c_M_total 140 = .ok (.getfield 144, 3) := by decide +kernel
theorem d_M_total_143 : decode c_M_total 143 = .ok (.lreturn, 1) := by decide +kernel
theorem d_M_makersNow_0 : decode c_M_makersNow 0 = .ok (.iconst 0, 1) := by decide +kernel
theorem d_M_makersNow_1 : decode c_M_makersNow 1 = .ok (.istore_n 1, 1) := by decide +kernel
theorem d_M_makersNow_2 : decode c_M_makersNow 2 = .ok (.iconst 1, 1) := by decide +kernel
theorem d_M_makersNow_3 : decode c_M_makersNow 3 = .ok (.istore_n 2, 1) := by decide +kernel
theorem d_M_makersNow_4 : decode c_M_makersNow 4 = .ok (.iload_n 2, 1) := by decide +kernel
theorem d_M_makersNow_5 : decode c_M_makersNow 5 = .ok (.bipush 33, 2) := by decide +kernel
theorem d_M_makersNow_7 : decode c_M_makersNow 7 = .ok (.if_icmp .ge 35, 3) := by decide +kernel
theorem d_M_makersNow_10 : decode c_M_makersNow 10 = .ok (.aload_n 0, 1) := by decide +kernel
theorem d_M_makersNow_11 : decode c_M_makersNow 11 = .ok (.getfield 56, 3) := by decide +kernel
theorem d_M_makersNow_14 : decode c_M_makersNow 14 = .ok (.iload_n 2, 1) := by decide +kernel
theorem d_M_makersNow_15 : decode c_M_makersNow 15 = .ok (.laload, 1) := by decide +kernel
theorem d_M_makersNow_16 : decode c_M_makersNow 16 = .ok (.lconst 0, 1) := by decide +kernel
theorem d_M_makersNow_17 : decode c_M_makersNow 17 = .ok (.lcmp, 1) := by decide +kernel
theorem d_M_makersNow_18 : decode c_M_makersNow 18 = .ok (.ifCond .le 16, 3) := by decide +kernel
theorem d_M_makersNow_21 : decode c_M_makersNow 21 = .ok (.iload_n 1, 1) := by decide +kernel
theorem d_M_makersNow_22 : decode c_M_makersNow 22 = .ok (.iconst 1, 1) := by decide +kernel
theorem d_M_makersNow_23 : decode c_M_makersNow 23 = .ok (.aload_n 0, 1) := by decide +kernel
theorem d_M_makersNow_24 : decode c_M_makersNow 24 = .ok (.getfield 59, 3) := by decide +kernel
theorem d_M_makersNow_27 : decode c_M_makersNow 27 = .ok (.iload_n 2, 1) := by decide +kernel
theorem d_M_makersNow_28 : decode c_M_makersNow 28 = .ok (.iaload, 1) := by decide +kernel
theorem d_M_makersNow_29 : decode c_M_makersNow 29 = .ok (.ishl, 1) := by decide +kernel
theorem d_M_makersNow_30 : decode c_M_makersNow 30 = .ok (.ior, 1) := by decide +kernel
theorem d_M_makersNow_31 : decode c_M_makersNow 31 = .ok (.goto 4, 3) := by decide +kernel
theorem d_M_makersNow_34 : decode c_M_makersNow 34 = .ok (.iload_n 1, 1) := by decide +kernel
theorem d_M_makersNow_35 : decode c_M_makersNow 35 = .ok (.istore_n 1, 1) := by decide +kernel
theorem d_M_makersNow_36 : decode c_M_makersNow 36 = .ok (.iinc 2 1, 3) := by decide +kernel
theorem d_M_makersNow_39 : decode c_M_makersNow 39 = .ok (.goto (-35), 3) := by decide +kernel
theorem d_M_makersNow_42 : decode c_M_makersNow 42 = .ok (.iconst 0, 1) := by decide +kernel
theorem d_M_makersNow_43 : decode c_M_makersNow 43 = .ok (.istore_n 2, 1) := by decide +kernel
theorem d_M_makersNow_44 : decode c_M_makersNow 44 = .ok (.iload_n 1, 1) := by decide +kernel
theorem d_M_makersNow_45 : decode c_M_makersNow 45 = .ok (.ifCond .eq 16, 3) := by decide +kernel
theorem d_M_makersNow_48 : decode c_M_makersNow 48 = .ok (.iload_n 2, 1) := by decide +kernel
theorem d_M_makersNow_49 : decode c_M_makersNow 49 = .ok (.iload_n 1, 1) := by decide +kernel
theorem d_M_makersNow_50 : decode c_M_makersNow 50 = .ok (.iconst 1, 1) := by decide +kernel
theorem d_M_makersNow_51 : decode c_M_makersNow 51 = .ok (.iand, 1) := by decide +kernel
theorem d_M_makersNow_52 : decode c_M_makersNow 52 = .ok (.iadd, 1) := by decide +kernel
theorem d_M_makersNow_53 : decode c_M_makersNow 53 = .ok (.istore_n 2, 1) := by decide +kernel
theorem d_M_makersNow_54 : decode c_M_makersNow 54 = .ok (.iload_n 1, 1) := by decide +kernel
theorem d_M_makersNow_55 : decode c_M_makersNow 55 = .ok (.iconst 1, 1) := by decide +kernel
theorem d_M_makersNow_56 : decode c_M_makersNow 56 = .ok (.ishr, 1) := by decide +kernel
theorem d_M_makersNow_57 : decode c_M_makersNow 57 = .ok (.istore_n 1, 1) := by decide +kernel
theorem d_M_makersNow_58 : decode c_M_makersNow 58 = .ok (.goto (-14), 3) := by decide +kernel
theorem d_M_makersNow_61 : decode c_M_makersNow 61 = .ok (.iload_n 2, 1) := by decide +kernel
theorem d_M_makersNow_62 : decode c_M_makersNow 62 = .ok (.ireturn, 1) := by decide +kernel
theorem d_M_best_0 : decode c_M_best 0 = .ok (.aload_n 0, 1) := by decide +kernel
theorem d_M_best_1 : decode c_M_best 1 = .ok (.lload_n 1, 1) := by decide +kernel
theorem d_M_best_2 : decode c_M_best 2 = .ok (.invokestatic 147, 3) := by decide +kernel
theorem d_M_best_5 : decode c_M_best 5 = .ok (.ifCond .eq 7, 3) := by decide +kernel
theorem d_M_best_8 : decode c_M_best 8 = .ok (.iconst 0, 1) := by decide +kernel
theorem d_M_best_9 : decode c_M_best 9 = .ok (.goto 4, 3) := by decide +kernel
theorem d_M_best_12 : decode c_M_best 12 = .ok (.iconst 1, 1) := by decide +kernel
theorem d_M_best_13 : decode c_M_best 13 = .ok (.putfield 80, 3) := by decide +kernel
theorem d_M_best_16 : decode c_M_best 16 = .ok (.iconst (-1), 1) := by decide +kernel
theorem d_M_best_17 : decode c_M_best 17 = .ok (.istore 5, 2) := by decide +kernel
theorem d_M_best_19 : decode c_M_best 19 = .ok (.lconst 0, 1) := by decide +kernel
theorem d_M_best_20 : decode c_M_best 20 = .ok (.lstore 6, 2) := by decide +kernel
theorem d_M_best_22 : decode c_M_best 22 = .ok (.iconst 0, 1) := by decide +kernel
theorem d_M_best_23 : decode c_M_best 23 = .ok (.istore 8, 2) := by decide +kernel
theorem d_M_best_25 : decode c_M_best 25 = .ok (.iconst 0, 1) := by decide +kernel
theorem d_M_best_26 : decode c_M_best 26 = .ok (.istore 9, 2) := by decide +kernel
theorem d_M_best_28 : decode c_M_best 28 = .ok (.iload 9, 2) := by decide +kernel
theorem d_M_best_30 : decode c_M_best 30 = .ok (.bipush 8, 2) := by decide +kernel
theorem d_M_best_32 : decode c_M_best 32 = .ok (.if_icmp .ge 90, 3) := by decide +kernel
theorem d_M_best_35 : decode c_M_best 35 = .ok (.aload_n 0, 1) := by decide +kernel
theorem d_M_best_36 : decode c_M_best 36 = .ok (.getfield 80, 3) := by decide +kernel
theorem d_M_best_39 : decode c_M_best 39 = .ok (.ifCond .ne 83, 3) := by decide +kernel
theorem d_M_best_42 : decode c_M_best 42 = .ok (.aload_n 0, 1) := by decide +kernel
theorem d_M_best_43 : decode c_M_best 43 = .ok (.lload_n 1, 1) := by decide +kernel
theorem d_M_best_44 : decode c_M_best 44 = .ok (.iload 9, 2) := by decide +kernel
theorem d_M_best_46 : decode c_M_best 46 = .ok (.lload_n 3, 1) := by decide +kernel
theorem d_M_best_47 : decode c_M_best 47 = .ok (.invokevirtual 155, 3) := by decide +kernel
theorem d_M_best_50 : decode c_M_best 50 = .ok (.aload_n 0, 1) := by decide +kernel
theorem d_M_best_51 : decode c_M_best 51 = .ok (.getfield 132, 3) := by decide +kernel
theorem d_M_best_54 : decode c_M_best 54 = .ok (.ifCond .ne 6, 3) := by decide +kernel
theorem d_M_best_57 : decode c_M_best 57 = .ok (.goto 59, 3) := by decide +kernel
theorem d_M_best_60 : decode c_M_best 60 = .ok (.aload_n 0, 1) := by decide +kernel
theorem d_M_best_61 : decode c_M_best 61 = .ok (.invokevirtual 167, 3) := by decide +kernel
theorem d_M_best_64 : decode c_M_best 64 = .ok (.istore 10, 2) := by decide +kernel
theorem d_M_best_66 : decode c_M_best 66 = .ok (.iload 5, 2) := by decide +kernel
theorem d_M_best_68 : decode c_M_best 68 = .ok (.iconst (-1), 1) := by decide +kernel
theorem d_M_best_69 : decode c_M_best 69 = .ok (.if_icmp .eq 33, 3) := by decide +kernel
theorem d_M_best_72 : decode c_M_best 72 = .ok (.aload_n 0, 1) := by decide +kernel
theorem d_M_best_73 : decode c_M_best 73 = .ok (.getfield 144, 3) := by decide +kernel
theorem d_M_best_76 : decode c_M_best 76 = .ok (.lload 6, 2) := by decide +kernel
theorem d_M_best_78 : decode c_M_best 78 = .ok (.lcmp, 1) := by decide +kernel
theorem d_M_best_79 : decode c_M_best 79 = .ok (.ifCond .gt 37, 3) := by decide +kernel
theorem d_M_best_82 : decode c_M_best 82 = .ok (.aload_n 0, 1) := by decide +kernel
theorem d_M_best_83 : decode c_M_best 83 = .ok (.getfield 144, 3) := by decide +kernel
theorem d_M_best_86 : decode c_M_best 86 = .ok (.lload 6, 2) := by decide +kernel
theorem d_M_best_88 : decode c_M_best 88 = .ok (.lcmp, 1) := by decide +kernel
theorem d_M_best_89 : decode c_M_best 89 = .ok (.ifCond .ne 13, 3) := by decide +kernel
theorem d_M_best_92 : decode c_M_best 92 = .ok (.iload 10, 2) := by decide +kernel
theorem d_M_best_94 : decode c_M_best 94 = .ok (.iload 8, 2) := by decide +kernel
theorem d_M_best_96 : decode c_M_best 96 = .ok (.if_icmp .lt 6, 3) := by decide +kernel
theorem d_M_best_99 : decode c_M_best 99 = .ok (.goto 17, 3) := by decide +kernel
theorem d_M_best_102 : decode c_M_best 102 = .ok (.iload 9, 2) := by decide +kernel
theorem d_M_best_104 : decode c_M_best 104 = .ok (.istore 5, 2) := by decide +kernel
theorem d_M_best_106 : decode c_M_best 106 = .ok (.aload_n 0, 1) := by decide +kernel
theorem d_M_best_107 : decode c_M_best 107 = .ok (.getfield 144, 3) := by decide +kernel
theorem d_M_best_110 : decode c_M_best 110 = .ok (.lstore 6, 2) := by decide +kernel
theorem d_M_best_112 : decode c_M_best 112 = .ok (.iload 10, 2) := by decide +kernel
theorem d_M_best_114 : decode c_M_best 114 = .ok (.istore 8, 2) := by decide +kernel
theorem d_M_best_116 : decode c_M_best 116 = .ok (.iinc 9 1, 3) := by decide +kernel
theorem d_M_best_119 : decode c_M_best 119 = .ok (.goto (-91), 3) := by decide +kernel
theorem d_M_best_122 : decode c_M_best 122 = .ok (.aload_n 0, 1) := by decide +kernel
theorem d_M_best_123 : decode c_M_best 123 = .ok (.getfield 80, 3) := by decide +kernel
theorem d_M_best_126 : decode c_M_best 126 = .ok (.ifCond .ne 8, 3) := by decide +kernel
theorem d_M_best_129 : decode c_M_best 129 = .ok (.iload 5, 2) := by decide +kernel
theorem d_M_best_131 : decode c_M_best 131 = .ok (.goto 4, 3) := by decide +kernel
theorem d_M_best_134 : decode c_M_best 134 = .ok (.iconst 0, 1) := by decide +kernel
theorem d_M_best_135 : decode c_M_best 135 = .ok (.ireturn, 1) := by decide +kernel
theorem d_M_each_0 : decode c_M_each 0 = .ok (.iload_n 3, 1) := by decide +kernel
theorem d_M_each_1 : decode c_M_each 1 = .ok (.invokestatic 99, 3) := by decide +kernel
theorem d_M_each_4 : decode c_M_each 4 = .ok (.ifCond .eq 18, 3) := by decide +kernel
theorem d_M_each_7 : decode c_M_each 7 = .ok (.iload 6, 2) := by decide +kernel
theorem d_M_each_9 : decode c_M_each 9 = .ok (.ifCond .eq 9, 3) := by decide +kernel
theorem d_M_each_12 : decode c_M_each 12 = .ok (.iload 6, 2) := by decide +kernel
theorem d_M_each_14 : decode c_M_each 14 = .ok (.iconst 1, 1) := by decide +kernel
theorem d_M_each_15 : decode c_M_each 15 = .ok (.if_icmp .ne 7, 3) := by decide +kernel
theorem d_M_each_18 : decode c_M_each 18 = .ok (.iconst 1, 1) := by decide +kernel
theorem d_M_each_19 : decode c_M_each 19 = .ok (.goto 4, 3) := by decide +kernel
theorem d_M_each_22 : decode c_M_each 22 = .ok (.iconst 0, 1) := by decide +kernel
theorem d_M_each_23 : decode c_M_each 23 = .ok (.istore 7, 2) := by decide +kernel
theorem d_M_each_25 : decode c_M_each 25 = .ok (.aload_n 0, 1) := by decide +kernel
theorem d_M_each_26 : decode c_M_each 26 = .ok (.iload 7, 2) := by decide +kernel
theorem d_M_each_28 : decode c_M_each 28 = .ok (.ifCond .ne 7, 3) := by decide +kernel
theorem d_M_each_31 : decode c_M_each 31 = .ok (.iconst 1, 1) := by decide +kernel
theorem d_M_each_32 : decode c_M_each 32 = .ok (.goto 21, 3) := by decide +kernel
theorem d_M_each_35 : decode c_M_each 35 = .ok (.lload_n 1, 1) := by decide +kernel
theorem d_M_each_36 : decode c_M_each 36 = .ok (.invokestatic 147, 3) := by decide +kernel
theorem d_M_each_39 : decode c_M_each 39 = .ok (.ifCond .eq 13, 3) := by decide +kernel
theorem d_M_each_42 : decode c_M_each 42 = .ok (.lload_n 1, 1) := by decide +kernel
theorem d_M_each_43 : decode c_M_each 43 = .ok (.lconst 0, 1) := by decide +kernel
theorem d_M_each_44 : decode c_M_each 44 = .ok (.lcmp, 1) := by decide +kernel
theorem d_M_each_45 : decode c_M_each 45 = .ok (.ifCond .le 7, 3) := by decide +kernel
theorem d_M_each_48 : decode c_M_each 48 = .ok (.iconst 0, 1) := by decide +kernel
theorem d_M_each_49 : decode c_M_each 49 = .ok (.goto 4, 3) := by decide +kernel
theorem d_M_each_52 : decode c_M_each 52 = .ok (.iconst 2, 1) := by decide +kernel
theorem d_M_each_53 : decode c_M_each 53 = .ok (.putfield 80, 3) := by decide +kernel
theorem d_M_each_56 : decode c_M_each 56 = .ok (.aload_n 0, 1) := by decide +kernel
theorem d_M_each_57 : decode c_M_each 57 = .ok (.getfield 80, 3) := by decide +kernel
theorem d_M_each_60 : decode c_M_each 60 = .ok (.ifCond .eq 5, 3) := by decide +kernel
theorem d_M_each_63 : decode c_M_each 63 = .ok (.lconst 0, 1) := by decide +kernel
theorem d_M_each_64 : decode c_M_each 64 = .ok (.lreturn, 1) := by decide +kernel
theorem d_M_each_65 : decode c_M_each 65 = .ok (.aload_n 0, 1) := by decide +kernel
theorem d_M_each_66 : decode c_M_each 66 = .ok (.lload_n 1, 1) := by decide +kernel
theorem d_M_each_67 : decode c_M_each 67 = .ok (.iload_n 3, 1) := by decide +kernel
theorem d_M_each_68 : decode c_M_each 68 = .ok (.lload 4, 2) := by decide +kernel
theorem d_M_each_70 : decode c_M_each 70 = .ok (.invokevirtual 155, 3) := by decide +kernel
theorem d_M_each_73 : decode c_M_each 73 = .ok (.aload_n 0, 1) := by decide +kernel
theorem d_M_each_74 : decode c_M_each 74 = .ok (.getfield 132, 3) := by decide +kernel
theorem d_M_each_77 : decode c_M_each 77 = .ok (.ifCond .ne 9, 3) := by decide +kernel
theorem d_M_each_80 : decode c_M_each 80 = .ok (.ldc2_w 159, 3) := by decide +kernel
theorem d_M_each_83 : decode c_M_each 83 = .ok (.goto 23, 3) := by decide +kernel
theorem d_M_each_86 : decode c_M_each 86 = .ok (.iload 6, 2) := by decide +kernel
theorem d_M_each_88 : decode c_M_each 88 = .ok (.ifCond .ne 12, 3) := by decide +kernel
theorem d_M_each_91 : decode c_M_each 91 = .ok (.aload_n 0, 1) := by decide +kernel
theorem d_M_each_92 : decode c_M_each 92 = .ok (.getfield 144, 3) := by decide +kernel
theorem d_M_each_95 : decode c_M_each 95 = .ok (.lload_n 1, 1) := by decide +kernel
theorem d_M_each_96 : decode c_M_each 96 = .ok (.ldiv, 1) := by decide +kernel
theorem d_M_each_97 : decode c_M_each 97 = .ok (.goto 9, 3) := by decide +kernel
theorem d_M_each_100 : decode c_M_each 100 = .ok (.aload_n 0, 1) := by decide +kernel
theorem d_M_each_101 : decode c_M_each 101 = .ok (.getfield 144, 3) := by decide +kernel
theorem d_M_each_104 : decode c_M_each 104 = .ok (.lload_n 1, 1) := by decide +kernel
theorem d_M_each_105 : decode c_M_each 105 = .ok (.lrem, 1) := by decide +kernel
theorem d_M_each_106 : decode c_M_each 106 = .ok (.lreturn, 1) := by decide +kernel
theorem d_M_suppliers_0 : decode c_M_suppliers 0 = .ok (.aload_n 0, 1) := by decide +kernel
theorem d_M_suppliers_1 : decode c_M_suppliers 1 = .ok (.aload_n 0, 1) := by decide +kernel
theorem d_M_suppliers_2 : decode c_M_suppliers 2 = .ok (.lload_n 1, 1) := by decide +kernel
theorem d_M_suppliers_3 : decode c_M_suppliers 3 = .ok (.iload_n 3, 1) := by decide +kernel
theorem d_M_suppliers_4 : decode c_M_suppliers 4 = .ok (.invokevirtual 151, 3) := by decide +kernel
theorem d_M_suppliers_7 : decode c_M_suppliers 7 = .ok (.putfield 80, 3) := by decide +kernel
theorem d_M_suppliers_10 : decode c_M_suppliers 10 = .ok (.aload_n 0, 1) := by decide +kernel
theorem d_M_suppliers_11 : decode c_M_suppliers 11 = .ok (.getfield 80, 3) := by decide +kernel
theorem d_M_suppliers_14 : decode c_M_suppliers 14 = .ok (.ifCond .eq 5, 3) := by decide +kernel
theorem d_M_suppliers_17 : decode c_M_suppliers 17 = .ok (.iconst 0, 1) := by decide +kernel
theorem d_M_suppliers_18 : decode c_M_suppliers 18 = .ok (.ireturn, 1) := by decide +kernel
theorem d_M_suppliers_19 : decode c_M_suppliers 19 = .ok (.aload_n 0, 1) := by decide +kernel
theorem d_M_suppliers_20 : decode c_M_suppliers 20 = .ok (.lload_n 1, 1) := by decide +kernel
theorem d_M_suppliers_21 : decode c_M_suppliers 21 = .ok (.iload_n 3, 1) := by decide +kernel
theorem d_M_suppliers_22 : decode c_M_suppliers 22 = .ok (.ldc2_w 171, 3) := by decide +kernel
theorem d_M_suppliers_25 : decode c_M_suppliers 25 = .ok (.invokevirtual 155, 3) := by decide +kernel
theorem d_M_suppliers_28 : decode c_M_suppliers 28 = .ok (.aload_n 0, 1) := by decide +kernel
theorem d_M_suppliers_29 : decode c_M_suppliers 29 = .ok (.getfield 132, 3) := by decide +kernel
theorem d_M_suppliers_32 : decode c_M_suppliers 32 = .ok (.ifCond .eq 10, 3) := by decide +kernel
theorem d_M_suppliers_35 : decode c_M_suppliers 35 = .ok (.aload_n 0, 1) := by decide +kernel
theorem d_M_suppliers_36 : decode c_M_suppliers 36 = .ok (.invokevirtual 167, 3) := by decide +kernel
theorem d_M_suppliers_39 : decode c_M_suppliers 39 = .ok (.goto 4, 3) := by decide +kernel
theorem d_M_suppliers_42 : decode c_M_suppliers 42 = .ok (.iconst (-1), 1) := by decide +kernel
theorem d_M_suppliers_43 : decode c_M_suppliers 43 = .ok (.ireturn, 1) := by decide +kernel
theorem d_M_changed_0 : decode c_M_changed 0 = .ok (.aload_n 0, 1) := by decide +kernel
theorem d_M_changed_1 : decode c_M_changed 1 = .ok (.iconst 0, 1) := by decide +kernel
theorem d_M_changed_2 : decode c_M_changed 2 = .ok (.putfield 80, 3) := by decide +kernel
theorem d_M_changed_5 : decode c_M_changed 5 = .ok (.iload_n 1, 1) := by decide +kernel
theorem d_M_changed_6 : decode c_M_changed 6 = .ok (.istore_n 2, 1) := by decide +kernel
theorem d_M_changed_7 : decode c_M_changed 7 = .ok (.iconst 0, 1) := by decide +kernel
theorem d_M_changed_8 : decode c_M_changed 8 = .ok (.istore_n 3, 1) := by decide +kernel
theorem d_M_changed_9 : decode c_M_changed 9 = .ok (.iload_n 3, 1) := by decide +kernel
theorem d_M_changed_10 : decode c_M_changed 10 = .ok (.bipush 33, 2) := by decide +kernel
theorem d_M_changed_12 : decode c_M_changed 12 = .ok (.if_icmp .ge 48, 3) := by decide +kernel
theorem d_M_changed_15 : decode c_M_changed 15 = .ok (.iload_n 1, 1) := by decide +kernel
theorem d_M_changed_16 : decode c_M_changed 16 = .ok (.ifCond .lt 44, 3) := by decide +kernel
theorem d_M_changed_19 : decode c_M_changed 19 = .ok (.aload_n 0, 1) := by decide +kernel
theorem d_M_changed_20 : decode c_M_changed 20 = .ok (.getfield 161, 3) := by decide +kernel
theorem d_M_changed_23 : decode c_M_changed 23 = .ok (.ifCond .eq 37, 3) := by decide +kernel
theorem d_M_changed_26 : decode c_M_changed 26 = .ok (.aload_n 0, 1) := by decide +kernel
theorem d_M_changed_27 : decode c_M_changed 27 = .ok (.getfield 65, 3) := by decide +kernel
theorem d_M_changed_30 : decode c_M_changed 30 = .ok (.iload_n 3, 1) := by decide +kernel
theorem d_M_changed_31 : decode c_M_changed 31 = .ok (.laload, 1) := by decide +kernel
theorem d_M_changed_32 : decode c_M_changed 32 = .ok (.aload_n 0, 1) := by decide +kernel
theorem d_M_changed_33 : decode c_M_changed 33 = .ok (.getfield 77, 3) := by decide +kernel
theorem d_M_changed_36 : decode c_M_changed 36 = .ok (.iload_n 3, 1) := by decide +kernel
theorem d_M_changed_37 : decode c_M_changed 37 = .ok (.laload, 1) := by decide +kernel
theorem d_M_changed_38 : decode c_M_changed 38 = .ok (.lcmp, 1) := by decide +kernel
theorem d_M_changed_39 : decode c_M_changed 39 = .ok (.ifCond .ne 6, 3) := by decide +kernel
theorem d_M_changed_42 : decode c_M_changed 42 = .ok (.goto 12, 3) := by decide +kernel
theorem d_M_changed_45 : decode c_M_changed 45 = .ok (.iload_n 2, 1) := by decide +kernel
theorem d_M_changed_46 : decode c_M_changed 46 = .ok (.ifCond .ne 5, 3) := by decide +kernel
theorem d_M_changed_49 : decode c_M_changed 49 = .ok (.iload_n 3, 1) := by decide +kernel
theorem d_M_changed_50 : decode c_M_changed 50 = .ok (.ireturn, 1) := by decide +kernel
theorem d_M_changed_51 : decode c_M_changed 51 = .ok (.iinc 2 (-1), 3) := by decide +kernel
theorem d_M_changed_54 : decode c_M_changed 54 = .ok (.iinc 3 1, 3) := by decide +kernel
theorem d_M_changed_57 : decode c_M_changed 57 = .ok (.goto (-48), 3) := by decide +kernel
theorem d_M_changed_60 : decode c_M_changed 60 = .ok (.iconst (-1), 1) := by decide +kernel
theorem d_M_changed_61 : decode c_M_changed 61 = .ok (.ireturn, 1) := by decide +kernel
theorem d_M_row_0 : decode c_M_row 0 = .ok (.aload_n 0, 1) := by decide +kernel
theorem d_M_row_1 : decode c_M_row 1 = .ok (.aload_n 0, 1) := by decide +kernel
theorem d_M_row_2 : decode c_M_row 2 = .ok (.getfield 161, 3) := by decide +kernel
theorem d_M_row_5 : decode c_M_row 5 = .ok (.ifCond .eq 28, 3) := by decide +kernel
theorem d_M_row_8 : decode c_M_row 8 = .ok (.iload_n 1, 1) := by decide +kernel
theorem d_M_row_9 : decode c_M_row 9 = .ok (.ifCond .lt 24, 3) := by decide +kernel
theorem d_M_row_12 : decode c_M_row 12 = .ok (.iload_n 1, 1) := by decide +kernel
theorem d_M_row_13 : decode c_M_row 13 = .ok (.aload_n 0, 1) := by decide +kernel
theorem d_M_row_14 : decode c_M_row 14 = .ok (.getfield 164, 3) := by decide +kernel
theorem d_M_row_17 : decode c_M_row 17 = .ok (.if_icmp .ge 16, 3) := by decide +kernel
theorem d_M_row_20 : decode c_M_row 20 = .ok (.iload_n 2, 1) := by decide +kernel
theorem d_M_row_21 : decode c_M_row 21 = .ok (.ifCond .lt 12, 3) := by decide +kernel
theorem d_M_row_24 : decode c_M_row 24 = .ok (.iload_n 2, 1) := by decide +kernel
theorem d_M_row_25 : decode c_M_row 25 = .ok (.iconst 3, 1) := by decide +kernel
theorem d_M_row_26 : decode c_M_row 26 = .ok (.if_icmp .ge 7, 3) := by decide +kernel
theorem d_M_row_29 : decode c_M_row 29 = .ok (.iconst 0, 1) := by decide +kernel
theorem d_M_row_30 : decode c_M_row 30 = .ok (.goto 4, 3) := by decide +kernel
theorem d_M_row_33 : decode c_M_row 33 = .ok (.iconst 1, 1) := by decide +kernel
theorem d_M_row_34 : decode c_M_row 34 = .ok (.putfield 80, 3) := by decide +kernel
theorem d_M_row_37 : decode c_M_row 37 = .ok (.aload_n 0, 1) := by decide +kernel
theorem d_M_row_38 : decode c_M_row 38 = .ok (.getfield 80, 3) := by decide +kernel
theorem d_M_row_41 : decode c_M_row 41 = .ok (.ifCond .eq 5, 3) := by decide +kernel
theorem d_M_row_44 : decode c_M_row 44 = .ok (.iconst 0, 1) := by decide +kernel
theorem d_M_row_45 : decode c_M_row 45 = .ok (.ireturn, 1) := by decide +kernel
theorem d_M_row_46 : decode c_M_row 46 = .ok (.iload_n 2, 1) := by decide +kernel
theorem d_M_row_47 : decode c_M_row 47 = .ok (.ifCond .ne 13, 3) := by decide +kernel
theorem d_M_row_50 : decode c_M_row 50 = .ok (.aload_n 0, 1) := by decide +kernel
theorem d_M_row_51 : decode c_M_row 51 = .ok (.getfield 68, 3) := by decide +kernel
theorem d_M_row_54 : decode c_M_row 54 = .ok (.iload_n 1, 1) := by decide +kernel
theorem d_M_row_55 : decode c_M_row 55 = .ok (.laload, 1) := by decide +kernel
theorem d_M_row_56 : decode c_M_row 56 = .ok (.l2i, 1) := by decide +kernel
theorem d_M_row_57 : decode c_M_row 57 = .ok (.goto 23, 3) := by decide +kernel
theorem d_M_row_60 : decode c_M_row 60 = .ok (.iload_n 2, 1) := by decide +kernel
theorem d_M_row_61 : decode c_M_row 61 = .ok (.iconst 1, 1) := by decide +kernel
theorem d_M_row_62 : decode c_M_row 62 = .ok (.if_icmp .ne 12, 3) := by decide +kernel
theorem d_M_row_65 : decode c_M_row 65 = .ok (.aload_n 0, 1) := by decide +kernel
theorem d_M_row_66 : decode c_M_row 66 = .ok (.getfield 71, 3) := by decide +kernel
theorem d_M_row_69 : decode c_M_row 69 = .ok (.iload_n 1, 1) := by decide +kernel
theorem d_M_row_70 : decode c_M_row 70 = .ok (.iaload, 1) := by decide +kernel
theorem d_M_row_71 : decode c_M_row 71 = .ok (.goto 9, 3) := by decide +kernel
theorem d_M_row_74 : decode c_M_row 74 = .ok (.aload_n 0, 1) := by decide +kernel
theorem d_M_row_75 : decode c_M_row 75 = .ok (.getfield 74, 3) := by decide +kernel
theorem d_M_row_78 : decode c_M_row 78 = .ok (.iload_n 1, 1) := by decide +kernel
theorem d_M_row_79 : decode c_M_row 79 = .ok (.iaload, 1) := by decide +kernel
theorem d_M_row_80 : decode c_M_row 80 = .ok (.ireturn, 1) := by decide +kernel
end
section
abbrev iMsgI : Nat := 157
abbrev tMsgI : String := "there is no such part, maker, kind or row"
abbrev iMsgN : Nat := 164
abbrev tMsgN : String := "a number is outside its limits"
/-! the layer: a walk's fixed things in one tuple, the goal as a predicate over pure data (world, locals, stack, pc) -/
abbrev GX : Type := Launch × va_G × ClassId × ClassId
abbrev CX : Type := Program × Env × Room × State × MethodId × Array Value × List Frame × Method × Code × (Nat → Prop) × Nat × (State → Prop)
abbrev eI : String := "java/lang/IndexOutOfBoundsException"
abbrev eA : String := "java/lang/IllegalArgumentException"
def ST (g : GX) (C : CX) (ws : va_W) (lv : List (Nat × Value)) (st : List Value) (pc k n : Nat) : Prop := match g, C with
  | (l, D, _, _), (p, e, R, s, m, args, below, meth, c, A, nL, Q) => ∀ (H : Heap) (locs : List Loc) (ls : Array Slot), va_P D vwCl ws H → va_D A ws → va_S A s.heap H locs → lv_has ls nL lv → W p l e R s m args below meth c H locs k n Q (F0 m pc ls st)
def TBL (U : State) : Prop := (∀ w ∈ NALL, va_Nw w U) ∧ (∃ sa, vk_R R_C iMsgI tMsgI sa U) ∧ (∃ sa, vk_R R_C iMsgN tMsgN sa U) ∧ va_Nc eI eA U ∧ va_Nc eA eI U
theorem nall_warm {w : Cond} (h : w ∈ NALL) {s U : State} (hW : s.WarmedH U.vm) (hZ : va_Nw w s) : va_Nw w U := by
  have hi : isN w = true := (List.mem_filter.mp h).2
  cases w <;> first | exact va_Nw.warmM hW hZ | exact va_Nw.warmF hW hZ | exact va_Nw.warmD hW hZ | exact va_Nw.warmC hW hZ | (simp [isN] at hi)
theorem nall_tab {w : Cond} (h : w ∈ NALL) : w.onTables = true := by
  have hi : isN w = true := (List.mem_filter.mp h).2
  cases w <;> first | rfl | (simp [isN] at hi)
theorem TBL.warm {s U : State} (hW : s.WarmedH U.vm) (h : TBL s) : TBL U := by
  obtain ⟨h1, ⟨a, h2⟩, ⟨b, h3⟩, h4, h5⟩ := h
  exact ⟨fun w hw => nall_warm hw hW (h1 w hw), ⟨a, vk_R.warm hW h2⟩, ⟨b, vk_R.warm hW h3⟩, va_Nc.moved hW.alike h4, va_Nc.moved hW.alike h5⟩
theorem TBL.same {u U : State} (hv : u.vm = U.vm) (h : TBL u) : TBL U := by
  obtain ⟨h1, ⟨a, h2⟩, ⟨b, h3⟩, h4, h5⟩ := h
  exact ⟨fun w hw => va_Nw.same (nall_tab hw) hv (h1 w hw), ⟨a, vk_R.same hv.symm h2⟩, ⟨b, vk_R.same hv.symm h3⟩, va_Nc.moved (by rw [hv]; exact Vm.Alike.refl _) h4, va_Nc.moved (by rw [hv]; exact Vm.Alike.refl _) h5⟩
def ZZ (A : Nat → Prop) (U : State) (H : Heap) : Prop := vx_Zq Bundle.tN "UNASSIGNED_STACK" Bundle.steD A U H ∧ vx_Zq Bundle.tN "SUPPRESSED_SENTINEL" Bundle.listD A U H
theorem ZZ.moved {A : Nat → Prop} {u U : State} {H : Heap} (hvm : u.vm.Alike U.vm) (h : ZZ A u H) : ZZ A U H := ⟨vx_Zq.moved hvm h.1, vx_Zq.moved hvm h.2⟩
theorem ZZ.kept {A : Nat → Prop} {U : State} {H H1 : Heap} (h : ZZ A U H) (hq : ∀ a : Nat, a < H.size → ¬ A a → H1[a]? = H[a]?) : ZZ A U H1 := ⟨vx_Zq.kept h.1 hq, vx_Zq.kept h.2 hq⟩
theorem ZZ.narrow {A B : Nat → Prop} {U : State} {H : Heap} (h : ZZ A U H) (hAB : ∀ q, B q → A q) : ZZ B U H := ⟨vx_Zq.narrow h.1 hAB, vx_Zq.narrow h.2 hAB⟩
def OK (g : GX) (C : CX) (own : String) (cc : ByteArray) (nL : Nat) (R : Room) : Prop := match g, C with
  | (l, D, cI, cJ), (p, _, R', s, m, args, _, meth, c, A, nL', _) => p.tables.exec = Jvm.exec ∧ c.code = cc ∧ c.maxLocals = nL' ∧ nL' = nL ∧ R' = R ∧ s.vm.findClass own = some m.cls ∧ (∀ w ∈ WALL, w.before args s = true) ∧ va_K D vwCl [(cI, .int), (cJ, .long)] s ∧ (∀ q, s.heap.size ≤ q → A q) ∧ TBL s ∧ ZZ A s s.heap ∧ l.stackTraces = false ∧ meth.locks = false
def RT (C : CX) (ret : Option FieldType) (A0 : Nat → Prop) (Qc : Array Value → State → Outcome → State → Prop) (mc ms : Nat) : Prop := match C with
  | (_, _, _, s, _, args, below, meth, _, A, _, Q) => meth.sig.returnType = ret ∧ A = A0 ∧ Q = MQ below Qc args s mc ms A
def RTX (C : CX) (ret : Option FieldType) (A0 : Nat → Prop) (Qc : Array Value → State → Outcome → State → Prop) (XC : String → State → State → Prop) (mc ms : Nat) : Prop := match C with
  | (_, _, _, s, _, args, below, meth, _, A, _, Q) => meth.sig.returnType = ret ∧ A = A0 ∧ Q = vx_MQ below Qc XC args s mc ms A
def TAB (C : CX) (hh : List (Nat × Nat × Nat × Nat)) : Prop := match C with
  | (_, _, _, _, _, _, _, _, c, _, _, _) => c.exceptionTable.toList = tableOf hh
def PRE (g : GX) (as : List Value) (ws0 : va_W) (sz : Nat) : Array Value → State → Prop := match g with
  | (_, D, cI, cJ) => va_Pc as (fun U => U.heap.size = sz ∧ va_P D vwCl ws0 U.heap ∧ va_K D vwCl [(cI, .int), (cJ, .long)] U ∧ va_D (fun _ => True) ws0 ∧ TBL U ∧ ZZ (va_A ws0 sz) U U.heap)
def PW {S : Type} (g : GX) (ws0 : va_W) (sz : Nat) (wf : S → va_W) (u : S) (t : State) : Prop := match g with
  | (_, D, cI, cJ) => va_P D vwCl (wf u) t.heap ∧ va_K D vwCl [(cI, .int), (cJ, .long)] t ∧ va_D (va_A ws0 sz) (wf u)
def QI {S : Type} (g : GX) (ws0 : va_W) (wf : S → va_W) (post : Int32 → S → Prop) (sz : Nat) : Array Value → State → Outcome → State → Prop := va_Qi post (PW g ws0 sz wf) (va_A ws0 sz)
def QL {S : Type} (g : GX) (ws0 : va_W) (wf : S → va_W) (post : Int64 → S → Prop) (sz : Nat) : Array Value → State → Outcome → State → Prop := va_Ql post (PW g ws0 sz wf) (va_A ws0 sz)
def QV {S : Type} (g : GX) (ws0 : va_W) (wf : S → va_W) (post : S → Prop) (sz : Nat) : Array Value → State → Outcome → State → Prop := va_Qv post (PW g ws0 sz wf) (va_A ws0 sz)
def QX {S : Type} (g : GX) (ws0 : va_W) (wf : S → va_W) (px : String → S → Prop) (sz : Nat) : String → State → State → Prop := vx_X (fun _ : S => True) (fun E u t => px E u ∧ PW g ws0 sz wf u t) (va_A ws0 sz)
def CT (g : GX) (y : MethodName) (cc : ByteArray) (maxL : Nat) (ret : Option FieldType) (rm : Room) (as : List Value) (ws0 : va_W) (Qk : Nat → Array Value → State → Outcome → State → Prop) : Prop := ∀ sz : Nat, Met g.1 y (.code y cc maxL ret :: WALL) rm (PRE g as ws0 sz) (Qk sz) rm.cells rm.slots (va_A ws0 sz)
def CTX (g : GX) (y : MethodName) (cc : ByteArray) (maxL : Nat) (ret : Option FieldType) (rm : Room) (as : List Value) (ws0 : va_W) (Qk : Nat → Array Value → State → Outcome → State → Prop) (XC : Nat → String → State → State → Prop) : Prop := ∀ sz : Nat, vx_Met g.1 y (.code y cc maxL ret :: WALL) rm (PRE g as ws0 sz) (Qk sz) (XC sz) rm.cells rm.slots (va_A ws0 sz)
def CTW (g : GX) (y : MethodName) (cc : ByteArray) (maxL : Nat) (ret : Option FieldType) (hh : List (Nat × Nat × Nat × Nat)) (rm : Room) (as : List Value) (ws0 : va_W) (Qk : Nat → Array Value → State → Outcome → State → Prop) : Prop := ∀ sz : Nat, Met g.1 y (.codeWith y cc maxL ret hh :: WALL) rm (PRE g as ws0 sz) (Qk sz) rm.cells rm.slots (va_A ws0 sz)
theorem wall_good {w : Cond} (h : w ∈ WALL) : (w.onTables && w.keeps) = true ∨ ∃ ty, w = .arrayClass ty := good_of_word (List.mem_filter.mp h).2
theorem wall_pay {args : Array Value} {s : State} {w0 : Cond} (h0 : w0 ∈ WALL) (hts : ∀ w ∈ WALL, w.before args s = true) : ∀ w ∈ w0 :: WALL, ∀ (a' : Array Value) (U : State), s.WarmedH U.vm → w.before a' U = true := fun w hw a' U hW => by
  rcases List.mem_cons.mp hw with rfl | hw
  · exact word_at hW (wall_good h0) (hts _ h0)
  · exact word_at hW (wall_good hw) (hts _ hw)
theorem PRE.blind (g : GX) (as : List Value) (ws0 : va_W) (sz : Nat) : FrameBlind (PRE g as ws0 sz) := by
  obtain ⟨l, D, cI, cJ⟩ := g
  intro a U f mk q
  obtain ⟨q0, q1, qP, qK, qD, qT, qZ⟩ := q
  exact ⟨q0, q1, qP, va_K.moved (u := U) (U := U.calling f mk a) (Vm.Alike.refl U.vm) qK, qD, TBL.same (u := U) (U := U.calling f mk a) rfl qT, ZZ.moved (u := U) (U := U.calling f mk a) (Vm.Alike.refl U.vm) qZ⟩
/-- a method's contract from a walk of its body -/
theorem ct_of {g : GX} {y : MethodName} {cc : ByteArray} {maxL : Nat} {ret : Option FieldType} {rm : Room} {as : List Value} {ws0 : va_W} {Qk : Nat → Array Value → State → Outcome → State → Prop} (hg : g.1.stackTraces = false) (hy : plainName y.cls = true) (hlen : (lg_sl as).length ≤ maxL)
    (body : ∀ (sz : Nat) (C : CX), OK g C y.cls cc maxL rm → RT C ret (va_A ws0 sz) (Qk sz) rm.cells rm.slots → ST g C ws0 (lv_args 0 as) [] 0 0 0) : CT g y cc maxL ret rm as ws0 Qk := by
  obtain ⟨l, D, cI, cJ⟩ := g
  intro sz
  refine Met.ofW (cc := cc) (maxL := maxL) (ret := ret) hy rfl ?_
  intro p e s m args below meth c s₁ B hml hv
  obtain ⟨rfl, hsz, hP, hK, hD0, hT, hZ⟩ := hv
  subst hsz
  have hD := hD0.self (sz := s.heap.size)
  have hts := atoms_spec (ws := Cond.code y cc maxL ret :: WALL) B.pre
  have K := body s.heap.size (p, e, rm, s, m, as.toArray, below, meth, c, va_A ws0 s.heap.size, maxL, MQ below (Qk s.heap.size) as.toArray s rm.cells rm.slots (va_A ws0 s.heap.size)) ⟨B.exec, B.bytes, hml, rfl, rfl, findClass_of_methodNamed B.named, fun w h => hts w (List.mem_cons_of_mem _ h), hK, fun q h => Or.inr h, hT, hZ, hg, B.notSynchronized⟩ ⟨B.returns, rfl, rfl⟩
  have hl := lv_entry as hlen
  rw [lg_entry_eq]
  exact K s.heap [] _ hP hD va_S.rf hl
theorem ctx_of {g : GX} {y : MethodName} {cc : ByteArray} {maxL : Nat} {ret : Option FieldType} {rm : Room} {as : List Value} {ws0 : va_W} {Qk : Nat → Array Value → State → Outcome → State → Prop} {XC : Nat → String → State → State → Prop} (hg : g.1.stackTraces = false) (hy : plainName y.cls = true) (hlen : (lg_sl as).length ≤ maxL)
    (body : ∀ (sz : Nat) (C : CX), OK g C y.cls cc maxL rm → RTX C ret (va_A ws0 sz) (Qk sz) (XC sz) rm.cells rm.slots → TAB C [] → ST g C ws0 (lv_args 0 as) [] 0 0 0) : CTX g y cc maxL ret rm as ws0 Qk XC := by
  obtain ⟨l, D, cI, cJ⟩ := g
  intro sz
  refine vx_ofW (cc := cc) (maxL := maxL) (ret := ret) hy rfl ?_
  intro p e s m args below meth c s₁ B hml hno hv
  obtain ⟨rfl, hsz, hP, hK, hD0, hT, hZ⟩ := hv
  subst hsz
  have hD := hD0.self (sz := s.heap.size)
  have hts := atoms_spec (ws := Cond.code y cc maxL ret :: WALL) B.pre
  have K := body s.heap.size (p, e, rm, s, m, as.toArray, below, meth, c, va_A ws0 s.heap.size, maxL, vx_MQ below (Qk s.heap.size) (XC s.heap.size) as.toArray s rm.cells rm.slots (va_A ws0 s.heap.size)) ⟨B.exec, B.bytes, hml, rfl, rfl, findClass_of_methodNamed B.named, fun w h => hts w (List.mem_cons_of_mem _ h), hK, fun q h => Or.inr h, hT, hZ, hg, B.notSynchronized⟩ ⟨B.returns, rfl, rfl⟩ (List.eq_nil_iff_forall_not_mem.mpr hno)
  have hl := lv_entry as hlen
  rw [lg_entry_eq]
  exact K s.heap [] _ hP hD va_S.rf hl
theorem ctw_of {g : GX} {y : MethodName} {cc : ByteArray} {maxL : Nat} {ret : Option FieldType} {hh : List (Nat × Nat × Nat × Nat)} {rm : Room} {as : List Value} {ws0 : va_W} {Qk : Nat → Array Value → State → Outcome → State → Prop} (hg : g.1.stackTraces = false) (hy : plainName y.cls = true) (hlen : (lg_sl as).length ≤ maxL)
    (body : ∀ (sz : Nat) (C : CX), OK g C y.cls cc maxL rm → RT C ret (va_A ws0 sz) (Qk sz) rm.cells rm.slots → TAB C hh → ST g C ws0 (lv_args 0 as) [] 0 0 0) : CTW g y cc maxL ret hh rm as ws0 Qk := by
  obtain ⟨l, D, cI, cJ⟩ := g
  intro sz
  refine va_MetW (cc := cc) (maxL := maxL) (ret := ret) (hh := hh) hy rfl ?_
  intro p e s m args below meth c s₁ B hml hv
  obtain ⟨rfl, hsz, hP, hK, hD0, hT, hZ⟩ := hv
  subst hsz
  have hD := hD0.self (sz := s.heap.size)
  have hts := atoms_spec (ws := Cond.codeWith y cc maxL ret hh :: WALL) B.pre
  have K := body s.heap.size (p, e, rm, s, m, as.toArray, below, meth, c, va_A ws0 s.heap.size, maxL, MQ below (Qk s.heap.size) as.toArray s rm.cells rm.slots (va_A ws0 s.heap.size)) ⟨B.exec, B.bytes, hml, rfl, rfl, findClass_of_methodNamed B.named, fun w h => hts w (List.mem_cons_of_mem _ h), hK, fun q h => Or.inr h, hT, hZ, hg, B.notSynchronized⟩ ⟨B.returns, rfl, rfl⟩ (vx_table (x := y) B (hts _ List.mem_cons_self))
  have hl := lv_entry as hlen
  rw [lg_entry_eq]
  exact K s.heap [] _ hP hD va_S.rf hl
theorem sub_at {ws w : va_W} {is : List Nat} (hs : is.map (fun i => ws[i]?) = w.map some) {k : Nat} {q : Nat × va_E} (hq : w[k]? = some q) : ∃ i, is[k]? = some i ∧ ws[i]? = some q := by
  have h1 : (is.map (fun i => ws[i]?))[k]? = some (some q) := by rw [hs, List.getElem?_map, hq]; rfl
  rw [List.getElem?_map] at h1
  cases hi : is[k]? with
  | none => rw [hi] at h1; cases h1
  | some i => rw [hi] at h1; exact ⟨i, rfl, Option.some.inj h1⟩
theorem va_P.subm {D : va_G} {cl : List vw_C} {ws w : va_W} {H : Heap} (h : va_P D cl ws H) {is : List Nat} (hs : is.map (fun i => ws[i]?) = w.map some) : va_P D cl w H := fun k q hk => by
  obtain ⟨i, -, hi⟩ := sub_at hs hk
  exact h i q hi
section Rows9
variable {g : GX} {C : CX} {own : String} {cc : ByteArray} {nL : Nat} {R : Room} {ws : va_W} {lv : List (Nat × Value)} {rest : List Value} {pc k n : Nat}
theorem st_iconst (X : OK g C own cc nL R) {a : Int} {v : Int32} (hd : decode cc pc = .ok (.iconst a, 1)) (hv : Int32.ofInt a = v) (kk : ST g C ws lv (.int v :: rest) (pc + 1) k n) : ST g C ws lv (rest) pc k n := by
  obtain ⟨l, D, cI, cJ⟩ := g
  obtain ⟨p, e, R9, s, m, args, below, meth, c, A, nL9, Q⟩ := C
  obtain ⟨hx, hb, hml, rfl, rfl, hown, hts, hK, hA, hT, hZ, hst9, hlk⟩ := X
  intro H locs ls hP hD hS hl
  exact lv_iconst hx hb hd hv (kk H locs ls hP hD hS hl)
theorem st_bipush (X : OK g C own cc nL R) {a : Int} {v : Int32} (hd : decode cc pc = .ok (.bipush a, 2)) (hv : (Int8.ofInt a).toInt32 = v) (kk : ST g C ws lv (.int v :: rest) (pc + 2) k n) : ST g C ws lv (rest) pc k n := by
  obtain ⟨l, D, cI, cJ⟩ := g
  obtain ⟨p, e, R9, s, m, args, below, meth, c, A, nL9, Q⟩ := C
  obtain ⟨hx, hb, hml, rfl, rfl, hown, hts, hK, hA, hT, hZ, hst9, hlk⟩ := X
  intro H locs ls hP hD hS hl
  exact lv_bipush hx hb hd hv (kk H locs ls hP hD hS hl)
theorem st_sipush (X : OK g C own cc nL R) {a : Int} {v : Int32} (hd : decode cc pc = .ok (.sipush a, 3)) (hv : (Int16.ofInt a).toInt32 = v) (kk : ST g C ws lv (.int v :: rest) (pc + 3) k n) : ST g C ws lv (rest) pc k n := by
  obtain ⟨l, D, cI, cJ⟩ := g
  obtain ⟨p, e, R9, s, m, args, below, meth, c, A, nL9, Q⟩ := C
  obtain ⟨hx, hb, hml, rfl, rfl, hown, hts, hK, hA, hT, hZ, hst9, hlk⟩ := X
  intro H locs ls hP hD hS hl
  exact lv_sipush hx hb hd hv (kk H locs ls hP hD hS hl)
theorem st_lconst (X : OK g C own cc nL R) {a : Fin 2} {v : Int64} (hd : decode cc pc = .ok (.lconst a, 1)) (hv : Int64.ofNat (a : Nat) = v) (kk : ST g C ws lv (.long v :: rest) (pc + 1) k n) : ST g C ws lv (rest) pc k n := by
  obtain ⟨l, D, cI, cJ⟩ := g
  obtain ⟨p, e, R9, s, m, args, below, meth, c, A, nL9, Q⟩ := C
  obtain ⟨hx, hb, hml, rfl, rfl, hown, hts, hK, hA, hT, hZ, hst9, hlk⟩ := X
  intro H locs ls hP hD hS hl
  exact lv_lconst hx hb hd hv (kk H locs ls hP hD hS hl)
theorem st_ldc2 (X : OK g C own cc nL R) {ix : Nat} {v : Int64} (hw : Cond.constantLong own ix v ∈ WALL) (hd : decode cc pc = .ok (.ldc2_w ix, 3)) (kk : ST g C ws lv (.long v :: rest) (pc + 3) k n) : ST g C ws lv (rest) pc k n := by
  obtain ⟨l, D, cI, cJ⟩ := g
  obtain ⟨p, e, R9, s, m, args, below, meth, c, A, nL9, Q⟩ := C
  obtain ⟨hx, hb, hml, rfl, rfl, hown, hts, hK, hA, hT, hZ, hst9, hlk⟩ := X
  intro H locs ls hP hD hS hl
  exact lv_ldc2 hx hb hown (hts _ hw) hd (kk H locs ls hP hD hS hl)
theorem st_ldcw (X : OK g C own cc nL R) {ix : Nat} {v : Int32} (hw : Cond.constant own ix v ∈ WALL) (hd : decode cc pc = .ok (.ldc_w ix, 3)) (kk : ST g C ws lv (.int v :: rest) (pc + 3) k n) : ST g C ws lv (rest) pc k n := by
  obtain ⟨l, D, cI, cJ⟩ := g
  obtain ⟨p, e, R9, s, m, args, below, meth, c, A, nL9, Q⟩ := C
  obtain ⟨hx, hb, hml, rfl, rfl, hown, hts, hK, hA, hT, hZ, hst9, hlk⟩ := X
  intro H locs ls hP hD hS hl
  exact lv_ldcw hx hb hown (hts _ hw) hd (kk H locs ls hP hD hS hl)
theorem st_iload_n (X : OK g C own cc nL R) {a : Fin 4} {i : Nat} {x : Int32} (q : Nat) (hd : decode cc pc = .ok (.iload_n a, 1)) (hi : (a : Nat) = i) (hq : lv[q]? = some (i, .int x)) (kk : ST g C ws lv (.int x :: rest) (pc + 1) k n) : ST g C ws lv (rest) pc k n := by
  obtain ⟨l, D, cI, cJ⟩ := g
  obtain ⟨p, e, R9, s, m, args, below, meth, c, A, nL9, Q⟩ := C
  obtain ⟨hx, hb, hml, rfl, rfl, hown, hts, hK, hA, hT, hZ, hst9, hlk⟩ := X
  intro H locs ls hP hD hS hl
  exact lv_iload_n hx hb hd hi (lv_at hl q hq) (kk H locs ls hP hD hS hl)
theorem st_iload (X : OK g C own cc nL R) {i : Nat} {x : Int32} (q : Nat) (hd : decode cc pc = .ok (.iload i, 2)) (hq : lv[q]? = some (i, .int x)) (kk : ST g C ws lv (.int x :: rest) (pc + 2) k n) : ST g C ws lv (rest) pc k n := by
  obtain ⟨l, D, cI, cJ⟩ := g
  obtain ⟨p, e, R9, s, m, args, below, meth, c, A, nL9, Q⟩ := C
  obtain ⟨hx, hb, hml, rfl, rfl, hown, hts, hK, hA, hT, hZ, hst9, hlk⟩ := X
  intro H locs ls hP hD hS hl
  exact lv_iload hx hb hd (lv_at hl q hq) (kk H locs ls hP hD hS hl)
theorem st_istore_n (X : OK g C own cc nL R) {a : Fin 4} {i : Nat} {x : Int32} {lv2 : List (Nat × Value)} (hd : decode cc pc = .ok (.istore_n a, 1)) (hi : (a : Nat) = i) (hn : i < nL) (hl2 : (i, Value.int x) :: lv.filter (fun q => !(q.1 == i) && !(q.1 + 1 == i && q.2.category == 2)) = lv2) (kk : ST g C ws lv2 rest (pc + 1) k n) : ST g C ws lv (.int x :: rest) pc k n := by
  obtain ⟨l, D, cI, cJ⟩ := g
  obtain ⟨p, e, R9, s, m, args, below, meth, c, A, nL9, Q⟩ := C
  obtain ⟨hx, hb, hml, rfl, rfl, hown, hts, hK, hA, hT, hZ, hst9, hlk⟩ := X
  intro H locs ls hP hD hS hl
  exact lv_istore_n hx hb hd hi hl hn hl2 (fun ls9 hl9 => kk H locs ls9 hP hD hS hl9)
theorem st_istore (X : OK g C own cc nL R) {i : Nat} {x : Int32} {lv2 : List (Nat × Value)} (hd : decode cc pc = .ok (.istore i, 2)) (hn : i < nL) (hl2 : (i, Value.int x) :: lv.filter (fun q => !(q.1 == i) && !(q.1 + 1 == i && q.2.category == 2)) = lv2) (kk : ST g C ws lv2 rest (pc + 2) k n) : ST g C ws lv (.int x :: rest) pc k n := by
  obtain ⟨l, D, cI, cJ⟩ := g
  obtain ⟨p, e, R9, s, m, args, below, meth, c, A, nL9, Q⟩ := C
  obtain ⟨hx, hb, hml, rfl, rfl, hown, hts, hK, hA, hT, hZ, hst9, hlk⟩ := X
  intro H locs ls hP hD hS hl
  exact lv_istore hx hb hd hl hn hl2 (fun ls9 hl9 => kk H locs ls9 hP hD hS hl9)
theorem st_lload_n (X : OK g C own cc nL R) {a : Fin 4} {i : Nat} {x : Int64} (q : Nat) (hd : decode cc pc = .ok (.lload_n a, 1)) (hi : (a : Nat) = i) (hq : lv[q]? = some (i, .long x)) (kk : ST g C ws lv (.long x :: rest) (pc + 1) k n) : ST g C ws lv (rest) pc k n := by
  obtain ⟨l, D, cI, cJ⟩ := g
  obtain ⟨p, e, R9, s, m, args, below, meth, c, A, nL9, Q⟩ := C
  obtain ⟨hx, hb, hml, rfl, rfl, hown, hts, hK, hA, hT, hZ, hst9, hlk⟩ := X
  intro H locs ls hP hD hS hl
  exact lv_lload_n hx hb hd hi (lv_at hl q hq) (kk H locs ls hP hD hS hl)
theorem st_lload (X : OK g C own cc nL R) {i : Nat} {x : Int64} (q : Nat) (hd : decode cc pc = .ok (.lload i, 2)) (hq : lv[q]? = some (i, .long x)) (kk : ST g C ws lv (.long x :: rest) (pc + 2) k n) : ST g C ws lv (rest) pc k n := by
  obtain ⟨l, D, cI, cJ⟩ := g
  obtain ⟨p, e, R9, s, m, args, below, meth, c, A, nL9, Q⟩ := C
  obtain ⟨hx, hb, hml, rfl, rfl, hown, hts, hK, hA, hT, hZ, hst9, hlk⟩ := X
  intro H locs ls hP hD hS hl
  exact lv_lload hx hb hd (lv_at hl q hq) (kk H locs ls hP hD hS hl)
theorem st_lstore_n (X : OK g C own cc nL R) {a : Fin 4} {i : Nat} {x : Int64} {lv2 : List (Nat × Value)} (hd : decode cc pc = .ok (.lstore_n a, 1)) (hi : (a : Nat) = i) (hn : i + 1 < nL) (hl2 : (i, Value.long x) :: lv.filter (fun q => !(q.1 == i) && (!(q.1 == i + 1) && !(q.1 + 1 == i && q.2.category == 2))) = lv2) (kk : ST g C ws lv2 rest (pc + 1) k n) : ST g C ws lv (.long x :: rest) pc k n := by
  obtain ⟨l, D, cI, cJ⟩ := g
  obtain ⟨p, e, R9, s, m, args, below, meth, c, A, nL9, Q⟩ := C
  obtain ⟨hx, hb, hml, rfl, rfl, hown, hts, hK, hA, hT, hZ, hst9, hlk⟩ := X
  intro H locs ls hP hD hS hl
  exact lv_lstore_n hx hb hd hi hl hn hl2 (fun ls9 hl9 => kk H locs ls9 hP hD hS hl9)
theorem st_lstore (X : OK g C own cc nL R) {i : Nat} {x : Int64} {lv2 : List (Nat × Value)} (hd : decode cc pc = .ok (.lstore i, 2)) (hn : i + 1 < nL) (hl2 : (i, Value.long x) :: lv.filter (fun q => !(q.1 == i) && (!(q.1 == i + 1) && !(q.1 + 1 == i && q.2.category == 2))) = lv2) (kk : ST g C ws lv2 rest (pc + 2) k n) : ST g C ws lv (.long x :: rest) pc k n := by
  obtain ⟨l, D, cI, cJ⟩ := g
  obtain ⟨p, e, R9, s, m, args, below, meth, c, A, nL9, Q⟩ := C
  obtain ⟨hx, hb, hml, rfl, rfl, hown, hts, hK, hA, hT, hZ, hst9, hlk⟩ := X
  intro H locs ls hP hD hS hl
  exact lv_lstore hx hb hd hl hn hl2 (fun ls9 hl9 => kk H locs ls9 hP hD hS hl9)
theorem st_aload_n (X : OK g C own cc nL R) {a : Fin 4} {i : Nat} {x : Nat} (q : Nat) (hd : decode cc pc = .ok (.aload_n a, 1)) (hi : (a : Nat) = i) (hq : lv[q]? = some (i, .ref x)) (kk : ST g C ws lv (.ref x :: rest) (pc + 1) k n) : ST g C ws lv (rest) pc k n := by
  obtain ⟨l, D, cI, cJ⟩ := g
  obtain ⟨p, e, R9, s, m, args, below, meth, c, A, nL9, Q⟩ := C
  obtain ⟨hx, hb, hml, rfl, rfl, hown, hts, hK, hA, hT, hZ, hst9, hlk⟩ := X
  intro H locs ls hP hD hS hl
  exact lv_aload_n hx hb hd hi (lv_at hl q hq) (kk H locs ls hP hD hS hl)
theorem st_aload (X : OK g C own cc nL R) {i : Nat} {x : Nat} (q : Nat) (hd : decode cc pc = .ok (.aload i, 2)) (hq : lv[q]? = some (i, .ref x)) (kk : ST g C ws lv (.ref x :: rest) (pc + 2) k n) : ST g C ws lv (rest) pc k n := by
  obtain ⟨l, D, cI, cJ⟩ := g
  obtain ⟨p, e, R9, s, m, args, below, meth, c, A, nL9, Q⟩ := C
  obtain ⟨hx, hb, hml, rfl, rfl, hown, hts, hK, hA, hT, hZ, hst9, hlk⟩ := X
  intro H locs ls hP hD hS hl
  exact lv_aload hx hb hd (lv_at hl q hq) (kk H locs ls hP hD hS hl)
theorem st_astore_n (X : OK g C own cc nL R) {a : Fin 4} {i : Nat} {x : Nat} {lv2 : List (Nat × Value)} (hd : decode cc pc = .ok (.astore_n a, 1)) (hi : (a : Nat) = i) (hn : i < nL) (hl2 : (i, Value.ref x) :: lv.filter (fun q => !(q.1 == i) && !(q.1 + 1 == i && q.2.category == 2)) = lv2) (kk : ST g C ws lv2 rest (pc + 1) k n) : ST g C ws lv (.ref x :: rest) pc k n := by
  obtain ⟨l, D, cI, cJ⟩ := g
  obtain ⟨p, e, R9, s, m, args, below, meth, c, A, nL9, Q⟩ := C
  obtain ⟨hx, hb, hml, rfl, rfl, hown, hts, hK, hA, hT, hZ, hst9, hlk⟩ := X
  intro H locs ls hP hD hS hl
  exact lv_astore_n hx hb hd hi hl hn hl2 (fun ls9 hl9 => kk H locs ls9 hP hD hS hl9)
theorem st_astore (X : OK g C own cc nL R) {i : Nat} {x : Nat} {lv2 : List (Nat × Value)} (hd : decode cc pc = .ok (.astore i, 2)) (hn : i < nL) (hl2 : (i, Value.ref x) :: lv.filter (fun q => !(q.1 == i) && !(q.1 + 1 == i && q.2.category == 2)) = lv2) (kk : ST g C ws lv2 rest (pc + 2) k n) : ST g C ws lv (.ref x :: rest) pc k n := by
  obtain ⟨l, D, cI, cJ⟩ := g
  obtain ⟨p, e, R9, s, m, args, below, meth, c, A, nL9, Q⟩ := C
  obtain ⟨hx, hb, hml, rfl, rfl, hown, hts, hK, hA, hT, hZ, hst9, hlk⟩ := X
  intro H locs ls hP hD hS hl
  exact lv_astore hx hb hd hl hn hl2 (fun ls9 hl9 => kk H locs ls9 hP hD hS hl9)
theorem st_iinc (X : OK g C own cc nL R) {i : Nat} {a : Int} {x v : Int32} {lv2 : List (Nat × Value)} (q : Nat) (hd : decode cc pc = .ok (.iinc i a, 3)) (hq : lv[q]? = some (i, .int x)) (hv : x + Int32.ofInt a = v) (hn : i < nL) (hl2 : (i, Value.int v) :: lv.filter (fun q => !(q.1 == i) && !(q.1 + 1 == i && q.2.category == 2)) = lv2) (kk : ST g C ws lv2 rest (pc + 3) k n) : ST g C ws lv rest pc k n := by
  obtain ⟨l, D, cI, cJ⟩ := g
  obtain ⟨p, e, R9, s, m, args, below, meth, c, A, nL9, Q⟩ := C
  obtain ⟨hx, hb, hml, rfl, rfl, hown, hts, hK, hA, hT, hZ, hst9, hlk⟩ := X
  intro H locs ls hP hD hS hl
  exact lv_iinc hx hb hd hl hq hv hn hl2 (fun ls9 hl9 => kk H locs ls9 hP hD hS hl9)
theorem st_iadd (X : OK g C own cc nL R) {x y : Int32} (hd : decode cc pc = .ok (.iadd, 1)) (kk : ST g C ws lv (.int (x + y) :: rest) (pc + 1) k n) : ST g C ws lv (.int y :: .int x :: rest) pc k n := by
  obtain ⟨l, D, cI, cJ⟩ := g
  obtain ⟨p, e, R9, s, m, args, below, meth, c, A, nL9, Q⟩ := C
  obtain ⟨hx, hb, hml, rfl, rfl, hown, hts, hK, hA, hT, hZ, hst9, hlk⟩ := X
  intro H locs ls hP hD hS hl
  exact lv_iadd hx hb hd (kk H locs ls hP hD hS hl)
theorem st_isub (X : OK g C own cc nL R) {x y : Int32} (hd : decode cc pc = .ok (.isub, 1)) (kk : ST g C ws lv (.int (x - y) :: rest) (pc + 1) k n) : ST g C ws lv (.int y :: .int x :: rest) pc k n := by
  obtain ⟨l, D, cI, cJ⟩ := g
  obtain ⟨p, e, R9, s, m, args, below, meth, c, A, nL9, Q⟩ := C
  obtain ⟨hx, hb, hml, rfl, rfl, hown, hts, hK, hA, hT, hZ, hst9, hlk⟩ := X
  intro H locs ls hP hD hS hl
  exact lv_isub hx hb hd (kk H locs ls hP hD hS hl)
theorem st_imul (X : OK g C own cc nL R) {x y : Int32} (hd : decode cc pc = .ok (.imul, 1)) (kk : ST g C ws lv (.int (x * y) :: rest) (pc + 1) k n) : ST g C ws lv (.int y :: .int x :: rest) pc k n := by
  obtain ⟨l, D, cI, cJ⟩ := g
  obtain ⟨p, e, R9, s, m, args, below, meth, c, A, nL9, Q⟩ := C
  obtain ⟨hx, hb, hml, rfl, rfl, hown, hts, hK, hA, hT, hZ, hst9, hlk⟩ := X
  intro H locs ls hP hD hS hl
  exact lv_imul hx hb hd (kk H locs ls hP hD hS hl)
theorem st_iand (X : OK g C own cc nL R) {x y : Int32} (hd : decode cc pc = .ok (.iand, 1)) (kk : ST g C ws lv (.int (x &&& y) :: rest) (pc + 1) k n) : ST g C ws lv (.int y :: .int x :: rest) pc k n := by
  obtain ⟨l, D, cI, cJ⟩ := g
  obtain ⟨p, e, R9, s, m, args, below, meth, c, A, nL9, Q⟩ := C
  obtain ⟨hx, hb, hml, rfl, rfl, hown, hts, hK, hA, hT, hZ, hst9, hlk⟩ := X
  intro H locs ls hP hD hS hl
  exact lv_iand hx hb hd (kk H locs ls hP hD hS hl)
theorem st_ior (X : OK g C own cc nL R) {x y : Int32} (hd : decode cc pc = .ok (.ior, 1)) (kk : ST g C ws lv (.int (x ||| y) :: rest) (pc + 1) k n) : ST g C ws lv (.int y :: .int x :: rest) pc k n := by
  obtain ⟨l, D, cI, cJ⟩ := g
  obtain ⟨p, e, R9, s, m, args, below, meth, c, A, nL9, Q⟩ := C
  obtain ⟨hx, hb, hml, rfl, rfl, hown, hts, hK, hA, hT, hZ, hst9, hlk⟩ := X
  intro H locs ls hP hD hS hl
  exact lv_ior hx hb hd (kk H locs ls hP hD hS hl)
theorem st_ishl (X : OK g C own cc nL R) {x y : Int32} (hd : decode cc pc = .ok (.ishl, 1)) (kk : ST g C ws lv (.int (x <<< (y &&& 31)) :: rest) (pc + 1) k n) : ST g C ws lv (.int y :: .int x :: rest) pc k n := by
  obtain ⟨l, D, cI, cJ⟩ := g
  obtain ⟨p, e, R9, s, m, args, below, meth, c, A, nL9, Q⟩ := C
  obtain ⟨hx, hb, hml, rfl, rfl, hown, hts, hK, hA, hT, hZ, hst9, hlk⟩ := X
  intro H locs ls hP hD hS hl
  exact lv_ishl hx hb hd (kk H locs ls hP hD hS hl)
theorem st_ishr (X : OK g C own cc nL R) {x y : Int32} (hd : decode cc pc = .ok (.ishr, 1)) (kk : ST g C ws lv (.int (x >>> (y &&& 31)) :: rest) (pc + 1) k n) : ST g C ws lv (.int y :: .int x :: rest) pc k n := by
  obtain ⟨l, D, cI, cJ⟩ := g
  obtain ⟨p, e, R9, s, m, args, below, meth, c, A, nL9, Q⟩ := C
  obtain ⟨hx, hb, hml, rfl, rfl, hown, hts, hK, hA, hT, hZ, hst9, hlk⟩ := X
  intro H locs ls hP hD hS hl
  exact lv_ishr hx hb hd (kk H locs ls hP hD hS hl)
theorem st_iushr (X : OK g C own cc nL R) {x y : Int32} (hd : decode cc pc = .ok (.iushr, 1)) (kk : ST g C ws lv (.int ((x.toUInt32 >>> (y.toUInt32 &&& Int32.toUInt32 31)).toInt32) :: rest) (pc + 1) k n) : ST g C ws lv (.int y :: .int x :: rest) pc k n := by
  obtain ⟨l, D, cI, cJ⟩ := g
  obtain ⟨p, e, R9, s, m, args, below, meth, c, A, nL9, Q⟩ := C
  obtain ⟨hx, hb, hml, rfl, rfl, hown, hts, hK, hA, hT, hZ, hst9, hlk⟩ := X
  intro H locs ls hP hD hS hl
  exact lv_iushr hx hb hd rfl (kk H locs ls hP hD hS hl)
theorem st_ladd (X : OK g C own cc nL R) {x y : Int64} (hd : decode cc pc = .ok (.ladd, 1)) (kk : ST g C ws lv (.long (x + y) :: rest) (pc + 1) k n) : ST g C ws lv (.long y :: .long x :: rest) pc k n := by
  obtain ⟨l, D, cI, cJ⟩ := g
  obtain ⟨p, e, R9, s, m, args, below, meth, c, A, nL9, Q⟩ := C
  obtain ⟨hx, hb, hml, rfl, rfl, hown, hts, hK, hA, hT, hZ, hst9, hlk⟩ := X
  intro H locs ls hP hD hS hl
  exact lv_ladd hx hb hd (kk H locs ls hP hD hS hl)
theorem st_lsub (X : OK g C own cc nL R) {x y : Int64} (hd : decode cc pc = .ok (.lsub, 1)) (kk : ST g C ws lv (.long (x - y) :: rest) (pc + 1) k n) : ST g C ws lv (.long y :: .long x :: rest) pc k n := by
  obtain ⟨l, D, cI, cJ⟩ := g
  obtain ⟨p, e, R9, s, m, args, below, meth, c, A, nL9, Q⟩ := C
  obtain ⟨hx, hb, hml, rfl, rfl, hown, hts, hK, hA, hT, hZ, hst9, hlk⟩ := X
  intro H locs ls hP hD hS hl
  exact lv_lsub hx hb hd (kk H locs ls hP hD hS hl)
theorem st_lmul (X : OK g C own cc nL R) {x y : Int64} (hd : decode cc pc = .ok (.lmul, 1)) (kk : ST g C ws lv (.long (x * y) :: rest) (pc + 1) k n) : ST g C ws lv (.long y :: .long x :: rest) pc k n := by
  obtain ⟨l, D, cI, cJ⟩ := g
  obtain ⟨p, e, R9, s, m, args, below, meth, c, A, nL9, Q⟩ := C
  obtain ⟨hx, hb, hml, rfl, rfl, hown, hts, hK, hA, hT, hZ, hst9, hlk⟩ := X
  intro H locs ls hP hD hS hl
  exact lv_lmul hx hb hd (kk H locs ls hP hD hS hl)
theorem st_land (X : OK g C own cc nL R) {x y : Int64} (hd : decode cc pc = .ok (.land, 1)) (kk : ST g C ws lv (.long (x &&& y) :: rest) (pc + 1) k n) : ST g C ws lv (.long y :: .long x :: rest) pc k n := by
  obtain ⟨l, D, cI, cJ⟩ := g
  obtain ⟨p, e, R9, s, m, args, below, meth, c, A, nL9, Q⟩ := C
  obtain ⟨hx, hb, hml, rfl, rfl, hown, hts, hK, hA, hT, hZ, hst9, hlk⟩ := X
  intro H locs ls hP hD hS hl
  exact lv_land hx hb hd (kk H locs ls hP hD hS hl)
theorem st_lor (X : OK g C own cc nL R) {x y : Int64} (hd : decode cc pc = .ok (.lor, 1)) (kk : ST g C ws lv (.long (x ||| y) :: rest) (pc + 1) k n) : ST g C ws lv (.long y :: .long x :: rest) pc k n := by
  obtain ⟨l, D, cI, cJ⟩ := g
  obtain ⟨p, e, R9, s, m, args, below, meth, c, A, nL9, Q⟩ := C
  obtain ⟨hx, hb, hml, rfl, rfl, hown, hts, hK, hA, hT, hZ, hst9, hlk⟩ := X
  intro H locs ls hP hD hS hl
  exact lv_lor hx hb hd (kk H locs ls hP hD hS hl)
theorem st_ldiv (X : OK g C own cc nL R) {x y : Int64} (hd : decode cc pc = .ok (.ldiv, 1)) (hne : ¬ y = 0) (kk : ST g C ws lv (.long (x / y) :: rest) (pc + 1) k n) : ST g C ws lv (.long y :: .long x :: rest) pc k n := by
  obtain ⟨l, D, cI, cJ⟩ := g
  obtain ⟨p, e, R9, s, m, args, below, meth, c, A, nL9, Q⟩ := C
  obtain ⟨hx, hb, hml, rfl, rfl, hown, hts, hK, hA, hT, hZ, hst9, hlk⟩ := X
  intro H locs ls hP hD hS hl
  exact lv_ldiv hx hb hd hne (kk H locs ls hP hD hS hl)
theorem st_lrem (X : OK g C own cc nL R) {x y : Int64} (hd : decode cc pc = .ok (.lrem, 1)) (hne : ¬ y = 0) (kk : ST g C ws lv (.long (x - x / y * y) :: rest) (pc + 1) k n) : ST g C ws lv (.long y :: .long x :: rest) pc k n := by
  obtain ⟨l, D, cI, cJ⟩ := g
  obtain ⟨p, e, R9, s, m, args, below, meth, c, A, nL9, Q⟩ := C
  obtain ⟨hx, hb, hml, rfl, rfl, hown, hts, hK, hA, hT, hZ, hst9, hlk⟩ := X
  intro H locs ls hP hD hS hl
  exact lv_lrem hx hb hd hne (kk H locs ls hP hD hS hl)
theorem st_lshl (X : OK g C own cc nL R) {x : Int64} {y : Int32} (hd : decode cc pc = .ok (.lshl, 1)) (kk : ST g C ws lv (.long (x <<< (y.toInt64 &&& 63)) :: rest) (pc + 1) k n) : ST g C ws lv (.int y :: .long x :: rest) pc k n := by
  obtain ⟨l, D, cI, cJ⟩ := g
  obtain ⟨p, e, R9, s, m, args, below, meth, c, A, nL9, Q⟩ := C
  obtain ⟨hx, hb, hml, rfl, rfl, hown, hts, hK, hA, hT, hZ, hst9, hlk⟩ := X
  intro H locs ls hP hD hS hl
  exact lv_lshl hx hb hd rfl (kk H locs ls hP hD hS hl)
theorem st_i2l (X : OK g C own cc nL R) {x : Int32} (hd : decode cc pc = .ok (.i2l, 1)) (kk : ST g C ws lv (.long x.toInt64 :: rest) (pc + 1) k n) : ST g C ws lv (.int x :: rest) pc k n := by
  obtain ⟨l, D, cI, cJ⟩ := g
  obtain ⟨p, e, R9, s, m, args, below, meth, c, A, nL9, Q⟩ := C
  obtain ⟨hx, hb, hml, rfl, rfl, hown, hts, hK, hA, hT, hZ, hst9, hlk⟩ := X
  intro H locs ls hP hD hS hl
  exact lv_i2l hx hb hd rfl (kk H locs ls hP hD hS hl)
theorem st_l2i (X : OK g C own cc nL R) {x : Int64} (hd : decode cc pc = .ok (.l2i, 1)) (kk : ST g C ws lv (.int x.toInt32 :: rest) (pc + 1) k n) : ST g C ws lv (.long x :: rest) pc k n := by
  obtain ⟨l, D, cI, cJ⟩ := g
  obtain ⟨p, e, R9, s, m, args, below, meth, c, A, nL9, Q⟩ := C
  obtain ⟨hx, hb, hml, rfl, rfl, hown, hts, hK, hA, hT, hZ, hst9, hlk⟩ := X
  intro H locs ls hP hD hS hl
  exact lv_l2i hx hb hd rfl (kk H locs ls hP hD hS hl)
theorem st_dup (X : OK g C own cc nL R) {v : Value} (hd : decode cc pc = .ok (.dup, 1)) (hv : v.category = 1) (kk : ST g C ws lv (v :: v :: rest) (pc + 1) k n) : ST g C ws lv (v :: rest) pc k n := by
  obtain ⟨l, D, cI, cJ⟩ := g
  obtain ⟨p, e, R9, s, m, args, below, meth, c, A, nL9, Q⟩ := C
  obtain ⟨hx, hb, hml, rfl, rfl, hown, hts, hK, hA, hT, hZ, hst9, hlk⟩ := X
  intro H locs ls hP hD hS hl
  exact lv_dup hx hb hd hv (kk H locs ls hP hD hS hl)
theorem st_dup2_11 (X : OK g C own cc nL R) {v w : Value} (hd : decode cc pc = .ok (.dup2, 1)) (hv : v.category = 1) (hw : w.category = 1) (kk : ST g C ws lv (v :: w :: v :: w :: rest) (pc + 1) k n) : ST g C ws lv (v :: w :: rest) pc k n := by
  obtain ⟨l, D, cI, cJ⟩ := g
  obtain ⟨p, e, R9, s, m, args, below, meth, c, A, nL9, Q⟩ := C
  obtain ⟨hx, hb, hml, rfl, rfl, hown, hts, hK, hA, hT, hZ, hst9, hlk⟩ := X
  intro H locs ls hP hD hS hl
  exact lv_dup2_11 hx hb hd hv hw (kk H locs ls hP hD hS hl)
theorem st_if_eq (X : OK g C own cc nL R) {x : Int32} {off : Int} (tgt : Nat) (hd : decode cc pc = .ok (.ifCond .eq off, 3)) (ht : (pc : Int) + off = (tgt : Int)) (kt : x = 0 → ST g C ws lv rest tgt k n) (kf : ¬ x = 0 → ST g C ws lv rest (pc + 3) k n) : ST g C ws lv (.int x :: rest) pc k n := by
  obtain ⟨l, D, cI, cJ⟩ := g
  obtain ⟨p, e, R9, s, m, args, below, meth, c, A, nL9, Q⟩ := C
  obtain ⟨hx, hb, hml, rfl, rfl, hown, hts, hK, hA, hT, hZ, hst9, hlk⟩ := X
  intro H locs ls hP hD hS hl
  exact lv_if_eq hx hb hd ht (fun q => kt q H locs ls hP hD hS hl) (fun q => kf q H locs ls hP hD hS hl)
theorem st_icmp_eq (X : OK g C own cc nL R) {x y : Int32} {off : Int} (tgt : Nat) (hd : decode cc pc = .ok (.if_icmp .eq off, 3)) (ht : (pc : Int) + off = (tgt : Int)) (kt : x = y → ST g C ws lv rest tgt k n) (kf : ¬ x = y → ST g C ws lv rest (pc + 3) k n) : ST g C ws lv (.int y :: .int x :: rest) pc k n := by
  obtain ⟨l, D, cI, cJ⟩ := g
  obtain ⟨p, e, R9, s, m, args, below, meth, c, A, nL9, Q⟩ := C
  obtain ⟨hx, hb, hml, rfl, rfl, hown, hts, hK, hA, hT, hZ, hst9, hlk⟩ := X
  intro H locs ls hP hD hS hl
  exact lv_icmp_eq hx hb hd ht (fun q => kt q H locs ls hP hD hS hl) (fun q => kf q H locs ls hP hD hS hl)
theorem st_if_ne (X : OK g C own cc nL R) {x : Int32} {off : Int} (tgt : Nat) (hd : decode cc pc = .ok (.ifCond .ne off, 3)) (ht : (pc : Int) + off = (tgt : Int)) (kt : ¬ x = 0 → ST g C ws lv rest tgt k n) (kf : x = 0 → ST g C ws lv rest (pc + 3) k n) : ST g C ws lv (.int x :: rest) pc k n := by
  obtain ⟨l, D, cI, cJ⟩ := g
  obtain ⟨p, e, R9, s, m, args, below, meth, c, A, nL9, Q⟩ := C
  obtain ⟨hx, hb, hml, rfl, rfl, hown, hts, hK, hA, hT, hZ, hst9, hlk⟩ := X
  intro H locs ls hP hD hS hl
  exact lv_if_ne hx hb hd ht (fun q => kt q H locs ls hP hD hS hl) (fun q => kf q H locs ls hP hD hS hl)
theorem st_icmp_ne (X : OK g C own cc nL R) {x y : Int32} {off : Int} (tgt : Nat) (hd : decode cc pc = .ok (.if_icmp .ne off, 3)) (ht : (pc : Int) + off = (tgt : Int)) (kt : ¬ x = y → ST g C ws lv rest tgt k n) (kf : x = y → ST g C ws lv rest (pc + 3) k n) : ST g C ws lv (.int y :: .int x :: rest) pc k n := by
  obtain ⟨l, D, cI, cJ⟩ := g
  obtain ⟨p, e, R9, s, m, args, below, meth, c, A, nL9, Q⟩ := C
  obtain ⟨hx, hb, hml, rfl, rfl, hown, hts, hK, hA, hT, hZ, hst9, hlk⟩ := X
  intro H locs ls hP hD hS hl
  exact lv_icmp_ne hx hb hd ht (fun q => kt q H locs ls hP hD hS hl) (fun q => kf q H locs ls hP hD hS hl)
theorem st_if_lt (X : OK g C own cc nL R) {x : Int32} {off : Int} (tgt : Nat) (hd : decode cc pc = .ok (.ifCond .lt off, 3)) (ht : (pc : Int) + off = (tgt : Int)) (kt : x < 0 → ST g C ws lv rest tgt k n) (kf : ¬ x < 0 → ST g C ws lv rest (pc + 3) k n) : ST g C ws lv (.int x :: rest) pc k n := by
  obtain ⟨l, D, cI, cJ⟩ := g
  obtain ⟨p, e, R9, s, m, args, below, meth, c, A, nL9, Q⟩ := C
  obtain ⟨hx, hb, hml, rfl, rfl, hown, hts, hK, hA, hT, hZ, hst9, hlk⟩ := X
  intro H locs ls hP hD hS hl
  exact lv_if_lt hx hb hd ht (fun q => kt q H locs ls hP hD hS hl) (fun q => kf q H locs ls hP hD hS hl)
theorem st_icmp_lt (X : OK g C own cc nL R) {x y : Int32} {off : Int} (tgt : Nat) (hd : decode cc pc = .ok (.if_icmp .lt off, 3)) (ht : (pc : Int) + off = (tgt : Int)) (kt : x < y → ST g C ws lv rest tgt k n) (kf : ¬ x < y → ST g C ws lv rest (pc + 3) k n) : ST g C ws lv (.int y :: .int x :: rest) pc k n := by
  obtain ⟨l, D, cI, cJ⟩ := g
  obtain ⟨p, e, R9, s, m, args, below, meth, c, A, nL9, Q⟩ := C
  obtain ⟨hx, hb, hml, rfl, rfl, hown, hts, hK, hA, hT, hZ, hst9, hlk⟩ := X
  intro H locs ls hP hD hS hl
  exact lv_icmp_lt hx hb hd ht (fun q => kt q H locs ls hP hD hS hl) (fun q => kf q H locs ls hP hD hS hl)
theorem st_if_ge (X : OK g C own cc nL R) {x : Int32} {off : Int} (tgt : Nat) (hd : decode cc pc = .ok (.ifCond .ge off, 3)) (ht : (pc : Int) + off = (tgt : Int)) (kt : 0 ≤ x → ST g C ws lv rest tgt k n) (kf : ¬ 0 ≤ x → ST g C ws lv rest (pc + 3) k n) : ST g C ws lv (.int x :: rest) pc k n := by
  obtain ⟨l, D, cI, cJ⟩ := g
  obtain ⟨p, e, R9, s, m, args, below, meth, c, A, nL9, Q⟩ := C
  obtain ⟨hx, hb, hml, rfl, rfl, hown, hts, hK, hA, hT, hZ, hst9, hlk⟩ := X
  intro H locs ls hP hD hS hl
  exact lv_if_ge hx hb hd ht (fun q => kt q H locs ls hP hD hS hl) (fun q => kf q H locs ls hP hD hS hl)
theorem st_icmp_ge (X : OK g C own cc nL R) {x y : Int32} {off : Int} (tgt : Nat) (hd : decode cc pc = .ok (.if_icmp .ge off, 3)) (ht : (pc : Int) + off = (tgt : Int)) (kt : y ≤ x → ST g C ws lv rest tgt k n) (kf : ¬ y ≤ x → ST g C ws lv rest (pc + 3) k n) : ST g C ws lv (.int y :: .int x :: rest) pc k n := by
  obtain ⟨l, D, cI, cJ⟩ := g
  obtain ⟨p, e, R9, s, m, args, below, meth, c, A, nL9, Q⟩ := C
  obtain ⟨hx, hb, hml, rfl, rfl, hown, hts, hK, hA, hT, hZ, hst9, hlk⟩ := X
  intro H locs ls hP hD hS hl
  exact lv_icmp_ge hx hb hd ht (fun q => kt q H locs ls hP hD hS hl) (fun q => kf q H locs ls hP hD hS hl)
theorem st_if_gt (X : OK g C own cc nL R) {x : Int32} {off : Int} (tgt : Nat) (hd : decode cc pc = .ok (.ifCond .gt off, 3)) (ht : (pc : Int) + off = (tgt : Int)) (kt : 0 < x → ST g C ws lv rest tgt k n) (kf : ¬ 0 < x → ST g C ws lv rest (pc + 3) k n) : ST g C ws lv (.int x :: rest) pc k n := by
  obtain ⟨l, D, cI, cJ⟩ := g
  obtain ⟨p, e, R9, s, m, args, below, meth, c, A, nL9, Q⟩ := C
  obtain ⟨hx, hb, hml, rfl, rfl, hown, hts, hK, hA, hT, hZ, hst9, hlk⟩ := X
  intro H locs ls hP hD hS hl
  exact lv_if_gt hx hb hd ht (fun q => kt q H locs ls hP hD hS hl) (fun q => kf q H locs ls hP hD hS hl)
theorem st_icmp_gt (X : OK g C own cc nL R) {x y : Int32} {off : Int} (tgt : Nat) (hd : decode cc pc = .ok (.if_icmp .gt off, 3)) (ht : (pc : Int) + off = (tgt : Int)) (kt : y < x → ST g C ws lv rest tgt k n) (kf : ¬ y < x → ST g C ws lv rest (pc + 3) k n) : ST g C ws lv (.int y :: .int x :: rest) pc k n := by
  obtain ⟨l, D, cI, cJ⟩ := g
  obtain ⟨p, e, R9, s, m, args, below, meth, c, A, nL9, Q⟩ := C
  obtain ⟨hx, hb, hml, rfl, rfl, hown, hts, hK, hA, hT, hZ, hst9, hlk⟩ := X
  intro H locs ls hP hD hS hl
  exact lv_icmp_gt hx hb hd ht (fun q => kt q H locs ls hP hD hS hl) (fun q => kf q H locs ls hP hD hS hl)
theorem st_if_le (X : OK g C own cc nL R) {x : Int32} {off : Int} (tgt : Nat) (hd : decode cc pc = .ok (.ifCond .le off, 3)) (ht : (pc : Int) + off = (tgt : Int)) (kt : x ≤ 0 → ST g C ws lv rest tgt k n) (kf : ¬ x ≤ 0 → ST g C ws lv rest (pc + 3) k n) : ST g C ws lv (.int x :: rest) pc k n := by
  obtain ⟨l, D, cI, cJ⟩ := g
  obtain ⟨p, e, R9, s, m, args, below, meth, c, A, nL9, Q⟩ := C
  obtain ⟨hx, hb, hml, rfl, rfl, hown, hts, hK, hA, hT, hZ, hst9, hlk⟩ := X
  intro H locs ls hP hD hS hl
  exact lv_if_le hx hb hd ht (fun q => kt q H locs ls hP hD hS hl) (fun q => kf q H locs ls hP hD hS hl)
theorem st_icmp_le (X : OK g C own cc nL R) {x y : Int32} {off : Int} (tgt : Nat) (hd : decode cc pc = .ok (.if_icmp .le off, 3)) (ht : (pc : Int) + off = (tgt : Int)) (kt : x ≤ y → ST g C ws lv rest tgt k n) (kf : ¬ x ≤ y → ST g C ws lv rest (pc + 3) k n) : ST g C ws lv (.int y :: .int x :: rest) pc k n := by
  obtain ⟨l, D, cI, cJ⟩ := g
  obtain ⟨p, e, R9, s, m, args, below, meth, c, A, nL9, Q⟩ := C
  obtain ⟨hx, hb, hml, rfl, rfl, hown, hts, hK, hA, hT, hZ, hst9, hlk⟩ := X
  intro H locs ls hP hD hS hl
  exact lv_icmp_le hx hb hd ht (fun q => kt q H locs ls hP hD hS hl) (fun q => kf q H locs ls hP hD hS hl)
theorem lg_c_lt (x y : Int64) : (lg_cmp x y < 0) ↔ x < y := by
  unfold lg_cmp
  simp only [gt_iff_lt, Int64.lt_iff_toInt_lt, ← Int64.toInt_inj]
  repeat' split
  all_goals simp
  all_goals omega
theorem lg_c_eq (x y : Int64) : (lg_cmp x y = 0) ↔ x = y := by
  unfold lg_cmp
  simp only [gt_iff_lt, Int64.lt_iff_toInt_lt, ← Int64.toInt_inj]
  repeat' split
  all_goals simp
  all_goals omega
theorem st_lcmp_eq (X : OK g C own cc nL R) {x y : Int64} {off : Int} (tgt : Nat) (hd0 : decode cc pc = .ok (.lcmp, 1)) (hd : decode cc (pc + 1) = .ok (.ifCond .eq off, 3)) (ht : ((pc + 1 : Nat) : Int) + off = (tgt : Int)) (kt : x = y → ST g C ws lv rest tgt k n) (kf : ¬ x = y → ST g C ws lv rest (pc + 4) k n) : ST g C ws lv (.long y :: .long x :: rest) pc k n := by
  obtain ⟨l, D, cI, cJ⟩ := g
  obtain ⟨p, e, R9, s, m, args, below, meth, c, A, nL9, Q⟩ := C
  obtain ⟨hx, hb, hml, rfl, rfl, hown, hts, hK, hA, hT, hZ, hst9, hlk⟩ := X
  intro H locs ls hP hD hS hl
  exact W.lcmp hx hb hd0 (lv_if_eq hx hb hd ht (fun q => kt ((lg_c_eq x y).mp q) H locs ls hP hD hS hl) (fun q => kf (fun z => q ((lg_c_eq x y).mpr z)) H locs ls hP hD hS hl))
theorem st_lcmp_ne (X : OK g C own cc nL R) {x y : Int64} {off : Int} (tgt : Nat) (hd0 : decode cc pc = .ok (.lcmp, 1)) (hd : decode cc (pc + 1) = .ok (.ifCond .ne off, 3)) (ht : ((pc + 1 : Nat) : Int) + off = (tgt : Int)) (kt : ¬ x = y → ST g C ws lv rest tgt k n) (kf : x = y → ST g C ws lv rest (pc + 4) k n) : ST g C ws lv (.long y :: .long x :: rest) pc k n := by
  obtain ⟨l, D, cI, cJ⟩ := g
  obtain ⟨p, e, R9, s, m, args, below, meth, c, A, nL9, Q⟩ := C
  obtain ⟨hx, hb, hml, rfl, rfl, hown, hts, hK, hA, hT, hZ, hst9, hlk⟩ := X
  intro H locs ls hP hD hS hl
  exact W.lcmp hx hb hd0 (lv_if_ne hx hb hd ht (fun q => kt (fun z => q ((lg_c_eq x y).mpr z)) H locs ls hP hD hS hl) (fun q => kf ((lg_c_eq x y).mp q) H locs ls hP hD hS hl))
theorem st_lcmp_lt (X : OK g C own cc nL R) {x y : Int64} {off : Int} (tgt : Nat) (hd0 : decode cc pc = .ok (.lcmp, 1)) (hd : decode cc (pc + 1) = .ok (.ifCond .lt off, 3)) (ht : ((pc + 1 : Nat) : Int) + off = (tgt : Int)) (kt : x < y → ST g C ws lv rest tgt k n) (kf : ¬ x < y → ST g C ws lv rest (pc + 4) k n) : ST g C ws lv (.long y :: .long x :: rest) pc k n := by
  obtain ⟨l, D, cI, cJ⟩ := g
  obtain ⟨p, e, R9, s, m, args, below, meth, c, A, nL9, Q⟩ := C
  obtain ⟨hx, hb, hml, rfl, rfl, hown, hts, hK, hA, hT, hZ, hst9, hlk⟩ := X
  intro H locs ls hP hD hS hl
  exact W.lcmp hx hb hd0 (lv_if_lt hx hb hd ht (fun q => kt ((lg_c_lt x y).mp q) H locs ls hP hD hS hl) (fun q => kf (fun z => q ((lg_c_lt x y).mpr z)) H locs ls hP hD hS hl))
theorem st_lcmp_ge (X : OK g C own cc nL R) {x y : Int64} {off : Int} (tgt : Nat) (hd0 : decode cc pc = .ok (.lcmp, 1)) (hd : decode cc (pc + 1) = .ok (.ifCond .ge off, 3)) (ht : ((pc + 1 : Nat) : Int) + off = (tgt : Int)) (kt : y ≤ x → ST g C ws lv rest tgt k n) (kf : ¬ y ≤ x → ST g C ws lv rest (pc + 4) k n) : ST g C ws lv (.long y :: .long x :: rest) pc k n := by
  obtain ⟨l, D, cI, cJ⟩ := g
  obtain ⟨p, e, R9, s, m, args, below, meth, c, A, nL9, Q⟩ := C
  obtain ⟨hx, hb, hml, rfl, rfl, hown, hts, hK, hA, hT, hZ, hst9, hlk⟩ := X
  intro H locs ls hP hD hS hl
  exact W.lcmp hx hb hd0 (lv_if_ge hx hb hd ht (fun q => kt ((lg_cmp_ge x y).mp q) H locs ls hP hD hS hl) (fun q => kf (fun z => q ((lg_cmp_ge x y).mpr z)) H locs ls hP hD hS hl))
theorem st_lcmp_gt (X : OK g C own cc nL R) {x y : Int64} {off : Int} (tgt : Nat) (hd0 : decode cc pc = .ok (.lcmp, 1)) (hd : decode cc (pc + 1) = .ok (.ifCond .gt off, 3)) (ht : ((pc + 1 : Nat) : Int) + off = (tgt : Int)) (kt : y < x → ST g C ws lv rest tgt k n) (kf : ¬ y < x → ST g C ws lv rest (pc + 4) k n) : ST g C ws lv (.long y :: .long x :: rest) pc k n := by
  obtain ⟨l, D, cI, cJ⟩ := g
  obtain ⟨p, e, R9, s, m, args, below, meth, c, A, nL9, Q⟩ := C
  obtain ⟨hx, hb, hml, rfl, rfl, hown, hts, hK, hA, hT, hZ, hst9, hlk⟩ := X
  intro H locs ls hP hD hS hl
  exact W.lcmp hx hb hd0 (lv_if_gt hx hb hd ht (fun q => kt ((lg_cmp_gt x y).mp q) H locs ls hP hD hS hl) (fun q => kf (fun z => q ((lg_cmp_gt x y).mpr z)) H locs ls hP hD hS hl))
theorem st_lcmp_le (X : OK g C own cc nL R) {x y : Int64} {off : Int} (tgt : Nat) (hd0 : decode cc pc = .ok (.lcmp, 1)) (hd : decode cc (pc + 1) = .ok (.ifCond .le off, 3)) (ht : ((pc + 1 : Nat) : Int) + off = (tgt : Int)) (kt : x ≤ y → ST g C ws lv rest tgt k n) (kf : ¬ x ≤ y → ST g C ws lv rest (pc + 4) k n) : ST g C ws lv (.long y :: .long x :: rest) pc k n := by
  obtain ⟨l, D, cI, cJ⟩ := g
  obtain ⟨p, e, R9, s, m, args, below, meth, c, A, nL9, Q⟩ := C
  obtain ⟨hx, hb, hml, rfl, rfl, hown, hts, hK, hA, hT, hZ, hst9, hlk⟩ := X
  intro H locs ls hP hD hS hl
  exact W.lcmp hx hb hd0 (lv_if_le hx hb hd ht (fun q => kt ((lg_cmp_le x y).mp q) H locs ls hP hD hS hl) (fun q => kf (fun z => q ((lg_cmp_le x y).mpr z)) H locs ls hP hD hS hl))
theorem st_goto (X : OK g C own cc nL R) {off : Int} (tgt : Nat) (hd : decode cc pc = .ok (.goto off, 3)) (ht : (pc : Int) + off = (tgt : Int)) (kk : ST g C ws lv rest tgt k n) : ST g C ws lv rest pc k n := by
  obtain ⟨l, D, cI, cJ⟩ := g
  obtain ⟨p, e, R9, s, m, args, below, meth, c, A, nL9, Q⟩ := C
  obtain ⟨hx, hb, hml, rfl, rfl, hown, hts, hK, hA, hT, hZ, hst9, hlk⟩ := X
  intro H locs ls hP hD hS hl
  exact lv_goto hx hb hd ht (kk H locs ls hP hD hS hl)
theorem st_lv (qs : List Nat) {lv2 : List (Nat × Value)} (h : lv_pick lv qs = lv2) (kk : ST g C ws lv2 rest pc k n) : ST g C ws lv rest pc k n := by
  obtain ⟨l, D, cI, cJ⟩ := g
  obtain ⟨p, e, R9, s, m, args, below, meth, c, A, nL9, Q⟩ := C
  intro H locs ls hP hD hS hl
  exact kk H locs ls hP hD hS (lv_sub hl qs h)
theorem st_perm {ws2 : va_W} (is : List Nat) (h : is.map (fun i => ws[i]?) = ws2.map some) (hn : va_nd is = true) (kk : ST g C ws2 lv rest pc k n) : ST g C ws lv rest pc k n := by
  obtain ⟨l, D, cI, cJ⟩ := g
  obtain ⟨p, e, R9, s, m, args, below, meth, c, A, nL9, Q⟩ := C
  intro H locs ls hP hD hS hl
  exact kk H locs ls (hP.subm h) (hD.sub is hn h) hS hl
theorem st_widen {k2 n2 : Nat} (h1 : k ≤ k2) (h2 : n ≤ n2) (kk : ST g C ws lv rest pc k2 n2) : ST g C ws lv rest pc k n := by
  obtain ⟨l, D, cI, cJ⟩ := g
  obtain ⟨p, e, R9, s, m, args, below, meth, c, A, nL9, Q⟩ := C
  intro H locs ls hP hD hS hl
  exact W.widen h1 h2 (kk H locs ls hP hD hS hl)
theorem st_get (X : OK g C own cc nL R) {Cn : String} {T : u_T} {N ci ix a : Nat} {fs : List Value} {v : Value} (hin : ∀ w ∈ u_ws Cn T N, w ∈ WALL) (q0 j : Nat) (hw : Cond.fieldLink own ix (T j).1 (T j).2.1 (T j).2.2.1 ∈ WALL) (he : ws[q0]? = some (a, .inr (ci, fs))) (hc : vwCl[ci]? = some (Cn, T, N)) (hj : j < N) (hv : fs[j]? = some v) (hd : decode cc pc = .ok (.getfield ix, 3)) (kk : ST g C ws lv (v :: rest) (pc + 3) k n) : ST g C ws lv (.ref a :: rest) pc k n := by
  obtain ⟨l, D, cI, cJ⟩ := g
  obtain ⟨p, e, R9, s, m, args, below, meth, c, A, nL9, Q⟩ := C
  obtain ⟨hx, hb, hml, rfl, rfl, hown, hts, hK, hA, hT, hZ, hst9, hlk⟩ := X
  intro H locs ls hP hD hS hl
  exact va_get (D := D) hx hb hts hin hown hK hP q0 he hc j hj (hts _ hw) (fun _ h9 => h9) hv hd (kk H locs ls hP hD hS hl)
theorem st_getN (X : OK g C own cc nL R) {Cn : String} {T : u_T} {N ci ix a : Nat} {fs : List Value} {v : Value} (hin : ∀ w ∈ u_ws Cn T N, w ∈ WALL) {host : String} (q0 j : Nat) (hw : Cond.fieldLinkNest own ix (T j).1 (T j).2.1 (T j).2.2.1 host ∈ NALL) (he : ws[q0]? = some (a, .inr (ci, fs))) (hc : vwCl[ci]? = some (Cn, T, N)) (hj : j < N) (hv : fs[j]? = some v) (hd : decode cc pc = .ok (.getfield ix, 3)) (kk : ST g C ws lv (v :: rest) (pc + 3) k n) : ST g C ws lv (.ref a :: rest) pc k n := by
  obtain ⟨l, D, cI, cJ⟩ := g
  obtain ⟨p, e, R9, s, m, args, below, meth, c, A, nL9, Q⟩ := C
  obtain ⟨hx, hb, hml, rfl, rfl, hown, hts, hK, hA, hT, hZ, hst9, hlk⟩ := X
  intro H locs ls hP hD hS hl
  exact va_getN (D := D) hx hb hts hin hown hK hP q0 he hc j hj (va_Nw.use rfl (hT.1 _ hw)) (fun _ h9 => h9) hv hd (kk H locs ls hP hD hS hl)

theorem st_put (X : OK g C own cc nL R) {Cn : String} {T : u_T} {N ci ix a : Nat} {fs : List Value} {v : Value} (hin : ∀ w ∈ u_ws Cn T N, w ∈ WALL) (ty0 : Nat → FieldType) (hty : ∀ k, k < N → parseFieldDescriptor (T k).2.2.1 = some (ty0 k)) (hnm : ∀ a, a < N → ∀ b, b < N → a ≠ b → (T a).2.1 ≠ (T b).2.1) (q0 j : Nat) (hw : Cond.fieldLink own ix (T j).1 (T j).2.1 (T j).2.2.1 ∈ WALL) (he : ws[q0]? = some (a, .inr (ci, fs))) (hc : vwCl[ci]? = some (Cn, T, N)) (hj : j < N) (hfin : (T j).2.2.2 = false) {ty : FieldType} (hp : parseFieldDescriptor (T j).2.2.1 = some ty) (hnr : narrow ty v = v) (hft : fits ty v = true) (hlf : j < fs.length) {ws2 : va_W} (hws : ws.set q0 (a, .inr (ci, fs.set j v)) = ws2) (hd : decode cc pc = .ok (.putfield ix, 3)) (kk : ST g C ws2 lv rest (pc + 3) k n) : ST g C ws lv (v :: .ref a :: rest) pc k n := by
  obtain ⟨l, D, cI, cJ⟩ := g
  obtain ⟨p, e, R9, s, m, args, below, meth, c, A, nL9, Q⟩ := C
  obtain ⟨hx, hb, hml, rfl, rfl, hown, hts, hK, hA, hT, hZ, hst9, hlk⟩ := X
  intro H locs ls hP hD hS hl
  subst hws
  exact va_put (D := D) hx hb hts hin ty0 hty hnm hown hK hP hD hS q0 he hc j hj (hts _ hw) (fun _ h9 => h9) hfin hp hnr hft hlf hd (fun H1 locs1 hP1 hD1 hS1 => kk H1 locs1 ls hP1 hD1 hS1 hl)
def INIT (C : CX) : Prop := match C with
  | (_, _, _, _, _, _, _, meth, _, _, _, _) => meth.name = "<init>"
theorem st_putF (X : OK g C own cc nL R) {Cn : String} {T : u_T} {N ci ix a : Nat} {fs : List Value} {v : Value} (hin : ∀ w ∈ u_ws Cn T N, w ∈ WALL) (ty0 : Nat → FieldType) (hty : ∀ k, k < N → parseFieldDescriptor (T k).2.2.1 = some (ty0 k)) (hnm : ∀ a, a < N → ∀ b, b < N → a ≠ b → (T a).2.1 ≠ (T b).2.1) (q0 j : Nat) (hw : Cond.fieldLink own ix (T j).1 (T j).2.1 (T j).2.2.1 ∈ WALL) (he : ws[q0]? = some (a, .inr (ci, fs))) (hc : vwCl[ci]? = some (Cn, T, N)) (hj : j < N) (hfin : (T j).2.2.2 = true) (hnm2 : INIT C) (hdecl : (T j).1 = own) {ty : FieldType} (hp : parseFieldDescriptor (T j).2.2.1 = some ty) (hnr : narrow ty v = v) (hft : fits ty v = true) (hlf : j < fs.length) {ws2 : va_W} (hws : ws.set q0 (a, .inr (ci, fs.set j v)) = ws2) (hd : decode cc pc = .ok (.putfield ix, 3)) (kk : ST g C ws2 lv rest (pc + 3) k n) : ST g C ws lv (v :: .ref a :: rest) pc k n := by
  obtain ⟨l, D, cI, cJ⟩ := g
  obtain ⟨p, e, R9, s, m, args, below, meth, c, A, nL9, Q⟩ := C
  obtain ⟨hx, hb, hml, rfl, rfl, hown, hts, hK, hA, hT, hZ, hst9, hlk⟩ := X
  intro H locs ls hP hD hS hl
  subst hws
  exact va_putF (D := D) hx hb hts hin ty0 hty hnm hown hK hP hD hS q0 he hc j hj (hts _ hw) (fun _ h9 => h9) hfin hnm2 hdecl hp hnr hft hlf hd (fun H1 locs1 hP1 hD1 hS1 => kk H1 locs1 ls hP1 hD1 hS1 hl)
theorem st_iald (X : OK g C own cc nL R) {a N : Nat} {f : Nat → Int32} {i : Int32} (q0 : Nat) (ha : ws[q0]? = some (a, .inl (g.2.2.1, N, .inl f))) (hi : vp_in i N) (hd : decode cc pc = .ok (.iaload, 1)) (kk : ST g C ws lv (.int (f i.toNatClampNeg) :: rest) (pc + 1) k n) : ST g C ws lv (.int i :: .ref a :: rest) pc k n := by
  obtain ⟨l, D, cI, cJ⟩ := g
  obtain ⟨p, e, R9, s, m, args, below, meth, c, A, nL9, Q⟩ := C
  obtain ⟨hx, hb, hml, rfl, rfl, hown, hts, hK, hA, hT, hZ, hst9, hlk⟩ := X
  intro H locs ls hP hD hS hl
  exact va_iald hx hb hK hP q0 0 ha rfl hi hd (kk H locs ls hP hD hS hl)
theorem st_iast (X : OK g C own cc nL R) {a N : Nat} {f : Nat → Int32} {i : Int32} {x : Int32} {ws2 : va_W} (q0 : Nat) (ha : ws[q0]? = some (a, .inl (g.2.2.1, N, .inl f))) (hi : vp_in i N) (hws : ws.set q0 (a, .inl (g.2.2.1, N, .inl (upd f i.toNatClampNeg x))) = ws2) (hd : decode cc pc = .ok (.iastore, 1)) (kk : ST g C ws2 lv rest (pc + 1) k n) : ST g C ws lv (.int x :: .int i :: .ref a :: rest) pc k n := by
  obtain ⟨l, D, cI, cJ⟩ := g
  obtain ⟨p, e, R9, s, m, args, below, meth, c, A, nL9, Q⟩ := C
  obtain ⟨hx, hb, hml, rfl, rfl, hown, hts, hK, hA, hT, hZ, hst9, hlk⟩ := X
  intro H locs ls hP hD hS hl
  subst hws
  exact va_iast hx hb hK hP hD hS q0 0 ha rfl hi hd (fun H1 locs1 hP1 hD1 hS1 => kk H1 locs1 ls hP1 hD1 hS1 hl)
theorem st_lald (X : OK g C own cc nL R) {a N : Nat} {f : Nat → Int64} {i : Int32} (q0 : Nat) (ha : ws[q0]? = some (a, .inl (g.2.2.2, N, .inr (.inl f)))) (hi : vp_in i N) (hd : decode cc pc = .ok (.laload, 1)) (kk : ST g C ws lv (.long (f i.toNatClampNeg) :: rest) (pc + 1) k n) : ST g C ws lv (.int i :: .ref a :: rest) pc k n := by
  obtain ⟨l, D, cI, cJ⟩ := g
  obtain ⟨p, e, R9, s, m, args, below, meth, c, A, nL9, Q⟩ := C
  obtain ⟨hx, hb, hml, rfl, rfl, hown, hts, hK, hA, hT, hZ, hst9, hlk⟩ := X
  intro H locs ls hP hD hS hl
  exact va_lald hx hb hK hP q0 1 ha rfl hi hd (kk H locs ls hP hD hS hl)
theorem st_last (X : OK g C own cc nL R) {a N : Nat} {f : Nat → Int64} {i : Int32} {x : Int64} {ws2 : va_W} (q0 : Nat) (ha : ws[q0]? = some (a, .inl (g.2.2.2, N, .inr (.inl f)))) (hi : vp_in i N) (hws : ws.set q0 (a, .inl (g.2.2.2, N, .inr (.inl (vp_updL f i.toNatClampNeg x)))) = ws2) (hd : decode cc pc = .ok (.lastore, 1)) (kk : ST g C ws2 lv rest (pc + 1) k n) : ST g C ws lv (.long x :: .int i :: .ref a :: rest) pc k n := by
  obtain ⟨l, D, cI, cJ⟩ := g
  obtain ⟨p, e, R9, s, m, args, below, meth, c, A, nL9, Q⟩ := C
  obtain ⟨hx, hb, hml, rfl, rfl, hown, hts, hK, hA, hT, hZ, hst9, hlk⟩ := X
  intro H locs ls hP hD hS hl
  subst hws
  exact va_last hx hb hK hP hD hS q0 1 ha rfl hi hd (fun H1 locs1 hP1 hD1 hS1 => kk H1 locs1 ls hP1 hD1 hS1 hl)
end Rows9
end
section
theorem nb_bool {v : Int32} (h : v = 0 ∨ v = 1) : narrow .boolean (.int v) = .int v ∧ fits .boolean (.int v) = true := by
  rcases h with rfl | rfl <;> exact ⟨by decide +kernel, by decide +kernel⟩
section Rows10
variable {g : GX} {C : CX} {own : String} {cc : ByteArray} {nL : Nat} {R : Room} {ws : va_W} {lv : List (Nat × Value)} {rest : List Value} {pc k n : Nat} {S : Type} {wf : S → va_W} {ws0 : va_W} {sz mc ms : Nat}
theorem st_iret (X : OK g C own cc nL R) {post : Int32 → S → Prop} (hr : RT C (some .int) (va_A ws0 sz) (QI g ws0 wf post sz) mc ms) {v : Int32} (u : S) (hp : post v u) (hw : wf u = ws) (hk : k ≤ mc) (hn : n ≤ ms) (hd : decode cc pc = .ok (.ireturn, 1)) : ST g C ws lv [.int v] pc k n := by
  obtain ⟨l, D, cI, cJ⟩ := g
  obtain ⟨p, e, R9, s, m, args, below, meth, c, A, nL9, Q⟩ := C
  obtain ⟨hx, hb, hml, rfl, rfl, hown, hts, hK, hA, hT, hZ, hst9, hlk⟩ := X
  obtain ⟨hr1, rfl, rfl⟩ := hr
  subst hw
  intro H locs ls hP hD hS hl
  exact W.widen hk hn (W.iret hx hb hr1 (fun t ht hW => ⟨⟨v, u, rfl, hp, by rw [ht]; exact hP, va_K.moved hW.alike hK, hD⟩, hS.F ht⟩) hS.2.2 hd hlk)
theorem st_iretX (X : OK g C own cc nL R) {post : Int32 → S → Prop} {XC : String → State → State → Prop} (hr : RTX C (some .int) (va_A ws0 sz) (QI g ws0 wf post sz) XC mc ms) {v : Int32} (u : S) (hp : post v u) (hw : wf u = ws) (hk : k ≤ mc) (hn : n ≤ ms) (hd : decode cc pc = .ok (.ireturn, 1)) : ST g C ws lv [.int v] pc k n := by
  obtain ⟨l, D, cI, cJ⟩ := g
  obtain ⟨p, e, R9, s, m, args, below, meth, c, A, nL9, Q⟩ := C
  obtain ⟨hx, hb, hml, rfl, rfl, hown, hts, hK, hA, hT, hZ, hst9, hlk⟩ := X
  obtain ⟨hr1, rfl, rfl⟩ := hr
  subst hw
  intro H locs ls hP hD hS hl
  exact vx_ret (W.widen hk hn (W.iret hx hb hr1 (fun t ht hW => ⟨⟨v, u, rfl, hp, by rw [ht]; exact hP, va_K.moved hW.alike hK, hD⟩, hS.F ht⟩) hS.2.2 hd hlk))
theorem st_zret (X : OK g C own cc nL R) {post : Int32 → S → Prop} (hr : RT C (some .boolean) (va_A ws0 sz) (QI g ws0 wf post sz) mc ms) {v : Int32} (u : S) (hp : post v u) (hz : v = 0 ∨ v = 1) (hw : wf u = ws) (hk : k ≤ mc) (hn : n ≤ ms) (hd : decode cc pc = .ok (.ireturn, 1)) : ST g C ws lv [.int v] pc k n := by
  obtain ⟨l, D, cI, cJ⟩ := g
  obtain ⟨p, e, R9, s, m, args, below, meth, c, A, nL9, Q⟩ := C
  obtain ⟨hx, hb, hml, rfl, rfl, hown, hts, hK, hA, hT, hZ, hst9, hlk⟩ := X
  obtain ⟨hr1, rfl, rfl⟩ := hr
  subst hw
  intro H locs ls hP hD hS hl
  exact W.widen hk hn (W.zret hx hb hr1 (nb_bool hz).1 (fun t ht hW => ⟨⟨v, u, rfl, hp, by rw [ht]; exact hP, va_K.moved hW.alike hK, hD⟩, hS.F ht⟩) hS.2.2 hd hlk)
theorem st_zretX (X : OK g C own cc nL R) {post : Int32 → S → Prop} {XC : String → State → State → Prop} (hr : RTX C (some .boolean) (va_A ws0 sz) (QI g ws0 wf post sz) XC mc ms) {v : Int32} (u : S) (hp : post v u) (hz : v = 0 ∨ v = 1) (hw : wf u = ws) (hk : k ≤ mc) (hn : n ≤ ms) (hd : decode cc pc = .ok (.ireturn, 1)) : ST g C ws lv [.int v] pc k n := by
  obtain ⟨l, D, cI, cJ⟩ := g
  obtain ⟨p, e, R9, s, m, args, below, meth, c, A, nL9, Q⟩ := C
  obtain ⟨hx, hb, hml, rfl, rfl, hown, hts, hK, hA, hT, hZ, hst9, hlk⟩ := X
  obtain ⟨hr1, rfl, rfl⟩ := hr
  subst hw
  intro H locs ls hP hD hS hl
  exact vx_ret (W.widen hk hn (W.zret hx hb hr1 (nb_bool hz).1 (fun t ht hW => ⟨⟨v, u, rfl, hp, by rw [ht]; exact hP, va_K.moved hW.alike hK, hD⟩, hS.F ht⟩) hS.2.2 hd hlk))
theorem st_lret (X : OK g C own cc nL R) {post : Int64 → S → Prop} (hr : RT C (some .long) (va_A ws0 sz) (QL g ws0 wf post sz) mc ms) {v : Int64} (u : S) (hp : post v u) (hw : wf u = ws) (hk : k ≤ mc) (hn : n ≤ ms) (hd : decode cc pc = .ok (.lreturn, 1)) : ST g C ws lv [.long v] pc k n := by
  obtain ⟨l, D, cI, cJ⟩ := g
  obtain ⟨p, e, R9, s, m, args, below, meth, c, A, nL9, Q⟩ := C
  obtain ⟨hx, hb, hml, rfl, rfl, hown, hts, hK, hA, hT, hZ, hst9, hlk⟩ := X
  obtain ⟨hr1, rfl, rfl⟩ := hr
  subst hw
  intro H locs ls hP hD hS hl
  exact W.widen hk hn (W.lret hx hb hr1 (fun t ht hW => ⟨⟨v, u, rfl, hp, by rw [ht]; exact hP, va_K.moved hW.alike hK, hD⟩, hS.F ht⟩) hS.2.2 hd hlk)
theorem st_lretX (X : OK g C own cc nL R) {post : Int64 → S → Prop} {XC : String → State → State → Prop} (hr : RTX C (some .long) (va_A ws0 sz) (QL g ws0 wf post sz) XC mc ms) {v : Int64} (u : S) (hp : post v u) (hw : wf u = ws) (hk : k ≤ mc) (hn : n ≤ ms) (hd : decode cc pc = .ok (.lreturn, 1)) : ST g C ws lv [.long v] pc k n := by
  obtain ⟨l, D, cI, cJ⟩ := g
  obtain ⟨p, e, R9, s, m, args, below, meth, c, A, nL9, Q⟩ := C
  obtain ⟨hx, hb, hml, rfl, rfl, hown, hts, hK, hA, hT, hZ, hst9, hlk⟩ := X
  obtain ⟨hr1, rfl, rfl⟩ := hr
  subst hw
  intro H locs ls hP hD hS hl
  exact vx_ret (W.widen hk hn (W.lret hx hb hr1 (fun t ht hW => ⟨⟨v, u, rfl, hp, by rw [ht]; exact hP, va_K.moved hW.alike hK, hD⟩, hS.F ht⟩) hS.2.2 hd hlk))
theorem st_vret (X : OK g C own cc nL R) {post : S → Prop} (hr : RT C (none) (va_A ws0 sz) (QV g ws0 wf post sz) mc ms) (u : S) (hp : post u) (hw : wf u = ws) (hk : k ≤ mc) (hn : n ≤ ms) (hd : decode cc pc = .ok (.return_, 1)) : ST g C ws lv [] pc k n := by
  obtain ⟨l, D, cI, cJ⟩ := g
  obtain ⟨p, e, R9, s, m, args, below, meth, c, A, nL9, Q⟩ := C
  obtain ⟨hx, hb, hml, rfl, rfl, hown, hts, hK, hA, hT, hZ, hst9, hlk⟩ := X
  obtain ⟨hr1, rfl, rfl⟩ := hr
  subst hw
  intro H locs ls hP hD hS hl
  exact W.widen hk hn (W.vret hx hb hr1 (fun t ht hW => ⟨⟨u, rfl, hp, by rw [ht]; exact hP, va_K.moved hW.alike hK, hD⟩, hS.F ht⟩) hS.2.2 hd hlk)
theorem st_vretX (X : OK g C own cc nL R) {post : S → Prop} {XC : String → State → State → Prop} (hr : RTX C (none) (va_A ws0 sz) (QV g ws0 wf post sz) XC mc ms) (u : S) (hp : post u) (hw : wf u = ws) (hk : k ≤ mc) (hn : n ≤ ms) (hd : decode cc pc = .ok (.return_, 1)) : ST g C ws lv [] pc k n := by
  obtain ⟨l, D, cI, cJ⟩ := g
  obtain ⟨p, e, R9, s, m, args, below, meth, c, A, nL9, Q⟩ := C
  obtain ⟨hx, hb, hml, rfl, rfl, hown, hts, hK, hA, hT, hZ, hst9, hlk⟩ := X
  obtain ⟨hr1, rfl, rfl⟩ := hr
  subst hw
  intro H locs ls hP hD hS hl
  exact vx_ret (W.widen hk hn (W.vret hx hb hr1 (fun t ht hW => ⟨⟨u, rfl, hp, by rw [ht]; exact hP, va_K.moved hW.alike hK, hD⟩, hS.F ht⟩) hS.2.2 hd hlk))
theorem st_newaI (X : OK g C own cc nL R) {i : Int32} (N : Nat) (hi : ¬ i < 0) (hN : i.toNatClampNeg = N) (hB : N * 4 ≤ 536870912) (hc : k + 1 ≤ R.cells) (hs : n + N ≤ R.slots) (hd : decode cc pc = .ok (.newarray .int, 2)) (kk : ∀ q : Nat, ST g C (ws ++ [(q, .inl (g.2.2.1, N, .inl (fun _ => 0)))]) lv (.ref q :: rest) (pc + 2) (k + 1) (n + N)) : ST g C ws lv (.int i :: rest) pc k n := by
  obtain ⟨l, D, cI, cJ⟩ := g
  obtain ⟨p, e, R9, s, m, args, below, meth, c, A, nL9, Q⟩ := C
  obtain ⟨hx, hb, hml, rfl, rfl, hown, hts, hK, hA, hT, hZ, hst9, hlk⟩ := X
  intro H locs ls hP hD hS hl
  refine va_newa (atype := .int) hx hb (hts _ wa_int) rfl hK hP hD hS hA (a0 := (N, .inl (fun _ => 0))) (fun _ => rfl) hi hN hB hc hs hd (fun q cA H1 hK1 hP1 hD1 hS1 => ?_)
  have e1 := (hK1.2 2 _ rfl).2
  have e2 := (hK.2 0 _ rfl).2
  have e3 : cA = cI := Option.some.inj (e1.symm.trans e2)
  subst e3
  exact kk q H1 locs ls hP1 hD1 hS1 hl
theorem st_newaJ (X : OK g C own cc nL R) {i : Int32} (N : Nat) (hi : ¬ i < 0) (hN : i.toNatClampNeg = N) (hB : N * 8 ≤ 536870912) (hc : k + 1 ≤ R.cells) (hs : n + N ≤ R.slots) (hd : decode cc pc = .ok (.newarray .long, 2)) (kk : ∀ q : Nat, ST g C (ws ++ [(q, .inl (g.2.2.2, N, .inr (.inl (fun _ => 0))))]) lv (.ref q :: rest) (pc + 2) (k + 1) (n + N)) : ST g C ws lv (.int i :: rest) pc k n := by
  obtain ⟨l, D, cI, cJ⟩ := g
  obtain ⟨p, e, R9, s, m, args, below, meth, c, A, nL9, Q⟩ := C
  obtain ⟨hx, hb, hml, rfl, rfl, hown, hts, hK, hA, hT, hZ, hst9, hlk⟩ := X
  intro H locs ls hP hD hS hl
  refine va_newa (atype := .long) hx hb (hts _ wa_long) rfl hK hP hD hS hA (a0 := (N, .inr (.inl (fun _ => 0)))) (fun _ => rfl) hi hN hB hc hs hd (fun q cA H1 hK1 hP1 hD1 hS1 => ?_)
  have e1 := (hK1.2 2 _ rfl).2
  have e2 := (hK.2 1 _ rfl).2
  have e3 : cA = cJ := Option.some.inj (e1.symm.trans e2)
  subst e3
  exact kk q H1 locs ls hP1 hD1 hS1 hl
theorem st_new (X : OK g C own cc nL R) {Cn : String} {T : u_T} {N ci ix : Nat} {fs : List Value} (hin : ∀ w ∈ u_ws Cn T N, w ∈ WALL) (ty : Nat → FieldType) (hty : ∀ k, k < N → parseFieldDescriptor (T k).2.2.1 = some (ty k)) (hcl : Cond.classLink own ix Cn ∈ WALL) (hit : Cond.instantiable Cn N ∈ WALL) (hini : Cond.initialized Cn ∈ WALL) (hc0 : vwCl[ci]? = some (Cn, T, N)) (hfs : ∀ j, j < N → defaultValue (ty j) = vp_V fs j) (hc : k + 1 ≤ R.cells) (hs : n + N ≤ R.slots) (hd : decode cc pc = .ok (.new ix, 3)) (kk : ∀ q : Nat, ST g C (ws ++ [(q, .inr (ci, fs))]) lv (.ref q :: rest) (pc + 3) (k + 1) (n + N)) : ST g C ws lv rest pc k n := by
  obtain ⟨l, D, cI, cJ⟩ := g
  obtain ⟨p, e, R9, s, m, args, below, meth, c, A, nL9, Q⟩ := C
  obtain ⟨hx, hb, hml, rfl, rfl, hown, hts, hK, hA, hT, hZ, hst9, hlk⟩ := X
  intro H locs ls hP hD hS hl
  exact va_new hx hb hts hin ty hty hown (hts _ hcl) (hts _ hit) (hts _ hini) hK hP hD hS hA hc0 hfs hc hs hd (fun q H1 hP1 hD1 hS1 => kk q H1 locs ls hP1 hD1 hS1 hl)
theorem st_objInit (X : OK g C own cc nL R) {ix a : Nat} (hw : Cond.methodLink own ix objectInit ∈ WALL) (hf : 1 ≤ R.frames) (hlo : (rest.map fun v => v.category).sum + 12 ≤ R.locals) (hd : decode cc pc = .ok (.invokespecial ix, 3)) (kk : ST g C ws lv rest (pc + 3) k n) : ST g C ws lv (.ref a :: rest) pc k n := by
  obtain ⟨l, D, cI, cJ⟩ := g
  obtain ⟨p, e, R9, s, m, args, below, meth, c, A, nL9, Q⟩ := C
  obtain ⟨hx, hb, hml, rfl, rfl, hown, hts, hK, hA, hT, hZ, hst9, hlk⟩ := X
  intro H locs ls hP hD hS hl
  exact W.objInit hx hb hown (hts _ hw) (hts _ wi_objInit) (hts _ wc_objInit) rfl (by rw [hml]; exact hl.1) rfl hd hf (by show 2 * 0 + _ + 12 ≤ _; omega) (kk H locs ls hP hD hS hl)
theorem st_maxI (X : OK g C own cc nL R) {ix : Nat} {x y : Int32} (hw : Cond.methodLink own ix Lib.Math.max.name ∈ WALL) (hf : 1 ≤ R.frames) (hlo : (rest.map fun v => v.category).sum + 13 ≤ R.locals) (hc : k ≤ R.cells) (hs : n ≤ R.slots) (hd : decode cc pc = .ok (.invokestatic ix, 3)) (kk : ST g C ws lv (.int (if x < y then y else x) :: rest) (pc + 3) k n) : ST g C ws lv (.int y :: .int x :: rest) pc k n := by
  obtain ⟨l, D, cI, cJ⟩ := g
  obtain ⟨p, e, R9, s, m, args, below, meth, c, A, nL9, Q⟩ := C
  obtain ⟨hx, hb, hml, rfl, rfl, hown, hts, hK, hA, hT, hZ, hst9, hlk⟩ := X
  intro H locs ls hP hD hS hl
  exact va_mmax hx hb (by rw [hml]; exact hl.1.symm) hown (hts _ hw) (hts _ ws_maxI) (hts _ wz_Math) (hts _ wc_maxI) hf hlo hc hs hd (kk H locs ls hP hD hS hl)
theorem st_maxJ (X : OK g C own cc nL R) {ix : Nat} {x y : Int64} (hw : Cond.methodLink own ix Lib.MathLoose.max_long.x ∈ WALL) (hf : 1 ≤ R.frames) (hlo : (rest.map fun v => v.category).sum + 15 ≤ R.locals) (hc : k ≤ R.cells) (hs : n ≤ R.slots) (hd : decode cc pc = .ok (.invokestatic ix, 3)) (kk : ST g C ws lv (.long (if y < x then x else y) :: rest) (pc + 3) k n) : ST g C ws lv (.long y :: .long x :: rest) pc k n := by
  obtain ⟨l, D, cI, cJ⟩ := g
  obtain ⟨p, e, R9, s, m, args, below, meth, c, A, nL9, Q⟩ := C
  obtain ⟨hx, hb, hml, rfl, rfl, hown, hts, hK, hA, hT, hZ, hst9, hlk⟩ := X
  intro H locs ls hP hD hS hl
  exact va_mmax_long hx hb (by rw [hml]; exact hl.1.symm) hown (hts _ hw) (hts _ ws_maxJ) (hts _ wz_Math) (hts _ wc_maxJ) hf hlo hc hs hd (kk H locs ls hP hD hS hl)
def RN (g : GX) (C : CX) (wc : va_W) (pc : Nat) (st0 rest : List Value) (k n mc ms : Nat) (Qa : Nat → State → Outcome → State → Prop) : Prop := match g, C with
  | (l, D, _, _), (p, e, R, s, m, args, below, meth, c, _, nL, _) => ∀ (H : Heap) (locs : List Loc) (ls : Array Slot), va_P D vwCl wc H → va_D (fun _ => True) wc → ZZ (va_A wc H.size) s H → ls.size = nL → va_Run p l e R s m args below meth c H locs k n mc ms (F0 m pc ls st0) rest (Qa H.size) (va_A wc H.size)
def RNX (g : GX) (C : CX) (wc : va_W) (pc : Nat) (st0 rest : List Value) (k n mc ms : Nat) (Qa : Nat → State → Outcome → State → Prop) (XC : Nat → String → State → State → Prop) : Prop := match g, C with
  | (l, D, _, _), (p, e, R, s, m, args, below, meth, c, _, nL, _) => ∀ (H : Heap) (locs : List Loc) (ls : Array Slot), va_P D vwCl wc H → va_D (fun _ => True) wc → ZZ (va_A wc H.size) s H → ls.size = nL → vx_Run p l e R s m args below meth c H locs k n mc ms (F0 m pc ls st0) rest (Qa H.size) (XC H.size) (va_A wc H.size)
theorem pre_at {g : GX} {s : State} {H : Heap} {as : List Value} {wc : va_W} (hP : va_P g.2.1 vwCl wc H) (hK : va_K g.2.1 vwCl [(g.2.2.1, .int), (g.2.2.2, .long)] s) (hD : va_D (fun _ => True) wc) (hT : TBL s) (hZ : ZZ (va_A wc H.size) s H) : ∀ U : State, U.heap = H → s.WarmedH U.vm → PRE g as wc H.size as.toArray U := by
  obtain ⟨l, D, cI, cJ⟩ := g
  intro U hU hW
  exact ⟨rfl, by rw [hU], by rw [hU]; exact hP, va_K.moved hW.alike hK, hD, TBL.warm hW hT, by rw [hU]; exact ZZ.moved hW.alike hZ⟩
theorem cb_of {R : Room} {s : State} {args : Array Value} {own : String} {ix : Nat} {y : MethodName} {bytes : ByteArray} {maxL : Nat} {ret : Option FieldType} {rm : Room} {N : Nat} (hts : ∀ w ∈ WALL, w.before args s = true) (hlink : Cond.methodLink own ix y ∈ WALL) (hin : Cond.initialized y.cls ∈ WALL) (hcode : Cond.code y bytes maxL ret ∈ WALL)
    (hd : y.cls ≠ "java/lang/invoke/MethodHandle" ∧ y.cls ≠ "java/lang/invoke/VarHandle" ∧ (parseMethodDescriptor y.desc).map (fun d => d.parameters.length) = some N) (hR : rm.frames + 1 ≤ R.frames ∧ 8 + (maxL + 11) + rm.locals ≤ R.locals) : CallB R s args own ix y bytes maxL ret (.code y bytes maxL ret :: WALL) rm rm.cells rm.slots N :=
  ⟨rfl, rfl, hR.1, hR.2, wall_pay hcode hts, List.mem_cons_self, hts _ hcode, hts _ hin, ⟨hd.1, hd.2.1⟩, fun sig h => by have h2 := hd.2.2; rw [h] at h2; exact (Option.some.inj h2).symm, hts _ hlink⟩
theorem cn_of {R : Room} {s : State} {args : Array Value} {own host : String} {ix : Nat} {y : MethodName} {bytes : ByteArray} {maxL : Nat} {ret : Option FieldType} {rm : Room} {N : Nat} (hts : ∀ w ∈ WALL, w.before args s = true) (hT : TBL s) (hlink : Cond.methodLinkNest own ix y host ∈ NALL) (hin : Cond.initialized y.cls ∈ WALL) (hcode : Cond.code y bytes maxL ret ∈ WALL)
    (hd : y.cls ≠ "java/lang/invoke/MethodHandle" ∧ y.cls ≠ "java/lang/invoke/VarHandle" ∧ (parseMethodDescriptor y.desc).map (fun d => d.parameters.length) = some N) (hR : rm.frames + 1 ≤ R.frames ∧ 8 + (maxL + 11) + rm.locals ≤ R.locals) : va_CN R s args own ix y host bytes maxL ret (.code y bytes maxL ret :: WALL) rm rm.cells rm.slots N :=
  ⟨⟨rfl, rfl, hR.1, hR.2, wall_pay hcode hts, List.mem_cons_self⟩, hts _ hcode, hts _ hin, ⟨hd.1, hd.2.1⟩, fun sig h => by have h2 := hd.2.2; rw [h] at h2; exact (Option.some.inj h2).symm, va_Nw.use rfl (hT.1 _ hlink)⟩
theorem rn_S (X : OK g C own cc nL R) {y : MethodName} {bytes : ByteArray} {maxL ix : Nat} {ret : Option FieldType} {rm : Room} {As : List Value} {wc : va_W} {Qk : Nat → Array Value → State → Outcome → State → Prop} (hM : CT g y bytes maxL ret rm As wc Qk) (hlink : Cond.methodLink own ix y ∈ WALL) (hst : Cond.static y ∈ WALL) (hin : Cond.initialized y.cls ∈ WALL) (hcode : Cond.code y bytes maxL ret ∈ WALL) (hd9 : y.cls ≠ "java/lang/invoke/MethodHandle" ∧ y.cls ≠ "java/lang/invoke/VarHandle" ∧ (parseMethodDescriptor y.desc).map (fun d => d.parameters.length) = some As.length) (hR : rm.frames + 1 ≤ R.frames ∧ 8 + (maxL + 11) + rm.locals ≤ R.locals) (hrest : (rest.map fun v => v.category).sum ≤ 8) (hf : k + rm.cells ≤ R.cells ∧ n + rm.slots ≤ R.slots) (hd : decode cc pc = .ok (.invokestatic ix, 3)) : RN g C wc pc (As.reverse ++ rest) rest k n rm.cells rm.slots (fun sz => Qk sz As.toArray) := by
  obtain ⟨l, D, cI, cJ⟩ := g
  obtain ⟨p, e, R9, s, m, args, below, meth, c, A, nL9, Q⟩ := C
  obtain ⟨hx, hb, hml, rfl, rfl, hown, hts, hK, hA, hT, hZ, hst9, hlk⟩ := X
  intro H locs ls hPc hDc hZc hl
  exact va_runS ⟨hx, hb, hml, hown, hts⟩ (hM H.size) ⟨cb_of hts hlink hin hcode hd9 hR, hts _ hst⟩ ⟨PRE.blind _ _ _ _, pre_at (g := (l, D, cI, cJ)) hPc hK hDc hT hZc⟩ rfl rfl hl rfl (lv_room hrest) hd hf
theorem rn_V (X : OK g C own cc nL R) {y : MethodName} {bytes : ByteArray} {maxL ix : Nat} {ret : Option FieldType} {rm : Room} {As : List Value} {wc : va_W} {Qk : Nat → Array Value → State → Outcome → State → Prop} {b q0 ci : Nat} {T : u_T} {N : Nat} {fs : List Value} (hM : CT g y bytes maxL ret rm (.ref b :: As) wc Qk) (he : wc[q0]? = some (b, .inr (ci, fs))) (hc0 : vwCl[ci]? = some (y.cls, T, N)) (hlink : Cond.methodLink own ix y ∈ WALL) (hst : Cond.instanceMethod y ∈ WALL) (hsel : Cond.selects y.cls y y ∈ WALL) (hin : Cond.initialized y.cls ∈ WALL) (hcode : Cond.code y bytes maxL ret ∈ WALL) (hd9 : y.cls ≠ "java/lang/invoke/MethodHandle" ∧ y.cls ≠ "java/lang/invoke/VarHandle" ∧ (parseMethodDescriptor y.desc).map (fun d => d.parameters.length) = some As.length) (hR : rm.frames + 1 ≤ R.frames ∧ 8 + (maxL + 11) + rm.locals ≤ R.locals) (hrest : (rest.map fun v => v.category).sum ≤ 8) (hf : k + rm.cells ≤ R.cells ∧ n + rm.slots ≤ R.slots) (hd : decode cc pc = .ok (.invokevirtual ix, 3)) : RN g C wc pc (As.reverse ++ .ref b :: rest) rest k n rm.cells rm.slots (fun sz => Qk sz (Value.ref b :: As).toArray) := by
  obtain ⟨l, D, cI, cJ⟩ := g
  obtain ⟨p, e, R9, s, m, args, below, meth, c, A, nL9, Q⟩ := C
  obtain ⟨hx, hb, hml, rfl, rfl, hown, hts, hK, hA, hT, hZ, hst9, hlk⟩ := X
  intro H locs ls hPc hDc hZc hl
  exact va_runV ⟨hx, hb, hml, hown, hts⟩ (hM H.size) ⟨cb_of hts hlink hin hcode hd9 hR, hts _ hst, hts _ hsel⟩ ⟨PRE.blind _ _ _ _, va_recv hK hPc hc0 he, pre_at (g := (l, D, cI, cJ)) hPc hK hDc hT hZc⟩ rfl rfl hl rfl (lv_room hrest) hd hf
theorem rn_VN (X : OK g C own cc nL R) {y : MethodName} {bytes : ByteArray} {maxL ix : Nat} {ret : Option FieldType} {rm : Room} {As : List Value} {wc : va_W} {Qk : Nat → Array Value → State → Outcome → State → Prop} {host : String} {b q0 ci : Nat} {T : u_T} {N : Nat} {fs : List Value} (hM : CT g y bytes maxL ret rm (.ref b :: As) wc Qk) (he : wc[q0]? = some (b, .inr (ci, fs))) (hc0 : vwCl[ci]? = some (y.cls, T, N)) (hlink : Cond.methodLinkNest own ix y host ∈ NALL) (hst : Cond.instanceMethod y ∈ WALL) (hsel : Cond.selects y.cls y y ∈ WALL) (hin : Cond.initialized y.cls ∈ WALL) (hcode : Cond.code y bytes maxL ret ∈ WALL) (hd9 : y.cls ≠ "java/lang/invoke/MethodHandle" ∧ y.cls ≠ "java/lang/invoke/VarHandle" ∧ (parseMethodDescriptor y.desc).map (fun d => d.parameters.length) = some As.length) (hR : rm.frames + 1 ≤ R.frames ∧ 8 + (maxL + 11) + rm.locals ≤ R.locals) (hrest : (rest.map fun v => v.category).sum ≤ 8) (hf : k + rm.cells ≤ R.cells ∧ n + rm.slots ≤ R.slots) (hd : decode cc pc = .ok (.invokevirtual ix, 3)) : RN g C wc pc (As.reverse ++ .ref b :: rest) rest k n rm.cells rm.slots (fun sz => Qk sz (Value.ref b :: As).toArray) := by
  obtain ⟨l, D, cI, cJ⟩ := g
  obtain ⟨p, e, R9, s, m, args, below, meth, c, A, nL9, Q⟩ := C
  obtain ⟨hx, hb, hml, rfl, rfl, hown, hts, hK, hA, hT, hZ, hst9, hlk⟩ := X
  intro H locs ls hPc hDc hZc hl
  exact va_runVN ⟨hx, hb, hml, hown, hts⟩ (hM H.size) ⟨cn_of hts hT hlink hin hcode hd9 hR, hts _ hst, hts _ hsel⟩ ⟨PRE.blind _ _ _ _, va_recv hK hPc hc0 he, pre_at (g := (l, D, cI, cJ)) hPc hK hDc hT hZc⟩ rfl rfl hl rfl (lv_room hrest) hd hf
theorem rn_SN (X : OK g C own cc nL R) {y : MethodName} {bytes : ByteArray} {maxL ix : Nat} {ret : Option FieldType} {rm : Room} {As : List Value} {wc : va_W} {Qk : Nat → Array Value → State → Outcome → State → Prop} {host : String} (hM : CT g y bytes maxL ret rm As wc Qk) (hlink : Cond.methodLinkNest own ix y host ∈ NALL) (hst : Cond.static y ∈ WALL) (hin : Cond.initialized y.cls ∈ WALL) (hcode : Cond.code y bytes maxL ret ∈ WALL) (hd9 : y.cls ≠ "java/lang/invoke/MethodHandle" ∧ y.cls ≠ "java/lang/invoke/VarHandle" ∧ (parseMethodDescriptor y.desc).map (fun d => d.parameters.length) = some As.length) (hR : rm.frames + 1 ≤ R.frames ∧ 8 + (maxL + 11) + rm.locals ≤ R.locals) (hrest : (rest.map fun v => v.category).sum ≤ 8) (hf : k + rm.cells ≤ R.cells ∧ n + rm.slots ≤ R.slots) (hd : decode cc pc = .ok (.invokestatic ix, 3)) : RN g C wc pc (As.reverse ++ rest) rest k n rm.cells rm.slots (fun sz => Qk sz As.toArray) := by
  obtain ⟨l, D, cI, cJ⟩ := g
  obtain ⟨p, e, R9, s, m, args, below, meth, c, A, nL9, Q⟩ := C
  obtain ⟨hx, hb, hml, rfl, rfl, hown, hts, hK, hA, hT, hZ, hst9, hlk⟩ := X
  intro H locs ls hPc hDc hZc hl
  exact va_runSN ⟨hx, hb, hml, hown, hts⟩ (hM H.size) ⟨cn_of hts hT hlink hin hcode hd9 hR, hts _ hst, trivial⟩ ⟨PRE.blind _ _ _ _, pre_at (g := (l, D, cI, cJ)) hPc hK hDc hT hZc⟩ rfl rfl hl rfl (lv_room hrest) hd hf
theorem rn_I (X : OK g C own cc nL R) {y : MethodName} {bytes : ByteArray} {maxL ix : Nat} {ret : Option FieldType} {rm : Room} {As : List Value} {wc : va_W} {Qk : Nat → Array Value → State → Outcome → State → Prop} {b : Nat} (hM : CT g y bytes maxL none rm (.ref b :: As) wc Qk) (hlink : Cond.methodLink own ix y ∈ WALL) (hyi : y.name = "<init>") (hst : Cond.instanceMethod y ∈ WALL) (hin : Cond.initialized y.cls ∈ WALL) (hcode : Cond.code y bytes maxL none ∈ WALL) (hd9 : y.cls ≠ "java/lang/invoke/MethodHandle" ∧ y.cls ≠ "java/lang/invoke/VarHandle" ∧ (parseMethodDescriptor y.desc).map (fun d => d.parameters.length) = some As.length) (hR : rm.frames + 1 ≤ R.frames ∧ 8 + (maxL + 11) + rm.locals ≤ R.locals) (hrest : (rest.map fun v => v.category).sum ≤ 8) (hf : k + rm.cells ≤ R.cells ∧ n + rm.slots ≤ R.slots) (hd : decode cc pc = .ok (.invokespecial ix, 3)) : RN g C wc pc (As.reverse ++ .ref b :: rest) rest k n rm.cells rm.slots (fun sz => Qk sz (Value.ref b :: As).toArray) := by
  obtain ⟨l, D, cI, cJ⟩ := g
  obtain ⟨p, e, R9, s, m, args, below, meth, c, A, nL9, Q⟩ := C
  obtain ⟨hx, hb, hml, rfl, rfl, hown, hts, hK, hA, hT, hZ, hst9, hlk⟩ := X
  intro H locs ls hPc hDc hZc hl
  exact va_runI ⟨hx, hb, hml, hown, hts⟩ (hM H.size) ⟨cb_of hts hlink hin hcode hd9 hR, hyi, hts _ hst⟩ ⟨PRE.blind _ _ _ _, pre_at (g := (l, D, cI, cJ)) hPc hK hDc hT hZc⟩ rfl rfl hl rfl (lv_room hrest) hd hf
theorem rn_IN (X : OK g C own cc nL R) {y : MethodName} {bytes : ByteArray} {maxL ix : Nat} {ret : Option FieldType} {rm : Room} {As : List Value} {wc : va_W} {Qk : Nat → Array Value → State → Outcome → State → Prop} {host : String} {b : Nat} (hM : CT g y bytes maxL none rm (.ref b :: As) wc Qk) (hlink : Cond.methodLinkNest own ix y host ∈ NALL) (hyi : y.name = "<init>") (hst : Cond.instanceMethod y ∈ WALL) (hin : Cond.initialized y.cls ∈ WALL) (hcode : Cond.code y bytes maxL none ∈ WALL) (hd9 : y.cls ≠ "java/lang/invoke/MethodHandle" ∧ y.cls ≠ "java/lang/invoke/VarHandle" ∧ (parseMethodDescriptor y.desc).map (fun d => d.parameters.length) = some As.length) (hR : rm.frames + 1 ≤ R.frames ∧ 8 + (maxL + 11) + rm.locals ≤ R.locals) (hrest : (rest.map fun v => v.category).sum ≤ 8) (hf : k + rm.cells ≤ R.cells ∧ n + rm.slots ≤ R.slots) (hd : decode cc pc = .ok (.invokespecial ix, 3)) : RN g C wc pc (As.reverse ++ .ref b :: rest) rest k n rm.cells rm.slots (fun sz => Qk sz (Value.ref b :: As).toArray) := by
  obtain ⟨l, D, cI, cJ⟩ := g
  obtain ⟨p, e, R9, s, m, args, below, meth, c, A, nL9, Q⟩ := C
  obtain ⟨hx, hb, hml, rfl, rfl, hown, hts, hK, hA, hT, hZ, hst9, hlk⟩ := X
  intro H locs ls hPc hDc hZc hl
  exact va_runIN ⟨hx, hb, hml, hown, hts⟩ (hM H.size) ⟨cn_of hts hT hlink hin hcode hd9 hR, hyi, hts _ hst⟩ ⟨PRE.blind _ _ _ _, pre_at (g := (l, D, cI, cJ)) hPc hK hDc hT hZc⟩ rfl rfl hl rfl (lv_room hrest) hd hf
theorem rn_SW (X : OK g C own cc nL R) {y : MethodName} {bytes : ByteArray} {maxL ix : Nat} {ret : Option FieldType} {rm : Room} {As : List Value} {wc : va_W} {Qk : Nat → Array Value → State → Outcome → State → Prop} {hh : List (Nat × Nat × Nat × Nat)} (hM : CTW g y bytes maxL ret hh rm As wc Qk) (hlink : Cond.methodLink own ix y ∈ WALL) (hst : Cond.static y ∈ WALL) (hin : Cond.initialized y.cls ∈ WALL) (hcode : Cond.codeWith y bytes maxL ret hh ∈ WALL) (hd9 : y.cls ≠ "java/lang/invoke/MethodHandle" ∧ y.cls ≠ "java/lang/invoke/VarHandle" ∧ (parseMethodDescriptor y.desc).map (fun d => d.parameters.length) = some As.length) (hR : rm.frames + 1 ≤ R.frames ∧ 8 + (maxL + 11) + rm.locals ≤ R.locals) (hrest : (rest.map fun v => v.category).sum ≤ 8) (hf : k + rm.cells ≤ R.cells ∧ n + rm.slots ≤ R.slots) (hd : decode cc pc = .ok (.invokestatic ix, 3)) : RN g C wc pc (As.reverse ++ rest) rest k n rm.cells rm.slots (fun sz => Qk sz As.toArray) := by
  obtain ⟨l, D, cI, cJ⟩ := g
  obtain ⟨p, e, R9, s, m, args, below, meth, c, A, nL9, Q⟩ := C
  obtain ⟨hx, hb, hml, rfl, rfl, hown, hts, hK, hA, hT, hZ, hst9, hlk⟩ := X
  intro H locs ls hPc hDc hZc hl
  exact vx_runSW ⟨hx, hb, hml, hown, hts⟩ (hM H.size) ⟨⟨rfl, rfl, hR.1, hR.2, wall_pay hcode hts, List.mem_cons_self⟩, hts _ hcode, hts _ hin, ⟨hd9.1, hd9.2.1⟩, fun sig h => by have h2 := hd9.2.2; rw [h] at h2; exact (Option.some.inj h2).symm, hts _ hlink, hts _ hst⟩ ⟨PRE.blind _ _ _ _, pre_at (g := (l, D, cI, cJ)) hPc hK hDc hT hZc⟩ rfl rfl hl rfl (lv_room hrest) hd hf
theorem rn_SX (X : OK g C own cc nL R) {y : MethodName} {bytes : ByteArray} {maxL ix : Nat} {ret : Option FieldType} {rm : Room} {As : List Value} {wc : va_W} {Qk : Nat → Array Value → State → Outcome → State → Prop} {XC : Nat → String → State → State → Prop} (hM : CTX g y bytes maxL ret rm As wc Qk XC) (hlink : Cond.methodLink own ix y ∈ WALL) (hst : Cond.static y ∈ WALL) (hin : Cond.initialized y.cls ∈ WALL) (hcode : Cond.code y bytes maxL ret ∈ WALL) (hd9 : y.cls ≠ "java/lang/invoke/MethodHandle" ∧ y.cls ≠ "java/lang/invoke/VarHandle" ∧ (parseMethodDescriptor y.desc).map (fun d => d.parameters.length) = some As.length) (hR : rm.frames + 1 ≤ R.frames ∧ 8 + (maxL + 11) + rm.locals ≤ R.locals) (hrest : (rest.map fun v => v.category).sum ≤ 8) (hf : k + rm.cells ≤ R.cells ∧ n + rm.slots ≤ R.slots) (hd : decode cc pc = .ok (.invokestatic ix, 3)) : RNX g C wc pc (As.reverse ++ rest) rest k n rm.cells rm.slots (fun sz => Qk sz As.toArray) XC := by
  obtain ⟨l, D, cI, cJ⟩ := g
  obtain ⟨p, e, R9, s, m, args, below, meth, c, A, nL9, Q⟩ := C
  obtain ⟨hx, hb, hml, rfl, rfl, hown, hts, hK, hA, hT, hZ, hst9, hlk⟩ := X
  intro H locs ls hPc hDc hZc hl
  exact vx_runS ⟨hx, hb, hml, hown, hts⟩ (hM H.size) ⟨cb_of hts hlink hin hcode hd9 hR, hts _ hst⟩ ⟨PRE.blind _ _ _ _, pre_at (g := (l, D, cI, cJ)) hPc hK hDc hT hZc⟩ rfl rfl hl rfl (lv_room hrest) hd hf
theorem rn_VX (X : OK g C own cc nL R) {y : MethodName} {bytes : ByteArray} {maxL ix : Nat} {ret : Option FieldType} {rm : Room} {As : List Value} {wc : va_W} {Qk : Nat → Array Value → State → Outcome → State → Prop} {XC : Nat → String → State → State → Prop} {b q0 ci : Nat} {T : u_T} {N : Nat} {fs : List Value} (hM : CTX g y bytes maxL ret rm (.ref b :: As) wc Qk XC) (he : wc[q0]? = some (b, .inr (ci, fs))) (hc0 : vwCl[ci]? = some (y.cls, T, N)) (hlink : Cond.methodLink own ix y ∈ WALL) (hst : Cond.instanceMethod y ∈ WALL) (hsel : Cond.selects y.cls y y ∈ WALL) (hin : Cond.initialized y.cls ∈ WALL) (hcode : Cond.code y bytes maxL ret ∈ WALL) (hd9 : y.cls ≠ "java/lang/invoke/MethodHandle" ∧ y.cls ≠ "java/lang/invoke/VarHandle" ∧ (parseMethodDescriptor y.desc).map (fun d => d.parameters.length) = some As.length) (hR : rm.frames + 1 ≤ R.frames ∧ 8 + (maxL + 11) + rm.locals ≤ R.locals) (hrest : (rest.map fun v => v.category).sum ≤ 8) (hf : k + rm.cells ≤ R.cells ∧ n + rm.slots ≤ R.slots) (hd : decode cc pc = .ok (.invokevirtual ix, 3)) : RNX g C wc pc (As.reverse ++ .ref b :: rest) rest k n rm.cells rm.slots (fun sz => Qk sz (Value.ref b :: As).toArray) XC := by
  obtain ⟨l, D, cI, cJ⟩ := g
  obtain ⟨p, e, R9, s, m, args, below, meth, c, A, nL9, Q⟩ := C
  obtain ⟨hx, hb, hml, rfl, rfl, hown, hts, hK, hA, hT, hZ, hst9, hlk⟩ := X
  intro H locs ls hPc hDc hZc hl
  exact vx_runV ⟨hx, hb, hml, hown, hts⟩ (hM H.size) ⟨cb_of hts hlink hin hcode hd9 hR, hts _ hst, hts _ hsel⟩ ⟨PRE.blind _ _ _ _, va_recv hK hPc hc0 he, pre_at (g := (l, D, cI, cJ)) hPc hK hDc hT hZc⟩ rfl rfl hl rfl (lv_room hrest) hd hf
theorem st_calli (X : OK g C own cc nL R) {wc : va_W} {post : Int32 → S → Prop} {st0 : List Value} {a : Array Value} (hr : RN g C wc pc st0 rest k n mc ms (fun sz => QI g wc wf post sz a)) (isC isR : List Nat) {wr : va_W} (hC : isC.map (fun i => ws[i]?) = wc.map some) (hR : isR.map (fun i => ws[i]?) = wr.map some) (hnC : va_nd isC = true) (hnR : va_nd isR = true) (hdis : ∀ i ∈ isR, i ∉ isC) (kk : ∀ (r : Int32) (u : S), post r u → ST g C (wr ++ wf u) lv (.int r :: rest) (pc + 3) (k + mc) (n + ms)) : ST g C ws lv st0 pc k n := by
  obtain ⟨l, D, cI, cJ⟩ := g
  obtain ⟨p, e, R9, s, m, args, below, meth, c, A, nL9, Q⟩ := C
  obtain ⟨hx, hb, hml, rfl, rfl, hown, hts, hK, hA, hT, hZ, hst9, hlk⟩ := X
  intro H locs ls hP hD hS hl
  have hFc := va_free (wc := wc) hD hS hA isC hC
  have hPc := hP.subm hC
  have hDc : va_D (fun _ => True) wc := (hD.sub isC hnC hC).weaken (fun _ _ _ _ => trivial)
  have hZc : ZZ (va_A wc H.size) s H := (hZ.kept hS.2.1).narrow hFc
  refine va_calli (hr H locs ls hPc hDc hZc hl.1) hS (fun q _ h => hFc q h) hFc (fun r u t H1 locs1 ht hvm hw hB hz1 hk1 hS1 => ?_)
  obtain ⟨hP1, -, hD1⟩ := hB
  rw [ht] at hP1
  obtain ⟨hP2, hD2⟩ := va_join hP hD isC isR hC hR hnR hdis hk1 hFc hP1 hD1
  exact kk r u hw H1 locs1 ls hP2 hD2 hS1 hl
theorem st_calll (X : OK g C own cc nL R) {wc : va_W} {post : Int64 → S → Prop} {st0 : List Value} {a : Array Value} (hr : RN g C wc pc st0 rest k n mc ms (fun sz => QL g wc wf post sz a)) (isC isR : List Nat) {wr : va_W} (hC : isC.map (fun i => ws[i]?) = wc.map some) (hR : isR.map (fun i => ws[i]?) = wr.map some) (hnC : va_nd isC = true) (hnR : va_nd isR = true) (hdis : ∀ i ∈ isR, i ∉ isC) (kk : ∀ (r : Int64) (u : S), post r u → ST g C (wr ++ wf u) lv (.long r :: rest) (pc + 3) (k + mc) (n + ms)) : ST g C ws lv st0 pc k n := by
  obtain ⟨l, D, cI, cJ⟩ := g
  obtain ⟨p, e, R9, s, m, args, below, meth, c, A, nL9, Q⟩ := C
  obtain ⟨hx, hb, hml, rfl, rfl, hown, hts, hK, hA, hT, hZ, hst9, hlk⟩ := X
  intro H locs ls hP hD hS hl
  have hFc := va_free (wc := wc) hD hS hA isC hC
  have hPc := hP.subm hC
  have hDc : va_D (fun _ => True) wc := (hD.sub isC hnC hC).weaken (fun _ _ _ _ => trivial)
  have hZc : ZZ (va_A wc H.size) s H := (hZ.kept hS.2.1).narrow hFc
  refine va_calll (hr H locs ls hPc hDc hZc hl.1) hS (fun q _ h => hFc q h) hFc (fun r u t H1 locs1 ht hvm hw hB hz1 hk1 hS1 => ?_)
  obtain ⟨hP1, -, hD1⟩ := hB
  rw [ht] at hP1
  obtain ⟨hP2, hD2⟩ := va_join hP hD isC isR hC hR hnR hdis hk1 hFc hP1 hD1
  exact kk r u hw H1 locs1 ls hP2 hD2 hS1 hl
theorem st_callv (X : OK g C own cc nL R) {wc : va_W} {post : S → Prop} {st0 : List Value} {a : Array Value} (hr : RN g C wc pc st0 rest k n mc ms (fun sz => QV g wc wf post sz a)) (isC isR : List Nat) {wr : va_W} (hC : isC.map (fun i => ws[i]?) = wc.map some) (hR : isR.map (fun i => ws[i]?) = wr.map some) (hnC : va_nd isC = true) (hnR : va_nd isR = true) (hdis : ∀ i ∈ isR, i ∉ isC) (kk : ∀ (u : S), post u → ST g C (wr ++ wf u) lv (rest) (pc + 3) (k + mc) (n + ms)) : ST g C ws lv st0 pc k n := by
  obtain ⟨l, D, cI, cJ⟩ := g
  obtain ⟨p, e, R9, s, m, args, below, meth, c, A, nL9, Q⟩ := C
  obtain ⟨hx, hb, hml, rfl, rfl, hown, hts, hK, hA, hT, hZ, hst9, hlk⟩ := X
  intro H locs ls hP hD hS hl
  have hFc := va_free (wc := wc) hD hS hA isC hC
  have hPc := hP.subm hC
  have hDc : va_D (fun _ => True) wc := (hD.sub isC hnC hC).weaken (fun _ _ _ _ => trivial)
  have hZc : ZZ (va_A wc H.size) s H := (hZ.kept hS.2.1).narrow hFc
  refine va_callv (hr H locs ls hPc hDc hZc hl.1) hS (fun q _ h => hFc q h) hFc (fun u t H1 locs1 ht hvm hw hB hz1 hk1 hS1 => ?_)
  obtain ⟨hP1, -, hD1⟩ := hB
  rw [ht] at hP1
  obtain ⟨hP2, hD2⟩ := va_join hP hD isC isR hC hR hnR hdis hk1 hFc hP1 hD1
  exact kk u hw H1 locs1 ls hP2 hD2 hS1 hl
/-- an exception of class E is over the frame at pc -/
def STX (g : GX) (C : CX) (ws : va_W) (lv : List (Nat × Value)) (rest : List Value) (pc k n : Nat) (E : String) : Prop := match g, C with
  | (l, D, _, _), (p, e, R, s, m, args, below, meth, c, A, nL, Q) => ∀ (H : Heap) (locs : List Loc) (ls : Array Slot) (q : Addr) (ce : Cell), va_P D vwCl ws H → va_D A ws → va_S A s.heap H locs → lv_has ls nL lv → H[q]? = some ce → ce.vm = .none → s.vm.findClass E = some ce.cls → vx_W p l e R s m args below meth c H locs k n Q (F0 m pc ls rest) q
theorem st_xcalli (X : OK g C own cc nL R) {wc : va_W} {post : Int32 → S → Prop} {SX : Type} {wfx : SX → va_W} {px : String → SX → Prop} {st0 : List Value} {a : Array Value} (hr : RNX g C wc pc st0 rest k n mc ms (fun sz => QI g wc wf post sz a) (fun sz => QX g wc wfx px sz)) (isC isR : List Nat) {wr : va_W} (hC : isC.map (fun i => ws[i]?) = wc.map some) (hR : isR.map (fun i => ws[i]?) = wr.map some) (hnC : va_nd isC = true) (hnR : va_nd isR = true) (hdis : ∀ i ∈ isR, i ∉ isC) (kx : ∀ (E : String) (u : SX), px E u → STX g C (wr ++ wfx u) lv rest pc (k + mc) (n + ms) E) (kk : ∀ (r : Int32) (u : S), post r u → ST g C (wr ++ wf u) lv (.int r :: rest) (pc + 3) (k + mc) (n + ms)) : ST g C ws lv st0 pc k n := by
  obtain ⟨l, D, cI, cJ⟩ := g
  obtain ⟨p, e, R9, s, m, args, below, meth, c, A, nL9, Q⟩ := C
  obtain ⟨hx, hb, hml, rfl, rfl, hown, hts, hK, hA, hT, hZ, hst9, hlk⟩ := X
  intro H locs ls hP hD hS hl
  have hFc := va_free (wc := wc) hD hS hA isC hC
  have hPc := hP.subm hC
  have hDc : va_D (fun _ => True) wc := (hD.sub isC hnC hC).weaken (fun _ _ _ _ => trivial)
  have hZc : ZZ (va_A wc H.size) s H := (hZ.kept hS.2.1).narrow hFc
  refine vx_calli (hr H locs ls hPc hDc hZc hl.1) hS (fun q _ h => hFc q h) hFc (fun q _ h => hFc q h) (fun E ce q9 u t H1 locs1 ht hvm _ hB hz1 hk1 hS1 hce hcv hcl => ?_) (fun r u t H1 locs1 ht hvm hw hB hz1 hk1 hS1 => ?_)
  · obtain ⟨hpx, hP1, -, hD1⟩ := hB
    rw [ht] at hP1
    obtain ⟨hP2, hD2⟩ := va_join hP hD isC isR hC hR hnR hdis hk1 hFc hP1 hD1
    exact kx E u hpx H1 locs1 ls q9 ce hP2 hD2 hS1 hl hce hcv hcl
  · obtain ⟨hP1, -, hD1⟩ := hB
    rw [ht] at hP1
    obtain ⟨hP2, hD2⟩ := va_join hP hD isC isR hC hR hnR hdis hk1 hFc hP1 hD1
    exact kk r u hw H1 locs1 ls hP2 hD2 hS1 hl
theorem st_xcalll (X : OK g C own cc nL R) {wc : va_W} {post : Int64 → S → Prop} {SX : Type} {wfx : SX → va_W} {px : String → SX → Prop} {st0 : List Value} {a : Array Value} (hr : RNX g C wc pc st0 rest k n mc ms (fun sz => QL g wc wf post sz a) (fun sz => QX g wc wfx px sz)) (isC isR : List Nat) {wr : va_W} (hC : isC.map (fun i => ws[i]?) = wc.map some) (hR : isR.map (fun i => ws[i]?) = wr.map some) (hnC : va_nd isC = true) (hnR : va_nd isR = true) (hdis : ∀ i ∈ isR, i ∉ isC) (kx : ∀ (E : String) (u : SX), px E u → STX g C (wr ++ wfx u) lv rest pc (k + mc) (n + ms) E) (kk : ∀ (r : Int64) (u : S), post r u → ST g C (wr ++ wf u) lv (.long r :: rest) (pc + 3) (k + mc) (n + ms)) : ST g C ws lv st0 pc k n := by
  obtain ⟨l, D, cI, cJ⟩ := g
  obtain ⟨p, e, R9, s, m, args, below, meth, c, A, nL9, Q⟩ := C
  obtain ⟨hx, hb, hml, rfl, rfl, hown, hts, hK, hA, hT, hZ, hst9, hlk⟩ := X
  intro H locs ls hP hD hS hl
  have hFc := va_free (wc := wc) hD hS hA isC hC
  have hPc := hP.subm hC
  have hDc : va_D (fun _ => True) wc := (hD.sub isC hnC hC).weaken (fun _ _ _ _ => trivial)
  have hZc : ZZ (va_A wc H.size) s H := (hZ.kept hS.2.1).narrow hFc
  refine vx_calll (hr H locs ls hPc hDc hZc hl.1) hS (fun q _ h => hFc q h) hFc (fun q _ h => hFc q h) (fun E ce q9 u t H1 locs1 ht hvm _ hB hz1 hk1 hS1 hce hcv hcl => ?_) (fun r u t H1 locs1 ht hvm hw hB hz1 hk1 hS1 => ?_)
  · obtain ⟨hpx, hP1, -, hD1⟩ := hB
    rw [ht] at hP1
    obtain ⟨hP2, hD2⟩ := va_join hP hD isC isR hC hR hnR hdis hk1 hFc hP1 hD1
    exact kx E u hpx H1 locs1 ls q9 ce hP2 hD2 hS1 hl hce hcv hcl
  · obtain ⟨hP1, -, hD1⟩ := hB
    rw [ht] at hP1
    obtain ⟨hP2, hD2⟩ := va_join hP hD isC isR hC hR hnR hdis hk1 hFc hP1 hD1
    exact kk r u hw H1 locs1 ls hP2 hD2 hS1 hl
theorem st_xcallv (X : OK g C own cc nL R) {wc : va_W} {post : S → Prop} {SX : Type} {wfx : SX → va_W} {px : String → SX → Prop} {st0 : List Value} {a : Array Value} (hr : RNX g C wc pc st0 rest k n mc ms (fun sz => QV g wc wf post sz a) (fun sz => QX g wc wfx px sz)) (isC isR : List Nat) {wr : va_W} (hC : isC.map (fun i => ws[i]?) = wc.map some) (hR : isR.map (fun i => ws[i]?) = wr.map some) (hnC : va_nd isC = true) (hnR : va_nd isR = true) (hdis : ∀ i ∈ isR, i ∉ isC) (kx : ∀ (E : String) (u : SX), px E u → STX g C (wr ++ wfx u) lv rest pc (k + mc) (n + ms) E) (kk : ∀ (u : S), post u → ST g C (wr ++ wf u) lv (rest) (pc + 3) (k + mc) (n + ms)) : ST g C ws lv st0 pc k n := by
  obtain ⟨l, D, cI, cJ⟩ := g
  obtain ⟨p, e, R9, s, m, args, below, meth, c, A, nL9, Q⟩ := C
  obtain ⟨hx, hb, hml, rfl, rfl, hown, hts, hK, hA, hT, hZ, hst9, hlk⟩ := X
  intro H locs ls hP hD hS hl
  have hFc := va_free (wc := wc) hD hS hA isC hC
  have hPc := hP.subm hC
  have hDc : va_D (fun _ => True) wc := (hD.sub isC hnC hC).weaken (fun _ _ _ _ => trivial)
  have hZc : ZZ (va_A wc H.size) s H := (hZ.kept hS.2.1).narrow hFc
  refine vx_callv (hr H locs ls hPc hDc hZc hl.1) hS (fun q _ h => hFc q h) hFc (fun q _ h => hFc q h) (fun E ce q9 u t H1 locs1 ht hvm _ hB hz1 hk1 hS1 hce hcv hcl => ?_) (fun u t H1 locs1 ht hvm hw hB hz1 hk1 hS1 => ?_)
  · obtain ⟨hpx, hP1, -, hD1⟩ := hB
    rw [ht] at hP1
    obtain ⟨hP2, hD2⟩ := va_join hP hD isC isR hC hR hnR hdis hk1 hFc hP1 hD1
    exact kx E u hpx H1 locs1 ls q9 ce hP2 hD2 hS1 hl hce hcv hcl
  · obtain ⟨hP1, -, hD1⟩ := hB
    rw [ht] at hP1
    obtain ⟨hP2, hD2⟩ := va_join hP hD isC isR hC hR hnR hdis hk1 hFc hP1 hD1
    exact kk u hw H1 locs1 ls hP2 hD2 hS1 hl
theorem stx_out (X : OK g C own cc nL R) {E : String} {ret : Option FieldType} {Qc : Array Value → State → Outcome → State → Prop} {px : String → S → Prop} (hr : RTX C ret (va_A ws0 sz) Qc (QX g ws0 wf px sz) mc ms) (ht : TAB C []) (u : S) (hp : px E u) (hw : wf u = ws) (hk : k ≤ mc) (hn : n ≤ ms) : STX g C ws lv rest pc k n E := by
  obtain ⟨l, D, cI, cJ⟩ := g
  obtain ⟨p, e, R9, s, m, args, below, meth, c, A, nL9, Q⟩ := C
  obtain ⟨hx, hb, hml, rfl, rfl, hown, hts, hK, hA, hT, hZ, hst9, hlk⟩ := X
  obtain ⟨hr1, rfl, rfl⟩ := hr
  subst hw
  intro H locs ls q ce hP hD hS hl hce hcv hcl
  have ht : c.exceptionTable.toList = [] := ht
  exact vx_out (fun x hx => by rw [ht] at hx; cases hx) hlk hce hcv hcl (fun t hth hal => ⟨u, trivial, ⟨hp, by rw [hth]; exact hP, va_K.moved hal hK, hD⟩, hS.F hth⟩) hS.2.2 hk hn
theorem stx_perm {ws2 : va_W} {E : String} (is : List Nat) (h : is.map (fun i => ws[i]?) = ws2.map some) (hn : va_nd is = true) (kk : STX g C ws2 lv rest pc k n E) : STX g C ws lv rest pc k n E := by
  obtain ⟨l, D, cI, cJ⟩ := g
  obtain ⟨p, e, R9, s, m, args, below, meth, c, A, nL9, Q⟩ := C
  intro H locs ls q ce hP hD hS hl
  exact kk H locs ls q ce (hP.subm h) (hD.sub is hn h) hS hl
theorem stx_catch0 (X : OK g C own cc nL R) {E nm : String} {a b h t : Nat} {tl : List (Nat × Nat × Nat × Nat)} (ht : TAB C ((a, b, h, t) :: tl)) (hlink : Cond.classLink own t nm ∈ WALL) (hcast : Cond.castable E nm ∈ NALL) (hcov : a ≤ pc ∧ pc < b) (h0 : t ≠ 0) (kk : ∀ q : Nat, ST g C ws lv [.ref q] h k n) : STX g C ws lv rest pc k n E := by
  obtain ⟨l, D, cI, cJ⟩ := g
  obtain ⟨p, e, R9, s, m, args, below, meth, c, A, nL9, Q⟩ := C
  obtain ⟨hx, hb, hml, rfl, rfl, hown, hts, hK, hA, hT, hZ, hst9, hlk⟩ := X
  intro H locs ls q ce hP hD hS hl hce hcv hcl
  exact vx_catch hown [] _ _ ht (fun z hz => by cases hz) (by simp [covers, hcov.1, hcov.2]) h0 (hts _ hlink) (va_Nw.use rfl (hT.1 _ hcast)) hce hcv hcl (kk q H locs ls hP hD hS hl)
theorem stx_catch1 (X : OK g C own cc nL R) {E nm nm0 : String} {a b h t a0 b0 h00 t0 : Nat} {tl : List (Nat × Nat × Nat × Nat)} (ht : TAB C ((a0, b0, h00, t0) :: (a, b, h, t) :: tl)) (hlink0 : Cond.classLink own t0 nm0 ∈ WALL) (hnc : ∀ U : State, TBL U → va_Nc E nm0 U) (h00 : t0 ≠ 0) (hlink : Cond.classLink own t nm ∈ WALL) (hcast : Cond.castable E nm ∈ NALL) (hcov : a ≤ pc ∧ pc < b) (h0 : t ≠ 0) (kk : ∀ q : Nat, ST g C ws lv [.ref q] h k n) : STX g C ws lv rest pc k n E := by
  obtain ⟨l, D, cI, cJ⟩ := g
  obtain ⟨p, e, R9, s, m, args, below, meth, c, A, nL9, Q⟩ := C
  obtain ⟨hx, hb, hml, rfl, rfl, hown, hts, hK, hA, hT, hZ, hst9, hlk⟩ := X
  intro H locs ls q ce hP hD hS hl hce hcv hcl
  refine vx_catch hown [_] _ _ ht (fun z hz => ?_) (by simp [covers, hcov.1, hcov.2]) h0 (hts _ hlink) (va_Nw.use rfl (hT.1 _ hcast)) hce hcv hcl (kk q H locs ls hP hD hS hl)
  rw [List.mem_singleton.mp hz]
  exact Or.inr ⟨h00, nm0, hts _ hlink0, hnc s hT⟩
theorem st_throw (X : OK g C own cc nL R) {cls text : String} {names : List String} {ik is ic : Nat} {ret : Option FieldType} {Qc : Array Value → State → Outcome → State → Prop} {px : String → S → Prop} (hr : RTX C ret (va_A ws0 sz) Qc (QX g ws0 wf px sz) mc ms) (ht : TAB C []) (hfit : Bundle.fit cls = true) (hnf : ∀ n ∈ names, Bundle.fit n = true) (hk : Cond.classLink own ik cls ∈ WALL) (hini : Cond.initialized cls ∈ WALL) (hstr : ∀ U : State, TBL U → ∃ sa, vk_R own is text sa U) (hat : ∀ w ∈ vx_atS own ic cls names, w ∈ WALL ∨ w ∈ NALL)
    (hgood : ∀ w ∈ Cond.classLink own ik cls :: Cond.initialized cls :: vx_atS own ic cls names, vx_ot w = true) (u : S) (hp : px cls u) (hw : wf u = ws)
    (d0 : decode cc pc = .ok (.new ik, 3)) (d3 : decode cc (pc + 3) = .ok (.dup, 1)) (d4 : decode cc (pc + 4) = .ok (.ldc is, 2)) (d6 : decode cc (pc + 6) = .ok (.invokespecial ic, 3)) (d9 : decode cc (pc + 9) = .ok (.athrow, 1))
    (hRf : names.length + 3 < R.frames) (hRl : (rest.map fun v => v.category).sum + (13 * (names.length + 1) + 43) ≤ R.locals) (hRc : k + 1 ≤ R.cells) (hRs : n + 6 ≤ R.slots) (hc : k + 1 ≤ mc) (hs : n + 6 ≤ ms) : ST g C ws lv rest pc k n := by
  obtain ⟨l, D, cI, cJ⟩ := g
  obtain ⟨p, e, R9, s, m, args, below, meth, c, A, nL9, Q⟩ := C
  obtain ⟨hx, hb, hml, rfl, rfl, hown, hts, hK, hA, hT, hZ, hst9, hlk⟩ := X
  obtain ⟨hr1, rfl, rfl⟩ := hr
  subst hw
  intro H locs ls hP hD hS hl
  have ht : c.exceptionTable.toList = [] := ht
  obtain ⟨sa, hsa⟩ := hstr s hT
  refine vx_throwS hx hb hst9 hown hfit hnf (hts _ hk) (hts _ hini) hsa (fun w hw => (hat w hw).elim (fun h => hts _ h) (fun h => va_Nw.use (nall_tab h) (hT.1 _ h))) hgood hZ.1 hZ.2 hS (by rw [hml]; exact hl.1) d0 d3 d4 d6 d9 (fun x hx => by rw [ht] at hx; cases hx) hRf hRl hRc hRs hlk (fun t hal hz hk9 => ?_) hS.2.2 hc hs
  refine ⟨u, trivial, ⟨hp, hP.kept (fun j q hq => hk9 q.1 (vx_lt hP hq)), va_K.moved hal hK, hD⟩, Nat.le_trans hS.1 hz, fun q h1 h2 => ?_⟩
  rw [hk9 q (Nat.lt_of_lt_of_le h1 hS.1)]
  exact hS.2.1 q h1 h2
end Rows10
end
section
abbrev aI (g : GX) (a n : Nat) (f : Nat → Int32) : Nat × va_E := (a, .inl (g.2.2.1, n, .inl f))
abbrev aJ (g : GX) (a n : Nat) (f : Nat → Int64) : Nat × va_E := (a, .inl (g.2.2.2, n, .inr (.inl f)))
section Rows11
variable {g : GX} {C : CX} {ws : va_W} {lv : List (Nat × Value)} {rest : List Value} {pc k n : Nat}
theorem st_topi {x : Int32} (kk : ∀ y : Int32, y = x → ST g C ws lv (.int y :: rest) pc k n) : ST g C ws lv (.int x :: rest) pc k n := kk x rfl
theorem st_topl {x : Int64} (kk : ∀ y : Int64, y = x → ST g C ws lv (.long y :: rest) pc k n) : ST g C ws lv (.long x :: rest) pc k n := kk x rfl
end Rows11
theorem cti_of {g : GX} {y : MethodName} {cc : ByteArray} {maxL : Nat} {ret : Option FieldType} {rm : Room} {as : List Value} {ws0 : va_W} {Qk : Nat → Array Value → State → Outcome → State → Prop} (hg : g.1.stackTraces = false) (hy : plainName y.cls = true) (hlen : (lg_sl as).length ≤ maxL) (hyn : y.name = "<init>")
    (body : ∀ (sz : Nat) (C : CX), OK g C y.cls cc maxL rm → RT C ret (va_A ws0 sz) (Qk sz) rm.cells rm.slots → INIT C → ST g C ws0 (lv_args 0 as) [] 0 0 0) : CT g y cc maxL ret rm as ws0 Qk := by
  obtain ⟨l, D, cI, cJ⟩ := g
  intro sz
  refine Met.ofW (cc := cc) (maxL := maxL) (ret := ret) hy rfl ?_
  intro p e s m args below meth c s₁ B hml hv
  obtain ⟨rfl, hsz, hP, hK, hD0, hT, hZ⟩ := hv
  subst hsz
  have hD := hD0.self (sz := s.heap.size)
  have hts := atoms_spec (ws := Cond.code y cc maxL ret :: WALL) B.pre
  have K := body s.heap.size (p, e, rm, s, m, as.toArray, below, meth, c, va_A ws0 s.heap.size, maxL, MQ below (Qk s.heap.size) as.toArray s rm.cells rm.slots (va_A ws0 s.heap.size)) ⟨B.exec, B.bytes, hml, rfl, rfl, findClass_of_methodNamed B.named, fun w h => hts w (List.mem_cons_of_mem _ h), hK, fun q h => Or.inr h, hT, hZ, hg, B.notSynchronized⟩ ⟨B.returns, rfl, rfl⟩ ((name_of_methodNamed B.named B.method).1.trans hyn)
  have hl := lv_entry as hlen
  rw [lg_entry_eq]
  exact K s.heap [] _ hP hD va_S.rf hl
end
section
theorem h9_K_firstSlot : y_K_firstSlot.cls ≠ "java/lang/invoke/MethodHandle" ∧ y_K_firstSlot.cls ≠ "java/lang/invoke/VarHandle" ∧ (parseMethodDescriptor y_K_firstSlot.desc).map (fun d => d.parameters.length) = some 1 := by decide +kernel
def wp_K_firstSlot (list : Int32) (Q : Int32 → Prop) : Prop :=
  Q (list * 6)
set_option maxHeartbeats 4000000 in
set_option maxRecDepth 100000 in
theorem k_K_firstSlot (g : GX) (hg : g.1.stackTraces = false) (a_t : Nat) (list : Int32) (a_t_keys : Nat) (a_t_sizes : Nat) (Q : Int32 → Prop) (hw : wp_K_firstSlot list Q) : CT g y_K_firstSlot c_K_firstSlot 2 (some .int) ({ frames := 0, cells := 0, slots := 0, locals := 0 } : Room) [.ref a_t, .int list] [(a_t, .inr (0, [.ref a_t_keys, .ref a_t_sizes]))] (QI g [(a_t, .inr (0, [.ref a_t_keys, .ref a_t_sizes]))] (fun u : Unit => [(a_t, .inr (0, [.ref a_t_keys, .ref a_t_sizes]))]) (fun r u => Q r)) := by
  refine ct_of hg (by decide) (Nat.le_of_ble_eq_true rfl) (fun sz C X hr => ?_)
  unfold wp_K_firstSlot at hw
  show ST g C [(a_t, .inr (0, [.ref a_t_keys, .ref a_t_sizes]))] [(0, .ref a_t), (1, .int list)] [] 0 0 0
  refine st_iload_n X 1 d_K_firstSlot_0 rfl rfl ?_
  refine st_bipush X (v := 6) d_K_firstSlot_1 (by decide) ?_
  refine st_imul X d_K_firstSlot_3 ?_
  exact st_iret X hr () hw rfl (by decide) (by decide) d_K_firstSlot_4

theorem h9_K_endSlot : y_K_endSlot.cls ≠ "java/lang/invoke/MethodHandle" ∧ y_K_endSlot.cls ≠ "java/lang/invoke/VarHandle" ∧ (parseMethodDescriptor y_K_endSlot.desc).map (fun d => d.parameters.length) = some 1 := by decide +kernel
def wp_K_endSlot (list : Int32) (ns : Nat) (t_sizes : Nat → Int32) (Q : Int32 → Prop) : Prop :=
  vp_in list ns ∧
  Q ((list * 6) + (t_sizes list.toNatClampNeg))
set_option maxHeartbeats 4000000 in
set_option maxRecDepth 100000 in
theorem k_K_endSlot (g : GX) (hg : g.1.stackTraces = false) (a_t : Nat) (list : Int32) (a_t_keys : Nat) (a_t_sizes : Nat) (ns : Nat) (t_sizes : Nat → Int32) (Q : Int32 → Prop) (hw : wp_K_endSlot list ns t_sizes Q) : CT g y_K_endSlot c_K_endSlot 2 (some .int) ({ frames := 0, cells := 0, slots := 0, locals := 0 } : Room) [.ref a_t, .int list] [(a_t, .inr (0, [.ref a_t_keys, .ref a_t_sizes])), aI g a_t_sizes ns t_sizes] (QI g [(a_t, .inr (0, [.ref a_t_keys, .ref a_t_sizes])), aI g a_t_sizes ns t_sizes] (fun u : Unit => [(a_t, .inr (0, [.ref a_t_keys, .ref a_t_sizes])), aI g a_t_sizes ns t_sizes]) (fun r u => Q r)) := by
  refine ct_of hg (by decide) (Nat.le_of_ble_eq_true rfl) (fun sz C X hr => ?_)
  unfold wp_K_endSlot at hw
  show ST g C [(a_t, .inr (0, [.ref a_t_keys, .ref a_t_sizes])), aI g a_t_sizes ns t_sizes] [(0, .ref a_t), (1, .int list)] [] 0 0 0
  refine st_iload_n X 1 d_K_endSlot_0 rfl rfl ?_
  refine st_bipush X (v := 6) d_K_endSlot_1 (by decide) ?_
  refine st_imul X d_K_endSlot_3 ?_
  refine st_aload_n X 0 d_K_endSlot_4 rfl rfl ?_
  refine st_get X (ci := 0) in_K 0 1 wf_K_21 rfl rfl (by decide) rfl d_K_endSlot_5 ?_
  refine st_iload_n X 1 d_K_endSlot_8 rfl rfl ?_
  obtain ⟨hb1, hw⟩ := hw
  refine st_iald X 1 rfl hb1 d_K_endSlot_9 ?_
  refine st_iadd X d_K_endSlot_10 ?_
  exact st_iret X hr () hw rfl (by decide) (by decide) d_K_endSlot_11

theorem h9_K_slotFor : y_K_slotFor.cls ≠ "java/lang/invoke/MethodHandle" ∧ y_K_slotFor.cls ≠ "java/lang/invoke/VarHandle" ∧ (parseMethodDescriptor y_K_slotFor.desc).map (fun d => d.parameters.length) = some 2 := by decide +kernel
def wp_K_slotFor_L14 (list : Int32) (key : Int64) (nk : Nat) (t_keys : Nat → Int64) (ns : Nat) (t_sizes : Nat → Int32) (r1 : Int32) (Q : Int32 → (Nat → Int64) → (Nat → Int32) → Prop) : Nat → Int32 → Prop
  | 0, _ => False
  | n14 + 1, v3 =>
  ((r1 ≤ v3) → vp_in list ns ∧
  (((t_sizes list.toNatClampNeg) < 6) → vp_in r1 nk ∧
  ∀ f4 : Nat → Int64, f4 = vp_updL t_keys r1.toNatClampNeg key →
  vp_in list ns ∧
  ∀ x5 : Int32, x5 = (t_sizes list.toNatClampNeg) + 1 →
  vp_in list ns ∧
  ∀ f6 : Nat → Int32, f6 = upd t_sizes list.toNatClampNeg x5 →
  Q r1 f4 f6) ∧
  ((¬ (t_sizes list.toNatClampNeg) < 6) → Q (-1) t_keys t_sizes)) ∧
  ((¬ r1 ≤ v3) → vp_in v3 nk ∧
  ((¬ (t_keys v3.toNatClampNeg) = key) → ∀ x7 : Int32, x7 = v3 + 1 →
  (wp_K_slotFor_L14 list key nk t_keys ns t_sizes r1 Q n14) x7) ∧
  (((t_keys v3.toNatClampNeg) = key) → Q v3 t_keys t_sizes))
def wp_K_slotFor (list : Int32) (key : Int64) (nk : Nat) (t_keys : Nat → Int64) (ns : Nat) (t_sizes : Nat → Int32) (Q : Int32 → (Nat → Int64) → (Nat → Int32) → Prop) : Prop :=
  wp_K_endSlot list ns t_sizes (fun r1 =>
  wp_K_firstSlot list (fun r2 =>
  ∃ n14 : Nat, wp_K_slotFor_L14 list key nk t_keys ns t_sizes r1 Q n14 r2))
set_option maxHeartbeats 4000000 in
set_option maxRecDepth 100000 in
theorem k_K_slotFor (g : GX) (hg : g.1.stackTraces = false) (a_t : Nat) (list : Int32) (key : Int64) (a_t_keys : Nat) (a_t_sizes : Nat) (nk : Nat) (t_keys : Nat → Int64) (ns : Nat) (t_sizes : Nat → Int32) (Q : Int32 → (Nat → Int64) → (Nat → Int32) → Prop) (hw : wp_K_slotFor list key nk t_keys ns t_sizes Q) : CT g y_K_slotFor c_K_slotFor 6 (some .int) ({ frames := 1, cells := 0, slots := 0, locals := 21 } : Room) [.ref a_t, .int list, .long key] [(a_t, .inr (0, [.ref a_t_keys, .ref a_t_sizes])), aJ g a_t_keys nk t_keys, aI g a_t_sizes ns t_sizes] (QI g [(a_t, .inr (0, [.ref a_t_keys, .ref a_t_sizes])), aJ g a_t_keys nk t_keys, aI g a_t_sizes ns t_sizes] (fun u : (Nat → Int64) × (Nat → Int32) => [(a_t, .inr (0, [.ref a_t_keys, .ref a_t_sizes])), aJ g a_t_keys nk u.1, aI g a_t_sizes ns u.2]) (fun r u => Q r u.1 u.2)) := by
  refine ct_of hg (by decide) (Nat.le_of_ble_eq_true rfl) (fun sz C X hr => ?_)
  unfold wp_K_slotFor at hw
  show ST g C [(a_t, .inr (0, [.ref a_t_keys, .ref a_t_sizes])), aJ g a_t_keys nk t_keys, aI g a_t_sizes ns t_sizes] [(0, .ref a_t), (1, .int list), (2, .long key)] [] 0 0 0
  refine st_aload_n X 0 d_K_slotFor_0 rfl rfl ?_
  refine st_iload_n X 1 d_K_slotFor_1 rfl rfl ?_
  have hR := rn_V (pc := 2) (k := 0) (n := 0) (As := [.int list]) (rest := []) X (k_K_endSlot g hg a_t list a_t_keys a_t_sizes ns t_sizes _ hw) (q0 := 0) rfl rfl wm_K_25 wi_K_endSlot wl_K_endSlot wz_K wc_K_endSlot h9_K_endSlot ⟨by decide, by decide⟩ (Nat.le_of_ble_eq_true rfl) ⟨by decide, by decide⟩ d_K_slotFor_2
  refine st_calli X hR [0, 2] [1] (wr := [aJ g a_t_keys nk t_keys]) rfl rfl (by decide) (by decide) (by decide) (fun r1 u9 hw => ?_)
  try dsimp only at hw
  refine st_widen (k2 := 0) (n2 := 0) (by decide) (by decide) ?_
  refine st_perm (ws2 := [(a_t, .inr (0, [.ref a_t_keys, .ref a_t_sizes])), aJ g a_t_keys nk t_keys, aI g a_t_sizes ns t_sizes]) [1, 0, 2] rfl (by decide) ?_
  show ST g C [(a_t, .inr (0, [.ref a_t_keys, .ref a_t_sizes])), aJ g a_t_keys nk t_keys, aI g a_t_sizes ns t_sizes] [(0, .ref a_t), (1, .int list), (2, .long key)] [.int r1] 5 0 0
  refine st_istore X (lv2 := [(4, .int r1), (0, .ref a_t), (1, .int list), (2, .long key)]) d_K_slotFor_5 (by decide) rfl ?_
  refine st_aload_n X 1 d_K_slotFor_7 rfl rfl ?_
  refine st_iload_n X 2 d_K_slotFor_8 rfl rfl ?_
  have hR := rn_V (pc := 9) (k := 0) (n := 0) (As := [.int list]) (rest := []) X (k_K_firstSlot g hg a_t list a_t_keys a_t_sizes _ hw) (q0 := 0) rfl rfl wm_K_29 wi_K_firstSlot wl_K_firstSlot wz_K wc_K_firstSlot h9_K_firstSlot ⟨by decide, by decide⟩ (Nat.le_of_ble_eq_true rfl) ⟨by decide, by decide⟩ d_K_slotFor_9
  refine st_calli X hR [0] [1, 2] (wr := [aJ g a_t_keys nk t_keys, aI g a_t_sizes ns t_sizes]) rfl rfl (by decide) (by decide) (by decide) (fun r2 u9 hw => ?_)
  try dsimp only at hw
  refine st_widen (k2 := 0) (n2 := 0) (by decide) (by decide) ?_
  refine st_perm (ws2 := [(a_t, .inr (0, [.ref a_t_keys, .ref a_t_sizes])), aJ g a_t_keys nk t_keys, aI g a_t_sizes ns t_sizes]) [2, 0, 1] rfl (by decide) ?_
  show ST g C [(a_t, .inr (0, [.ref a_t_keys, .ref a_t_sizes])), aJ g a_t_keys nk t_keys, aI g a_t_sizes ns t_sizes] [(4, .int r1), (0, .ref a_t), (1, .int list), (2, .long key)] [.int r2] 12 0 0
  refine st_istore X (lv2 := [(5, .int r2), (4, .int r1), (0, .ref a_t), (1, .int list), (2, .long key)]) d_K_slotFor_12 (by decide) rfl ?_
  have L14 : ∀ (n14 : Nat) (v3 : Int32), wp_K_slotFor_L14 list key nk t_keys ns t_sizes r1 Q n14 v3 → ST g C [(a_t, .inr (0, [.ref a_t_keys, .ref a_t_sizes])), aJ g a_t_keys nk t_keys, aI g a_t_sizes ns t_sizes] [(0, .ref a_t), (1, .int list), (2, .long key), (4, .int r1), (5, .int v3)] [] 14 0 0 := by
    intro n14
    induction n14 with
    | zero => intro v3 hw; exact hw.elim
    | succ n14 ih14 =>
      intro v3 hw
      rw [wp_K_slotFor_L14] at hw
      refine st_iload X 4 d_K_slotFor_14 rfl ?_
      refine st_iload X 3 d_K_slotFor_16 rfl ?_
      refine st_icmp_ge X 42 d_K_slotFor_18 (by decide) (fun hc => ?_) (fun hc => ?_)
      · replace hw := hw.1 hc
        refine st_aload_n X 0 d_K_slotFor_42 rfl rfl ?_
        refine st_get X (ci := 0) in_K 0 1 wf_K_21 rfl rfl (by decide) rfl d_K_slotFor_43 ?_
        refine st_iload_n X 1 d_K_slotFor_46 rfl rfl ?_
        obtain ⟨hb1, hw⟩ := hw
        refine st_iald X 2 rfl hb1 d_K_slotFor_47 ?_
        refine st_bipush X (v := 6) d_K_slotFor_48 (by decide) ?_
        refine st_icmp_lt X 55 d_K_slotFor_50 (by decide) (fun hc => ?_) (fun hc => ?_)
        · replace hw := hw.1 hc
          refine st_aload_n X 0 d_K_slotFor_55 rfl rfl ?_
          refine st_get X (ci := 0) in_K 0 0 wf_K_15 rfl rfl (by decide) rfl d_K_slotFor_56 ?_
          refine st_iload X 3 d_K_slotFor_59 rfl ?_
          refine st_lload_n X 2 d_K_slotFor_61 rfl rfl ?_
          obtain ⟨hb2, hw⟩ := hw
          obtain ⟨f4, hf4⟩ : ∃ z : Nat → Int64, z = vp_updL t_keys r1.toNatClampNeg key := ⟨_, rfl⟩
          replace hw := hw f4 hf4
          refine st_last X (ws2 := [(a_t, .inr (0, [.ref a_t_keys, .ref a_t_sizes])), aJ g a_t_keys nk f4, aI g a_t_sizes ns t_sizes]) 1 rfl hb2 (by rw [hf4]; rfl) d_K_slotFor_62 ?_
          refine st_aload_n X 0 d_K_slotFor_63 rfl rfl ?_
          refine st_get X (ci := 0) in_K 0 1 wf_K_21 rfl rfl (by decide) rfl d_K_slotFor_64 ?_
          refine st_iload_n X 1 d_K_slotFor_67 rfl rfl ?_
          refine st_dup2_11 X d_K_slotFor_68 rfl rfl ?_
          obtain ⟨hb3, hw⟩ := hw
          refine st_iald X 2 rfl hb3 d_K_slotFor_69 ?_
          refine st_iconst X (v := 1) d_K_slotFor_70 (by decide) ?_
          refine st_iadd X d_K_slotFor_71 ?_
          refine st_topi (fun x5 hx5 => ?_)
          replace hw := hw x5 hx5
          obtain ⟨hb4, hw⟩ := hw
          obtain ⟨f6, hf6⟩ : ∃ z : Nat → Int32, z = upd t_sizes list.toNatClampNeg x5 := ⟨_, rfl⟩
          replace hw := hw f6 hf6
          refine st_iast X (ws2 := [(a_t, .inr (0, [.ref a_t_keys, .ref a_t_sizes])), aJ g a_t_keys nk f4, aI g a_t_sizes ns f6]) 2 rfl hb4 (by rw [hf6]; rfl) d_K_slotFor_72 ?_
          refine st_iload X 3 d_K_slotFor_73 rfl ?_
          exact st_iret X hr (f4, f6) hw rfl (by decide) (by decide) d_K_slotFor_75
        · replace hw := hw.2 hc
          refine st_iconst X (v := (-1)) d_K_slotFor_53 (by decide) ?_
          exact st_iret X hr (t_keys, t_sizes) hw rfl (by decide) (by decide) d_K_slotFor_54
      · replace hw := hw.2 hc
        refine st_aload_n X 0 d_K_slotFor_21 rfl rfl ?_
        refine st_get X (ci := 0) in_K 0 0 wf_K_15 rfl rfl (by decide) rfl d_K_slotFor_22 ?_
        refine st_iload X 4 d_K_slotFor_25 rfl ?_
        obtain ⟨hb5, hw⟩ := hw
        refine st_lald X 1 rfl hb5 d_K_slotFor_27 ?_
        refine st_lload_n X 2 d_K_slotFor_28 rfl rfl ?_
        refine st_lcmp_ne X 36 d_K_slotFor_29 d_K_slotFor_30 (by decide) (fun hc => ?_) (fun hc => ?_)
        · replace hw := hw.1 hc
          obtain ⟨x7, hx7⟩ : ∃ z : Int32, z = v3 + 1 := ⟨_, rfl⟩
          replace hw := hw x7 hx7
          refine st_iinc X (v := x7) (lv2 := [(5, .int x7), (0, .ref a_t), (1, .int list), (2, .long key), (4, .int r1)]) 4 d_K_slotFor_36 rfl (by rw [hx7]; rfl) (by decide) rfl ?_
          refine st_goto X 14 d_K_slotFor_39 (by decide) ?_
          refine st_lv [1, 2, 3, 4, 0] rfl ?_
          exact ih14 x7 hw
        · replace hw := hw.2 hc
          refine st_iload X 4 d_K_slotFor_33 rfl ?_
          exact st_iret X hr (t_keys, t_sizes) hw rfl (by decide) (by decide) d_K_slotFor_35
  obtain ⟨n14, hw⟩ := hw
  refine st_lv [2, 3, 4, 1, 0] rfl ?_
  exact L14 n14 r2 hw
end
section
theorem h9_C_needIndex : y_C_needIndex.cls ≠ "java/lang/invoke/MethodHandle" ∧ y_C_needIndex.cls ≠ "java/lang/invoke/VarHandle" ∧ (parseMethodDescriptor y_C_needIndex.desc).map (fun d => d.parameters.length) = some 2 := by decide +kernel
def wp_C_needIndex_J9 (XE : String → Prop) : Prop :=
  XE eI
def wp_C_needIndex (index : Int32) (count : Int32) (Q : Prop) (XE : String → Prop) : Prop :=
  ((index < 0) → wp_C_needIndex_J9 XE) ∧
  ((¬ index < 0) → ((index < count) → Q) ∧
  ((¬ index < count) → wp_C_needIndex_J9 XE))
set_option maxRecDepth 20000 in
theorem at_C_needIndex : ∀ w ∈ vx_atS R_C 159 eI ["java/lang/RuntimeException", "java/lang/Exception"], w ∈ WALL ∨ w ∈ NALL := by decide +kernel
set_option maxRecDepth 20000 in
theorem ag_C_needIndex : ∀ w ∈ Cond.classLink R_C 155 eI :: Cond.initialized eI :: vx_atS R_C 159 eI ["java/lang/RuntimeException", "java/lang/Exception"], vx_ot w = true := by decide +kernel
set_option maxHeartbeats 4000000 in
set_option maxRecDepth 100000 in
theorem k_C_needIndex (g : GX) (hg : g.1.stackTraces = false) (index : Int32) (count : Int32) (Q : Prop) (XE : String → Prop) (hw : wp_C_needIndex index count Q XE) : CTX g y_C_needIndex c_C_needIndex 2 none ({ frames := 6, cells := 1, slots := 6, locals := 82 } : Room) [.int index, .int count] [] (QV g [] (fun u : Unit => []) (fun u => Q)) (QX g [] (fun u : Unit => []) (fun E u => XE E)) := by
  refine ctx_of hg (by decide) (Nat.le_of_ble_eq_true rfl) (fun sz C X hr htab => ?_)
  unfold wp_C_needIndex at hw
  show ST g C [] [(0, .int index), (1, .int count)] [] 0 0 0
  refine st_iload_n X 0 d_C_needIndex_0 rfl rfl ?_
  have J9 : wp_C_needIndex_J9 XE → ST g C [] [(0, .int index), (1, .int count)] [] 9 0 0 := by
    intro hw
    unfold wp_C_needIndex_J9 at hw
    exact st_throw X (cls := eI) (names := ["java/lang/RuntimeException", "java/lang/Exception"]) hr htab (by decide +kernel) (by decide +kernel) wk_C_155 wz_IndexOutOfBoundsException (fun U h => h.2.1) at_C_needIndex ag_C_needIndex () hw rfl d_C_needIndex_9 d_C_needIndex_12 d_C_needIndex_13 d_C_needIndex_15 d_C_needIndex_18 (by decide) (Nat.le_of_ble_eq_true rfl) (by decide) (by decide) (by decide) (by decide)
  refine st_if_lt X 9 d_C_needIndex_1 (by decide) (fun hc => ?_) (fun hc => ?_)
  · replace hw := hw.1 hc
    refine st_lv [0, 1] rfl ?_
    exact J9 hw
  · replace hw := hw.2 hc
    refine st_iload_n X 0 d_C_needIndex_4 rfl rfl ?_
    refine st_iload_n X 1 d_C_needIndex_5 rfl rfl ?_
    refine st_icmp_lt X 19 d_C_needIndex_6 (by decide) (fun hc => ?_) (fun hc => ?_)
    · replace hw := hw.1 hc
      exact st_vretX X hr () hw rfl (by decide) (by decide) d_C_needIndex_19
    · replace hw := hw.2 hc
      refine st_lv [0, 1] rfl ?_
      exact J9 hw

theorem h9_C_needNumber : y_C_needNumber.cls ≠ "java/lang/invoke/MethodHandle" ∧ y_C_needNumber.cls ≠ "java/lang/invoke/VarHandle" ∧ (parseMethodDescriptor y_C_needNumber.desc).map (fun d => d.parameters.length) = some 3 := by decide +kernel
def wp_C_needNumber_J13 (XE : String → Prop) : Prop :=
  XE eA
def wp_C_needNumber (n_ : Int64) (least : Int64) (most : Int64) (Q : Prop) (XE : String → Prop) : Prop :=
  ((n_ < least) → wp_C_needNumber_J13 XE) ∧
  ((¬ n_ < least) → ((n_ ≤ most) → Q) ∧
  ((¬ n_ ≤ most) → wp_C_needNumber_J13 XE))
set_option maxRecDepth 20000 in
theorem at_C_needNumber : ∀ w ∈ vx_atS R_C 166 eA ["java/lang/RuntimeException", "java/lang/Exception"], w ∈ WALL ∨ w ∈ NALL := by decide +kernel
set_option maxRecDepth 20000 in
theorem ag_C_needNumber : ∀ w ∈ Cond.classLink R_C 162 eA :: Cond.initialized eA :: vx_atS R_C 166 eA ["java/lang/RuntimeException", "java/lang/Exception"], vx_ot w = true := by decide +kernel
set_option maxHeartbeats 4000000 in
set_option maxRecDepth 100000 in
theorem k_C_needNumber (g : GX) (hg : g.1.stackTraces = false) (n_ : Int64) (least : Int64) (most : Int64) (Q : Prop) (XE : String → Prop) (hw : wp_C_needNumber n_ least most Q XE) : CTX g y_C_needNumber c_C_needNumber 6 none ({ frames := 6, cells := 1, slots := 6, locals := 82 } : Room) [.long n_, .long least, .long most] [] (QV g [] (fun u : Unit => []) (fun u => Q)) (QX g [] (fun u : Unit => []) (fun E u => XE E)) := by
  refine ctx_of hg (by decide) (Nat.le_of_ble_eq_true rfl) (fun sz C X hr htab => ?_)
  unfold wp_C_needNumber at hw
  show ST g C [] [(0, .long n_), (2, .long least), (4, .long most)] [] 0 0 0
  refine st_lload_n X 0 d_C_needNumber_0 rfl rfl ?_
  refine st_lload_n X 1 d_C_needNumber_1 rfl rfl ?_
  have J13 : wp_C_needNumber_J13 XE → ST g C [] [(0, .long n_), (2, .long least), (4, .long most)] [] 13 0 0 := by
    intro hw
    unfold wp_C_needNumber_J13 at hw
    exact st_throw X (cls := eA) (names := ["java/lang/RuntimeException", "java/lang/Exception"]) hr htab (by decide +kernel) (by decide +kernel) wk_C_162 wz_IllegalArgumentException (fun U h => h.2.2.1) at_C_needNumber ag_C_needNumber () hw rfl d_C_needNumber_13 d_C_needNumber_16 d_C_needNumber_17 d_C_needNumber_19 d_C_needNumber_22 (by decide) (Nat.le_of_ble_eq_true rfl) (by decide) (by decide) (by decide) (by decide)
  refine st_lcmp_lt X 13 d_C_needNumber_2 d_C_needNumber_3 (by decide) (fun hc => ?_) (fun hc => ?_)
  · replace hw := hw.1 hc
    refine st_lv [0, 1, 2] rfl ?_
    exact J13 hw
  · replace hw := hw.2 hc
    refine st_lload_n X 0 d_C_needNumber_6 rfl rfl ?_
    refine st_lload X 2 d_C_needNumber_7 rfl ?_
    refine st_lcmp_le X 23 d_C_needNumber_9 d_C_needNumber_10 (by decide) (fun hc => ?_) (fun hc => ?_)
    · replace hw := hw.1 hc
      exact st_vretX X hr () hw rfl (by decide) (by decide) d_C_needNumber_23
    · replace hw := hw.2 hc
      refine st_lv [0, 1, 2] rfl ?_
      exact J13 hw

theorem h9_C_needStep : y_C_needStep.cls ≠ "java/lang/invoke/MethodHandle" ∧ y_C_needStep.cls ≠ "java/lang/invoke/VarHandle" ∧ (parseMethodDescriptor y_C_needStep.desc).map (fun d => d.parameters.length) = some 2 := by decide +kernel
def wp_C_needStep (from_ : Int64) (cents : Int64) (Q : Prop) (XE : String → Prop) : Prop :=
  wp_C_needNumber from_ (1 : Int64) (1000000000 : Int64) (
  wp_C_needNumber cents (1 : Int64) (100000 : Int64) (
  Q) (fun E9 => XE E9)) (fun E9 => XE E9)
set_option maxHeartbeats 4000000 in
set_option maxRecDepth 100000 in
theorem k_C_needStep (g : GX) (hg : g.1.stackTraces = false) (from_ : Int64) (cents : Int64) (Q : Prop) (XE : String → Prop) (hw : wp_C_needStep from_ cents Q XE) : CTX g y_C_needStep c_C_needStep 4 none ({ frames := 7, cells := 2, slots := 12, locals := 107 } : Room) [.long from_, .long cents] [] (QV g [] (fun u : Unit => []) (fun u => Q)) (QX g [] (fun u : Unit => []) (fun E u => XE E)) := by
  refine ctx_of hg (by decide) (Nat.le_of_ble_eq_true rfl) (fun sz C X hr htab => ?_)
  unfold wp_C_needStep at hw
  show ST g C [] [(0, .long from_), (2, .long cents)] [] 0 0 0
  refine st_lload_n X 0 d_C_needStep_0 rfl rfl ?_
  refine st_lconst X (v := 1) d_C_needStep_1 (by decide) ?_
  refine st_ldc2 X wv_C_104 d_C_needStep_2 ?_
  have hR := rn_SX (pc := 5) (k := 0) (n := 0) (As := [.long from_, .long 1, .long 1000000000]) (rest := []) X (k_C_needNumber g hg from_ (1 : Int64) (1000000000 : Int64) _ _ hw) wm_C_84 ws_C_needNumber wz_C wc_C_needNumber h9_C_needNumber ⟨by decide, by decide⟩ (Nat.le_of_ble_eq_true rfl) ⟨by decide, by decide⟩ d_C_needStep_5
  refine st_xcallv X hR [] [] (wr := []) rfl rfl (by decide) (by decide) (by decide) (fun E9 u9 hw => ?_) (fun u9 hw => ?_)
  · refine stx_perm (ws2 := []) [] rfl (by decide) ?_
    exact stx_out X hr htab () hw rfl (by decide) (by decide)
  refine st_widen (k2 := 1) (n2 := 6) (by decide) (by decide) ?_
  show ST g C [] [(0, .long from_), (2, .long cents)] [] 8 1 6
  refine st_lload_n X 1 d_C_needStep_8 rfl rfl ?_
  refine st_lconst X (v := 1) d_C_needStep_9 (by decide) ?_
  refine st_ldc2 X wv_C_167 d_C_needStep_10 ?_
  have hR := rn_SX (pc := 13) (k := 1) (n := 6) (As := [.long cents, .long 1, .long 100000]) (rest := []) X (k_C_needNumber g hg cents (1 : Int64) (100000 : Int64) _ _ hw) wm_C_84 ws_C_needNumber wz_C wc_C_needNumber h9_C_needNumber ⟨by decide, by decide⟩ (Nat.le_of_ble_eq_true rfl) ⟨by decide, by decide⟩ d_C_needStep_13
  refine st_xcallv X hR [] [] (wr := []) rfl rfl (by decide) (by decide) (by decide) (fun E9 u9 hw => ?_) (fun u9 hw => ?_)
  · refine stx_perm (ws2 := []) [] rfl (by decide) ?_
    exact stx_out X hr htab () hw rfl (by decide) (by decide)
  refine st_widen (k2 := 2) (n2 := 12) (by decide) (by decide) ?_
  show ST g C [] [(0, .long from_), (2, .long cents)] [] 16 2 12
  exact st_vretX X hr () hw rfl (by decide) (by decide) d_C_needStep_16

theorem h9_C_needRatio : y_C_needRatio.cls ≠ "java/lang/invoke/MethodHandle" ∧ y_C_needRatio.cls ≠ "java/lang/invoke/VarHandle" ∧ (parseMethodDescriptor y_C_needRatio.desc).map (fun d => d.parameters.length) = some 2 := by decide +kernel
def wp_C_needRatio (above : Int64) (below : Int64) (Q : Prop) (XE : String → Prop) : Prop :=
  wp_C_needNumber above (1 : Int64) (1000 : Int64) (
  wp_C_needNumber below (1 : Int64) (1000 : Int64) (
  Q) (fun E9 => XE E9)) (fun E9 => XE E9)
set_option maxHeartbeats 4000000 in
set_option maxRecDepth 100000 in
theorem k_C_needRatio (g : GX) (hg : g.1.stackTraces = false) (above : Int64) (below : Int64) (Q : Prop) (XE : String → Prop) (hw : wp_C_needRatio above below Q XE) : CTX g y_C_needRatio c_C_needRatio 4 none ({ frames := 7, cells := 2, slots := 12, locals := 107 } : Room) [.long above, .long below] [] (QV g [] (fun u : Unit => []) (fun u => Q)) (QX g [] (fun u : Unit => []) (fun E u => XE E)) := by
  refine ctx_of hg (by decide) (Nat.le_of_ble_eq_true rfl) (fun sz C X hr htab => ?_)
  unfold wp_C_needRatio at hw
  show ST g C [] [(0, .long above), (2, .long below)] [] 0 0 0
  refine st_lload_n X 0 d_C_needRatio_0 rfl rfl ?_
  refine st_lconst X (v := 1) d_C_needRatio_1 (by decide) ?_
  refine st_ldc2 X wv_C_82 d_C_needRatio_2 ?_
  have hR := rn_SX (pc := 5) (k := 0) (n := 0) (As := [.long above, .long 1, .long 1000]) (rest := []) X (k_C_needNumber g hg above (1 : Int64) (1000 : Int64) _ _ hw) wm_C_84 ws_C_needNumber wz_C wc_C_needNumber h9_C_needNumber ⟨by decide, by decide⟩ (Nat.le_of_ble_eq_true rfl) ⟨by decide, by decide⟩ d_C_needRatio_5
  refine st_xcallv X hR [] [] (wr := []) rfl rfl (by decide) (by decide) (by decide) (fun E9 u9 hw => ?_) (fun u9 hw => ?_)
  · refine stx_perm (ws2 := []) [] rfl (by decide) ?_
    exact stx_out X hr htab () hw rfl (by decide) (by decide)
  refine st_widen (k2 := 1) (n2 := 6) (by decide) (by decide) ?_
  show ST g C [] [(0, .long above), (2, .long below)] [] 8 1 6
  refine st_lload_n X 1 d_C_needRatio_8 rfl rfl ?_
  refine st_lconst X (v := 1) d_C_needRatio_9 (by decide) ?_
  refine st_ldc2 X wv_C_82 d_C_needRatio_10 ?_
  have hR := rn_SX (pc := 13) (k := 1) (n := 6) (As := [.long below, .long 1, .long 1000]) (rest := []) X (k_C_needNumber g hg below (1 : Int64) (1000 : Int64) _ _ hw) wm_C_84 ws_C_needNumber wz_C wc_C_needNumber h9_C_needNumber ⟨by decide, by decide⟩ (Nat.le_of_ble_eq_true rfl) ⟨by decide, by decide⟩ d_C_needRatio_13
  refine st_xcallv X hR [] [] (wr := []) rfl rfl (by decide) (by decide) (by decide) (fun E9 u9 hw => ?_) (fun u9 hw => ?_)
  · refine stx_perm (ws2 := []) [] rfl (by decide) ?_
    exact stx_out X hr htab () hw rfl (by decide) (by decide)
  refine st_widen (k2 := 2) (n2 := 12) (by decide) (by decide) ?_
  show ST g C [] [(0, .long above), (2, .long below)] [] 16 2 12
  exact st_vretX X hr () hw rfl (by decide) (by decide) d_C_needRatio_16

theorem h9_C_tellNumber : y_C_tellNumber.cls ≠ "java/lang/invoke/MethodHandle" ∧ y_C_tellNumber.cls ≠ "java/lang/invoke/VarHandle" ∧ (parseMethodDescriptor y_C_tellNumber.desc).map (fun d => d.parameters.length) = some 3 := by decide +kernel
def wp_C_tellNumber_J13 (at_ : Int32) (n_ : Int64) (nn : Nat) (nums : Nat → Int64) (Q : Int32 → (Nat → Int64) → Prop) (v1 : Int32) : Prop :=
  vp_in at_ nn ∧
  ∀ f2 : Nat → Int64, f2 = vp_updL nums at_.toNatClampNeg n_ →
  (v1 = 0 ∨ v1 = 1) ∧ Q v1 f2
def wp_C_tellNumber (at_ : Int32) (n_ : Int64) (nn : Nat) (nums : Nat → Int64) (Q : Int32 → (Nat → Int64) → Prop) : Prop :=
  vp_in at_ nn ∧
  (((nums at_.toNatClampNeg) = n_) → wp_C_tellNumber_J13 at_ n_ nn nums Q 0) ∧
  ((¬ (nums at_.toNatClampNeg) = n_) → wp_C_tellNumber_J13 at_ n_ nn nums Q 1)
set_option maxHeartbeats 4000000 in
set_option maxRecDepth 100000 in
theorem k_C_tellNumber (g : GX) (hg : g.1.stackTraces = false) (a_nums : Nat) (at_ : Int32) (n_ : Int64) (nn : Nat) (nums : Nat → Int64) (Q : Int32 → (Nat → Int64) → Prop) (hw : wp_C_tellNumber at_ n_ nn nums Q) : CT g y_C_tellNumber c_C_tellNumber 5 (some .boolean) ({ frames := 0, cells := 0, slots := 0, locals := 0 } : Room) [.ref a_nums, .int at_, .long n_] [aJ g a_nums nn nums] (QI g [aJ g a_nums nn nums] (fun u : (Nat → Int64) => [aJ g a_nums nn u]) (fun r u => Q r u)) := by
  refine ct_of hg (by decide) (Nat.le_of_ble_eq_true rfl) (fun sz C X hr => ?_)
  unfold wp_C_tellNumber at hw
  show ST g C [aJ g a_nums nn nums] [(0, .ref a_nums), (1, .int at_), (2, .long n_)] [] 0 0 0
  refine st_aload_n X 0 d_C_tellNumber_0 rfl rfl ?_
  refine st_iload_n X 1 d_C_tellNumber_1 rfl rfl ?_
  obtain ⟨hb1, hw⟩ := hw
  refine st_lald X 0 rfl hb1 d_C_tellNumber_2 ?_
  refine st_lload_n X 2 d_C_tellNumber_3 rfl rfl ?_
  have J13 : ∀ (v1 : Int32), wp_C_tellNumber_J13 at_ n_ nn nums Q v1 → ST g C [aJ g a_nums nn nums] [(0, .ref a_nums), (1, .int at_), (2, .long n_)] [.int v1] 13 0 0 := by
    intro v1 hw
    unfold wp_C_tellNumber_J13 at hw
    refine st_istore X (lv2 := [(4, .int v1), (0, .ref a_nums), (1, .int at_), (2, .long n_)]) d_C_tellNumber_13 (by decide) rfl ?_
    refine st_aload_n X 1 d_C_tellNumber_15 rfl rfl ?_
    refine st_iload_n X 2 d_C_tellNumber_16 rfl rfl ?_
    refine st_lload_n X 3 d_C_tellNumber_17 rfl rfl ?_
    obtain ⟨hb2, hw⟩ := hw
    obtain ⟨f2, hf2⟩ : ∃ z : Nat → Int64, z = vp_updL nums at_.toNatClampNeg n_ := ⟨_, rfl⟩
    replace hw := hw f2 hf2
    refine st_last X (ws2 := [aJ g a_nums nn f2]) 0 rfl hb2 (by rw [hf2]; rfl) d_C_tellNumber_18 ?_
    refine st_iload X 0 d_C_tellNumber_19 rfl ?_
    obtain ⟨hz, hw⟩ := hw
    exact st_zret X hr f2 hw hz rfl (by decide) (by decide) d_C_tellNumber_21
  refine st_lcmp_eq X 12 d_C_tellNumber_4 d_C_tellNumber_5 (by decide) (fun hc => ?_) (fun hc => ?_)
  · replace hw := hw.1 hc
    refine st_iconst X (v := 0) d_C_tellNumber_12 (by decide) ?_
    refine st_lv [0, 1, 2] rfl ?_
    exact J13 0 hw
  · replace hw := hw.2 hc
    refine st_iconst X (v := 1) d_C_tellNumber_8 (by decide) ?_
    refine st_goto X 13 d_C_tellNumber_9 (by decide) ?_
    refine st_lv [0, 1, 2] rfl ?_
    exact J13 1 hw

theorem h9_C_divideUp : y_C_divideUp.cls ≠ "java/lang/invoke/MethodHandle" ∧ y_C_divideUp.cls ≠ "java/lang/invoke/VarHandle" ∧ (parseMethodDescriptor y_C_divideUp.desc).map (fun d => d.parameters.length) = some 2 := by decide +kernel
def wp_C_divideUp (amount : Int64) (divisor : Int64) (Q : Int64 → Prop) : Prop :=
  ((0 < divisor) → ¬ divisor = 0 ∧
  Q (((amount + divisor) - 1) / divisor)) ∧
  ((¬ 0 < divisor) → Q 0)
set_option maxHeartbeats 4000000 in
set_option maxRecDepth 100000 in
theorem k_C_divideUp (g : GX) (hg : g.1.stackTraces = false) (amount : Int64) (divisor : Int64) (Q : Int64 → Prop) (hw : wp_C_divideUp amount divisor Q) : CT g y_C_divideUp c_C_divideUp 4 (some .long) ({ frames := 0, cells := 0, slots := 0, locals := 0 } : Room) [.long amount, .long divisor] [] (QL g [] (fun u : Unit => []) (fun r u => Q r)) := by
  refine ct_of hg (by decide) (Nat.le_of_ble_eq_true rfl) (fun sz C X hr => ?_)
  unfold wp_C_divideUp at hw
  show ST g C [] [(0, .long amount), (2, .long divisor)] [] 0 0 0
  refine st_lload_n X 1 d_C_divideUp_0 rfl rfl ?_
  refine st_lconst X (v := 0) d_C_divideUp_1 (by decide) ?_
  refine st_lcmp_gt X 8 d_C_divideUp_2 d_C_divideUp_3 (by decide) (fun hc => ?_) (fun hc => ?_)
  · replace hw := hw.1 hc
    refine st_lload_n X 0 d_C_divideUp_8 rfl rfl ?_
    refine st_lload_n X 1 d_C_divideUp_9 rfl rfl ?_
    refine st_ladd X d_C_divideUp_10 ?_
    refine st_lconst X (v := 1) d_C_divideUp_11 (by decide) ?_
    refine st_lsub X d_C_divideUp_12 ?_
    refine st_lload_n X 1 d_C_divideUp_13 rfl rfl ?_
    obtain ⟨hb1, hw⟩ := hw
    refine st_ldiv X d_C_divideUp_14 hb1 ?_
    exact st_lret X hr () hw rfl (by decide) (by decide) d_C_divideUp_15
  · replace hw := hw.2 hc
    refine st_lconst X (v := 0) d_C_divideUp_6 (by decide) ?_
    exact st_lret X hr () hw rfl (by decide) (by decide) d_C_divideUp_7
end
section
theorem h9_St_firstSlot : y_St_firstSlot.cls ≠ "java/lang/invoke/MethodHandle" ∧ y_St_firstSlot.cls ≠ "java/lang/invoke/VarHandle" ∧ (parseMethodDescriptor y_St_firstSlot.desc).map (fun d => d.parameters.length) = some 2 := by decide +kernel
def wp_St_firstSlot (thing : Int32) (maker : Int32) (Q : Int32 → Prop) : Prop :=
  wp_K_firstSlot ((thing * 8) + maker) (fun r1 =>
  Q r1)
set_option maxHeartbeats 4000000 in
set_option maxRecDepth 100000 in
theorem k_St_firstSlot (g : GX) (hg : g.1.stackTraces = false) (a_t : Nat) (thing : Int32) (maker : Int32) (a_t_froms : Nat) (a_t_cents : Nat) (a_t_froms_keys : Nat) (a_t_froms_sizes : Nat) (Q : Int32 → Prop) (hw : wp_St_firstSlot thing maker Q) : CT g y_St_firstSlot c_St_firstSlot 3 (some .int) ({ frames := 1, cells := 0, slots := 0, locals := 21 } : Room) [.ref a_t, .int thing, .int maker] [(a_t, .inr (3, [.ref a_t_froms, .ref a_t_cents])), (a_t_froms, .inr (0, [.ref a_t_froms_keys, .ref a_t_froms_sizes]))] (QI g [(a_t, .inr (3, [.ref a_t_froms, .ref a_t_cents])), (a_t_froms, .inr (0, [.ref a_t_froms_keys, .ref a_t_froms_sizes]))] (fun u : Unit => [(a_t, .inr (3, [.ref a_t_froms, .ref a_t_cents])), (a_t_froms, .inr (0, [.ref a_t_froms_keys, .ref a_t_froms_sizes]))]) (fun r u => Q r)) := by
  refine ct_of hg (by decide) (Nat.le_of_ble_eq_true rfl) (fun sz C X hr => ?_)
  unfold wp_St_firstSlot at hw
  show ST g C [(a_t, .inr (3, [.ref a_t_froms, .ref a_t_cents])), (a_t_froms, .inr (0, [.ref a_t_froms_keys, .ref a_t_froms_sizes]))] [(0, .ref a_t), (1, .int thing), (2, .int maker)] [] 0 0 0
  refine st_aload_n X 0 d_St_firstSlot_0 rfl rfl ?_
  refine st_get X (ci := 3) in_St 0 0 wf_St_14 rfl rfl (by decide) rfl d_St_firstSlot_1 ?_
  refine st_iload_n X 1 d_St_firstSlot_4 rfl rfl ?_
  refine st_bipush X (v := 8) d_St_firstSlot_5 (by decide) ?_
  refine st_imul X d_St_firstSlot_7 ?_
  refine st_iload_n X 2 d_St_firstSlot_8 rfl rfl ?_
  refine st_iadd X d_St_firstSlot_9 ?_
  have hR := rn_VN (pc := 10) (k := 0) (n := 0) (As := [.int ((thing * 8) + maker)]) (rest := []) X (k_K_firstSlot g hg a_t_froms ((thing * 8) + maker) a_t_froms_keys a_t_froms_sizes _ hw) (q0 := 0) rfl rfl nl_St_24 wi_K_firstSlot wl_K_firstSlot wz_K wc_K_firstSlot h9_K_firstSlot ⟨by decide, by decide⟩ (Nat.le_of_ble_eq_true rfl) ⟨by decide, by decide⟩ d_St_firstSlot_10
  refine st_calli X hR [1] [0] (wr := [(a_t, .inr (3, [.ref a_t_froms, .ref a_t_cents]))]) rfl rfl (by decide) (by decide) (by decide) (fun r1 u9 hw => ?_)
  try dsimp only at hw
  refine st_widen (k2 := 0) (n2 := 0) (by decide) (by decide) ?_
  refine st_perm (ws2 := [(a_t, .inr (3, [.ref a_t_froms, .ref a_t_cents])), (a_t_froms, .inr (0, [.ref a_t_froms_keys, .ref a_t_froms_sizes]))]) [0, 1] rfl (by decide) ?_
  show ST g C [(a_t, .inr (3, [.ref a_t_froms, .ref a_t_cents])), (a_t_froms, .inr (0, [.ref a_t_froms_keys, .ref a_t_froms_sizes]))] [(0, .ref a_t), (1, .int thing), (2, .int maker)] [.int r1] 13 0 0
  exact st_iret X hr () hw rfl (by decide) (by decide) d_St_firstSlot_13

theorem h9_St_endSlot : y_St_endSlot.cls ≠ "java/lang/invoke/MethodHandle" ∧ y_St_endSlot.cls ≠ "java/lang/invoke/VarHandle" ∧ (parseMethodDescriptor y_St_endSlot.desc).map (fun d => d.parameters.length) = some 2 := by decide +kernel
def wp_St_endSlot (thing : Int32) (maker : Int32) (t_froms_sizes : Nat → Int32) (Q : Int32 → Prop) : Prop :=
  wp_K_endSlot ((thing * 8) + maker) 248 t_froms_sizes (fun r1 =>
  Q r1)
set_option maxHeartbeats 4000000 in
set_option maxRecDepth 100000 in
theorem k_St_endSlot (g : GX) (hg : g.1.stackTraces = false) (a_t : Nat) (thing : Int32) (maker : Int32) (a_t_froms : Nat) (a_t_cents : Nat) (a_t_froms_keys : Nat) (a_t_froms_sizes : Nat) (t_froms_sizes : Nat → Int32) (Q : Int32 → Prop) (hw : wp_St_endSlot thing maker t_froms_sizes Q) : CT g y_St_endSlot c_St_endSlot 3 (some .int) ({ frames := 1, cells := 0, slots := 0, locals := 21 } : Room) [.ref a_t, .int thing, .int maker] [(a_t, .inr (3, [.ref a_t_froms, .ref a_t_cents])), (a_t_froms, .inr (0, [.ref a_t_froms_keys, .ref a_t_froms_sizes])), aI g a_t_froms_sizes 248 t_froms_sizes] (QI g [(a_t, .inr (3, [.ref a_t_froms, .ref a_t_cents])), (a_t_froms, .inr (0, [.ref a_t_froms_keys, .ref a_t_froms_sizes])), aI g a_t_froms_sizes 248 t_froms_sizes] (fun u : Unit => [(a_t, .inr (3, [.ref a_t_froms, .ref a_t_cents])), (a_t_froms, .inr (0, [.ref a_t_froms_keys, .ref a_t_froms_sizes])), aI g a_t_froms_sizes 248 t_froms_sizes]) (fun r u => Q r)) := by
  refine ct_of hg (by decide) (Nat.le_of_ble_eq_true rfl) (fun sz C X hr => ?_)
  unfold wp_St_endSlot at hw
  show ST g C [(a_t, .inr (3, [.ref a_t_froms, .ref a_t_cents])), (a_t_froms, .inr (0, [.ref a_t_froms_keys, .ref a_t_froms_sizes])), aI g a_t_froms_sizes 248 t_froms_sizes] [(0, .ref a_t), (1, .int thing), (2, .int maker)] [] 0 0 0
  refine st_aload_n X 0 d_St_endSlot_0 rfl rfl ?_
  refine st_get X (ci := 3) in_St 0 0 wf_St_14 rfl rfl (by decide) rfl d_St_endSlot_1 ?_
  refine st_iload_n X 1 d_St_endSlot_4 rfl rfl ?_
  refine st_bipush X (v := 8) d_St_endSlot_5 (by decide) ?_
  refine st_imul X d_St_endSlot_7 ?_
  refine st_iload_n X 2 d_St_endSlot_8 rfl rfl ?_
  refine st_iadd X d_St_endSlot_9 ?_
  have hR := rn_VN (pc := 10) (k := 0) (n := 0) (As := [.int ((thing * 8) + maker)]) (rest := []) X (k_K_endSlot g hg a_t_froms ((thing * 8) + maker) a_t_froms_keys a_t_froms_sizes 248 t_froms_sizes _ hw) (q0 := 0) rfl rfl nl_St_28 wi_K_endSlot wl_K_endSlot wz_K wc_K_endSlot h9_K_endSlot ⟨by decide, by decide⟩ (Nat.le_of_ble_eq_true rfl) ⟨by decide, by decide⟩ d_St_endSlot_10
  refine st_calli X hR [1, 2] [0] (wr := [(a_t, .inr (3, [.ref a_t_froms, .ref a_t_cents]))]) rfl rfl (by decide) (by decide) (by decide) (fun r1 u9 hw => ?_)
  try dsimp only at hw
  refine st_widen (k2 := 0) (n2 := 0) (by decide) (by decide) ?_
  refine st_perm (ws2 := [(a_t, .inr (3, [.ref a_t_froms, .ref a_t_cents])), (a_t_froms, .inr (0, [.ref a_t_froms_keys, .ref a_t_froms_sizes])), aI g a_t_froms_sizes 248 t_froms_sizes]) [0, 1, 2] rfl (by decide) ?_
  show ST g C [(a_t, .inr (3, [.ref a_t_froms, .ref a_t_cents])), (a_t_froms, .inr (0, [.ref a_t_froms_keys, .ref a_t_froms_sizes])), aI g a_t_froms_sizes 248 t_froms_sizes] [(0, .ref a_t), (1, .int thing), (2, .int maker)] [.int r1] 13 0 0
  exact st_iret X hr () hw rfl (by decide) (by decide) d_St_endSlot_13

theorem h9_St_fromAt : y_St_fromAt.cls ≠ "java/lang/invoke/MethodHandle" ∧ y_St_fromAt.cls ≠ "java/lang/invoke/VarHandle" ∧ (parseMethodDescriptor y_St_fromAt.desc).map (fun d => d.parameters.length) = some 1 := by decide +kernel
def wp_St_fromAt (slot : Int32) (t_froms_keys : Nat → Int64) (Q : Int64 → Prop) : Prop :=
  vp_in slot 1488 ∧
  Q (t_froms_keys slot.toNatClampNeg)
set_option maxHeartbeats 4000000 in
set_option maxRecDepth 100000 in
theorem k_St_fromAt (g : GX) (hg : g.1.stackTraces = false) (a_t : Nat) (slot : Int32) (a_t_froms : Nat) (a_t_cents : Nat) (a_t_froms_keys : Nat) (a_t_froms_sizes : Nat) (t_froms_keys : Nat → Int64) (Q : Int64 → Prop) (hw : wp_St_fromAt slot t_froms_keys Q) : CT g y_St_fromAt c_St_fromAt 2 (some .long) ({ frames := 0, cells := 0, slots := 0, locals := 0 } : Room) [.ref a_t, .int slot] [(a_t, .inr (3, [.ref a_t_froms, .ref a_t_cents])), (a_t_froms, .inr (0, [.ref a_t_froms_keys, .ref a_t_froms_sizes])), aJ g a_t_froms_keys 1488 t_froms_keys] (QL g [(a_t, .inr (3, [.ref a_t_froms, .ref a_t_cents])), (a_t_froms, .inr (0, [.ref a_t_froms_keys, .ref a_t_froms_sizes])), aJ g a_t_froms_keys 1488 t_froms_keys] (fun u : Unit => [(a_t, .inr (3, [.ref a_t_froms, .ref a_t_cents])), (a_t_froms, .inr (0, [.ref a_t_froms_keys, .ref a_t_froms_sizes])), aJ g a_t_froms_keys 1488 t_froms_keys]) (fun r u => Q r)) := by
  refine ct_of hg (by decide) (Nat.le_of_ble_eq_true rfl) (fun sz C X hr => ?_)
  unfold wp_St_fromAt at hw
  show ST g C [(a_t, .inr (3, [.ref a_t_froms, .ref a_t_cents])), (a_t_froms, .inr (0, [.ref a_t_froms_keys, .ref a_t_froms_sizes])), aJ g a_t_froms_keys 1488 t_froms_keys] [(0, .ref a_t), (1, .int slot)] [] 0 0 0
  refine st_aload_n X 0 d_St_fromAt_0 rfl rfl ?_
  refine st_get X (ci := 3) in_St 0 0 wf_St_14 rfl rfl (by decide) rfl d_St_fromAt_1 ?_
  refine st_getN X (ci := 0) in_K 1 0 nf_St_31 rfl rfl (by decide) rfl d_St_fromAt_4 ?_
  refine st_iload_n X 1 d_St_fromAt_7 rfl rfl ?_
  obtain ⟨hb1, hw⟩ := hw
  refine st_lald X 2 rfl hb1 d_St_fromAt_8 ?_
  exact st_lret X hr () hw rfl (by decide) (by decide) d_St_fromAt_9

theorem h9_St_tell : y_St_tell.cls ≠ "java/lang/invoke/MethodHandle" ∧ y_St_tell.cls ≠ "java/lang/invoke/VarHandle" ∧ (parseMethodDescriptor y_St_tell.desc).map (fun d => d.parameters.length) = some 4 := by decide +kernel
def wp_St_tell_J41 (u1 : Nat → Int64) (u2 : Nat → Int32) (Q : Int32 → (Nat → Int64) → (Nat → Int32) → (Nat → Int64) → Prop) (v4 : Int32) (f5 : Nat → Int64) : Prop :=
  (v4 = 0 ∨ v4 = 1) ∧ Q v4 u1 u2 f5
def wp_St_tell_J40 (u1 : Nat → Int64) (u2 : Nat → Int32) (Q : Int32 → (Nat → Int64) → (Nat → Int32) → (Nat → Int64) → Prop) (f6 : Nat → Int64) : Prop :=
  wp_St_tell_J41 u1 u2 Q 0 f6
def wp_St_tell (thing : Int32) (maker : Int32) (from_ : Int64) (price : Int64) (t_froms_keys : Nat → Int64) (t_froms_sizes : Nat → Int32) (t_cents : Nat → Int64) (Q : Int32 → (Nat → Int64) → (Nat → Int32) → (Nat → Int64) → Prop) : Prop :=
  wp_K_slotFor ((thing * 8) + maker) from_ 1488 t_froms_keys 248 t_froms_sizes (fun r3 u1 u2 =>
  ((r3 = (-1)) → wp_St_tell_J40 u1 u2 Q t_cents) ∧
  ((¬ r3 = (-1)) → wp_C_tellNumber r3 price 1488 t_cents (fun r8 u7 =>
  ((r8 = 0) → wp_St_tell_J40 u1 u2 Q u7) ∧
  ((¬ r8 = 0) → wp_St_tell_J41 u1 u2 Q 1 u7))))
set_option maxHeartbeats 4000000 in
set_option maxRecDepth 100000 in
theorem k_St_tell (g : GX) (hg : g.1.stackTraces = false) (a_t : Nat) (thing : Int32) (maker : Int32) (from_ : Int64) (price : Int64) (a_t_froms : Nat) (a_t_cents : Nat) (a_t_froms_keys : Nat) (a_t_froms_sizes : Nat) (t_froms_keys : Nat → Int64) (t_froms_sizes : Nat → Int32) (t_cents : Nat → Int64) (Q : Int32 → (Nat → Int64) → (Nat → Int32) → (Nat → Int64) → Prop) (hw : wp_St_tell thing maker from_ price t_froms_keys t_froms_sizes t_cents Q) : CT g y_St_tell c_St_tell 8 (some .boolean) ({ frames := 2, cells := 0, slots := 0, locals := 46 } : Room) [.ref a_t, .int thing, .int maker, .long from_, .long price] [(a_t, .inr (3, [.ref a_t_froms, .ref a_t_cents])), (a_t_froms, .inr (0, [.ref a_t_froms_keys, .ref a_t_froms_sizes])), aJ g a_t_froms_keys 1488 t_froms_keys, aI g a_t_froms_sizes 248 t_froms_sizes, aJ g a_t_cents 1488 t_cents] (QI g [(a_t, .inr (3, [.ref a_t_froms, .ref a_t_cents])), (a_t_froms, .inr (0, [.ref a_t_froms_keys, .ref a_t_froms_sizes])), aJ g a_t_froms_keys 1488 t_froms_keys, aI g a_t_froms_sizes 248 t_froms_sizes, aJ g a_t_cents 1488 t_cents] (fun u : (Nat → Int64) × (Nat → Int32) × (Nat → Int64) => [(a_t, .inr (3, [.ref a_t_froms, .ref a_t_cents])), (a_t_froms, .inr (0, [.ref a_t_froms_keys, .ref a_t_froms_sizes])), aJ g a_t_froms_keys 1488 u.1, aI g a_t_froms_sizes 248 u.2.1, aJ g a_t_cents 1488 u.2.2]) (fun r u => Q r u.1 u.2.1 u.2.2)) := by
  refine ct_of hg (by decide) (Nat.le_of_ble_eq_true rfl) (fun sz C X hr => ?_)
  unfold wp_St_tell at hw
  show ST g C [(a_t, .inr (3, [.ref a_t_froms, .ref a_t_cents])), (a_t_froms, .inr (0, [.ref a_t_froms_keys, .ref a_t_froms_sizes])), aJ g a_t_froms_keys 1488 t_froms_keys, aI g a_t_froms_sizes 248 t_froms_sizes, aJ g a_t_cents 1488 t_cents] [(0, .ref a_t), (1, .int thing), (2, .int maker), (3, .long from_), (5, .long price)] [] 0 0 0
  refine st_aload_n X 0 d_St_tell_0 rfl rfl ?_
  refine st_get X (ci := 3) in_St 0 0 wf_St_14 rfl rfl (by decide) rfl d_St_tell_1 ?_
  refine st_iload_n X 1 d_St_tell_4 rfl rfl ?_
  refine st_bipush X (v := 8) d_St_tell_5 (by decide) ?_
  refine st_imul X d_St_tell_7 ?_
  refine st_iload_n X 2 d_St_tell_8 rfl rfl ?_
  refine st_iadd X d_St_tell_9 ?_
  refine st_lload_n X 3 d_St_tell_10 rfl rfl ?_
  have hR := rn_VN (pc := 11) (k := 0) (n := 0) (As := [.int ((thing * 8) + maker), .long from_]) (rest := []) X (k_K_slotFor g hg a_t_froms ((thing * 8) + maker) from_ a_t_froms_keys a_t_froms_sizes 1488 t_froms_keys 248 t_froms_sizes _ hw) (q0 := 0) rfl rfl nl_St_34 wi_K_slotFor wl_K_slotFor wz_K wc_K_slotFor h9_K_slotFor ⟨by decide, by decide⟩ (Nat.le_of_ble_eq_true rfl) ⟨by decide, by decide⟩ d_St_tell_11
  refine st_calli X hR [1, 2, 3] [0, 4] (wr := [(a_t, .inr (3, [.ref a_t_froms, .ref a_t_cents])), aJ g a_t_cents 1488 t_cents]) rfl rfl (by decide) (by decide) (by decide) (fun r3 u9 hw => ?_)
  obtain ⟨u1, u2⟩ := u9
  try dsimp only at hw
  refine st_widen (k2 := 0) (n2 := 0) (by decide) (by decide) ?_
  refine st_perm (ws2 := [(a_t, .inr (3, [.ref a_t_froms, .ref a_t_cents])), (a_t_froms, .inr (0, [.ref a_t_froms_keys, .ref a_t_froms_sizes])), aJ g a_t_froms_keys 1488 u1, aI g a_t_froms_sizes 248 u2, aJ g a_t_cents 1488 t_cents]) [0, 2, 3, 4, 1] rfl (by decide) ?_
  show ST g C [(a_t, .inr (3, [.ref a_t_froms, .ref a_t_cents])), (a_t_froms, .inr (0, [.ref a_t_froms_keys, .ref a_t_froms_sizes])), aJ g a_t_froms_keys 1488 u1, aI g a_t_froms_sizes 248 u2, aJ g a_t_cents 1488 t_cents] [(0, .ref a_t), (1, .int thing), (2, .int maker), (3, .long from_), (5, .long price)] [.int r3] 14 0 0
  refine st_istore X (lv2 := [(7, .int r3), (0, .ref a_t), (1, .int thing), (2, .int maker), (3, .long from_), (5, .long price)]) d_St_tell_14 (by decide) rfl ?_
  refine st_iload X 0 d_St_tell_16 rfl ?_
  refine st_iconst X (v := (-1)) d_St_tell_18 (by decide) ?_
  have J41 : ∀ (v4 : Int32) (f5 : Nat → Int64), wp_St_tell_J41 u1 u2 Q v4 f5 → ST g C [(a_t, .inr (3, [.ref a_t_froms, .ref a_t_cents])), (a_t_froms, .inr (0, [.ref a_t_froms_keys, .ref a_t_froms_sizes])), aJ g a_t_froms_keys 1488 u1, aI g a_t_froms_sizes 248 u2, aJ g a_t_cents 1488 f5] [(0, .ref a_t), (1, .int thing), (2, .int maker), (3, .long from_), (5, .long price), (7, .int r3)] [.int v4] 41 0 0 := by
    intro v4 f5 hw
    unfold wp_St_tell_J41 at hw
    obtain ⟨hz, hw⟩ := hw
    exact st_zret X hr (u1, u2, f5) hw hz rfl (by decide) (by decide) d_St_tell_41
  have J40 : ∀ (f6 : Nat → Int64), wp_St_tell_J40 u1 u2 Q f6 → ST g C [(a_t, .inr (3, [.ref a_t_froms, .ref a_t_cents])), (a_t_froms, .inr (0, [.ref a_t_froms_keys, .ref a_t_froms_sizes])), aJ g a_t_froms_keys 1488 u1, aI g a_t_froms_sizes 248 u2, aJ g a_t_cents 1488 f6] [(0, .ref a_t), (1, .int thing), (2, .int maker), (3, .long from_), (5, .long price), (7, .int r3)] [] 40 0 0 := by
    intro f6 hw
    unfold wp_St_tell_J40 at hw
    refine st_iconst X (v := 0) d_St_tell_40 (by decide) ?_
    refine st_lv [0, 1, 2, 3, 4, 5] rfl ?_
    exact J41 0 f6 hw
  refine st_icmp_eq X 40 d_St_tell_19 (by decide) (fun hc => ?_) (fun hc => ?_)
  · replace hw := hw.1 hc
    refine st_lv [1, 2, 3, 4, 5, 0] rfl ?_
    exact J40 t_cents hw
  · replace hw := hw.2 hc
    refine st_aload_n X 1 d_St_tell_22 rfl rfl ?_
    refine st_get X (ci := 3) in_St 0 1 wf_St_20 rfl rfl (by decide) rfl d_St_tell_23 ?_
    refine st_iload X 0 d_St_tell_26 rfl ?_
    refine st_lload X 5 d_St_tell_28 rfl ?_
    have hR := rn_SN (pc := 30) (k := 0) (n := 0) (As := [.ref a_t_cents, .int r3, .long price]) (rest := []) X (k_C_tellNumber g hg a_t_cents r3 price 1488 t_cents _ hw) nl_St_38 ws_C_tellNumber wz_C wc_C_tellNumber h9_C_tellNumber ⟨by decide, by decide⟩ (Nat.le_of_ble_eq_true rfl) ⟨by decide, by decide⟩ d_St_tell_30
    refine st_calli X hR [4] [0, 1, 2, 3] (wr := [(a_t, .inr (3, [.ref a_t_froms, .ref a_t_cents])), (a_t_froms, .inr (0, [.ref a_t_froms_keys, .ref a_t_froms_sizes])), aJ g a_t_froms_keys 1488 u1, aI g a_t_froms_sizes 248 u2]) rfl rfl (by decide) (by decide) (by decide) (fun r8 u9 hw => ?_)
    obtain ⟨u7, hu9⟩ : ∃ z, z = u9 := ⟨_, rfl⟩
    subst hu9
    try dsimp only at hw
    refine st_widen (k2 := 0) (n2 := 0) (by decide) (by decide) ?_
    refine st_perm (ws2 := [(a_t, .inr (3, [.ref a_t_froms, .ref a_t_cents])), (a_t_froms, .inr (0, [.ref a_t_froms_keys, .ref a_t_froms_sizes])), aJ g a_t_froms_keys 1488 u1, aI g a_t_froms_sizes 248 u2, aJ g a_t_cents 1488 u7]) [0, 1, 2, 3, 4] rfl (by decide) ?_
    show ST g C [(a_t, .inr (3, [.ref a_t_froms, .ref a_t_cents])), (a_t_froms, .inr (0, [.ref a_t_froms_keys, .ref a_t_froms_sizes])), aJ g a_t_froms_keys 1488 u1, aI g a_t_froms_sizes 248 u2, aJ g a_t_cents 1488 u7] [(7, .int r3), (0, .ref a_t), (1, .int thing), (2, .int maker), (3, .long from_), (5, .long price)] [.int r8] 33 0 0
    refine st_if_eq X 40 d_St_tell_33 (by decide) (fun hc => ?_) (fun hc => ?_)
    · replace hw := hw.1 hc
      refine st_lv [1, 2, 3, 4, 5, 0] rfl ?_
      exact J40 u7 hw
    · replace hw := hw.2 hc
      refine st_iconst X (v := 1) d_St_tell_36 (by decide) ?_
      refine st_goto X 41 d_St_tell_37 (by decide) ?_
      refine st_lv [1, 2, 3, 4, 5, 0] rfl ?_
      exact J41 1 u7 hw
end
section
theorem h9_Y_add : y_Y_add.cls ≠ "java/lang/invoke/MethodHandle" ∧ y_Y_add.cls ≠ "java/lang/invoke/VarHandle" ∧ (parseMethodDescriptor y_Y_add.desc).map (fun d => d.parameters.length) = some 2 := by decide +kernel
def wp_Y_add (above : Int64) (below : Int64) (t_count : Int32) (t_aboves : Nat → Int64) (t_belows : Nat → Int64) (Q : Int32 → Int32 → (Nat → Int64) → (Nat → Int64) → Prop) : Prop :=
  ((t_count < 8) → vp_in t_count 8 ∧
  ∀ f1 : Nat → Int64, f1 = vp_updL t_aboves t_count.toNatClampNeg above →
  vp_in t_count 8 ∧
  ∀ f2 : Nat → Int64, f2 = vp_updL t_belows t_count.toNatClampNeg below →
  ∀ x3 : Int32, x3 = t_count + 1 →
  ((1 : Int32) = 0 ∨ (1 : Int32) = 1) ∧ Q 1 x3 f1 f2) ∧
  ((¬ t_count < 8) → ((0 : Int32) = 0 ∨ (0 : Int32) = 1) ∧ Q 0 t_count t_aboves t_belows)
set_option maxHeartbeats 4000000 in
set_option maxRecDepth 100000 in
theorem k_Y_add (g : GX) (hg : g.1.stackTraces = false) (a_t : Nat) (above : Int64) (below : Int64) (a_t_aboves : Nat) (a_t_belows : Nat) (t_count : Int32) (t_aboves : Nat → Int64) (t_belows : Nat → Int64) (Q : Int32 → Int32 → (Nat → Int64) → (Nat → Int64) → Prop) (hw : wp_Y_add above below t_count t_aboves t_belows Q) : CT g y_Y_add c_Y_add 5 (some .boolean) ({ frames := 0, cells := 0, slots := 0, locals := 0 } : Room) [.ref a_t, .long above, .long below] [(a_t, .inr (4, [.ref a_t_aboves, .ref a_t_belows, .int t_count])), aJ g a_t_aboves 8 t_aboves, aJ g a_t_belows 8 t_belows] (QI g [(a_t, .inr (4, [.ref a_t_aboves, .ref a_t_belows, .int t_count])), aJ g a_t_aboves 8 t_aboves, aJ g a_t_belows 8 t_belows] (fun u : Int32 × (Nat → Int64) × (Nat → Int64) => [(a_t, .inr (4, [.ref a_t_aboves, .ref a_t_belows, .int u.1])), aJ g a_t_aboves 8 u.2.1, aJ g a_t_belows 8 u.2.2]) (fun r u => Q r u.1 u.2.1 u.2.2)) := by
  refine ct_of hg (by decide) (Nat.le_of_ble_eq_true rfl) (fun sz C X hr => ?_)
  unfold wp_Y_add at hw
  show ST g C [(a_t, .inr (4, [.ref a_t_aboves, .ref a_t_belows, .int t_count])), aJ g a_t_aboves 8 t_aboves, aJ g a_t_belows 8 t_belows] [(0, .ref a_t), (1, .long above), (3, .long below)] [] 0 0 0
  refine st_aload_n X 0 d_Y_add_0 rfl rfl ?_
  refine st_get X (ci := 4) in_Y 0 2 wf_Y_18 rfl rfl (by decide) rfl d_Y_add_1 ?_
  refine st_bipush X (v := 8) d_Y_add_4 (by decide) ?_
  refine st_icmp_lt X 11 d_Y_add_6 (by decide) (fun hc => ?_) (fun hc => ?_)
  · replace hw := hw.1 hc
    refine st_aload_n X 0 d_Y_add_11 rfl rfl ?_
    refine st_get X (ci := 4) in_Y 0 0 wf_Y_9 rfl rfl (by decide) rfl d_Y_add_12 ?_
    refine st_aload_n X 0 d_Y_add_15 rfl rfl ?_
    refine st_get X (ci := 4) in_Y 0 2 wf_Y_18 rfl rfl (by decide) rfl d_Y_add_16 ?_
    refine st_lload_n X 1 d_Y_add_19 rfl rfl ?_
    obtain ⟨hb1, hw⟩ := hw
    obtain ⟨f1, hf1⟩ : ∃ z : Nat → Int64, z = vp_updL t_aboves t_count.toNatClampNeg above := ⟨_, rfl⟩
    replace hw := hw f1 hf1
    refine st_last X (ws2 := [(a_t, .inr (4, [.ref a_t_aboves, .ref a_t_belows, .int t_count])), aJ g a_t_aboves 8 f1, aJ g a_t_belows 8 t_belows]) 1 rfl hb1 (by rw [hf1]; rfl) d_Y_add_20 ?_
    refine st_aload_n X 0 d_Y_add_21 rfl rfl ?_
    refine st_get X (ci := 4) in_Y 0 1 wf_Y_15 rfl rfl (by decide) rfl d_Y_add_22 ?_
    refine st_aload_n X 0 d_Y_add_25 rfl rfl ?_
    refine st_get X (ci := 4) in_Y 0 2 wf_Y_18 rfl rfl (by decide) rfl d_Y_add_26 ?_
    refine st_lload_n X 2 d_Y_add_29 rfl rfl ?_
    obtain ⟨hb2, hw⟩ := hw
    obtain ⟨f2, hf2⟩ : ∃ z : Nat → Int64, z = vp_updL t_belows t_count.toNatClampNeg below := ⟨_, rfl⟩
    replace hw := hw f2 hf2
    refine st_last X (ws2 := [(a_t, .inr (4, [.ref a_t_aboves, .ref a_t_belows, .int t_count])), aJ g a_t_aboves 8 f1, aJ g a_t_belows 8 f2]) 2 rfl hb2 (by rw [hf2]; rfl) d_Y_add_30 ?_
    refine st_aload_n X 0 d_Y_add_31 rfl rfl ?_
    refine st_dup X d_Y_add_32 rfl ?_
    refine st_get X (ci := 4) in_Y 0 2 wf_Y_18 rfl rfl (by decide) rfl d_Y_add_33 ?_
    refine st_iconst X (v := 1) d_Y_add_36 (by decide) ?_
    refine st_iadd X d_Y_add_37 ?_
    refine st_topi (fun x3 hx3 => ?_)
    replace hw := hw x3 hx3
    refine st_put X (ci := 4) (ty := .int) in_Y t_Y to_Y nm_Y 0 2 wf_Y_18 rfl rfl (by decide) rfl (by decide +kernel) rfl rfl (Nat.le_of_ble_eq_true rfl) (ws2 := [(a_t, .inr (4, [.ref a_t_aboves, .ref a_t_belows, .int x3])), aJ g a_t_aboves 8 f1, aJ g a_t_belows 8 f2]) rfl d_Y_add_38 ?_
    refine st_iconst X (v := 1) d_Y_add_41 (by decide) ?_
    obtain ⟨hz, hw⟩ := hw
    exact st_zret X hr (x3, f1, f2) hw hz rfl (by decide) (by decide) d_Y_add_42
  · replace hw := hw.2 hc
    refine st_iconst X (v := 0) d_Y_add_9 (by decide) ?_
    obtain ⟨hz, hw⟩ := hw
    exact st_zret X hr (t_count, t_aboves, t_belows) hw hz rfl (by decide) (by decide) d_Y_add_10

theorem h9_Y_startedFor : y_Y_startedFor.cls ≠ "java/lang/invoke/MethodHandle" ∧ y_Y_startedFor.cls ≠ "java/lang/invoke/VarHandle" ∧ (parseMethodDescriptor y_Y_startedFor.desc).map (fun d => d.parameters.length) = some 1 := by decide +kernel
def wp_Y_startedFor_J49 (v2 : Int64) (Q : Int64 → Prop) : Prop :=
  Q v2
def wp_Y_startedFor_L10 (t_aboves : Nat → Int64) (t_belows : Nat → Int64) (Q : Int64 → Prop) : Nat → Int64 → Int32 → Prop
  | 0, _, _ => False
  | n10 + 1, v2, v3 =>
  ((v3 < 0) → wp_Y_startedFor_J49 v2 Q) ∧
  ((¬ v3 < 0) → ((1000000000 < v2) → wp_Y_startedFor_J49 v2 Q) ∧
  ((¬ 1000000000 < v2) → vp_in v3 8 ∧
  vp_in v3 8 ∧
  wp_C_divideUp (v2 * (t_belows v3.toNatClampNeg)) (t_aboves v3.toNatClampNeg) (fun r4 =>
  ∀ x5 : Int32, x5 = v3 + (-1) →
  (wp_Y_startedFor_L10 t_aboves t_belows Q n10) r4 x5)))
def wp_Y_startedFor (quantity : Int64) (t_count : Int32) (t_aboves : Nat → Int64) (t_belows : Nat → Int64) (Q : Int64 → Prop) : Prop :=
  ∀ x1 : Int32, x1 = t_count - 1 →
  ∃ n10 : Nat, wp_Y_startedFor_L10 t_aboves t_belows Q n10 quantity x1
set_option maxHeartbeats 4000000 in
set_option maxRecDepth 100000 in
theorem k_Y_startedFor (g : GX) (hg : g.1.stackTraces = false) (a_t : Nat) (quantity : Int64) (a_t_aboves : Nat) (a_t_belows : Nat) (t_count : Int32) (t_aboves : Nat → Int64) (t_belows : Nat → Int64) (Q : Int64 → Prop) (hw : wp_Y_startedFor quantity t_count t_aboves t_belows Q) : CT g y_Y_startedFor c_Y_startedFor 6 (some .long) ({ frames := 1, cells := 0, slots := 0, locals := 23 } : Room) [.ref a_t, .long quantity] [(a_t, .inr (4, [.ref a_t_aboves, .ref a_t_belows, .int t_count])), aJ g a_t_aboves 8 t_aboves, aJ g a_t_belows 8 t_belows] (QL g [(a_t, .inr (4, [.ref a_t_aboves, .ref a_t_belows, .int t_count])), aJ g a_t_aboves 8 t_aboves, aJ g a_t_belows 8 t_belows] (fun u : Unit => [(a_t, .inr (4, [.ref a_t_aboves, .ref a_t_belows, .int t_count])), aJ g a_t_aboves 8 t_aboves, aJ g a_t_belows 8 t_belows]) (fun r u => Q r)) := by
  refine ct_of hg (by decide) (Nat.le_of_ble_eq_true rfl) (fun sz C X hr => ?_)
  unfold wp_Y_startedFor at hw
  show ST g C [(a_t, .inr (4, [.ref a_t_aboves, .ref a_t_belows, .int t_count])), aJ g a_t_aboves 8 t_aboves, aJ g a_t_belows 8 t_belows] [(0, .ref a_t), (1, .long quantity)] [] 0 0 0
  refine st_lload_n X 1 d_Y_startedFor_0 rfl rfl ?_
  refine st_lstore_n X (lv2 := [(3, .long quantity), (0, .ref a_t), (1, .long quantity)]) d_Y_startedFor_1 rfl (by decide) rfl ?_
  refine st_aload_n X 1 d_Y_startedFor_2 rfl rfl ?_
  refine st_get X (ci := 4) in_Y 0 2 wf_Y_18 rfl rfl (by decide) rfl d_Y_startedFor_3 ?_
  refine st_iconst X (v := 1) d_Y_startedFor_6 (by decide) ?_
  refine st_isub X d_Y_startedFor_7 ?_
  refine st_topi (fun x1 hx1 => ?_)
  replace hw := hw x1 hx1
  refine st_istore X (lv2 := [(5, .int x1), (3, .long quantity), (0, .ref a_t), (1, .long quantity)]) d_Y_startedFor_8 (by decide) rfl ?_
  have L10 : ∀ (n10 : Nat) (v2 : Int64) (v3 : Int32), wp_Y_startedFor_L10 t_aboves t_belows Q n10 v2 v3 → ST g C [(a_t, .inr (4, [.ref a_t_aboves, .ref a_t_belows, .int t_count])), aJ g a_t_aboves 8 t_aboves, aJ g a_t_belows 8 t_belows] [(0, .ref a_t), (1, .long quantity), (3, .long v2), (5, .int v3)] [] 10 0 0 := by
    intro n10
    induction n10 with
    | zero => intro v2 v3 hw; exact hw.elim
    | succ n10 ih10 =>
      intro v2 v3 hw
      rw [wp_Y_startedFor_L10] at hw
      refine st_iload X 3 d_Y_startedFor_10 rfl ?_
      have J49 : wp_Y_startedFor_J49 v2 Q → ST g C [(a_t, .inr (4, [.ref a_t_aboves, .ref a_t_belows, .int t_count])), aJ g a_t_aboves 8 t_aboves, aJ g a_t_belows 8 t_belows] [(0, .ref a_t), (1, .long quantity), (3, .long v2), (5, .int v3)] [] 49 0 0 := by
        intro hw
        unfold wp_Y_startedFor_J49 at hw
        refine st_lload_n X 2 d_Y_startedFor_49 rfl rfl ?_
        exact st_lret X hr () hw rfl (by decide) (by decide) d_Y_startedFor_50
      refine st_if_lt X 49 d_Y_startedFor_12 (by decide) (fun hc => ?_) (fun hc => ?_)
      · replace hw := hw.1 hc
        refine st_lv [0, 1, 2, 3] rfl ?_
        exact J49 hw
      · replace hw := hw.2 hc
        refine st_lload_n X 2 d_Y_startedFor_15 rfl rfl ?_
        refine st_ldc2 X wv_Y_22 d_Y_startedFor_16 ?_
        refine st_lcmp_gt X 49 d_Y_startedFor_19 d_Y_startedFor_20 (by decide) (fun hc => ?_) (fun hc => ?_)
        · replace hw := hw.1 hc
          refine st_lv [0, 1, 2, 3] rfl ?_
          exact J49 hw
        · replace hw := hw.2 hc
          refine st_lload_n X 2 d_Y_startedFor_23 rfl rfl ?_
          refine st_aload_n X 0 d_Y_startedFor_24 rfl rfl ?_
          refine st_get X (ci := 4) in_Y 0 1 wf_Y_15 rfl rfl (by decide) rfl d_Y_startedFor_25 ?_
          refine st_iload X 3 d_Y_startedFor_28 rfl ?_
          obtain ⟨hb1, hw⟩ := hw
          refine st_lald X 2 rfl hb1 d_Y_startedFor_30 ?_
          refine st_lmul X d_Y_startedFor_31 ?_
          refine st_aload_n X 0 d_Y_startedFor_32 rfl rfl ?_
          refine st_get X (ci := 4) in_Y 0 0 wf_Y_9 rfl rfl (by decide) rfl d_Y_startedFor_33 ?_
          refine st_iload X 3 d_Y_startedFor_36 rfl ?_
          obtain ⟨hb2, hw⟩ := hw
          refine st_lald X 1 rfl hb2 d_Y_startedFor_38 ?_
          have hR := rn_SN (pc := 39) (k := 0) (n := 0) (As := [.long (v2 * (t_belows v3.toNatClampNeg)), .long (t_aboves v3.toNatClampNeg)]) (rest := []) X (k_C_divideUp g hg (v2 * (t_belows v3.toNatClampNeg)) (t_aboves v3.toNatClampNeg) _ hw) nl_Y_24 ws_C_divideUp wz_C wc_C_divideUp h9_C_divideUp ⟨by decide, by decide⟩ (Nat.le_of_ble_eq_true rfl) ⟨by decide, by decide⟩ d_Y_startedFor_39
          refine st_calll X hR [] [0, 1, 2] (wr := [(a_t, .inr (4, [.ref a_t_aboves, .ref a_t_belows, .int t_count])), aJ g a_t_aboves 8 t_aboves, aJ g a_t_belows 8 t_belows]) rfl rfl (by decide) (by decide) (by decide) (fun r4 u9 hw => ?_)
          try dsimp only at hw
          refine st_widen (k2 := 0) (n2 := 0) (by decide) (by decide) ?_
          refine st_perm (ws2 := [(a_t, .inr (4, [.ref a_t_aboves, .ref a_t_belows, .int t_count])), aJ g a_t_aboves 8 t_aboves, aJ g a_t_belows 8 t_belows]) [0, 1, 2] rfl (by decide) ?_
          show ST g C [(a_t, .inr (4, [.ref a_t_aboves, .ref a_t_belows, .int t_count])), aJ g a_t_aboves 8 t_aboves, aJ g a_t_belows 8 t_belows] [(0, .ref a_t), (1, .long quantity), (3, .long v2), (5, .int v3)] [.long r4] 42 0 0
          refine st_lstore_n X (lv2 := [(3, .long r4), (0, .ref a_t), (1, .long quantity), (5, .int v3)]) d_Y_startedFor_42 rfl (by decide) rfl ?_
          obtain ⟨x5, hx5⟩ : ∃ z : Int32, z = v3 + (-1) := ⟨_, rfl⟩
          replace hw := hw x5 hx5
          refine st_iinc X (v := x5) (lv2 := [(5, .int x5), (3, .long r4), (0, .ref a_t), (1, .long quantity)]) 3 d_Y_startedFor_43 rfl (by rw [hx5]; rfl) (by decide) rfl ?_
          refine st_goto X 10 d_Y_startedFor_46 (by decide) ?_
          refine st_lv [2, 3, 1, 0] rfl ?_
          exact ih10 r4 x5 hw
  obtain ⟨n10, hw⟩ := hw
  refine st_lv [2, 3, 1, 0] rfl ?_
  exact L10 n10 quantity x1 hw
end
section
theorem h9_Ra_tell : y_Ra_tell.cls ≠ "java/lang/invoke/MethodHandle" ∧ y_Ra_tell.cls ≠ "java/lang/invoke/VarHandle" ∧ (parseMethodDescriptor y_Ra_tell.desc).map (fun d => d.parameters.length) = some 4 := by decide +kernel
def wp_Ra_tell_J60 (u1 : Nat → Int64) (u2 : Nat → Int32) (u4 : Nat → Int64) (u6 : Nat → Int64) (Q : Int32 → (Nat → Int64) → (Nat → Int32) → (Nat → Int64) → (Nat → Int64) → Prop) (v8 : Int32) : Prop :=
  (v8 = 0 ∨ v8 = 1) ∧ Q v8 u1 u2 u4 u6
def wp_Ra_tell_J55 (u1 : Nat → Int64) (u2 : Nat → Int32) (u4 : Nat → Int64) (u6 : Nat → Int64) (Q : Int32 → (Nat → Int64) → (Nat → Int32) → (Nat → Int64) → (Nat → Int64) → Prop) : Prop :=
  wp_Ra_tell_J60 u1 u2 u4 u6 Q 1
def wp_Ra_tell (maker : Int32) (day : Int64) (above : Int64) (below : Int64) (t_days_keys : Nat → Int64) (t_days_sizes : Nat → Int32) (t_aboves : Nat → Int64) (t_belows : Nat → Int64) (Q : Int32 → (Nat → Int64) → (Nat → Int32) → (Nat → Int64) → (Nat → Int64) → Prop) : Prop :=
  wp_K_slotFor maker day 48 t_days_keys 8 t_days_sizes (fun r3 u1 u2 =>
  ((¬ r3 = (-1)) → wp_C_tellNumber r3 above 48 t_aboves (fun r5 u4 =>
  wp_C_tellNumber r3 below 48 t_belows (fun r7 u6 =>
  ((¬ r5 = 0) → wp_Ra_tell_J55 u1 u2 u4 u6 Q) ∧
  ((r5 = 0) → ((r7 = 0) → wp_Ra_tell_J60 u1 u2 u4 u6 Q 0) ∧
  ((¬ r7 = 0) → wp_Ra_tell_J55 u1 u2 u4 u6 Q))))) ∧
  ((r3 = (-1)) → ((0 : Int32) = 0 ∨ (0 : Int32) = 1) ∧ Q 0 u1 u2 t_aboves t_belows))
set_option maxHeartbeats 4000000 in
set_option maxRecDepth 100000 in
theorem k_Ra_tell (g : GX) (hg : g.1.stackTraces = false) (a_t : Nat) (maker : Int32) (day : Int64) (above : Int64) (below : Int64) (a_t_days : Nat) (a_t_aboves : Nat) (a_t_belows : Nat) (a_t_aboveNow : Nat) (a_t_belowNow : Nat) (a_t_days_keys : Nat) (a_t_days_sizes : Nat) (t_days_keys : Nat → Int64) (t_days_sizes : Nat → Int32) (t_aboves : Nat → Int64) (t_belows : Nat → Int64) (Q : Int32 → (Nat → Int64) → (Nat → Int32) → (Nat → Int64) → (Nat → Int64) → Prop) (hw : wp_Ra_tell maker day above below t_days_keys t_days_sizes t_aboves t_belows Q) : CT g y_Ra_tell c_Ra_tell 11 (some .boolean) ({ frames := 2, cells := 0, slots := 0, locals := 46 } : Room) [.ref a_t, .int maker, .long day, .long above, .long below] [(a_t, .inr (2, [.ref a_t_days, .ref a_t_aboves, .ref a_t_belows, .ref a_t_aboveNow, .ref a_t_belowNow])), (a_t_days, .inr (0, [.ref a_t_days_keys, .ref a_t_days_sizes])), aJ g a_t_days_keys 48 t_days_keys, aI g a_t_days_sizes 8 t_days_sizes, aJ g a_t_aboves 48 t_aboves, aJ g a_t_belows 48 t_belows] (QI g [(a_t, .inr (2, [.ref a_t_days, .ref a_t_aboves, .ref a_t_belows, .ref a_t_aboveNow, .ref a_t_belowNow])), (a_t_days, .inr (0, [.ref a_t_days_keys, .ref a_t_days_sizes])), aJ g a_t_days_keys 48 t_days_keys, aI g a_t_days_sizes 8 t_days_sizes, aJ g a_t_aboves 48 t_aboves, aJ g a_t_belows 48 t_belows] (fun u : (Nat → Int64) × (Nat → Int32) × (Nat → Int64) × (Nat → Int64) => [(a_t, .inr (2, [.ref a_t_days, .ref a_t_aboves, .ref a_t_belows, .ref a_t_aboveNow, .ref a_t_belowNow])), (a_t_days, .inr (0, [.ref a_t_days_keys, .ref a_t_days_sizes])), aJ g a_t_days_keys 48 u.1, aI g a_t_days_sizes 8 u.2.1, aJ g a_t_aboves 48 u.2.2.1, aJ g a_t_belows 48 u.2.2.2]) (fun r u => Q r u.1 u.2.1 u.2.2.1 u.2.2.2)) := by
  refine ct_of hg (by decide) (Nat.le_of_ble_eq_true rfl) (fun sz C X hr => ?_)
  unfold wp_Ra_tell at hw
  show ST g C [(a_t, .inr (2, [.ref a_t_days, .ref a_t_aboves, .ref a_t_belows, .ref a_t_aboveNow, .ref a_t_belowNow])), (a_t_days, .inr (0, [.ref a_t_days_keys, .ref a_t_days_sizes])), aJ g a_t_days_keys 48 t_days_keys, aI g a_t_days_sizes 8 t_days_sizes, aJ g a_t_aboves 48 t_aboves, aJ g a_t_belows 48 t_belows] [(0, .ref a_t), (1, .int maker), (2, .long day), (4, .long above), (6, .long below)] [] 0 0 0
  refine st_aload_n X 0 d_Ra_tell_0 rfl rfl ?_
  refine st_get X (ci := 2) in_Ra 0 0 wf_Ra_14 rfl rfl (by decide) rfl d_Ra_tell_1 ?_
  refine st_iload_n X 1 d_Ra_tell_4 rfl rfl ?_
  refine st_lload_n X 2 d_Ra_tell_5 rfl rfl ?_
  have hR := rn_VN (pc := 6) (k := 0) (n := 0) (As := [.int maker, .long day]) (rest := []) X (k_K_slotFor g hg a_t_days maker day a_t_days_keys a_t_days_sizes 48 t_days_keys 8 t_days_sizes _ hw) (q0 := 0) rfl rfl nl_Ra_33 wi_K_slotFor wl_K_slotFor wz_K wc_K_slotFor h9_K_slotFor ⟨by decide, by decide⟩ (Nat.le_of_ble_eq_true rfl) ⟨by decide, by decide⟩ d_Ra_tell_6
  refine st_calli X hR [1, 2, 3] [0, 4, 5] (wr := [(a_t, .inr (2, [.ref a_t_days, .ref a_t_aboves, .ref a_t_belows, .ref a_t_aboveNow, .ref a_t_belowNow])), aJ g a_t_aboves 48 t_aboves, aJ g a_t_belows 48 t_belows]) rfl rfl (by decide) (by decide) (by decide) (fun r3 u9 hw => ?_)
  obtain ⟨u1, u2⟩ := u9
  try dsimp only at hw
  refine st_widen (k2 := 0) (n2 := 0) (by decide) (by decide) ?_
  refine st_perm (ws2 := [(a_t, .inr (2, [.ref a_t_days, .ref a_t_aboves, .ref a_t_belows, .ref a_t_aboveNow, .ref a_t_belowNow])), (a_t_days, .inr (0, [.ref a_t_days_keys, .ref a_t_days_sizes])), aJ g a_t_days_keys 48 u1, aI g a_t_days_sizes 8 u2, aJ g a_t_aboves 48 t_aboves, aJ g a_t_belows 48 t_belows]) [0, 3, 4, 5, 1, 2] rfl (by decide) ?_
  show ST g C [(a_t, .inr (2, [.ref a_t_days, .ref a_t_aboves, .ref a_t_belows, .ref a_t_aboveNow, .ref a_t_belowNow])), (a_t_days, .inr (0, [.ref a_t_days_keys, .ref a_t_days_sizes])), aJ g a_t_days_keys 48 u1, aI g a_t_days_sizes 8 u2, aJ g a_t_aboves 48 t_aboves, aJ g a_t_belows 48 t_belows] [(0, .ref a_t), (1, .int maker), (2, .long day), (4, .long above), (6, .long below)] [.int r3] 9 0 0
  refine st_istore X (lv2 := [(8, .int r3), (0, .ref a_t), (1, .int maker), (2, .long day), (4, .long above), (6, .long below)]) d_Ra_tell_9 (by decide) rfl ?_
  refine st_iload X 0 d_Ra_tell_11 rfl ?_
  refine st_iconst X (v := (-1)) d_Ra_tell_13 (by decide) ?_
  refine st_icmp_ne X 19 d_Ra_tell_14 (by decide) (fun hc => ?_) (fun hc => ?_)
  · replace hw := hw.1 hc
    refine st_aload_n X 1 d_Ra_tell_19 rfl rfl ?_
    refine st_get X (ci := 2) in_Ra 0 1 wf_Ra_20 rfl rfl (by decide) rfl d_Ra_tell_20 ?_
    refine st_iload X 0 d_Ra_tell_23 rfl ?_
    refine st_lload X 4 d_Ra_tell_25 rfl ?_
    have hR := rn_SN (pc := 27) (k := 0) (n := 0) (As := [.ref a_t_aboves, .int r3, .long above]) (rest := []) X (k_C_tellNumber g hg a_t_aboves r3 above 48 t_aboves _ hw) nl_Ra_37 ws_C_tellNumber wz_C wc_C_tellNumber h9_C_tellNumber ⟨by decide, by decide⟩ (Nat.le_of_ble_eq_true rfl) ⟨by decide, by decide⟩ d_Ra_tell_27
    refine st_calli X hR [4] [0, 1, 2, 3, 5] (wr := [(a_t, .inr (2, [.ref a_t_days, .ref a_t_aboves, .ref a_t_belows, .ref a_t_aboveNow, .ref a_t_belowNow])), (a_t_days, .inr (0, [.ref a_t_days_keys, .ref a_t_days_sizes])), aJ g a_t_days_keys 48 u1, aI g a_t_days_sizes 8 u2, aJ g a_t_belows 48 t_belows]) rfl rfl (by decide) (by decide) (by decide) (fun r5 u9 hw => ?_)
    obtain ⟨u4, hu9⟩ : ∃ z, z = u9 := ⟨_, rfl⟩
    subst hu9
    try dsimp only at hw
    refine st_widen (k2 := 0) (n2 := 0) (by decide) (by decide) ?_
    refine st_perm (ws2 := [(a_t, .inr (2, [.ref a_t_days, .ref a_t_aboves, .ref a_t_belows, .ref a_t_aboveNow, .ref a_t_belowNow])), (a_t_days, .inr (0, [.ref a_t_days_keys, .ref a_t_days_sizes])), aJ g a_t_days_keys 48 u1, aI g a_t_days_sizes 8 u2, aJ g a_t_aboves 48 u4, aJ g a_t_belows 48 t_belows]) [0, 1, 2, 3, 5, 4] rfl (by decide) ?_
    show ST g C [(a_t, .inr (2, [.ref a_t_days, .ref a_t_aboves, .ref a_t_belows, .ref a_t_aboveNow, .ref a_t_belowNow])), (a_t_days, .inr (0, [.ref a_t_days_keys, .ref a_t_days_sizes])), aJ g a_t_days_keys 48 u1, aI g a_t_days_sizes 8 u2, aJ g a_t_aboves 48 u4, aJ g a_t_belows 48 t_belows] [(8, .int r3), (0, .ref a_t), (1, .int maker), (2, .long day), (4, .long above), (6, .long below)] [.int r5] 30 0 0
    refine st_istore X (lv2 := [(9, .int r5), (8, .int r3), (0, .ref a_t), (1, .int maker), (2, .long day), (4, .long above), (6, .long below)]) d_Ra_tell_30 (by decide) rfl ?_
    refine st_aload_n X 2 d_Ra_tell_32 rfl rfl ?_
    refine st_get X (ci := 2) in_Ra 0 2 wf_Ra_24 rfl rfl (by decide) rfl d_Ra_tell_33 ?_
    refine st_iload X 1 d_Ra_tell_36 rfl ?_
    refine st_lload X 6 d_Ra_tell_38 rfl ?_
    have hR := rn_SN (pc := 40) (k := 0) (n := 0) (As := [.ref a_t_belows, .int r3, .long below]) (rest := []) X (k_C_tellNumber g hg a_t_belows r3 below 48 t_belows _ hw) nl_Ra_37 ws_C_tellNumber wz_C wc_C_tellNumber h9_C_tellNumber ⟨by decide, by decide⟩ (Nat.le_of_ble_eq_true rfl) ⟨by decide, by decide⟩ d_Ra_tell_40
    refine st_calli X hR [5] [0, 1, 2, 3, 4] (wr := [(a_t, .inr (2, [.ref a_t_days, .ref a_t_aboves, .ref a_t_belows, .ref a_t_aboveNow, .ref a_t_belowNow])), (a_t_days, .inr (0, [.ref a_t_days_keys, .ref a_t_days_sizes])), aJ g a_t_days_keys 48 u1, aI g a_t_days_sizes 8 u2, aJ g a_t_aboves 48 u4]) rfl rfl (by decide) (by decide) (by decide) (fun r7 u9 hw => ?_)
    obtain ⟨u6, hu9⟩ : ∃ z, z = u9 := ⟨_, rfl⟩
    subst hu9
    try dsimp only at hw
    refine st_widen (k2 := 0) (n2 := 0) (by decide) (by decide) ?_
    refine st_perm (ws2 := [(a_t, .inr (2, [.ref a_t_days, .ref a_t_aboves, .ref a_t_belows, .ref a_t_aboveNow, .ref a_t_belowNow])), (a_t_days, .inr (0, [.ref a_t_days_keys, .ref a_t_days_sizes])), aJ g a_t_days_keys 48 u1, aI g a_t_days_sizes 8 u2, aJ g a_t_aboves 48 u4, aJ g a_t_belows 48 u6]) [0, 1, 2, 3, 4, 5] rfl (by decide) ?_
    show ST g C [(a_t, .inr (2, [.ref a_t_days, .ref a_t_aboves, .ref a_t_belows, .ref a_t_aboveNow, .ref a_t_belowNow])), (a_t_days, .inr (0, [.ref a_t_days_keys, .ref a_t_days_sizes])), aJ g a_t_days_keys 48 u1, aI g a_t_days_sizes 8 u2, aJ g a_t_aboves 48 u4, aJ g a_t_belows 48 u6] [(9, .int r5), (8, .int r3), (0, .ref a_t), (1, .int maker), (2, .long day), (4, .long above), (6, .long below)] [.int r7] 43 0 0
    refine st_istore X (lv2 := [(10, .int r7), (9, .int r5), (8, .int r3), (0, .ref a_t), (1, .int maker), (2, .long day), (4, .long above), (6, .long below)]) d_Ra_tell_43 (by decide) rfl ?_
    refine st_iload X 1 d_Ra_tell_45 rfl ?_
    have J60 : ∀ (v8 : Int32), wp_Ra_tell_J60 u1 u2 u4 u6 Q v8 → ST g C [(a_t, .inr (2, [.ref a_t_days, .ref a_t_aboves, .ref a_t_belows, .ref a_t_aboveNow, .ref a_t_belowNow])), (a_t_days, .inr (0, [.ref a_t_days_keys, .ref a_t_days_sizes])), aJ g a_t_days_keys 48 u1, aI g a_t_days_sizes 8 u2, aJ g a_t_aboves 48 u4, aJ g a_t_belows 48 u6] [(0, .ref a_t), (1, .int maker), (2, .long day), (4, .long above), (6, .long below), (8, .int r3), (9, .int r5), (10, .int r7)] [.int v8] 60 0 0 := by
      intro v8 hw
      unfold wp_Ra_tell_J60 at hw
      obtain ⟨hz, hw⟩ := hw
      exact st_zret X hr (u1, u2, u4, u6) hw hz rfl (by decide) (by decide) d_Ra_tell_60
    have J55 : wp_Ra_tell_J55 u1 u2 u4 u6 Q → ST g C [(a_t, .inr (2, [.ref a_t_days, .ref a_t_aboves, .ref a_t_belows, .ref a_t_aboveNow, .ref a_t_belowNow])), (a_t_days, .inr (0, [.ref a_t_days_keys, .ref a_t_days_sizes])), aJ g a_t_days_keys 48 u1, aI g a_t_days_sizes 8 u2, aJ g a_t_aboves 48 u4, aJ g a_t_belows 48 u6] [(0, .ref a_t), (1, .int maker), (2, .long day), (4, .long above), (6, .long below), (8, .int r3), (9, .int r5), (10, .int r7)] [] 55 0 0 := by
      intro hw
      unfold wp_Ra_tell_J55 at hw
      refine st_iconst X (v := 1) d_Ra_tell_55 (by decide) ?_
      refine st_goto X 60 d_Ra_tell_56 (by decide) ?_
      refine st_lv [0, 1, 2, 3, 4, 5, 6, 7] rfl ?_
      exact J60 1 hw
    refine st_if_ne X 55 d_Ra_tell_47 (by decide) (fun hc => ?_) (fun hc => ?_)
    · replace hw := hw.1 hc
      refine st_lv [3, 4, 5, 6, 7, 2, 1, 0] rfl ?_
      exact J55 hw
    · replace hw := hw.2 hc
      refine st_iload X 0 d_Ra_tell_50 rfl ?_
      refine st_if_eq X 59 d_Ra_tell_52 (by decide) (fun hc => ?_) (fun hc => ?_)
      · replace hw := hw.1 hc
        refine st_iconst X (v := 0) d_Ra_tell_59 (by decide) ?_
        refine st_lv [3, 4, 5, 6, 7, 2, 1, 0] rfl ?_
        exact J60 0 hw
      · replace hw := hw.2 hc
        refine st_lv [3, 4, 5, 6, 7, 2, 1, 0] rfl ?_
        exact J55 hw
  · replace hw := hw.2 hc
    refine st_iconst X (v := 0) d_Ra_tell_17 (by decide) ?_
    obtain ⟨hz, hw⟩ := hw
    exact st_zret X hr (u1, u2, t_aboves, t_belows) hw hz rfl (by decide) (by decide) d_Ra_tell_18

theorem h9_Ra_latestSlot : y_Ra_latestSlot.cls ≠ "java/lang/invoke/MethodHandle" ∧ y_Ra_latestSlot.cls ≠ "java/lang/invoke/VarHandle" ∧ (parseMethodDescriptor y_Ra_latestSlot.desc).map (fun d => d.parameters.length) = some 2 := by decide +kernel
def wp_Ra_latestSlot_J75 (v4 : Int32) (K23 : Int32 → Int32 → Prop) (v6 : Int32) : Prop :=
  ∀ x7 : Int32, x7 = v4 + 1 →
  K23 v6 x7
def wp_Ra_latestSlot_J71 (v4 : Int32) (K23 : Int32 → Int32 → Prop) : Prop :=
  wp_Ra_latestSlot_J75 v4 K23 v4
def wp_Ra_latestSlot_L23 (day : Int64) (t_days_keys : Nat → Int64) (r1 : Int32) (Q : Int32 → Prop) : Nat → Int32 → Int32 → Prop
  | 0, _, _ => False
  | n23 + 1, v3, v4 =>
  ((r1 ≤ v4) → Q v3) ∧
  ((¬ r1 ≤ v4) → vp_in v4 48 ∧
  ∀ x5 : Int64, x5 = t_days_keys v4.toNatClampNeg →
  ((day < x5) → wp_Ra_latestSlot_J75 v4 (wp_Ra_latestSlot_L23 day t_days_keys r1 Q n23) v3) ∧
  ((¬ day < x5) → ((v3 = (-1)) → wp_Ra_latestSlot_J71 v4 (wp_Ra_latestSlot_L23 day t_days_keys r1 Q n23)) ∧
  ((¬ v3 = (-1)) → vp_in v3 48 ∧
  ((x5 ≤ (t_days_keys v3.toNatClampNeg)) → wp_Ra_latestSlot_J75 v4 (wp_Ra_latestSlot_L23 day t_days_keys r1 Q n23) v3) ∧
  ((¬ x5 ≤ (t_days_keys v3.toNatClampNeg)) → wp_Ra_latestSlot_J71 v4 (wp_Ra_latestSlot_L23 day t_days_keys r1 Q n23)))))
def wp_Ra_latestSlot (maker : Int32) (day : Int64) (t_days_keys : Nat → Int64) (t_days_sizes : Nat → Int32) (Q : Int32 → Prop) : Prop :=
  wp_K_endSlot maker 8 t_days_sizes (fun r1 =>
  wp_K_firstSlot maker (fun r2 =>
  ∃ n23 : Nat, wp_Ra_latestSlot_L23 day t_days_keys r1 Q n23 (-1) r2))
set_option maxHeartbeats 4000000 in
set_option maxRecDepth 100000 in
theorem k_Ra_latestSlot (g : GX) (hg : g.1.stackTraces = false) (a_t : Nat) (maker : Int32) (day : Int64) (a_t_days : Nat) (a_t_aboves : Nat) (a_t_belows : Nat) (a_t_aboveNow : Nat) (a_t_belowNow : Nat) (a_t_days_keys : Nat) (a_t_days_sizes : Nat) (t_days_keys : Nat → Int64) (t_days_sizes : Nat → Int32) (Q : Int32 → Prop) (hw : wp_Ra_latestSlot maker day t_days_keys t_days_sizes Q) : CT g y_Ra_latestSlot c_Ra_latestSlot 9 (some .int) ({ frames := 1, cells := 0, slots := 0, locals := 21 } : Room) [.ref a_t, .int maker, .long day] [(a_t, .inr (2, [.ref a_t_days, .ref a_t_aboves, .ref a_t_belows, .ref a_t_aboveNow, .ref a_t_belowNow])), (a_t_days, .inr (0, [.ref a_t_days_keys, .ref a_t_days_sizes])), aJ g a_t_days_keys 48 t_days_keys, aI g a_t_days_sizes 8 t_days_sizes] (QI g [(a_t, .inr (2, [.ref a_t_days, .ref a_t_aboves, .ref a_t_belows, .ref a_t_aboveNow, .ref a_t_belowNow])), (a_t_days, .inr (0, [.ref a_t_days_keys, .ref a_t_days_sizes])), aJ g a_t_days_keys 48 t_days_keys, aI g a_t_days_sizes 8 t_days_sizes] (fun u : Unit => [(a_t, .inr (2, [.ref a_t_days, .ref a_t_aboves, .ref a_t_belows, .ref a_t_aboveNow, .ref a_t_belowNow])), (a_t_days, .inr (0, [.ref a_t_days_keys, .ref a_t_days_sizes])), aJ g a_t_days_keys 48 t_days_keys, aI g a_t_days_sizes 8 t_days_sizes]) (fun r u => Q r)) := by
  refine ct_of hg (by decide) (Nat.le_of_ble_eq_true rfl) (fun sz C X hr => ?_)
  unfold wp_Ra_latestSlot at hw
  show ST g C [(a_t, .inr (2, [.ref a_t_days, .ref a_t_aboves, .ref a_t_belows, .ref a_t_aboveNow, .ref a_t_belowNow])), (a_t_days, .inr (0, [.ref a_t_days_keys, .ref a_t_days_sizes])), aJ g a_t_days_keys 48 t_days_keys, aI g a_t_days_sizes 8 t_days_sizes] [(0, .ref a_t), (1, .int maker), (2, .long day)] [] 0 0 0
  refine st_iconst X (v := (-1)) d_Ra_latestSlot_0 (by decide) ?_
  refine st_istore X (lv2 := [(4, .int (-1)), (0, .ref a_t), (1, .int maker), (2, .long day)]) d_Ra_latestSlot_1 (by decide) rfl ?_
  refine st_aload_n X 1 d_Ra_latestSlot_3 rfl rfl ?_
  refine st_get X (ci := 2) in_Ra 0 0 wf_Ra_14 rfl rfl (by decide) rfl d_Ra_latestSlot_4 ?_
  refine st_iload_n X 2 d_Ra_latestSlot_7 rfl rfl ?_
  have hR := rn_VN (pc := 8) (k := 0) (n := 0) (As := [.int maker]) (rest := []) X (k_K_endSlot g hg a_t_days maker a_t_days_keys a_t_days_sizes 8 t_days_sizes _ hw) (q0 := 0) rfl rfl nl_Ra_44 wi_K_endSlot wl_K_endSlot wz_K wc_K_endSlot h9_K_endSlot ⟨by decide, by decide⟩ (Nat.le_of_ble_eq_true rfl) ⟨by decide, by decide⟩ d_Ra_latestSlot_8
  refine st_calli X hR [1, 3] [0, 2] (wr := [(a_t, .inr (2, [.ref a_t_days, .ref a_t_aboves, .ref a_t_belows, .ref a_t_aboveNow, .ref a_t_belowNow])), aJ g a_t_days_keys 48 t_days_keys]) rfl rfl (by decide) (by decide) (by decide) (fun r1 u9 hw => ?_)
  try dsimp only at hw
  refine st_widen (k2 := 0) (n2 := 0) (by decide) (by decide) ?_
  refine st_perm (ws2 := [(a_t, .inr (2, [.ref a_t_days, .ref a_t_aboves, .ref a_t_belows, .ref a_t_aboveNow, .ref a_t_belowNow])), (a_t_days, .inr (0, [.ref a_t_days_keys, .ref a_t_days_sizes])), aJ g a_t_days_keys 48 t_days_keys, aI g a_t_days_sizes 8 t_days_sizes]) [0, 2, 1, 3] rfl (by decide) ?_
  show ST g C [(a_t, .inr (2, [.ref a_t_days, .ref a_t_aboves, .ref a_t_belows, .ref a_t_aboveNow, .ref a_t_belowNow])), (a_t_days, .inr (0, [.ref a_t_days_keys, .ref a_t_days_sizes])), aJ g a_t_days_keys 48 t_days_keys, aI g a_t_days_sizes 8 t_days_sizes] [(4, .int (-1)), (0, .ref a_t), (1, .int maker), (2, .long day)] [.int r1] 11 0 0
  refine st_istore X (lv2 := [(5, .int r1), (4, .int (-1)), (0, .ref a_t), (1, .int maker), (2, .long day)]) d_Ra_latestSlot_11 (by decide) rfl ?_
  refine st_aload_n X 2 d_Ra_latestSlot_13 rfl rfl ?_
  refine st_get X (ci := 2) in_Ra 0 0 wf_Ra_14 rfl rfl (by decide) rfl d_Ra_latestSlot_14 ?_
  refine st_iload_n X 3 d_Ra_latestSlot_17 rfl rfl ?_
  have hR := rn_VN (pc := 18) (k := 0) (n := 0) (As := [.int maker]) (rest := []) X (k_K_firstSlot g hg a_t_days maker a_t_days_keys a_t_days_sizes _ hw) (q0 := 0) rfl rfl nl_Ra_48 wi_K_firstSlot wl_K_firstSlot wz_K wc_K_firstSlot h9_K_firstSlot ⟨by decide, by decide⟩ (Nat.le_of_ble_eq_true rfl) ⟨by decide, by decide⟩ d_Ra_latestSlot_18
  refine st_calli X hR [1] [0, 2, 3] (wr := [(a_t, .inr (2, [.ref a_t_days, .ref a_t_aboves, .ref a_t_belows, .ref a_t_aboveNow, .ref a_t_belowNow])), aJ g a_t_days_keys 48 t_days_keys, aI g a_t_days_sizes 8 t_days_sizes]) rfl rfl (by decide) (by decide) (by decide) (fun r2 u9 hw => ?_)
  try dsimp only at hw
  refine st_widen (k2 := 0) (n2 := 0) (by decide) (by decide) ?_
  refine st_perm (ws2 := [(a_t, .inr (2, [.ref a_t_days, .ref a_t_aboves, .ref a_t_belows, .ref a_t_aboveNow, .ref a_t_belowNow])), (a_t_days, .inr (0, [.ref a_t_days_keys, .ref a_t_days_sizes])), aJ g a_t_days_keys 48 t_days_keys, aI g a_t_days_sizes 8 t_days_sizes]) [0, 3, 1, 2] rfl (by decide) ?_
  show ST g C [(a_t, .inr (2, [.ref a_t_days, .ref a_t_aboves, .ref a_t_belows, .ref a_t_aboveNow, .ref a_t_belowNow])), (a_t_days, .inr (0, [.ref a_t_days_keys, .ref a_t_days_sizes])), aJ g a_t_days_keys 48 t_days_keys, aI g a_t_days_sizes 8 t_days_sizes] [(5, .int r1), (4, .int (-1)), (0, .ref a_t), (1, .int maker), (2, .long day)] [.int r2] 21 0 0
  refine st_istore X (lv2 := [(6, .int r2), (5, .int r1), (4, .int (-1)), (0, .ref a_t), (1, .int maker), (2, .long day)]) d_Ra_latestSlot_21 (by decide) rfl ?_
  have L23 : ∀ (n23 : Nat) (v3 : Int32) (v4 : Int32), wp_Ra_latestSlot_L23 day t_days_keys r1 Q n23 v3 v4 → ST g C [(a_t, .inr (2, [.ref a_t_days, .ref a_t_aboves, .ref a_t_belows, .ref a_t_aboveNow, .ref a_t_belowNow])), (a_t_days, .inr (0, [.ref a_t_days_keys, .ref a_t_days_sizes])), aJ g a_t_days_keys 48 t_days_keys, aI g a_t_days_sizes 8 t_days_sizes] [(0, .ref a_t), (1, .int maker), (2, .long day), (4, .int v3), (5, .int r1), (6, .int v4)] [] 23 0 0 := by
    intro n23
    induction n23 with
    | zero => intro v3 v4 hw; exact hw.elim
    | succ n23 ih23 =>
      intro v3 v4 hw
      rw [wp_Ra_latestSlot_L23] at hw
      refine st_iload X 5 d_Ra_latestSlot_23 rfl ?_
      refine st_iload X 4 d_Ra_latestSlot_25 rfl ?_
      refine st_icmp_ge X 81 d_Ra_latestSlot_27 (by decide) (fun hc => ?_) (fun hc => ?_)
      · replace hw := hw.1 hc
        refine st_iload X 3 d_Ra_latestSlot_81 rfl ?_
        exact st_iret X hr () hw rfl (by decide) (by decide) d_Ra_latestSlot_83
      · replace hw := hw.2 hc
        refine st_aload_n X 0 d_Ra_latestSlot_30 rfl rfl ?_
        refine st_get X (ci := 2) in_Ra 0 0 wf_Ra_14 rfl rfl (by decide) rfl d_Ra_latestSlot_31 ?_
        refine st_getN X (ci := 0) in_K 1 0 nf_Ra_51 rfl rfl (by decide) rfl d_Ra_latestSlot_34 ?_
        refine st_iload X 5 d_Ra_latestSlot_37 rfl ?_
        obtain ⟨hb1, hw⟩ := hw
        refine st_lald X 2 rfl hb1 d_Ra_latestSlot_39 ?_
        refine st_topl (fun x5 hx5 => ?_)
        replace hw := hw x5 hx5
        refine st_lstore X (lv2 := [(7, .long x5), (0, .ref a_t), (1, .int maker), (2, .long day), (4, .int v3), (5, .int r1), (6, .int v4)]) d_Ra_latestSlot_40 (by decide) rfl ?_
        refine st_lload X 0 d_Ra_latestSlot_42 rfl ?_
        refine st_lload_n X 3 d_Ra_latestSlot_44 rfl rfl ?_
        have J75 : ∀ (v6 : Int32), wp_Ra_latestSlot_J75 v4 (fun z0 z1 => wp_Ra_latestSlot_L23 day t_days_keys r1 Q n23 z0 z1) v6 → ST g C [(a_t, .inr (2, [.ref a_t_days, .ref a_t_aboves, .ref a_t_belows, .ref a_t_aboveNow, .ref a_t_belowNow])), (a_t_days, .inr (0, [.ref a_t_days_keys, .ref a_t_days_sizes])), aJ g a_t_days_keys 48 t_days_keys, aI g a_t_days_sizes 8 t_days_sizes] [(0, .ref a_t), (1, .int maker), (2, .long day), (4, .int v6), (5, .int r1), (6, .int v4), (7, .long x5)] [] 75 0 0 := by
          intro v6 hw
          unfold wp_Ra_latestSlot_J75 at hw
          obtain ⟨x7, hx7⟩ : ∃ z : Int32, z = v4 + 1 := ⟨_, rfl⟩
          replace hw := hw x7 hx7
          refine st_iinc X (v := x7) (lv2 := [(6, .int x7), (0, .ref a_t), (1, .int maker), (2, .long day), (4, .int v6), (5, .int r1), (7, .long x5)]) 5 d_Ra_latestSlot_75 rfl (by rw [hx7]; rfl) (by decide) rfl ?_
          refine st_goto X 23 d_Ra_latestSlot_78 (by decide) ?_
          refine st_lv [1, 2, 3, 4, 5, 0] rfl ?_
          exact ih23 v6 x7 hw
        refine st_lcmp_gt X 75 d_Ra_latestSlot_45 d_Ra_latestSlot_46 (by decide) (fun hc => ?_) (fun hc => ?_)
        · replace hw := hw.1 hc
          refine st_lv [1, 2, 3, 4, 5, 6, 0] rfl ?_
          exact J75 v3 hw
        · replace hw := hw.2 hc
          refine st_iload X 4 d_Ra_latestSlot_49 rfl ?_
          refine st_iconst X (v := (-1)) d_Ra_latestSlot_51 (by decide) ?_
          have J71 : wp_Ra_latestSlot_J71 v4 (fun z0 z1 => wp_Ra_latestSlot_L23 day t_days_keys r1 Q n23 z0 z1) → ST g C [(a_t, .inr (2, [.ref a_t_days, .ref a_t_aboves, .ref a_t_belows, .ref a_t_aboveNow, .ref a_t_belowNow])), (a_t_days, .inr (0, [.ref a_t_days_keys, .ref a_t_days_sizes])), aJ g a_t_days_keys 48 t_days_keys, aI g a_t_days_sizes 8 t_days_sizes] [(0, .ref a_t), (1, .int maker), (2, .long day), (4, .int v3), (5, .int r1), (6, .int v4), (7, .long x5)] [] 71 0 0 := by
            intro hw
            unfold wp_Ra_latestSlot_J71 at hw
            refine st_iload X 5 d_Ra_latestSlot_71 rfl ?_
            refine st_istore X (lv2 := [(4, .int v4), (0, .ref a_t), (1, .int maker), (2, .long day), (5, .int r1), (6, .int v4), (7, .long x5)]) d_Ra_latestSlot_73 (by decide) rfl ?_
            refine st_lv [1, 2, 3, 0, 4, 5, 6] rfl ?_
            exact J75 v4 hw
          refine st_icmp_eq X 71 d_Ra_latestSlot_52 (by decide) (fun hc => ?_) (fun hc => ?_)
          · replace hw := hw.1 hc
            refine st_lv [1, 2, 3, 4, 5, 6, 0] rfl ?_
            exact J71 hw
          · replace hw := hw.2 hc
            refine st_lload X 0 d_Ra_latestSlot_55 rfl ?_
            refine st_aload_n X 1 d_Ra_latestSlot_57 rfl rfl ?_
            refine st_get X (ci := 2) in_Ra 0 0 wf_Ra_14 rfl rfl (by decide) rfl d_Ra_latestSlot_58 ?_
            refine st_getN X (ci := 0) in_K 1 0 nf_Ra_51 rfl rfl (by decide) rfl d_Ra_latestSlot_61 ?_
            refine st_iload X 4 d_Ra_latestSlot_64 rfl ?_
            obtain ⟨hb2, hw⟩ := hw
            refine st_lald X 2 rfl hb2 d_Ra_latestSlot_66 ?_
            refine st_lcmp_le X 75 d_Ra_latestSlot_67 d_Ra_latestSlot_68 (by decide) (fun hc => ?_) (fun hc => ?_)
            · replace hw := hw.1 hc
              refine st_lv [1, 2, 3, 4, 5, 6, 0] rfl ?_
              exact J75 v3 hw
            · replace hw := hw.2 hc
              refine st_lv [1, 2, 3, 4, 5, 6, 0] rfl ?_
              exact J71 hw
  obtain ⟨n23, hw⟩ := hw
  refine st_lv [3, 4, 5, 2, 1, 0] rfl ?_
  exact L23 n23 (-1) r2 hw

theorem h9_Ra_turnTo : y_Ra_turnTo.cls ≠ "java/lang/invoke/MethodHandle" ∧ y_Ra_turnTo.cls ≠ "java/lang/invoke/VarHandle" ∧ (parseMethodDescriptor y_Ra_turnTo.desc).map (fun d => d.parameters.length) = some 1 := by decide +kernel
def wp_Ra_turnTo_J61 (v1 : Int32) (f3 : Nat → Int64) (f6 : Nat → Int64) (K2 : Int32 → (Nat → Int64) → (Nat → Int64) → Prop) (v7 : Int64) : Prop :=
  vp_in v1 8 ∧
  ∀ f8 : Nat → Int64, f8 = vp_updL f3 v1.toNatClampNeg v7 →
  ∀ x9 : Int32, x9 = v1 + 1 →
  K2 x9 f6 f8
def wp_Ra_turnTo_J38 (t_belows : Nat → Int64) (v1 : Int32) (f2 : Nat → Int64) (f3 : Nat → Int64) (r4 : Int32) (K2 : Int32 → (Nat → Int64) → (Nat → Int64) → Prop) (v5 : Int64) : Prop :=
  vp_in v1 8 ∧
  ∀ f6 : Nat → Int64, f6 = vp_updL f2 v1.toNatClampNeg v5 →
  ((¬ r4 = (-1)) → vp_in r4 48 ∧
  wp_Ra_turnTo_J61 v1 f3 f6 K2 (t_belows r4.toNatClampNeg)) ∧
  ((r4 = (-1)) → wp_Ra_turnTo_J61 v1 f3 f6 K2 1)
def wp_Ra_turnTo_L2 (day : Int64) (t_days_keys : Nat → Int64) (t_days_sizes : Nat → Int32) (t_aboves : Nat → Int64) (t_belows : Nat → Int64) (Q : (Nat → Int64) → (Nat → Int64) → Prop) : Nat → Int32 → (Nat → Int64) → (Nat → Int64) → Prop
  | 0, _, _, _ => False
  | n2 + 1, v1, f2, f3 =>
  ((8 ≤ v1) → Q f2 f3) ∧
  ((¬ 8 ≤ v1) → wp_Ra_latestSlot v1 day t_days_keys t_days_sizes (fun r4 =>
  ((¬ r4 = (-1)) → vp_in r4 48 ∧
  wp_Ra_turnTo_J38 t_belows v1 f2 f3 r4 (wp_Ra_turnTo_L2 day t_days_keys t_days_sizes t_aboves t_belows Q n2) (t_aboves r4.toNatClampNeg)) ∧
  ((r4 = (-1)) → wp_Ra_turnTo_J38 t_belows v1 f2 f3 r4 (wp_Ra_turnTo_L2 day t_days_keys t_days_sizes t_aboves t_belows Q n2) 1)))
def wp_Ra_turnTo (day : Int64) (t_days_keys : Nat → Int64) (t_days_sizes : Nat → Int32) (t_aboves : Nat → Int64) (t_belows : Nat → Int64) (t_aboveNow : Nat → Int64) (t_belowNow : Nat → Int64) (Q : (Nat → Int64) → (Nat → Int64) → Prop) : Prop :=
  ∃ n2 : Nat, wp_Ra_turnTo_L2 day t_days_keys t_days_sizes t_aboves t_belows Q n2 0 t_aboveNow t_belowNow
set_option maxHeartbeats 4000000 in
set_option maxRecDepth 100000 in
theorem k_Ra_turnTo (g : GX) (hg : g.1.stackTraces = false) (a_t : Nat) (day : Int64) (a_t_days : Nat) (a_t_aboves : Nat) (a_t_belows : Nat) (a_t_aboveNow : Nat) (a_t_belowNow : Nat) (a_t_days_keys : Nat) (a_t_days_sizes : Nat) (t_days_keys : Nat → Int64) (t_days_sizes : Nat → Int32) (t_aboves : Nat → Int64) (t_belows : Nat → Int64) (t_aboveNow : Nat → Int64) (t_belowNow : Nat → Int64) (Q : (Nat → Int64) → (Nat → Int64) → Prop) (hw : wp_Ra_turnTo day t_days_keys t_days_sizes t_aboves t_belows t_aboveNow t_belowNow Q) : CT g y_Ra_turnTo c_Ra_turnTo 5 none ({ frames := 2, cells := 0, slots := 0, locals := 49 } : Room) [.ref a_t, .long day] [(a_t, .inr (2, [.ref a_t_days, .ref a_t_aboves, .ref a_t_belows, .ref a_t_aboveNow, .ref a_t_belowNow])), (a_t_days, .inr (0, [.ref a_t_days_keys, .ref a_t_days_sizes])), aJ g a_t_days_keys 48 t_days_keys, aI g a_t_days_sizes 8 t_days_sizes, aJ g a_t_aboves 48 t_aboves, aJ g a_t_belows 48 t_belows, aJ g a_t_aboveNow 8 t_aboveNow, aJ g a_t_belowNow 8 t_belowNow] (QV g [(a_t, .inr (2, [.ref a_t_days, .ref a_t_aboves, .ref a_t_belows, .ref a_t_aboveNow, .ref a_t_belowNow])), (a_t_days, .inr (0, [.ref a_t_days_keys, .ref a_t_days_sizes])), aJ g a_t_days_keys 48 t_days_keys, aI g a_t_days_sizes 8 t_days_sizes, aJ g a_t_aboves 48 t_aboves, aJ g a_t_belows 48 t_belows, aJ g a_t_aboveNow 8 t_aboveNow, aJ g a_t_belowNow 8 t_belowNow] (fun u : (Nat → Int64) × (Nat → Int64) => [(a_t, .inr (2, [.ref a_t_days, .ref a_t_aboves, .ref a_t_belows, .ref a_t_aboveNow, .ref a_t_belowNow])), (a_t_days, .inr (0, [.ref a_t_days_keys, .ref a_t_days_sizes])), aJ g a_t_days_keys 48 t_days_keys, aI g a_t_days_sizes 8 t_days_sizes, aJ g a_t_aboves 48 t_aboves, aJ g a_t_belows 48 t_belows, aJ g a_t_aboveNow 8 u.1, aJ g a_t_belowNow 8 u.2]) (fun u => Q u.1 u.2)) := by
  refine ct_of hg (by decide) (Nat.le_of_ble_eq_true rfl) (fun sz C X hr => ?_)
  unfold wp_Ra_turnTo at hw
  show ST g C [(a_t, .inr (2, [.ref a_t_days, .ref a_t_aboves, .ref a_t_belows, .ref a_t_aboveNow, .ref a_t_belowNow])), (a_t_days, .inr (0, [.ref a_t_days_keys, .ref a_t_days_sizes])), aJ g a_t_days_keys 48 t_days_keys, aI g a_t_days_sizes 8 t_days_sizes, aJ g a_t_aboves 48 t_aboves, aJ g a_t_belows 48 t_belows, aJ g a_t_aboveNow 8 t_aboveNow, aJ g a_t_belowNow 8 t_belowNow] [(0, .ref a_t), (1, .long day)] [] 0 0 0
  refine st_iconst X (v := 0) d_Ra_turnTo_0 (by decide) ?_
  refine st_istore_n X (lv2 := [(3, .int 0), (0, .ref a_t), (1, .long day)]) d_Ra_turnTo_1 rfl (by decide) rfl ?_
  have L2 : ∀ (n2 : Nat) (v1 : Int32) (f2 : Nat → Int64) (f3 : Nat → Int64), wp_Ra_turnTo_L2 day t_days_keys t_days_sizes t_aboves t_belows Q n2 v1 f2 f3 → ST g C [(a_t, .inr (2, [.ref a_t_days, .ref a_t_aboves, .ref a_t_belows, .ref a_t_aboveNow, .ref a_t_belowNow])), (a_t_days, .inr (0, [.ref a_t_days_keys, .ref a_t_days_sizes])), aJ g a_t_days_keys 48 t_days_keys, aI g a_t_days_sizes 8 t_days_sizes, aJ g a_t_aboves 48 t_aboves, aJ g a_t_belows 48 t_belows, aJ g a_t_aboveNow 8 f2, aJ g a_t_belowNow 8 f3] [(0, .ref a_t), (1, .long day), (3, .int v1)] [] 2 0 0 := by
    intro n2
    induction n2 with
    | zero => intro v1 f2 f3 hw; exact hw.elim
    | succ n2 ih2 =>
      intro v1 f2 f3 hw
      rw [wp_Ra_turnTo_L2] at hw
      refine st_iload_n X 2 d_Ra_turnTo_2 rfl rfl ?_
      refine st_bipush X (v := 8) d_Ra_turnTo_3 (by decide) ?_
      refine st_icmp_ge X 68 d_Ra_turnTo_5 (by decide) (fun hc => ?_) (fun hc => ?_)
      · replace hw := hw.1 hc
        exact st_vret X hr (f2, f3) hw rfl (by decide) (by decide) d_Ra_turnTo_68
      · replace hw := hw.2 hc
        refine st_aload_n X 0 d_Ra_turnTo_8 rfl rfl ?_
        refine st_iload_n X 2 d_Ra_turnTo_9 rfl rfl ?_
        refine st_lload_n X 1 d_Ra_turnTo_10 rfl rfl ?_
        have hR := rn_V (pc := 11) (k := 0) (n := 0) (As := [.int v1, .long day]) (rest := []) X (k_Ra_latestSlot g hg a_t v1 day a_t_days a_t_aboves a_t_belows a_t_aboveNow a_t_belowNow a_t_days_keys a_t_days_sizes t_days_keys t_days_sizes _ hw) (q0 := 0) rfl rfl wm_Ra_41 wi_Ra_latestSlot wl_Ra_latestSlot wz_Ra wc_Ra_latestSlot h9_Ra_latestSlot ⟨by decide, by decide⟩ (Nat.le_of_ble_eq_true rfl) ⟨by decide, by decide⟩ d_Ra_turnTo_11
        refine st_calli X hR [0, 1, 2, 3] [4, 5, 6, 7] (wr := [aJ g a_t_aboves 48 t_aboves, aJ g a_t_belows 48 t_belows, aJ g a_t_aboveNow 8 f2, aJ g a_t_belowNow 8 f3]) rfl rfl (by decide) (by decide) (by decide) (fun r4 u9 hw => ?_)
        try dsimp only at hw
        refine st_widen (k2 := 0) (n2 := 0) (by decide) (by decide) ?_
        refine st_perm (ws2 := [(a_t, .inr (2, [.ref a_t_days, .ref a_t_aboves, .ref a_t_belows, .ref a_t_aboveNow, .ref a_t_belowNow])), (a_t_days, .inr (0, [.ref a_t_days_keys, .ref a_t_days_sizes])), aJ g a_t_days_keys 48 t_days_keys, aI g a_t_days_sizes 8 t_days_sizes, aJ g a_t_aboves 48 t_aboves, aJ g a_t_belows 48 t_belows, aJ g a_t_aboveNow 8 f2, aJ g a_t_belowNow 8 f3]) [4, 5, 6, 7, 0, 1, 2, 3] rfl (by decide) ?_
        show ST g C [(a_t, .inr (2, [.ref a_t_days, .ref a_t_aboves, .ref a_t_belows, .ref a_t_aboveNow, .ref a_t_belowNow])), (a_t_days, .inr (0, [.ref a_t_days_keys, .ref a_t_days_sizes])), aJ g a_t_days_keys 48 t_days_keys, aI g a_t_days_sizes 8 t_days_sizes, aJ g a_t_aboves 48 t_aboves, aJ g a_t_belows 48 t_belows, aJ g a_t_aboveNow 8 f2, aJ g a_t_belowNow 8 f3] [(0, .ref a_t), (1, .long day), (3, .int v1)] [.int r4] 14 0 0
        refine st_istore X (lv2 := [(4, .int r4), (0, .ref a_t), (1, .long day), (3, .int v1)]) d_Ra_turnTo_14 (by decide) rfl ?_
        refine st_aload_n X 1 d_Ra_turnTo_16 rfl rfl ?_
        refine st_get X (ci := 2) in_Ra 0 3 wf_Ra_27 rfl rfl (by decide) rfl d_Ra_turnTo_17 ?_
        refine st_iload_n X 3 d_Ra_turnTo_20 rfl rfl ?_
        refine st_iload X 0 d_Ra_turnTo_21 rfl ?_
        refine st_iconst X (v := (-1)) d_Ra_turnTo_23 (by decide) ?_
        have J38 : ∀ (v5 : Int64), wp_Ra_turnTo_J38 t_belows v1 f2 f3 r4 (fun z0 z1 z2 => wp_Ra_turnTo_L2 day t_days_keys t_days_sizes t_aboves t_belows Q n2 z0 z1 z2) v5 → ST g C [(a_t, .inr (2, [.ref a_t_days, .ref a_t_aboves, .ref a_t_belows, .ref a_t_aboveNow, .ref a_t_belowNow])), (a_t_days, .inr (0, [.ref a_t_days_keys, .ref a_t_days_sizes])), aJ g a_t_days_keys 48 t_days_keys, aI g a_t_days_sizes 8 t_days_sizes, aJ g a_t_aboves 48 t_aboves, aJ g a_t_belows 48 t_belows, aJ g a_t_aboveNow 8 f2, aJ g a_t_belowNow 8 f3] [(0, .ref a_t), (1, .long day), (3, .int v1), (4, .int r4)] [.long v5, .int v1, .ref a_t_aboveNow] 38 0 0 := by
          intro v5 hw
          unfold wp_Ra_turnTo_J38 at hw
          obtain ⟨hb1, hw⟩ := hw
          obtain ⟨f6, hf6⟩ : ∃ z : Nat → Int64, z = vp_updL f2 v1.toNatClampNeg v5 := ⟨_, rfl⟩
          replace hw := hw f6 hf6
          refine st_last X (ws2 := [(a_t, .inr (2, [.ref a_t_days, .ref a_t_aboves, .ref a_t_belows, .ref a_t_aboveNow, .ref a_t_belowNow])), (a_t_days, .inr (0, [.ref a_t_days_keys, .ref a_t_days_sizes])), aJ g a_t_days_keys 48 t_days_keys, aI g a_t_days_sizes 8 t_days_sizes, aJ g a_t_aboves 48 t_aboves, aJ g a_t_belows 48 t_belows, aJ g a_t_aboveNow 8 f6, aJ g a_t_belowNow 8 f3]) 6 rfl hb1 (by rw [hf6]; rfl) d_Ra_turnTo_38 ?_
          refine st_aload_n X 0 d_Ra_turnTo_39 rfl rfl ?_
          refine st_get X (ci := 2) in_Ra 0 4 wf_Ra_30 rfl rfl (by decide) rfl d_Ra_turnTo_40 ?_
          refine st_iload_n X 2 d_Ra_turnTo_43 rfl rfl ?_
          refine st_iload X 3 d_Ra_turnTo_44 rfl ?_
          refine st_iconst X (v := (-1)) d_Ra_turnTo_46 (by decide) ?_
          have J61 : ∀ (v7 : Int64), wp_Ra_turnTo_J61 v1 f3 f6 (fun z0 z1 z2 => wp_Ra_turnTo_L2 day t_days_keys t_days_sizes t_aboves t_belows Q n2 z0 z1 z2) v7 → ST g C [(a_t, .inr (2, [.ref a_t_days, .ref a_t_aboves, .ref a_t_belows, .ref a_t_aboveNow, .ref a_t_belowNow])), (a_t_days, .inr (0, [.ref a_t_days_keys, .ref a_t_days_sizes])), aJ g a_t_days_keys 48 t_days_keys, aI g a_t_days_sizes 8 t_days_sizes, aJ g a_t_aboves 48 t_aboves, aJ g a_t_belows 48 t_belows, aJ g a_t_aboveNow 8 f6, aJ g a_t_belowNow 8 f3] [(0, .ref a_t), (1, .long day), (3, .int v1), (4, .int r4)] [.long v7, .int v1, .ref a_t_belowNow] 61 0 0 := by
            intro v7 hw
            unfold wp_Ra_turnTo_J61 at hw
            obtain ⟨hb2, hw⟩ := hw
            obtain ⟨f8, hf8⟩ : ∃ z : Nat → Int64, z = vp_updL f3 v1.toNatClampNeg v7 := ⟨_, rfl⟩
            replace hw := hw f8 hf8
            refine st_last X (ws2 := [(a_t, .inr (2, [.ref a_t_days, .ref a_t_aboves, .ref a_t_belows, .ref a_t_aboveNow, .ref a_t_belowNow])), (a_t_days, .inr (0, [.ref a_t_days_keys, .ref a_t_days_sizes])), aJ g a_t_days_keys 48 t_days_keys, aI g a_t_days_sizes 8 t_days_sizes, aJ g a_t_aboves 48 t_aboves, aJ g a_t_belows 48 t_belows, aJ g a_t_aboveNow 8 f6, aJ g a_t_belowNow 8 f8]) 7 rfl hb2 (by rw [hf8]; rfl) d_Ra_turnTo_61 ?_
            obtain ⟨x9, hx9⟩ : ∃ z : Int32, z = v1 + 1 := ⟨_, rfl⟩
            replace hw := hw x9 hx9
            refine st_iinc X (v := x9) (lv2 := [(3, .int x9), (0, .ref a_t), (1, .long day), (4, .int r4)]) 2 d_Ra_turnTo_62 rfl (by rw [hx9]; rfl) (by decide) rfl ?_
            refine st_goto X 2 d_Ra_turnTo_65 (by decide) ?_
            refine st_lv [1, 2, 0] rfl ?_
            exact ih2 x9 f6 f8 hw
          refine st_icmp_ne X 54 d_Ra_turnTo_47 (by decide) (fun hc => ?_) (fun hc => ?_)
          · replace hw := hw.1 hc
            refine st_aload_n X 0 d_Ra_turnTo_54 rfl rfl ?_
            refine st_get X (ci := 2) in_Ra 0 2 wf_Ra_24 rfl rfl (by decide) rfl d_Ra_turnTo_55 ?_
            refine st_iload X 3 d_Ra_turnTo_58 rfl ?_
            obtain ⟨hb3, hw⟩ := hw
            refine st_lald X 5 rfl hb3 d_Ra_turnTo_60 ?_
            refine st_lv [0, 1, 2, 3] rfl ?_
            exact J61 (t_belows r4.toNatClampNeg) hw
          · replace hw := hw.2 hc
            refine st_lconst X (v := 1) d_Ra_turnTo_50 (by decide) ?_
            refine st_goto X 61 d_Ra_turnTo_51 (by decide) ?_
            refine st_lv [0, 1, 2, 3] rfl ?_
            exact J61 1 hw
        refine st_icmp_ne X 31 d_Ra_turnTo_24 (by decide) (fun hc => ?_) (fun hc => ?_)
        · replace hw := hw.1 hc
          refine st_aload_n X 1 d_Ra_turnTo_31 rfl rfl ?_
          refine st_get X (ci := 2) in_Ra 0 1 wf_Ra_20 rfl rfl (by decide) rfl d_Ra_turnTo_32 ?_
          refine st_iload X 0 d_Ra_turnTo_35 rfl ?_
          obtain ⟨hb4, hw⟩ := hw
          refine st_lald X 4 rfl hb4 d_Ra_turnTo_37 ?_
          refine st_lv [1, 2, 3, 0] rfl ?_
          exact J38 (t_aboves r4.toNatClampNeg) hw
        · replace hw := hw.2 hc
          refine st_lconst X (v := 1) d_Ra_turnTo_27 (by decide) ?_
          refine st_goto X 38 d_Ra_turnTo_28 (by decide) ?_
          refine st_lv [1, 2, 3, 0] rfl ?_
          exact J38 1 hw
  obtain ⟨n2, hw⟩ := hw
  refine st_lv [1, 2, 0] rfl ?_
  exact L2 n2 0 t_aboveNow t_belowNow hw

theorem h9_Ra_exchange : y_Ra_exchange.cls ≠ "java/lang/invoke/MethodHandle" ∧ y_Ra_exchange.cls ≠ "java/lang/invoke/VarHandle" ∧ (parseMethodDescriptor y_Ra_exchange.desc).map (fun d => d.parameters.length) = some 2 := by decide +kernel
def wp_Ra_exchange (maker : Int32) (amount : Int64) (t_aboveNow : Nat → Int64) (t_belowNow : Nat → Int64) (Q : Int64 → Prop) : Prop :=
  vp_in maker 8 ∧
  vp_in maker 8 ∧
  wp_C_divideUp (amount * (t_aboveNow maker.toNatClampNeg)) (t_belowNow maker.toNatClampNeg) (fun r1 =>
  Q r1)
set_option maxHeartbeats 4000000 in
set_option maxRecDepth 100000 in
theorem k_Ra_exchange (g : GX) (hg : g.1.stackTraces = false) (a_t : Nat) (maker : Int32) (amount : Int64) (a_t_days : Nat) (a_t_aboves : Nat) (a_t_belows : Nat) (a_t_aboveNow : Nat) (a_t_belowNow : Nat) (t_aboveNow : Nat → Int64) (t_belowNow : Nat → Int64) (Q : Int64 → Prop) (hw : wp_Ra_exchange maker amount t_aboveNow t_belowNow Q) : CT g y_Ra_exchange c_Ra_exchange 4 (some .long) ({ frames := 1, cells := 0, slots := 0, locals := 23 } : Room) [.ref a_t, .int maker, .long amount] [(a_t, .inr (2, [.ref a_t_days, .ref a_t_aboves, .ref a_t_belows, .ref a_t_aboveNow, .ref a_t_belowNow])), aJ g a_t_aboveNow 8 t_aboveNow, aJ g a_t_belowNow 8 t_belowNow] (QL g [(a_t, .inr (2, [.ref a_t_days, .ref a_t_aboves, .ref a_t_belows, .ref a_t_aboveNow, .ref a_t_belowNow])), aJ g a_t_aboveNow 8 t_aboveNow, aJ g a_t_belowNow 8 t_belowNow] (fun u : Unit => [(a_t, .inr (2, [.ref a_t_days, .ref a_t_aboves, .ref a_t_belows, .ref a_t_aboveNow, .ref a_t_belowNow])), aJ g a_t_aboveNow 8 t_aboveNow, aJ g a_t_belowNow 8 t_belowNow]) (fun r u => Q r)) := by
  refine ct_of hg (by decide) (Nat.le_of_ble_eq_true rfl) (fun sz C X hr => ?_)
  unfold wp_Ra_exchange at hw
  show ST g C [(a_t, .inr (2, [.ref a_t_days, .ref a_t_aboves, .ref a_t_belows, .ref a_t_aboveNow, .ref a_t_belowNow])), aJ g a_t_aboveNow 8 t_aboveNow, aJ g a_t_belowNow 8 t_belowNow] [(0, .ref a_t), (1, .int maker), (2, .long amount)] [] 0 0 0
  refine st_lload_n X 2 d_Ra_exchange_0 rfl rfl ?_
  refine st_aload_n X 0 d_Ra_exchange_1 rfl rfl ?_
  refine st_get X (ci := 2) in_Ra 0 3 wf_Ra_27 rfl rfl (by decide) rfl d_Ra_exchange_2 ?_
  refine st_iload_n X 1 d_Ra_exchange_5 rfl rfl ?_
  obtain ⟨hb1, hw⟩ := hw
  refine st_lald X 1 rfl hb1 d_Ra_exchange_6 ?_
  refine st_lmul X d_Ra_exchange_7 ?_
  refine st_aload_n X 0 d_Ra_exchange_8 rfl rfl ?_
  refine st_get X (ci := 2) in_Ra 0 4 wf_Ra_30 rfl rfl (by decide) rfl d_Ra_exchange_9 ?_
  refine st_iload_n X 1 d_Ra_exchange_12 rfl rfl ?_
  obtain ⟨hb2, hw⟩ := hw
  refine st_lald X 2 rfl hb2 d_Ra_exchange_13 ?_
  have hR := rn_SN (pc := 14) (k := 0) (n := 0) (As := [.long (amount * (t_aboveNow maker.toNatClampNeg)), .long (t_belowNow maker.toNatClampNeg)]) (rest := []) X (k_C_divideUp g hg (amount * (t_aboveNow maker.toNatClampNeg)) (t_belowNow maker.toNatClampNeg) _ hw) nl_Ra_54 ws_C_divideUp wz_C wc_C_divideUp h9_C_divideUp ⟨by decide, by decide⟩ (Nat.le_of_ble_eq_true rfl) ⟨by decide, by decide⟩ d_Ra_exchange_14
  refine st_calll X hR [] [0, 1, 2] (wr := [(a_t, .inr (2, [.ref a_t_days, .ref a_t_aboves, .ref a_t_belows, .ref a_t_aboveNow, .ref a_t_belowNow])), aJ g a_t_aboveNow 8 t_aboveNow, aJ g a_t_belowNow 8 t_belowNow]) rfl rfl (by decide) (by decide) (by decide) (fun r1 u9 hw => ?_)
  try dsimp only at hw
  refine st_widen (k2 := 0) (n2 := 0) (by decide) (by decide) ?_
  refine st_perm (ws2 := [(a_t, .inr (2, [.ref a_t_days, .ref a_t_aboves, .ref a_t_belows, .ref a_t_aboveNow, .ref a_t_belowNow])), aJ g a_t_aboveNow 8 t_aboveNow, aJ g a_t_belowNow 8 t_belowNow]) [0, 1, 2] rfl (by decide) ?_
  show ST g C [(a_t, .inr (2, [.ref a_t_days, .ref a_t_aboves, .ref a_t_belows, .ref a_t_aboveNow, .ref a_t_belowNow])), aJ g a_t_aboveNow 8 t_aboveNow, aJ g a_t_belowNow 8 t_belowNow] [(0, .ref a_t), (1, .int maker), (2, .long amount)] [.long r1] 17 0 0
  exact st_lret X hr () hw rfl (by decide) (by decide) d_Ra_exchange_17
end
section
theorem h9_Q_clearRow : y_Q_clearRow.cls ≠ "java/lang/invoke/MethodHandle" ∧ y_Q_clearRow.cls ≠ "java/lang/invoke/VarHandle" ∧ (parseMethodDescriptor y_Q_clearRow.desc).map (fun d => d.parameters.length) = some 1 := by decide +kernel
def wp_Q_clearRow (row : Int32) (t_costs : Nat → Int64) (t_pieces : Nat → Int32) (t_makers : Nat → Int32) (t_parts : Nat → Int32) (Q : (Nat → Int64) → (Nat → Int32) → (Nat → Int32) → (Nat → Int32) → Prop) : Prop :=
  vp_in row 33 ∧
  ∀ f1 : Nat → Int64, f1 = vp_updL t_costs row.toNatClampNeg 0 →
  vp_in row 33 ∧
  ∀ f2 : Nat → Int32, f2 = upd t_pieces row.toNatClampNeg 0 →
  vp_in row 33 ∧
  ∀ f3 : Nat → Int32, f3 = upd t_makers row.toNatClampNeg (-1) →
  vp_in row 33 ∧
  ∀ f4 : Nat → Int32, f4 = upd t_parts row.toNatClampNeg (-1) →
  Q f1 f2 f3 f4
set_option maxHeartbeats 4000000 in
set_option maxRecDepth 100000 in
theorem k_Q_clearRow (g : GX) (hg : g.1.stackTraces = false) (a_t : Nat) (row : Int32) (a_t_costs : Nat) (a_t_pieces : Nat) (a_t_makers : Nat) (a_t_parts : Nat) (t_rowCount : Int32) (t_costs : Nat → Int64) (t_pieces : Nat → Int32) (t_makers : Nat → Int32) (t_parts : Nat → Int32) (Q : (Nat → Int64) → (Nat → Int32) → (Nat → Int32) → (Nat → Int32) → Prop) (hw : wp_Q_clearRow row t_costs t_pieces t_makers t_parts Q) : CT g y_Q_clearRow c_Q_clearRow 2 none ({ frames := 0, cells := 0, slots := 0, locals := 0 } : Room) [.ref a_t, .int row] [(a_t, .inr (1, [.ref a_t_costs, .ref a_t_pieces, .ref a_t_makers, .ref a_t_parts, .int t_rowCount])), aJ g a_t_costs 33 t_costs, aI g a_t_pieces 33 t_pieces, aI g a_t_makers 33 t_makers, aI g a_t_parts 33 t_parts] (QV g [(a_t, .inr (1, [.ref a_t_costs, .ref a_t_pieces, .ref a_t_makers, .ref a_t_parts, .int t_rowCount])), aJ g a_t_costs 33 t_costs, aI g a_t_pieces 33 t_pieces, aI g a_t_makers 33 t_makers, aI g a_t_parts 33 t_parts] (fun u : (Nat → Int64) × (Nat → Int32) × (Nat → Int32) × (Nat → Int32) => [(a_t, .inr (1, [.ref a_t_costs, .ref a_t_pieces, .ref a_t_makers, .ref a_t_parts, .int t_rowCount])), aJ g a_t_costs 33 u.1, aI g a_t_pieces 33 u.2.1, aI g a_t_makers 33 u.2.2.1, aI g a_t_parts 33 u.2.2.2]) (fun u => Q u.1 u.2.1 u.2.2.1 u.2.2.2)) := by
  refine ct_of hg (by decide) (Nat.le_of_ble_eq_true rfl) (fun sz C X hr => ?_)
  unfold wp_Q_clearRow at hw
  show ST g C [(a_t, .inr (1, [.ref a_t_costs, .ref a_t_pieces, .ref a_t_makers, .ref a_t_parts, .int t_rowCount])), aJ g a_t_costs 33 t_costs, aI g a_t_pieces 33 t_pieces, aI g a_t_makers 33 t_makers, aI g a_t_parts 33 t_parts] [(0, .ref a_t), (1, .int row)] [] 0 0 0
  refine st_aload_n X 0 d_Q_clearRow_0 rfl rfl ?_
  refine st_get X (ci := 1) in_Q 0 0 wf_Q_9 rfl rfl (by decide) rfl d_Q_clearRow_1 ?_
  refine st_iload_n X 1 d_Q_clearRow_4 rfl rfl ?_
  refine st_lconst X (v := 0) d_Q_clearRow_5 (by decide) ?_
  obtain ⟨hb1, hw⟩ := hw
  obtain ⟨f1, hf1⟩ : ∃ z : Nat → Int64, z = vp_updL t_costs row.toNatClampNeg 0 := ⟨_, rfl⟩
  replace hw := hw f1 hf1
  refine st_last X (ws2 := [(a_t, .inr (1, [.ref a_t_costs, .ref a_t_pieces, .ref a_t_makers, .ref a_t_parts, .int t_rowCount])), aJ g a_t_costs 33 f1, aI g a_t_pieces 33 t_pieces, aI g a_t_makers 33 t_makers, aI g a_t_parts 33 t_parts]) 1 rfl hb1 (by rw [hf1]; rfl) d_Q_clearRow_6 ?_
  refine st_aload_n X 0 d_Q_clearRow_7 rfl rfl ?_
  refine st_get X (ci := 1) in_Q 0 1 wf_Q_15 rfl rfl (by decide) rfl d_Q_clearRow_8 ?_
  refine st_iload_n X 1 d_Q_clearRow_11 rfl rfl ?_
  refine st_iconst X (v := 0) d_Q_clearRow_12 (by decide) ?_
  obtain ⟨hb2, hw⟩ := hw
  obtain ⟨f2, hf2⟩ : ∃ z : Nat → Int32, z = upd t_pieces row.toNatClampNeg 0 := ⟨_, rfl⟩
  replace hw := hw f2 hf2
  refine st_iast X (ws2 := [(a_t, .inr (1, [.ref a_t_costs, .ref a_t_pieces, .ref a_t_makers, .ref a_t_parts, .int t_rowCount])), aJ g a_t_costs 33 f1, aI g a_t_pieces 33 f2, aI g a_t_makers 33 t_makers, aI g a_t_parts 33 t_parts]) 2 rfl hb2 (by rw [hf2]; rfl) d_Q_clearRow_13 ?_
  refine st_aload_n X 0 d_Q_clearRow_14 rfl rfl ?_
  refine st_get X (ci := 1) in_Q 0 2 wf_Q_19 rfl rfl (by decide) rfl d_Q_clearRow_15 ?_
  refine st_iload_n X 1 d_Q_clearRow_18 rfl rfl ?_
  refine st_iconst X (v := (-1)) d_Q_clearRow_19 (by decide) ?_
  obtain ⟨hb3, hw⟩ := hw
  obtain ⟨f3, hf3⟩ : ∃ z : Nat → Int32, z = upd t_makers row.toNatClampNeg (-1) := ⟨_, rfl⟩
  replace hw := hw f3 hf3
  refine st_iast X (ws2 := [(a_t, .inr (1, [.ref a_t_costs, .ref a_t_pieces, .ref a_t_makers, .ref a_t_parts, .int t_rowCount])), aJ g a_t_costs 33 f1, aI g a_t_pieces 33 f2, aI g a_t_makers 33 f3, aI g a_t_parts 33 t_parts]) 3 rfl hb3 (by rw [hf3]; rfl) d_Q_clearRow_20 ?_
  refine st_aload_n X 0 d_Q_clearRow_21 rfl rfl ?_
  refine st_get X (ci := 1) in_Q 0 3 wf_Q_22 rfl rfl (by decide) rfl d_Q_clearRow_22 ?_
  refine st_iload_n X 1 d_Q_clearRow_25 rfl rfl ?_
  refine st_iconst X (v := (-1)) d_Q_clearRow_26 (by decide) ?_
  obtain ⟨hb4, hw⟩ := hw
  obtain ⟨f4, hf4⟩ : ∃ z : Nat → Int32, z = upd t_parts row.toNatClampNeg (-1) := ⟨_, rfl⟩
  replace hw := hw f4 hf4
  refine st_iast X (ws2 := [(a_t, .inr (1, [.ref a_t_costs, .ref a_t_pieces, .ref a_t_makers, .ref a_t_parts, .int t_rowCount])), aJ g a_t_costs 33 f1, aI g a_t_pieces 33 f2, aI g a_t_makers 33 f3, aI g a_t_parts 33 f4]) 4 rfl hb4 (by rw [hf4]; rfl) d_Q_clearRow_27 ?_
  exact st_vret X hr (f1, f2, f3, f4) hw rfl (by decide) (by decide) d_Q_clearRow_28

theorem h9_Q_begin : y_Q_begin.cls ≠ "java/lang/invoke/MethodHandle" ∧ y_Q_begin.cls ≠ "java/lang/invoke/VarHandle" ∧ (parseMethodDescriptor y_Q_begin.desc).map (fun d => d.parameters.length) = some 1 := by decide +kernel
def wp_Q_begin_L7 (rows : Int32) (Q : Int32 → (Nat → Int64) → (Nat → Int32) → (Nat → Int32) → (Nat → Int32) → Prop) : Nat → Int32 → (Nat → Int64) → (Nat → Int32) → (Nat → Int32) → (Nat → Int32) → Prop
  | 0, _, _, _, _, _ => False
  | n7 + 1, v1, f2, f3, f4, f5 =>
  ((33 ≤ v1) → Q rows f2 f3 f4 f5) ∧
  ((¬ 33 ≤ v1) → wp_Q_clearRow v1 f2 f3 f4 f5 (fun u6 u7 u8 u9 =>
  ∀ x10 : Int32, x10 = v1 + 1 →
  (wp_Q_begin_L7 rows Q n7) x10 u6 u7 u8 u9))
def wp_Q_begin (rows : Int32) (t_costs : Nat → Int64) (t_pieces : Nat → Int32) (t_makers : Nat → Int32) (t_parts : Nat → Int32) (Q : Int32 → (Nat → Int64) → (Nat → Int32) → (Nat → Int32) → (Nat → Int32) → Prop) : Prop :=
  ∃ n7 : Nat, wp_Q_begin_L7 rows Q n7 0 t_costs t_pieces t_makers t_parts
set_option maxHeartbeats 4000000 in
set_option maxRecDepth 100000 in
theorem k_Q_begin (g : GX) (hg : g.1.stackTraces = false) (a_t : Nat) (rows : Int32) (a_t_costs : Nat) (a_t_pieces : Nat) (a_t_makers : Nat) (a_t_parts : Nat) (t_rowCount : Int32) (t_costs : Nat → Int64) (t_pieces : Nat → Int32) (t_makers : Nat → Int32) (t_parts : Nat → Int32) (Q : Int32 → (Nat → Int64) → (Nat → Int32) → (Nat → Int32) → (Nat → Int32) → Prop) (hw : wp_Q_begin rows t_costs t_pieces t_makers t_parts Q) : CT g y_Q_begin c_Q_begin 3 none ({ frames := 1, cells := 0, slots := 0, locals := 21 } : Room) [.ref a_t, .int rows] [(a_t, .inr (1, [.ref a_t_costs, .ref a_t_pieces, .ref a_t_makers, .ref a_t_parts, .int t_rowCount])), aJ g a_t_costs 33 t_costs, aI g a_t_pieces 33 t_pieces, aI g a_t_makers 33 t_makers, aI g a_t_parts 33 t_parts] (QV g [(a_t, .inr (1, [.ref a_t_costs, .ref a_t_pieces, .ref a_t_makers, .ref a_t_parts, .int t_rowCount])), aJ g a_t_costs 33 t_costs, aI g a_t_pieces 33 t_pieces, aI g a_t_makers 33 t_makers, aI g a_t_parts 33 t_parts] (fun u : Int32 × (Nat → Int64) × (Nat → Int32) × (Nat → Int32) × (Nat → Int32) => [(a_t, .inr (1, [.ref a_t_costs, .ref a_t_pieces, .ref a_t_makers, .ref a_t_parts, .int u.1])), aJ g a_t_costs 33 u.2.1, aI g a_t_pieces 33 u.2.2.1, aI g a_t_makers 33 u.2.2.2.1, aI g a_t_parts 33 u.2.2.2.2]) (fun u => Q u.1 u.2.1 u.2.2.1 u.2.2.2.1 u.2.2.2.2)) := by
  refine ct_of hg (by decide) (Nat.le_of_ble_eq_true rfl) (fun sz C X hr => ?_)
  unfold wp_Q_begin at hw
  show ST g C [(a_t, .inr (1, [.ref a_t_costs, .ref a_t_pieces, .ref a_t_makers, .ref a_t_parts, .int t_rowCount])), aJ g a_t_costs 33 t_costs, aI g a_t_pieces 33 t_pieces, aI g a_t_makers 33 t_makers, aI g a_t_parts 33 t_parts] [(0, .ref a_t), (1, .int rows)] [] 0 0 0
  refine st_aload_n X 0 d_Q_begin_0 rfl rfl ?_
  refine st_iload_n X 1 d_Q_begin_1 rfl rfl ?_
  refine st_put X (ci := 1) (ty := .int) in_Q t_Q to_Q nm_Q 0 4 wf_Q_25 rfl rfl (by decide) rfl (by decide +kernel) rfl rfl (Nat.le_of_ble_eq_true rfl) (ws2 := [(a_t, .inr (1, [.ref a_t_costs, .ref a_t_pieces, .ref a_t_makers, .ref a_t_parts, .int rows])), aJ g a_t_costs 33 t_costs, aI g a_t_pieces 33 t_pieces, aI g a_t_makers 33 t_makers, aI g a_t_parts 33 t_parts]) rfl d_Q_begin_2 ?_
  refine st_iconst X (v := 0) d_Q_begin_5 (by decide) ?_
  refine st_istore_n X (lv2 := [(2, .int 0), (0, .ref a_t), (1, .int rows)]) d_Q_begin_6 rfl (by decide) rfl ?_
  have L7 : ∀ (n7 : Nat) (v1 : Int32) (f2 : Nat → Int64) (f3 : Nat → Int32) (f4 : Nat → Int32) (f5 : Nat → Int32), wp_Q_begin_L7 rows Q n7 v1 f2 f3 f4 f5 → ST g C [(a_t, .inr (1, [.ref a_t_costs, .ref a_t_pieces, .ref a_t_makers, .ref a_t_parts, .int rows])), aJ g a_t_costs 33 f2, aI g a_t_pieces 33 f3, aI g a_t_makers 33 f4, aI g a_t_parts 33 f5] [(0, .ref a_t), (1, .int rows), (2, .int v1)] [] 7 0 0 := by
    intro n7
    induction n7 with
    | zero => intro v1 f2 f3 f4 f5 hw; exact hw.elim
    | succ n7 ih7 =>
      intro v1 f2 f3 f4 f5 hw
      rw [wp_Q_begin_L7] at hw
      refine st_iload_n X 2 d_Q_begin_7 rfl rfl ?_
      refine st_bipush X (v := 33) d_Q_begin_8 (by decide) ?_
      refine st_icmp_ge X 24 d_Q_begin_10 (by decide) (fun hc => ?_) (fun hc => ?_)
      · replace hw := hw.1 hc
        exact st_vret X hr (rows, f2, f3, f4, f5) hw rfl (by decide) (by decide) d_Q_begin_24
      · replace hw := hw.2 hc
        refine st_aload_n X 0 d_Q_begin_13 rfl rfl ?_
        refine st_iload_n X 2 d_Q_begin_14 rfl rfl ?_
        have hR := rn_V (pc := 15) (k := 0) (n := 0) (As := [.int v1]) (rest := []) X (k_Q_clearRow g hg a_t v1 a_t_costs a_t_pieces a_t_makers a_t_parts rows f2 f3 f4 f5 _ hw) (q0 := 0) rfl rfl wm_Q_29 wi_Q_clearRow wl_Q_clearRow wz_Q wc_Q_clearRow h9_Q_clearRow ⟨by decide, by decide⟩ (Nat.le_of_ble_eq_true rfl) ⟨by decide, by decide⟩ d_Q_begin_15
        refine st_callv X hR [0, 1, 2, 3, 4] [] (wr := []) rfl rfl (by decide) (by decide) (by decide) (fun u9 hw => ?_)
        obtain ⟨u6, u7, u8, u9⟩ := u9
        try dsimp only at hw
        refine st_widen (k2 := 0) (n2 := 0) (by decide) (by decide) ?_
        refine st_perm (ws2 := [(a_t, .inr (1, [.ref a_t_costs, .ref a_t_pieces, .ref a_t_makers, .ref a_t_parts, .int rows])), aJ g a_t_costs 33 u6, aI g a_t_pieces 33 u7, aI g a_t_makers 33 u8, aI g a_t_parts 33 u9]) [0, 1, 2, 3, 4] rfl (by decide) ?_
        show ST g C [(a_t, .inr (1, [.ref a_t_costs, .ref a_t_pieces, .ref a_t_makers, .ref a_t_parts, .int rows])), aJ g a_t_costs 33 u6, aI g a_t_pieces 33 u7, aI g a_t_makers 33 u8, aI g a_t_parts 33 u9] [(0, .ref a_t), (1, .int rows), (2, .int v1)] [] 18 0 0
        obtain ⟨x10, hx10⟩ : ∃ z : Int32, z = v1 + 1 := ⟨_, rfl⟩
        replace hw := hw x10 hx10
        refine st_iinc X (v := x10) (lv2 := [(2, .int x10), (0, .ref a_t), (1, .int rows)]) 2 d_Q_begin_18 rfl (by rw [hx10]; rfl) (by decide) rfl ?_
        refine st_goto X 7 d_Q_begin_21 (by decide) ?_
        refine st_lv [1, 2, 0] rfl ?_
        exact ih7 x10 u6 u7 u8 u9 hw
  obtain ⟨n7, hw⟩ := hw
  refine st_lv [1, 2, 0] rfl ?_
  exact L7 n7 0 t_costs t_pieces t_makers t_parts hw

theorem h9_Q_isBought : y_Q_isBought.cls ≠ "java/lang/invoke/MethodHandle" ∧ y_Q_isBought.cls ≠ "java/lang/invoke/VarHandle" ∧ (parseMethodDescriptor y_Q_isBought.desc).map (fun d => d.parameters.length) = some 1 := by decide +kernel
def wp_Q_isBought_J15 (Q : Int32 → Prop) (v1 : Int32) : Prop :=
  (v1 = 0 ∨ v1 = 1) ∧ Q v1
def wp_Q_isBought (row : Int32) (t_makers : Nat → Int32) (Q : Int32 → Prop) : Prop :=
  vp_in row 33 ∧
  (((t_makers row.toNatClampNeg) = (-1)) → wp_Q_isBought_J15 Q 0) ∧
  ((¬ (t_makers row.toNatClampNeg) = (-1)) → wp_Q_isBought_J15 Q 1)
set_option maxHeartbeats 4000000 in
set_option maxRecDepth 100000 in
theorem k_Q_isBought (g : GX) (hg : g.1.stackTraces = false) (a_t : Nat) (row : Int32) (a_t_costs : Nat) (a_t_pieces : Nat) (a_t_makers : Nat) (a_t_parts : Nat) (t_rowCount : Int32) (t_makers : Nat → Int32) (Q : Int32 → Prop) (hw : wp_Q_isBought row t_makers Q) : CT g y_Q_isBought c_Q_isBought 2 (some .boolean) ({ frames := 0, cells := 0, slots := 0, locals := 0 } : Room) [.ref a_t, .int row] [(a_t, .inr (1, [.ref a_t_costs, .ref a_t_pieces, .ref a_t_makers, .ref a_t_parts, .int t_rowCount])), aI g a_t_makers 33 t_makers] (QI g [(a_t, .inr (1, [.ref a_t_costs, .ref a_t_pieces, .ref a_t_makers, .ref a_t_parts, .int t_rowCount])), aI g a_t_makers 33 t_makers] (fun u : Unit => [(a_t, .inr (1, [.ref a_t_costs, .ref a_t_pieces, .ref a_t_makers, .ref a_t_parts, .int t_rowCount])), aI g a_t_makers 33 t_makers]) (fun r u => Q r)) := by
  refine ct_of hg (by decide) (Nat.le_of_ble_eq_true rfl) (fun sz C X hr => ?_)
  unfold wp_Q_isBought at hw
  show ST g C [(a_t, .inr (1, [.ref a_t_costs, .ref a_t_pieces, .ref a_t_makers, .ref a_t_parts, .int t_rowCount])), aI g a_t_makers 33 t_makers] [(0, .ref a_t), (1, .int row)] [] 0 0 0
  refine st_aload_n X 0 d_Q_isBought_0 rfl rfl ?_
  refine st_get X (ci := 1) in_Q 0 2 wf_Q_19 rfl rfl (by decide) rfl d_Q_isBought_1 ?_
  refine st_iload_n X 1 d_Q_isBought_4 rfl rfl ?_
  obtain ⟨hb1, hw⟩ := hw
  refine st_iald X 1 rfl hb1 d_Q_isBought_5 ?_
  refine st_iconst X (v := (-1)) d_Q_isBought_6 (by decide) ?_
  have J15 : ∀ (v1 : Int32), wp_Q_isBought_J15 Q v1 → ST g C [(a_t, .inr (1, [.ref a_t_costs, .ref a_t_pieces, .ref a_t_makers, .ref a_t_parts, .int t_rowCount])), aI g a_t_makers 33 t_makers] [(0, .ref a_t), (1, .int row)] [.int v1] 15 0 0 := by
    intro v1 hw
    unfold wp_Q_isBought_J15 at hw
    obtain ⟨hz, hw⟩ := hw
    exact st_zret X hr () hw hz rfl (by decide) (by decide) d_Q_isBought_15
  refine st_icmp_eq X 14 d_Q_isBought_7 (by decide) (fun hc => ?_) (fun hc => ?_)
  · replace hw := hw.1 hc
    refine st_iconst X (v := 0) d_Q_isBought_14 (by decide) ?_
    refine st_lv [0, 1] rfl ?_
    exact J15 0 hw
  · replace hw := hw.2 hc
    refine st_iconst X (v := 1) d_Q_isBought_10 (by decide) ?_
    refine st_goto X 15 d_Q_isBought_11 (by decide) ?_
    refine st_lv [0, 1] rfl ?_
    exact J15 1 hw

theorem h9_Q_isBetter : y_Q_isBetter.cls ≠ "java/lang/invoke/MethodHandle" ∧ y_Q_isBetter.cls ≠ "java/lang/invoke/VarHandle" ∧ (parseMethodDescriptor y_Q_isBetter.desc).map (fun d => d.parameters.length) = some 5 := by decide +kernel
def wp_Q_isBetter_J100 (Q : Int32 → Prop) (v1 : Int32) : Prop :=
  (v1 = 0 ∨ v1 = 1) ∧ Q v1
def wp_Q_isBetter_J83 (Q : Int32 → Prop) (v2 : Int32) : Prop :=
  (v2 = 0 ∨ v2 = 1) ∧ Q v2
def wp_Q_isBetter_J55 (Q : Int32 → Prop) (v3 : Int32) : Prop :=
  (v3 = 0 ∨ v3 = 1) ∧ Q v3
def wp_Q_isBetter_J27 (Q : Int32 → Prop) (v4 : Int32) : Prop :=
  (v4 = 0 ∨ v4 = 1) ∧ Q v4
def wp_Q_isBetter (row : Int32) (cost : Int64) (part : Int32) (maker : Int32) (count : Int32) (t_costs : Nat → Int64) (t_pieces : Nat → Int32) (t_makers : Nat → Int32) (t_parts : Nat → Int32) (Q : Int32 → Prop) : Prop :=
  vp_in row 33 ∧
  ((cost = (t_costs row.toNatClampNeg)) → vp_in row 33 ∧
  ((part = (t_parts row.toNatClampNeg)) → vp_in row 33 ∧
  ((maker = (t_makers row.toNatClampNeg)) → vp_in row 33 ∧
  (((t_pieces row.toNatClampNeg) ≤ count) → wp_Q_isBetter_J100 Q 0) ∧
  ((¬ (t_pieces row.toNatClampNeg) ≤ count) → wp_Q_isBetter_J100 Q 1)) ∧
  ((¬ maker = (t_makers row.toNatClampNeg)) → vp_in row 33 ∧
  (((t_makers row.toNatClampNeg) ≤ maker) → wp_Q_isBetter_J83 Q 0) ∧
  ((¬ (t_makers row.toNatClampNeg) ≤ maker) → wp_Q_isBetter_J83 Q 1))) ∧
  ((¬ part = (t_parts row.toNatClampNeg)) → vp_in row 33 ∧
  (((t_parts row.toNatClampNeg) ≤ part) → wp_Q_isBetter_J55 Q 0) ∧
  ((¬ (t_parts row.toNatClampNeg) ≤ part) → wp_Q_isBetter_J55 Q 1))) ∧
  ((¬ cost = (t_costs row.toNatClampNeg)) → vp_in row 33 ∧
  (((t_costs row.toNatClampNeg) ≤ cost) → wp_Q_isBetter_J27 Q 0) ∧
  ((¬ (t_costs row.toNatClampNeg) ≤ cost) → wp_Q_isBetter_J27 Q 1))
set_option maxHeartbeats 4000000 in
set_option maxRecDepth 100000 in
theorem k_Q_isBetter (g : GX) (hg : g.1.stackTraces = false) (a_t : Nat) (row : Int32) (cost : Int64) (part : Int32) (maker : Int32) (count : Int32) (a_t_costs : Nat) (a_t_pieces : Nat) (a_t_makers : Nat) (a_t_parts : Nat) (t_rowCount : Int32) (t_costs : Nat → Int64) (t_pieces : Nat → Int32) (t_makers : Nat → Int32) (t_parts : Nat → Int32) (Q : Int32 → Prop) (hw : wp_Q_isBetter row cost part maker count t_costs t_pieces t_makers t_parts Q) : CT g y_Q_isBetter c_Q_isBetter 7 (some .boolean) ({ frames := 0, cells := 0, slots := 0, locals := 0 } : Room) [.ref a_t, .int row, .long cost, .int part, .int maker, .int count] [(a_t, .inr (1, [.ref a_t_costs, .ref a_t_pieces, .ref a_t_makers, .ref a_t_parts, .int t_rowCount])), aJ g a_t_costs 33 t_costs, aI g a_t_pieces 33 t_pieces, aI g a_t_makers 33 t_makers, aI g a_t_parts 33 t_parts] (QI g [(a_t, .inr (1, [.ref a_t_costs, .ref a_t_pieces, .ref a_t_makers, .ref a_t_parts, .int t_rowCount])), aJ g a_t_costs 33 t_costs, aI g a_t_pieces 33 t_pieces, aI g a_t_makers 33 t_makers, aI g a_t_parts 33 t_parts] (fun u : Unit => [(a_t, .inr (1, [.ref a_t_costs, .ref a_t_pieces, .ref a_t_makers, .ref a_t_parts, .int t_rowCount])), aJ g a_t_costs 33 t_costs, aI g a_t_pieces 33 t_pieces, aI g a_t_makers 33 t_makers, aI g a_t_parts 33 t_parts]) (fun r u => Q r)) := by
  refine ct_of hg (by decide) (Nat.le_of_ble_eq_true rfl) (fun sz C X hr => ?_)
  unfold wp_Q_isBetter at hw
  show ST g C [(a_t, .inr (1, [.ref a_t_costs, .ref a_t_pieces, .ref a_t_makers, .ref a_t_parts, .int t_rowCount])), aJ g a_t_costs 33 t_costs, aI g a_t_pieces 33 t_pieces, aI g a_t_makers 33 t_makers, aI g a_t_parts 33 t_parts] [(0, .ref a_t), (1, .int row), (2, .long cost), (4, .int part), (5, .int maker), (6, .int count)] [] 0 0 0
  refine st_lload_n X 2 d_Q_isBetter_0 rfl rfl ?_
  refine st_aload_n X 0 d_Q_isBetter_1 rfl rfl ?_
  refine st_get X (ci := 1) in_Q 0 0 wf_Q_9 rfl rfl (by decide) rfl d_Q_isBetter_2 ?_
  refine st_iload_n X 1 d_Q_isBetter_5 rfl rfl ?_
  obtain ⟨hb1, hw⟩ := hw
  refine st_lald X 1 rfl hb1 d_Q_isBetter_6 ?_
  refine st_lcmp_eq X 28 d_Q_isBetter_7 d_Q_isBetter_8 (by decide) (fun hc => ?_) (fun hc => ?_)
  · replace hw := hw.1 hc
    refine st_iload X 3 d_Q_isBetter_28 rfl ?_
    refine st_aload_n X 0 d_Q_isBetter_30 rfl rfl ?_
    refine st_get X (ci := 1) in_Q 0 3 wf_Q_22 rfl rfl (by decide) rfl d_Q_isBetter_31 ?_
    refine st_iload_n X 1 d_Q_isBetter_34 rfl rfl ?_
    obtain ⟨hb2, hw⟩ := hw
    refine st_iald X 4 rfl hb2 d_Q_isBetter_35 ?_
    refine st_icmp_eq X 56 d_Q_isBetter_36 (by decide) (fun hc => ?_) (fun hc => ?_)
    · replace hw := hw.1 hc
      refine st_iload X 4 d_Q_isBetter_56 rfl ?_
      refine st_aload_n X 0 d_Q_isBetter_58 rfl rfl ?_
      refine st_get X (ci := 1) in_Q 0 2 wf_Q_19 rfl rfl (by decide) rfl d_Q_isBetter_59 ?_
      refine st_iload_n X 1 d_Q_isBetter_62 rfl rfl ?_
      obtain ⟨hb3, hw⟩ := hw
      refine st_iald X 3 rfl hb3 d_Q_isBetter_63 ?_
      refine st_icmp_eq X 84 d_Q_isBetter_64 (by decide) (fun hc => ?_) (fun hc => ?_)
      · replace hw := hw.1 hc
        refine st_iload X 5 d_Q_isBetter_84 rfl ?_
        refine st_aload_n X 0 d_Q_isBetter_86 rfl rfl ?_
        refine st_get X (ci := 1) in_Q 0 1 wf_Q_15 rfl rfl (by decide) rfl d_Q_isBetter_87 ?_
        refine st_iload_n X 1 d_Q_isBetter_90 rfl rfl ?_
        obtain ⟨hb4, hw⟩ := hw
        refine st_iald X 2 rfl hb4 d_Q_isBetter_91 ?_
        have J100 : ∀ (v1 : Int32), wp_Q_isBetter_J100 Q v1 → ST g C [(a_t, .inr (1, [.ref a_t_costs, .ref a_t_pieces, .ref a_t_makers, .ref a_t_parts, .int t_rowCount])), aJ g a_t_costs 33 t_costs, aI g a_t_pieces 33 t_pieces, aI g a_t_makers 33 t_makers, aI g a_t_parts 33 t_parts] [(0, .ref a_t), (1, .int row), (2, .long cost), (4, .int part), (5, .int maker), (6, .int count)] [.int v1] 100 0 0 := by
          intro v1 hw
          unfold wp_Q_isBetter_J100 at hw
          obtain ⟨hz, hw⟩ := hw
          exact st_zret X hr () hw hz rfl (by decide) (by decide) d_Q_isBetter_100
        refine st_icmp_ge X 99 d_Q_isBetter_92 (by decide) (fun hc => ?_) (fun hc => ?_)
        · replace hw := hw.1 hc
          refine st_iconst X (v := 0) d_Q_isBetter_99 (by decide) ?_
          refine st_lv [0, 1, 2, 3, 4, 5] rfl ?_
          exact J100 0 hw
        · replace hw := hw.2 hc
          refine st_iconst X (v := 1) d_Q_isBetter_95 (by decide) ?_
          refine st_goto X 100 d_Q_isBetter_96 (by decide) ?_
          refine st_lv [0, 1, 2, 3, 4, 5] rfl ?_
          exact J100 1 hw
      · replace hw := hw.2 hc
        refine st_iload X 4 d_Q_isBetter_67 rfl ?_
        refine st_aload_n X 0 d_Q_isBetter_69 rfl rfl ?_
        refine st_get X (ci := 1) in_Q 0 2 wf_Q_19 rfl rfl (by decide) rfl d_Q_isBetter_70 ?_
        refine st_iload_n X 1 d_Q_isBetter_73 rfl rfl ?_
        obtain ⟨hb5, hw⟩ := hw
        refine st_iald X 3 rfl hb5 d_Q_isBetter_74 ?_
        have J83 : ∀ (v2 : Int32), wp_Q_isBetter_J83 Q v2 → ST g C [(a_t, .inr (1, [.ref a_t_costs, .ref a_t_pieces, .ref a_t_makers, .ref a_t_parts, .int t_rowCount])), aJ g a_t_costs 33 t_costs, aI g a_t_pieces 33 t_pieces, aI g a_t_makers 33 t_makers, aI g a_t_parts 33 t_parts] [(0, .ref a_t), (1, .int row), (2, .long cost), (4, .int part), (5, .int maker), (6, .int count)] [.int v2] 83 0 0 := by
          intro v2 hw
          unfold wp_Q_isBetter_J83 at hw
          obtain ⟨hz, hw⟩ := hw
          exact st_zret X hr () hw hz rfl (by decide) (by decide) d_Q_isBetter_83
        refine st_icmp_ge X 82 d_Q_isBetter_75 (by decide) (fun hc => ?_) (fun hc => ?_)
        · replace hw := hw.1 hc
          refine st_iconst X (v := 0) d_Q_isBetter_82 (by decide) ?_
          refine st_lv [0, 1, 2, 3, 4, 5] rfl ?_
          exact J83 0 hw
        · replace hw := hw.2 hc
          refine st_iconst X (v := 1) d_Q_isBetter_78 (by decide) ?_
          refine st_goto X 83 d_Q_isBetter_79 (by decide) ?_
          refine st_lv [0, 1, 2, 3, 4, 5] rfl ?_
          exact J83 1 hw
    · replace hw := hw.2 hc
      refine st_iload X 3 d_Q_isBetter_39 rfl ?_
      refine st_aload_n X 0 d_Q_isBetter_41 rfl rfl ?_
      refine st_get X (ci := 1) in_Q 0 3 wf_Q_22 rfl rfl (by decide) rfl d_Q_isBetter_42 ?_
      refine st_iload_n X 1 d_Q_isBetter_45 rfl rfl ?_
      obtain ⟨hb6, hw⟩ := hw
      refine st_iald X 4 rfl hb6 d_Q_isBetter_46 ?_
      have J55 : ∀ (v3 : Int32), wp_Q_isBetter_J55 Q v3 → ST g C [(a_t, .inr (1, [.ref a_t_costs, .ref a_t_pieces, .ref a_t_makers, .ref a_t_parts, .int t_rowCount])), aJ g a_t_costs 33 t_costs, aI g a_t_pieces 33 t_pieces, aI g a_t_makers 33 t_makers, aI g a_t_parts 33 t_parts] [(0, .ref a_t), (1, .int row), (2, .long cost), (4, .int part), (5, .int maker), (6, .int count)] [.int v3] 55 0 0 := by
        intro v3 hw
        unfold wp_Q_isBetter_J55 at hw
        obtain ⟨hz, hw⟩ := hw
        exact st_zret X hr () hw hz rfl (by decide) (by decide) d_Q_isBetter_55
      refine st_icmp_ge X 54 d_Q_isBetter_47 (by decide) (fun hc => ?_) (fun hc => ?_)
      · replace hw := hw.1 hc
        refine st_iconst X (v := 0) d_Q_isBetter_54 (by decide) ?_
        refine st_lv [0, 1, 2, 3, 4, 5] rfl ?_
        exact J55 0 hw
      · replace hw := hw.2 hc
        refine st_iconst X (v := 1) d_Q_isBetter_50 (by decide) ?_
        refine st_goto X 55 d_Q_isBetter_51 (by decide) ?_
        refine st_lv [0, 1, 2, 3, 4, 5] rfl ?_
        exact J55 1 hw
  · replace hw := hw.2 hc
    refine st_lload_n X 2 d_Q_isBetter_11 rfl rfl ?_
    refine st_aload_n X 0 d_Q_isBetter_12 rfl rfl ?_
    refine st_get X (ci := 1) in_Q 0 0 wf_Q_9 rfl rfl (by decide) rfl d_Q_isBetter_13 ?_
    refine st_iload_n X 1 d_Q_isBetter_16 rfl rfl ?_
    obtain ⟨hb7, hw⟩ := hw
    refine st_lald X 1 rfl hb7 d_Q_isBetter_17 ?_
    have J27 : ∀ (v4 : Int32), wp_Q_isBetter_J27 Q v4 → ST g C [(a_t, .inr (1, [.ref a_t_costs, .ref a_t_pieces, .ref a_t_makers, .ref a_t_parts, .int t_rowCount])), aJ g a_t_costs 33 t_costs, aI g a_t_pieces 33 t_pieces, aI g a_t_makers 33 t_makers, aI g a_t_parts 33 t_parts] [(0, .ref a_t), (1, .int row), (2, .long cost), (4, .int part), (5, .int maker), (6, .int count)] [.int v4] 27 0 0 := by
      intro v4 hw
      unfold wp_Q_isBetter_J27 at hw
      obtain ⟨hz, hw⟩ := hw
      exact st_zret X hr () hw hz rfl (by decide) (by decide) d_Q_isBetter_27
    refine st_lcmp_ge X 26 d_Q_isBetter_18 d_Q_isBetter_19 (by decide) (fun hc => ?_) (fun hc => ?_)
    · replace hw := hw.1 hc
      refine st_iconst X (v := 0) d_Q_isBetter_26 (by decide) ?_
      refine st_lv [0, 1, 2, 3, 4, 5] rfl ?_
      exact J27 0 hw
    · replace hw := hw.2 hc
      refine st_iconst X (v := 1) d_Q_isBetter_22 (by decide) ?_
      refine st_goto X 27 d_Q_isBetter_23 (by decide) ?_
      refine st_lv [0, 1, 2, 3, 4, 5] rfl ?_
      exact J27 1 hw

theorem h9_Q_consider : y_Q_consider.cls ≠ "java/lang/invoke/MethodHandle" ∧ y_Q_consider.cls ≠ "java/lang/invoke/VarHandle" ∧ (parseMethodDescriptor y_Q_consider.desc).map (fun d => d.parameters.length) = some 5 := by decide +kernel
def wp_Q_consider_J24 (row : Int32) (cost : Int64) (part : Int32) (maker : Int32) (count : Int32) (t_costs : Nat → Int64) (t_pieces : Nat → Int32) (t_makers : Nat → Int32) (t_parts : Nat → Int32) (Q : (Nat → Int64) → (Nat → Int32) → (Nat → Int32) → (Nat → Int32) → Prop) : Prop :=
  vp_in row 33 ∧
  ∀ f2 : Nat → Int64, f2 = vp_updL t_costs row.toNatClampNeg cost →
  vp_in row 33 ∧
  ∀ f3 : Nat → Int32, f3 = upd t_pieces row.toNatClampNeg count →
  vp_in row 33 ∧
  ∀ f4 : Nat → Int32, f4 = upd t_makers row.toNatClampNeg maker →
  vp_in row 33 ∧
  ∀ f5 : Nat → Int32, f5 = upd t_parts row.toNatClampNeg part →
  Q f2 f3 f4 f5
def wp_Q_consider (row : Int32) (cost : Int64) (part : Int32) (maker : Int32) (count : Int32) (t_costs : Nat → Int64) (t_pieces : Nat → Int32) (t_makers : Nat → Int32) (t_parts : Nat → Int32) (Q : (Nat → Int64) → (Nat → Int32) → (Nat → Int32) → (Nat → Int32) → Prop) : Prop :=
  wp_Q_isBought row t_makers (fun r1 =>
  ((r1 = 0) → wp_Q_consider_J24 row cost part maker count t_costs t_pieces t_makers t_parts Q) ∧
  ((¬ r1 = 0) → wp_Q_isBetter row cost part maker count t_costs t_pieces t_makers t_parts (fun r6 =>
  ((¬ r6 = 0) → wp_Q_consider_J24 row cost part maker count t_costs t_pieces t_makers t_parts Q) ∧
  ((r6 = 0) → Q t_costs t_pieces t_makers t_parts))))
set_option maxHeartbeats 4000000 in
set_option maxRecDepth 100000 in
theorem k_Q_consider (g : GX) (hg : g.1.stackTraces = false) (a_t : Nat) (row : Int32) (cost : Int64) (part : Int32) (maker : Int32) (count : Int32) (a_t_costs : Nat) (a_t_pieces : Nat) (a_t_makers : Nat) (a_t_parts : Nat) (t_rowCount : Int32) (t_costs : Nat → Int64) (t_pieces : Nat → Int32) (t_makers : Nat → Int32) (t_parts : Nat → Int32) (Q : (Nat → Int64) → (Nat → Int32) → (Nat → Int32) → (Nat → Int32) → Prop) (hw : wp_Q_consider row cost part maker count t_costs t_pieces t_makers t_parts Q) : CT g y_Q_consider c_Q_consider 7 none ({ frames := 1, cells := 0, slots := 0, locals := 26 } : Room) [.ref a_t, .int row, .long cost, .int part, .int maker, .int count] [(a_t, .inr (1, [.ref a_t_costs, .ref a_t_pieces, .ref a_t_makers, .ref a_t_parts, .int t_rowCount])), aJ g a_t_costs 33 t_costs, aI g a_t_pieces 33 t_pieces, aI g a_t_makers 33 t_makers, aI g a_t_parts 33 t_parts] (QV g [(a_t, .inr (1, [.ref a_t_costs, .ref a_t_pieces, .ref a_t_makers, .ref a_t_parts, .int t_rowCount])), aJ g a_t_costs 33 t_costs, aI g a_t_pieces 33 t_pieces, aI g a_t_makers 33 t_makers, aI g a_t_parts 33 t_parts] (fun u : (Nat → Int64) × (Nat → Int32) × (Nat → Int32) × (Nat → Int32) => [(a_t, .inr (1, [.ref a_t_costs, .ref a_t_pieces, .ref a_t_makers, .ref a_t_parts, .int t_rowCount])), aJ g a_t_costs 33 u.1, aI g a_t_pieces 33 u.2.1, aI g a_t_makers 33 u.2.2.1, aI g a_t_parts 33 u.2.2.2]) (fun u => Q u.1 u.2.1 u.2.2.1 u.2.2.2)) := by
  refine ct_of hg (by decide) (Nat.le_of_ble_eq_true rfl) (fun sz C X hr => ?_)
  unfold wp_Q_consider at hw
  show ST g C [(a_t, .inr (1, [.ref a_t_costs, .ref a_t_pieces, .ref a_t_makers, .ref a_t_parts, .int t_rowCount])), aJ g a_t_costs 33 t_costs, aI g a_t_pieces 33 t_pieces, aI g a_t_makers 33 t_makers, aI g a_t_parts 33 t_parts] [(0, .ref a_t), (1, .int row), (2, .long cost), (4, .int part), (5, .int maker), (6, .int count)] [] 0 0 0
  refine st_aload_n X 0 d_Q_consider_0 rfl rfl ?_
  refine st_iload_n X 1 d_Q_consider_1 rfl rfl ?_
  have hR := rn_V (pc := 2) (k := 0) (n := 0) (As := [.int row]) (rest := []) X (k_Q_isBought g hg a_t row a_t_costs a_t_pieces a_t_makers a_t_parts t_rowCount t_makers _ hw) (q0 := 0) rfl rfl wm_Q_33 wi_Q_isBought wl_Q_isBought wz_Q wc_Q_isBought h9_Q_isBought ⟨by decide, by decide⟩ (Nat.le_of_ble_eq_true rfl) ⟨by decide, by decide⟩ d_Q_consider_2
  refine st_calli X hR [0, 3] [1, 2, 4] (wr := [aJ g a_t_costs 33 t_costs, aI g a_t_pieces 33 t_pieces, aI g a_t_parts 33 t_parts]) rfl rfl (by decide) (by decide) (by decide) (fun r1 u9 hw => ?_)
  try dsimp only at hw
  refine st_widen (k2 := 0) (n2 := 0) (by decide) (by decide) ?_
  refine st_perm (ws2 := [(a_t, .inr (1, [.ref a_t_costs, .ref a_t_pieces, .ref a_t_makers, .ref a_t_parts, .int t_rowCount])), aJ g a_t_costs 33 t_costs, aI g a_t_pieces 33 t_pieces, aI g a_t_makers 33 t_makers, aI g a_t_parts 33 t_parts]) [3, 0, 1, 4, 2] rfl (by decide) ?_
  show ST g C [(a_t, .inr (1, [.ref a_t_costs, .ref a_t_pieces, .ref a_t_makers, .ref a_t_parts, .int t_rowCount])), aJ g a_t_costs 33 t_costs, aI g a_t_pieces 33 t_pieces, aI g a_t_makers 33 t_makers, aI g a_t_parts 33 t_parts] [(0, .ref a_t), (1, .int row), (2, .long cost), (4, .int part), (5, .int maker), (6, .int count)] [.int r1] 5 0 0
  have J24 : wp_Q_consider_J24 row cost part maker count t_costs t_pieces t_makers t_parts Q → ST g C [(a_t, .inr (1, [.ref a_t_costs, .ref a_t_pieces, .ref a_t_makers, .ref a_t_parts, .int t_rowCount])), aJ g a_t_costs 33 t_costs, aI g a_t_pieces 33 t_pieces, aI g a_t_makers 33 t_makers, aI g a_t_parts 33 t_parts] [(0, .ref a_t), (1, .int row), (2, .long cost), (4, .int part), (5, .int maker), (6, .int count)] [] 24 0 0 := by
    intro hw
    unfold wp_Q_consider_J24 at hw
    refine st_aload_n X 0 d_Q_consider_24 rfl rfl ?_
    refine st_get X (ci := 1) in_Q 0 0 wf_Q_9 rfl rfl (by decide) rfl d_Q_consider_25 ?_
    refine st_iload_n X 1 d_Q_consider_28 rfl rfl ?_
    refine st_lload_n X 2 d_Q_consider_29 rfl rfl ?_
    obtain ⟨hb1, hw⟩ := hw
    obtain ⟨f2, hf2⟩ : ∃ z : Nat → Int64, z = vp_updL t_costs row.toNatClampNeg cost := ⟨_, rfl⟩
    replace hw := hw f2 hf2
    refine st_last X (ws2 := [(a_t, .inr (1, [.ref a_t_costs, .ref a_t_pieces, .ref a_t_makers, .ref a_t_parts, .int t_rowCount])), aJ g a_t_costs 33 f2, aI g a_t_pieces 33 t_pieces, aI g a_t_makers 33 t_makers, aI g a_t_parts 33 t_parts]) 1 rfl hb1 (by rw [hf2]; rfl) d_Q_consider_30 ?_
    refine st_aload_n X 0 d_Q_consider_31 rfl rfl ?_
    refine st_get X (ci := 1) in_Q 0 1 wf_Q_15 rfl rfl (by decide) rfl d_Q_consider_32 ?_
    refine st_iload_n X 1 d_Q_consider_35 rfl rfl ?_
    refine st_iload X 5 d_Q_consider_36 rfl ?_
    obtain ⟨hb2, hw⟩ := hw
    obtain ⟨f3, hf3⟩ : ∃ z : Nat → Int32, z = upd t_pieces row.toNatClampNeg count := ⟨_, rfl⟩
    replace hw := hw f3 hf3
    refine st_iast X (ws2 := [(a_t, .inr (1, [.ref a_t_costs, .ref a_t_pieces, .ref a_t_makers, .ref a_t_parts, .int t_rowCount])), aJ g a_t_costs 33 f2, aI g a_t_pieces 33 f3, aI g a_t_makers 33 t_makers, aI g a_t_parts 33 t_parts]) 2 rfl hb2 (by rw [hf3]; rfl) d_Q_consider_38 ?_
    refine st_aload_n X 0 d_Q_consider_39 rfl rfl ?_
    refine st_get X (ci := 1) in_Q 0 2 wf_Q_19 rfl rfl (by decide) rfl d_Q_consider_40 ?_
    refine st_iload_n X 1 d_Q_consider_43 rfl rfl ?_
    refine st_iload X 4 d_Q_consider_44 rfl ?_
    obtain ⟨hb3, hw⟩ := hw
    obtain ⟨f4, hf4⟩ : ∃ z : Nat → Int32, z = upd t_makers row.toNatClampNeg maker := ⟨_, rfl⟩
    replace hw := hw f4 hf4
    refine st_iast X (ws2 := [(a_t, .inr (1, [.ref a_t_costs, .ref a_t_pieces, .ref a_t_makers, .ref a_t_parts, .int t_rowCount])), aJ g a_t_costs 33 f2, aI g a_t_pieces 33 f3, aI g a_t_makers 33 f4, aI g a_t_parts 33 t_parts]) 3 rfl hb3 (by rw [hf4]; rfl) d_Q_consider_46 ?_
    refine st_aload_n X 0 d_Q_consider_47 rfl rfl ?_
    refine st_get X (ci := 1) in_Q 0 3 wf_Q_22 rfl rfl (by decide) rfl d_Q_consider_48 ?_
    refine st_iload_n X 1 d_Q_consider_51 rfl rfl ?_
    refine st_iload X 3 d_Q_consider_52 rfl ?_
    obtain ⟨hb4, hw⟩ := hw
    obtain ⟨f5, hf5⟩ : ∃ z : Nat → Int32, z = upd t_parts row.toNatClampNeg part := ⟨_, rfl⟩
    replace hw := hw f5 hf5
    refine st_iast X (ws2 := [(a_t, .inr (1, [.ref a_t_costs, .ref a_t_pieces, .ref a_t_makers, .ref a_t_parts, .int t_rowCount])), aJ g a_t_costs 33 f2, aI g a_t_pieces 33 f3, aI g a_t_makers 33 f4, aI g a_t_parts 33 f5]) 4 rfl hb4 (by rw [hf5]; rfl) d_Q_consider_54 ?_
    exact st_vret X hr (f2, f3, f4, f5) hw rfl (by decide) (by decide) d_Q_consider_55
  refine st_if_eq X 24 d_Q_consider_5 (by decide) (fun hc => ?_) (fun hc => ?_)
  · replace hw := hw.1 hc
    refine st_lv [0, 1, 2, 3, 4, 5] rfl ?_
    exact J24 hw
  · replace hw := hw.2 hc
    refine st_aload_n X 0 d_Q_consider_8 rfl rfl ?_
    refine st_iload_n X 1 d_Q_consider_9 rfl rfl ?_
    refine st_lload_n X 2 d_Q_consider_10 rfl rfl ?_
    refine st_iload X 3 d_Q_consider_11 rfl ?_
    refine st_iload X 4 d_Q_consider_13 rfl ?_
    refine st_iload X 5 d_Q_consider_15 rfl ?_
    have hR := rn_V (pc := 17) (k := 0) (n := 0) (As := [.int row, .long cost, .int part, .int maker, .int count]) (rest := []) X (k_Q_isBetter g hg a_t row cost part maker count a_t_costs a_t_pieces a_t_makers a_t_parts t_rowCount t_costs t_pieces t_makers t_parts _ hw) (q0 := 0) rfl rfl wm_Q_37 wi_Q_isBetter wl_Q_isBetter wz_Q wc_Q_isBetter h9_Q_isBetter ⟨by decide, by decide⟩ (Nat.le_of_ble_eq_true rfl) ⟨by decide, by decide⟩ d_Q_consider_17
    refine st_calli X hR [0, 1, 2, 3, 4] [] (wr := []) rfl rfl (by decide) (by decide) (by decide) (fun r6 u9 hw => ?_)
    try dsimp only at hw
    refine st_widen (k2 := 0) (n2 := 0) (by decide) (by decide) ?_
    refine st_perm (ws2 := [(a_t, .inr (1, [.ref a_t_costs, .ref a_t_pieces, .ref a_t_makers, .ref a_t_parts, .int t_rowCount])), aJ g a_t_costs 33 t_costs, aI g a_t_pieces 33 t_pieces, aI g a_t_makers 33 t_makers, aI g a_t_parts 33 t_parts]) [0, 1, 2, 3, 4] rfl (by decide) ?_
    show ST g C [(a_t, .inr (1, [.ref a_t_costs, .ref a_t_pieces, .ref a_t_makers, .ref a_t_parts, .int t_rowCount])), aJ g a_t_costs 33 t_costs, aI g a_t_pieces 33 t_pieces, aI g a_t_makers 33 t_makers, aI g a_t_parts 33 t_parts] [(0, .ref a_t), (1, .int row), (2, .long cost), (4, .int part), (5, .int maker), (6, .int count)] [.int r6] 20 0 0
    refine st_if_ne X 24 d_Q_consider_20 (by decide) (fun hc => ?_) (fun hc => ?_)
    · replace hw := hw.1 hc
      refine st_lv [0, 1, 2, 3, 4, 5] rfl ?_
      exact J24 hw
    · replace hw := hw.2 hc
      exact st_vret X hr (t_costs, t_pieces, t_makers, t_parts) hw rfl (by decide) (by decide) d_Q_consider_23

theorem h9_Q_sum : y_Q_sum.cls ≠ "java/lang/invoke/MethodHandle" ∧ y_Q_sum.cls ≠ "java/lang/invoke/VarHandle" ∧ (parseMethodDescriptor y_Q_sum.desc).map (fun d => d.parameters.length) = some 0 := by decide +kernel
def wp_Q_sum_L4 (t_rowCount : Int32) (t_costs : Nat → Int64) (Q : Int64 → Prop) : Nat → Int64 → Int32 → Prop
  | 0, _, _ => False
  | n4 + 1, v1, v2 =>
  ((t_rowCount ≤ v2) → Q v1) ∧
  ((¬ t_rowCount ≤ v2) → vp_in v2 33 ∧
  ∀ x3 : Int64, x3 = v1 + (t_costs v2.toNatClampNeg) →
  ∀ x4 : Int32, x4 = v2 + 1 →
  (wp_Q_sum_L4 t_rowCount t_costs Q n4) x3 x4)
def wp_Q_sum (t_rowCount : Int32) (t_costs : Nat → Int64) (Q : Int64 → Prop) : Prop :=
  ∃ n4 : Nat, wp_Q_sum_L4 t_rowCount t_costs Q n4 0 0
set_option maxHeartbeats 4000000 in
set_option maxRecDepth 100000 in
theorem k_Q_sum (g : GX) (hg : g.1.stackTraces = false) (a_t : Nat) (a_t_costs : Nat) (a_t_pieces : Nat) (a_t_makers : Nat) (a_t_parts : Nat) (t_rowCount : Int32) (t_costs : Nat → Int64) (Q : Int64 → Prop) (hw : wp_Q_sum t_rowCount t_costs Q) : CT g y_Q_sum c_Q_sum 4 (some .long) ({ frames := 0, cells := 0, slots := 0, locals := 0 } : Room) [.ref a_t] [(a_t, .inr (1, [.ref a_t_costs, .ref a_t_pieces, .ref a_t_makers, .ref a_t_parts, .int t_rowCount])), aJ g a_t_costs 33 t_costs] (QL g [(a_t, .inr (1, [.ref a_t_costs, .ref a_t_pieces, .ref a_t_makers, .ref a_t_parts, .int t_rowCount])), aJ g a_t_costs 33 t_costs] (fun u : Unit => [(a_t, .inr (1, [.ref a_t_costs, .ref a_t_pieces, .ref a_t_makers, .ref a_t_parts, .int t_rowCount])), aJ g a_t_costs 33 t_costs]) (fun r u => Q r)) := by
  refine ct_of hg (by decide) (Nat.le_of_ble_eq_true rfl) (fun sz C X hr => ?_)
  unfold wp_Q_sum at hw
  show ST g C [(a_t, .inr (1, [.ref a_t_costs, .ref a_t_pieces, .ref a_t_makers, .ref a_t_parts, .int t_rowCount])), aJ g a_t_costs 33 t_costs] [(0, .ref a_t)] [] 0 0 0
  refine st_lconst X (v := 0) d_Q_sum_0 (by decide) ?_
  refine st_lstore_n X (lv2 := [(1, .long 0), (0, .ref a_t)]) d_Q_sum_1 rfl (by decide) rfl ?_
  refine st_iconst X (v := 0) d_Q_sum_2 (by decide) ?_
  refine st_istore_n X (lv2 := [(3, .int 0), (1, .long 0), (0, .ref a_t)]) d_Q_sum_3 rfl (by decide) rfl ?_
  have L4 : ∀ (n4 : Nat) (v1 : Int64) (v2 : Int32), wp_Q_sum_L4 t_rowCount t_costs Q n4 v1 v2 → ST g C [(a_t, .inr (1, [.ref a_t_costs, .ref a_t_pieces, .ref a_t_makers, .ref a_t_parts, .int t_rowCount])), aJ g a_t_costs 33 t_costs] [(0, .ref a_t), (1, .long v1), (3, .int v2)] [] 4 0 0 := by
    intro n4
    induction n4 with
    | zero => intro v1 v2 hw; exact hw.elim
    | succ n4 ih4 =>
      intro v1 v2 hw
      rw [wp_Q_sum_L4] at hw
      refine st_iload_n X 2 d_Q_sum_4 rfl rfl ?_
      refine st_aload_n X 0 d_Q_sum_5 rfl rfl ?_
      refine st_get X (ci := 1) in_Q 0 4 wf_Q_25 rfl rfl (by decide) rfl d_Q_sum_6 ?_
      refine st_icmp_ge X 27 d_Q_sum_9 (by decide) (fun hc => ?_) (fun hc => ?_)
      · replace hw := hw.1 hc
        refine st_lload_n X 1 d_Q_sum_27 rfl rfl ?_
        exact st_lret X hr () hw rfl (by decide) (by decide) d_Q_sum_28
      · replace hw := hw.2 hc
        refine st_lload_n X 1 d_Q_sum_12 rfl rfl ?_
        refine st_aload_n X 0 d_Q_sum_13 rfl rfl ?_
        refine st_get X (ci := 1) in_Q 0 0 wf_Q_9 rfl rfl (by decide) rfl d_Q_sum_14 ?_
        refine st_iload_n X 2 d_Q_sum_17 rfl rfl ?_
        obtain ⟨hb1, hw⟩ := hw
        refine st_lald X 1 rfl hb1 d_Q_sum_18 ?_
        refine st_ladd X d_Q_sum_19 ?_
        refine st_topl (fun x3 hx3 => ?_)
        replace hw := hw x3 hx3
        refine st_lstore_n X (lv2 := [(1, .long x3), (0, .ref a_t), (3, .int v2)]) d_Q_sum_20 rfl (by decide) rfl ?_
        obtain ⟨x4, hx4⟩ : ∃ z : Int32, z = v2 + 1 := ⟨_, rfl⟩
        replace hw := hw x4 hx4
        refine st_iinc X (v := x4) (lv2 := [(3, .int x4), (1, .long x3), (0, .ref a_t)]) 2 d_Q_sum_21 rfl (by rw [hx4]; rfl) (by decide) rfl ?_
        refine st_goto X 4 d_Q_sum_24 (by decide) ?_
        refine st_lv [2, 1, 0] rfl ?_
        exact ih4 x3 x4 hw
  obtain ⟨n4, hw⟩ := hw
  refine st_lv [2, 1, 0] rfl ?_
  exact L4 n4 0 0 hw

theorem h9_JI_bitCount : y_JI_bitCount.cls ≠ "java/lang/invoke/MethodHandle" ∧ y_JI_bitCount.cls ≠ "java/lang/invoke/VarHandle" ∧ (parseMethodDescriptor y_JI_bitCount.desc).map (fun d => d.parameters.length) = some 1 := by decide +kernel
def wp_JI_bitCount (p0 : Int32) (Q : Int32 → Prop) : Prop :=
  ∀ x1 : Int32, x1 = p0 - ((((p0).toUInt32 >>> ((1 : Int32).toUInt32 &&& Int32.toUInt32 31)).toInt32) &&& 1431655765) →
  ∀ x2 : Int32, x2 = (x1 &&& 858993459) + ((((x1).toUInt32 >>> ((2 : Int32).toUInt32 &&& Int32.toUInt32 31)).toInt32) &&& 858993459) →
  ∀ x3 : Int32, x3 = (x2 + (((x2).toUInt32 >>> ((4 : Int32).toUInt32 &&& Int32.toUInt32 31)).toInt32)) &&& 252645135 →
  ∀ x4 : Int32, x4 = x3 + (((x3).toUInt32 >>> ((8 : Int32).toUInt32 &&& Int32.toUInt32 31)).toInt32) →
  ∀ x5 : Int32, x5 = x4 + (((x4).toUInt32 >>> ((16 : Int32).toUInt32 &&& Int32.toUInt32 31)).toInt32) →
  Q (x5 &&& 63)
set_option maxHeartbeats 4000000 in
set_option maxRecDepth 100000 in
theorem k_JI_bitCount (g : GX) (hg : g.1.stackTraces = false) (p0 : Int32) (Q : Int32 → Prop) (hw : wp_JI_bitCount p0 Q) : CT g y_JI_bitCount c_JI_bitCount 1 (some .int) ({ frames := 0, cells := 0, slots := 0, locals := 0 } : Room) [.int p0] [] (QI g [] (fun u : Unit => []) (fun r u => Q r)) := by
  refine ct_of hg (by decide) (Nat.le_of_ble_eq_true rfl) (fun sz C X hr => ?_)
  unfold wp_JI_bitCount at hw
  show ST g C [] [(0, .int p0)] [] 0 0 0
  refine st_iload_n X 0 d_JI_bitCount_0 rfl rfl ?_
  refine st_iload_n X 0 d_JI_bitCount_1 rfl rfl ?_
  refine st_iconst X (v := 1) d_JI_bitCount_2 (by decide) ?_
  refine st_iushr X d_JI_bitCount_3 ?_
  refine st_ldcw X wv_JI_265 d_JI_bitCount_4 ?_
  refine st_iand X d_JI_bitCount_7 ?_
  refine st_isub X d_JI_bitCount_8 ?_
  refine st_topi (fun x1 hx1 => ?_)
  replace hw := hw x1 hx1
  refine st_istore_n X (lv2 := [(0, .int x1)]) d_JI_bitCount_9 rfl (by decide) rfl ?_
  refine st_iload_n X 0 d_JI_bitCount_10 rfl rfl ?_
  refine st_ldcw X wv_JI_266 d_JI_bitCount_11 ?_
  refine st_iand X d_JI_bitCount_14 ?_
  refine st_iload_n X 0 d_JI_bitCount_15 rfl rfl ?_
  refine st_iconst X (v := 2) d_JI_bitCount_16 (by decide) ?_
  refine st_iushr X d_JI_bitCount_17 ?_
  refine st_ldcw X wv_JI_266 d_JI_bitCount_18 ?_
  refine st_iand X d_JI_bitCount_21 ?_
  refine st_iadd X d_JI_bitCount_22 ?_
  refine st_topi (fun x2 hx2 => ?_)
  replace hw := hw x2 hx2
  refine st_istore_n X (lv2 := [(0, .int x2)]) d_JI_bitCount_23 rfl (by decide) rfl ?_
  refine st_iload_n X 0 d_JI_bitCount_24 rfl rfl ?_
  refine st_iload_n X 0 d_JI_bitCount_25 rfl rfl ?_
  refine st_iconst X (v := 4) d_JI_bitCount_26 (by decide) ?_
  refine st_iushr X d_JI_bitCount_27 ?_
  refine st_iadd X d_JI_bitCount_28 ?_
  refine st_ldcw X wv_JI_267 d_JI_bitCount_29 ?_
  refine st_iand X d_JI_bitCount_32 ?_
  refine st_topi (fun x3 hx3 => ?_)
  replace hw := hw x3 hx3
  refine st_istore_n X (lv2 := [(0, .int x3)]) d_JI_bitCount_33 rfl (by decide) rfl ?_
  refine st_iload_n X 0 d_JI_bitCount_34 rfl rfl ?_
  refine st_iload_n X 0 d_JI_bitCount_35 rfl rfl ?_
  refine st_bipush X (v := 8) d_JI_bitCount_36 (by decide) ?_
  refine st_iushr X d_JI_bitCount_38 ?_
  refine st_iadd X d_JI_bitCount_39 ?_
  refine st_topi (fun x4 hx4 => ?_)
  replace hw := hw x4 hx4
  refine st_istore_n X (lv2 := [(0, .int x4)]) d_JI_bitCount_40 rfl (by decide) rfl ?_
  refine st_iload_n X 0 d_JI_bitCount_41 rfl rfl ?_
  refine st_iload_n X 0 d_JI_bitCount_42 rfl rfl ?_
  refine st_bipush X (v := 16) d_JI_bitCount_43 (by decide) ?_
  refine st_iushr X d_JI_bitCount_45 ?_
  refine st_iadd X d_JI_bitCount_46 ?_
  refine st_topi (fun x5 hx5 => ?_)
  replace hw := hw x5 hx5
  refine st_istore_n X (lv2 := [(0, .int x5)]) d_JI_bitCount_47 rfl (by decide) rfl ?_
  refine st_iload_n X 0 d_JI_bitCount_48 rfl rfl ?_
  refine st_bipush X (v := 63) d_JI_bitCount_49 (by decide) ?_
  refine st_iand X d_JI_bitCount_51 ?_
  exact st_iret X hr () hw rfl (by decide) (by decide) d_JI_bitCount_52

theorem h9_Q_makersBoughtOf : y_Q_makersBoughtOf.cls ≠ "java/lang/invoke/MethodHandle" ∧ y_Q_makersBoughtOf.cls ≠ "java/lang/invoke/VarHandle" ∧ (parseMethodDescriptor y_Q_makersBoughtOf.desc).map (fun d => d.parameters.length) = some 0 := by decide +kernel
def wp_Q_makersBoughtOf_J31 (v2 : Int32) (K4 : Int32 → Int32 → Prop) (v5 : Int32) : Prop :=
  ∀ x6 : Int32, x6 = v2 + 1 →
  K4 v5 x6
def wp_Q_makersBoughtOf_L4 (t_rowCount : Int32) (t_makers : Nat → Int32) (Q : Int32 → Prop) : Nat → Int32 → Int32 → Prop
  | 0, _, _ => False
  | n4 + 1, v1, v2 =>
  ((t_rowCount ≤ v2) → wp_JI_bitCount v1 (fun r3 =>
  Q r3)) ∧
  ((¬ t_rowCount ≤ v2) → wp_Q_isBought v2 t_makers (fun r4 =>
  ((r4 = 0) → wp_Q_makersBoughtOf_J31 v2 (wp_Q_makersBoughtOf_L4 t_rowCount t_makers Q n4) v1) ∧
  ((¬ r4 = 0) → vp_in v2 33 ∧
  ∀ x7 : Int32, x7 = v1 ||| (1 <<< ((t_makers v2.toNatClampNeg) &&& 31)) →
  wp_Q_makersBoughtOf_J31 v2 (wp_Q_makersBoughtOf_L4 t_rowCount t_makers Q n4) x7)))
def wp_Q_makersBoughtOf (t_rowCount : Int32) (t_makers : Nat → Int32) (Q : Int32 → Prop) : Prop :=
  ∃ n4 : Nat, wp_Q_makersBoughtOf_L4 t_rowCount t_makers Q n4 0 0
set_option maxHeartbeats 4000000 in
set_option maxRecDepth 100000 in
theorem k_Q_makersBoughtOf (g : GX) (hg : g.1.stackTraces = false) (a_t : Nat) (a_t_costs : Nat) (a_t_pieces : Nat) (a_t_makers : Nat) (a_t_parts : Nat) (t_rowCount : Int32) (t_makers : Nat → Int32) (Q : Int32 → Prop) (hw : wp_Q_makersBoughtOf t_rowCount t_makers Q) : CT g y_Q_makersBoughtOf c_Q_makersBoughtOf 3 (some .int) ({ frames := 1, cells := 0, slots := 0, locals := 21 } : Room) [.ref a_t] [(a_t, .inr (1, [.ref a_t_costs, .ref a_t_pieces, .ref a_t_makers, .ref a_t_parts, .int t_rowCount])), aI g a_t_makers 33 t_makers] (QI g [(a_t, .inr (1, [.ref a_t_costs, .ref a_t_pieces, .ref a_t_makers, .ref a_t_parts, .int t_rowCount])), aI g a_t_makers 33 t_makers] (fun u : Unit => [(a_t, .inr (1, [.ref a_t_costs, .ref a_t_pieces, .ref a_t_makers, .ref a_t_parts, .int t_rowCount])), aI g a_t_makers 33 t_makers]) (fun r u => Q r)) := by
  refine ct_of hg (by decide) (Nat.le_of_ble_eq_true rfl) (fun sz C X hr => ?_)
  unfold wp_Q_makersBoughtOf at hw
  show ST g C [(a_t, .inr (1, [.ref a_t_costs, .ref a_t_pieces, .ref a_t_makers, .ref a_t_parts, .int t_rowCount])), aI g a_t_makers 33 t_makers] [(0, .ref a_t)] [] 0 0 0
  refine st_iconst X (v := 0) d_Q_makersBoughtOf_0 (by decide) ?_
  refine st_istore_n X (lv2 := [(1, .int 0), (0, .ref a_t)]) d_Q_makersBoughtOf_1 rfl (by decide) rfl ?_
  refine st_iconst X (v := 0) d_Q_makersBoughtOf_2 (by decide) ?_
  refine st_istore_n X (lv2 := [(2, .int 0), (1, .int 0), (0, .ref a_t)]) d_Q_makersBoughtOf_3 rfl (by decide) rfl ?_
  have L4 : ∀ (n4 : Nat) (v1 : Int32) (v2 : Int32), wp_Q_makersBoughtOf_L4 t_rowCount t_makers Q n4 v1 v2 → ST g C [(a_t, .inr (1, [.ref a_t_costs, .ref a_t_pieces, .ref a_t_makers, .ref a_t_parts, .int t_rowCount])), aI g a_t_makers 33 t_makers] [(0, .ref a_t), (1, .int v1), (2, .int v2)] [] 4 0 0 := by
    intro n4
    induction n4 with
    | zero => intro v1 v2 hw; exact hw.elim
    | succ n4 ih4 =>
      intro v1 v2 hw
      rw [wp_Q_makersBoughtOf_L4] at hw
      refine st_iload_n X 2 d_Q_makersBoughtOf_4 rfl rfl ?_
      refine st_aload_n X 0 d_Q_makersBoughtOf_5 rfl rfl ?_
      refine st_get X (ci := 1) in_Q 0 4 wf_Q_25 rfl rfl (by decide) rfl d_Q_makersBoughtOf_6 ?_
      refine st_icmp_ge X 37 d_Q_makersBoughtOf_9 (by decide) (fun hc => ?_) (fun hc => ?_)
      · replace hw := hw.1 hc
        refine st_iload_n X 1 d_Q_makersBoughtOf_37 rfl rfl ?_
        have hR := rn_S (pc := 38) (k := 0) (n := 0) (As := [.int v1]) (rest := []) X (k_JI_bitCount g hg v1 _ hw) wm_Q_41 ws_JI_bitCount wz_JI wc_JI_bitCount h9_JI_bitCount ⟨by decide, by decide⟩ (Nat.le_of_ble_eq_true rfl) ⟨by decide, by decide⟩ d_Q_makersBoughtOf_38
        refine st_calli X hR [] [0, 1] (wr := [(a_t, .inr (1, [.ref a_t_costs, .ref a_t_pieces, .ref a_t_makers, .ref a_t_parts, .int t_rowCount])), aI g a_t_makers 33 t_makers]) rfl rfl (by decide) (by decide) (by decide) (fun r3 u9 hw => ?_)
        try dsimp only at hw
        refine st_widen (k2 := 0) (n2 := 0) (by decide) (by decide) ?_
        refine st_perm (ws2 := [(a_t, .inr (1, [.ref a_t_costs, .ref a_t_pieces, .ref a_t_makers, .ref a_t_parts, .int t_rowCount])), aI g a_t_makers 33 t_makers]) [0, 1] rfl (by decide) ?_
        show ST g C [(a_t, .inr (1, [.ref a_t_costs, .ref a_t_pieces, .ref a_t_makers, .ref a_t_parts, .int t_rowCount])), aI g a_t_makers 33 t_makers] [(0, .ref a_t), (1, .int v1), (2, .int v2)] [.int r3] 41 0 0
        exact st_iret X hr () hw rfl (by decide) (by decide) d_Q_makersBoughtOf_41
      · replace hw := hw.2 hc
        refine st_aload_n X 0 d_Q_makersBoughtOf_12 rfl rfl ?_
        refine st_iload_n X 2 d_Q_makersBoughtOf_13 rfl rfl ?_
        have hR := rn_V (pc := 14) (k := 0) (n := 0) (As := [.int v2]) (rest := []) X (k_Q_isBought g hg a_t v2 a_t_costs a_t_pieces a_t_makers a_t_parts t_rowCount t_makers _ hw) (q0 := 0) rfl rfl wm_Q_33 wi_Q_isBought wl_Q_isBought wz_Q wc_Q_isBought h9_Q_isBought ⟨by decide, by decide⟩ (Nat.le_of_ble_eq_true rfl) ⟨by decide, by decide⟩ d_Q_makersBoughtOf_14
        refine st_calli X hR [0, 1] [] (wr := []) rfl rfl (by decide) (by decide) (by decide) (fun r4 u9 hw => ?_)
        try dsimp only at hw
        refine st_widen (k2 := 0) (n2 := 0) (by decide) (by decide) ?_
        refine st_perm (ws2 := [(a_t, .inr (1, [.ref a_t_costs, .ref a_t_pieces, .ref a_t_makers, .ref a_t_parts, .int t_rowCount])), aI g a_t_makers 33 t_makers]) [0, 1] rfl (by decide) ?_
        show ST g C [(a_t, .inr (1, [.ref a_t_costs, .ref a_t_pieces, .ref a_t_makers, .ref a_t_parts, .int t_rowCount])), aI g a_t_makers 33 t_makers] [(0, .ref a_t), (1, .int v1), (2, .int v2)] [.int r4] 17 0 0
        have J31 : ∀ (v5 : Int32), wp_Q_makersBoughtOf_J31 v2 (fun z0 z1 => wp_Q_makersBoughtOf_L4 t_rowCount t_makers Q n4 z0 z1) v5 → ST g C [(a_t, .inr (1, [.ref a_t_costs, .ref a_t_pieces, .ref a_t_makers, .ref a_t_parts, .int t_rowCount])), aI g a_t_makers 33 t_makers] [(0, .ref a_t), (1, .int v5), (2, .int v2)] [] 31 0 0 := by
          intro v5 hw
          unfold wp_Q_makersBoughtOf_J31 at hw
          obtain ⟨x6, hx6⟩ : ∃ z : Int32, z = v2 + 1 := ⟨_, rfl⟩
          replace hw := hw x6 hx6
          refine st_iinc X (v := x6) (lv2 := [(2, .int x6), (0, .ref a_t), (1, .int v5)]) 2 d_Q_makersBoughtOf_31 rfl (by rw [hx6]; rfl) (by decide) rfl ?_
          refine st_goto X 4 d_Q_makersBoughtOf_34 (by decide) ?_
          refine st_lv [1, 2, 0] rfl ?_
          exact ih4 v5 x6 hw
        refine st_if_eq X 31 d_Q_makersBoughtOf_17 (by decide) (fun hc => ?_) (fun hc => ?_)
        · replace hw := hw.1 hc
          refine st_lv [0, 1, 2] rfl ?_
          exact J31 v1 hw
        · replace hw := hw.2 hc
          refine st_iload_n X 1 d_Q_makersBoughtOf_20 rfl rfl ?_
          refine st_iconst X (v := 1) d_Q_makersBoughtOf_21 (by decide) ?_
          refine st_aload_n X 0 d_Q_makersBoughtOf_22 rfl rfl ?_
          refine st_get X (ci := 1) in_Q 0 2 wf_Q_19 rfl rfl (by decide) rfl d_Q_makersBoughtOf_23 ?_
          refine st_iload_n X 2 d_Q_makersBoughtOf_26 rfl rfl ?_
          obtain ⟨hb1, hw⟩ := hw
          refine st_iald X 1 rfl hb1 d_Q_makersBoughtOf_27 ?_
          refine st_ishl X d_Q_makersBoughtOf_28 ?_
          refine st_ior X d_Q_makersBoughtOf_29 ?_
          refine st_topi (fun x7 hx7 => ?_)
          replace hw := hw x7 hx7
          refine st_istore_n X (lv2 := [(1, .int x7), (0, .ref a_t), (2, .int v2)]) d_Q_makersBoughtOf_30 rfl (by decide) rfl ?_
          refine st_lv [1, 0, 2] rfl ?_
          exact J31 x7 hw
  obtain ⟨n4, hw⟩ := hw
  refine st_lv [2, 1, 0] rfl ?_
  exact L4 n4 0 0 hw
end
section
theorem h9_C_mayStandIn : y_C_mayStandIn.cls ≠ "java/lang/invoke/MethodHandle" ∧ y_C_mayStandIn.cls ≠ "java/lang/invoke/VarHandle" ∧ (parseMethodDescriptor y_C_mayStandIn.desc).map (fun d => d.parameters.length) = some 2 := by decide +kernel
def wp_C_mayStandIn_J23 (Q : Int32 → Prop) (v1 : Int32) : Prop :=
  (v1 = 0 ∨ v1 = 1) ∧ Q v1
def wp_C_mayStandIn_J18 (Q : Int32 → Prop) : Prop :=
  wp_C_mayStandIn_J23 Q 1
def wp_C_mayStandIn (other : Int32) (part : Int32) (alts : Nat → Int32) (Q : Int32 → Prop) : Prop :=
  ((other = part) → wp_C_mayStandIn_J18 Q) ∧
  ((¬ other = part) → vp_in part 30 ∧
  ((((alts part.toNatClampNeg) &&& (1 <<< (other &&& 31))) = 0) → wp_C_mayStandIn_J23 Q 0) ∧
  ((¬ ((alts part.toNatClampNeg) &&& (1 <<< (other &&& 31))) = 0) → wp_C_mayStandIn_J18 Q))
set_option maxHeartbeats 4000000 in
set_option maxRecDepth 100000 in
theorem k_C_mayStandIn (g : GX) (hg : g.1.stackTraces = false) (a_t : Nat) (other : Int32) (part : Int32) (a_used : Nat) (a_stock : Nat) (a_alts : Nat) (a_asm : Nat) (a_placed : Nat) (a_sp : Nat) (a_rt : Nat) (a_yl : Nat) (partCount : Int32) (tooling : Int64) (a_dr : Nat) (a_la : Nat) (a_be : Nat) (alts : Nat → Int32) (Q : Int32 → Prop) (hw : wp_C_mayStandIn other part alts Q) : CT g y_C_mayStandIn c_C_mayStandIn 3 (some .boolean) ({ frames := 0, cells := 0, slots := 0, locals := 0 } : Room) [.ref a_t, .int other, .int part] [(a_t, .inr (5, [.ref a_used, .ref a_stock, .ref a_alts, .ref a_asm, .ref a_placed, .ref a_sp, .ref a_rt, .ref a_yl, .int partCount, .long tooling, .ref a_dr, .ref a_la, .ref a_be])), aI g a_alts 30 alts] (QI g [(a_t, .inr (5, [.ref a_used, .ref a_stock, .ref a_alts, .ref a_asm, .ref a_placed, .ref a_sp, .ref a_rt, .ref a_yl, .int partCount, .long tooling, .ref a_dr, .ref a_la, .ref a_be])), aI g a_alts 30 alts] (fun u : Unit => [(a_t, .inr (5, [.ref a_used, .ref a_stock, .ref a_alts, .ref a_asm, .ref a_placed, .ref a_sp, .ref a_rt, .ref a_yl, .int partCount, .long tooling, .ref a_dr, .ref a_la, .ref a_be])), aI g a_alts 30 alts]) (fun r u => Q r)) := by
  refine ct_of hg (by decide) (Nat.le_of_ble_eq_true rfl) (fun sz C X hr => ?_)
  unfold wp_C_mayStandIn at hw
  show ST g C [(a_t, .inr (5, [.ref a_used, .ref a_stock, .ref a_alts, .ref a_asm, .ref a_placed, .ref a_sp, .ref a_rt, .ref a_yl, .int partCount, .long tooling, .ref a_dr, .ref a_la, .ref a_be])), aI g a_alts 30 alts] [(0, .ref a_t), (1, .int other), (2, .int part)] [] 0 0 0
  refine st_iload_n X 1 d_C_mayStandIn_0 rfl rfl ?_
  refine st_iload_n X 2 d_C_mayStandIn_1 rfl rfl ?_
  have J23 : ∀ (v1 : Int32), wp_C_mayStandIn_J23 Q v1 → ST g C [(a_t, .inr (5, [.ref a_used, .ref a_stock, .ref a_alts, .ref a_asm, .ref a_placed, .ref a_sp, .ref a_rt, .ref a_yl, .int partCount, .long tooling, .ref a_dr, .ref a_la, .ref a_be])), aI g a_alts 30 alts] [(0, .ref a_t), (1, .int other), (2, .int part)] [.int v1] 23 0 0 := by
    intro v1 hw
    unfold wp_C_mayStandIn_J23 at hw
    obtain ⟨hz, hw⟩ := hw
    exact st_zret X hr () hw hz rfl (by decide) (by decide) d_C_mayStandIn_23
  have J18 : wp_C_mayStandIn_J18 Q → ST g C [(a_t, .inr (5, [.ref a_used, .ref a_stock, .ref a_alts, .ref a_asm, .ref a_placed, .ref a_sp, .ref a_rt, .ref a_yl, .int partCount, .long tooling, .ref a_dr, .ref a_la, .ref a_be])), aI g a_alts 30 alts] [(0, .ref a_t), (1, .int other), (2, .int part)] [] 18 0 0 := by
    intro hw
    unfold wp_C_mayStandIn_J18 at hw
    refine st_iconst X (v := 1) d_C_mayStandIn_18 (by decide) ?_
    refine st_goto X 23 d_C_mayStandIn_19 (by decide) ?_
    refine st_lv [0, 1, 2] rfl ?_
    exact J23 1 hw
  refine st_icmp_eq X 18 d_C_mayStandIn_2 (by decide) (fun hc => ?_) (fun hc => ?_)
  · replace hw := hw.1 hc
    refine st_lv [0, 1, 2] rfl ?_
    exact J18 hw
  · replace hw := hw.2 hc
    refine st_aload_n X 0 d_C_mayStandIn_5 rfl rfl ?_
    refine st_get X (ci := 5) in_C 0 2 wf_C_18 rfl rfl (by decide) rfl d_C_mayStandIn_6 ?_
    refine st_iload_n X 2 d_C_mayStandIn_9 rfl rfl ?_
    obtain ⟨hb1, hw⟩ := hw
    refine st_iald X 1 rfl hb1 d_C_mayStandIn_10 ?_
    refine st_iconst X (v := 1) d_C_mayStandIn_11 (by decide) ?_
    refine st_iload_n X 1 d_C_mayStandIn_12 rfl rfl ?_
    refine st_ishl X d_C_mayStandIn_13 ?_
    refine st_iand X d_C_mayStandIn_14 ?_
    refine st_if_eq X 22 d_C_mayStandIn_15 (by decide) (fun hc => ?_) (fun hc => ?_)
    · replace hw := hw.1 hc
      refine st_iconst X (v := 0) d_C_mayStandIn_22 (by decide) ?_
      refine st_lv [0, 1, 2] rfl ?_
      exact J23 0 hw
    · replace hw := hw.2 hc
      refine st_lv [0, 1, 2] rfl ?_
      exact J18 hw

theorem h9_C_offerSteps : y_C_offerSteps.cls ≠ "java/lang/invoke/MethodHandle" ∧ y_C_offerSteps.cls ≠ "java/lang/invoke/VarHandle" ∧ (parseMethodDescriptor y_C_offerSteps.desc).map (fun d => d.parameters.length) = some 4 := by decide +kernel
def wp_C_offerSteps_L41 (row : Int32) (needed : Int64) (maker : Int32) (sp_froms_keys : Nat → Int64) (sp_cents : Nat → Int64) (rt_aboveNow : Nat → Int64) (rt_belowNow : Nat → Int64) (v1 : Int32) (r2 : Int32) (Q : (Nat → Int64) → (Nat → Int32) → (Nat → Int32) → (Nat → Int32) → Prop) : Nat → Int32 → (Nat → Int64) → (Nat → Int32) → (Nat → Int32) → (Nat → Int32) → Prop
  | 0, _, _, _, _, _ => False
  | n41 + 1, v4, f5, f6, f7, f8 =>
  ((r2 ≤ v4) → Q f5 f6 f7 f8) ∧
  ((¬ r2 ≤ v4) → wp_St_fromAt v4 sp_froms_keys (fun r9 =>
  ∀ x10 : Int64, x10 = (if r9 < needed then needed else r9) →
  vp_in v4 1488 ∧
  wp_Ra_exchange maker (x10 * (sp_cents v4.toNatClampNeg)) rt_aboveNow rt_belowNow (fun r11 =>
  wp_Q_consider row r11 v1 maker x10.toInt32 f5 f6 f7 f8 (fun u12 u13 u14 u15 =>
  ∀ x16 : Int32, x16 = v4 + 1 →
  (wp_C_offerSteps_L41 row needed maker sp_froms_keys sp_cents rt_aboveNow rt_belowNow v1 r2 Q n41) x16 u12 u13 u14 u15))))
def wp_C_offerSteps_J13 (row : Int32) (needed : Int64) (thing : Int32) (maker : Int32) (sp_froms_keys : Nat → Int64) (sp_froms_sizes : Nat → Int32) (sp_cents : Nat → Int64) (rt_aboveNow : Nat → Int64) (rt_belowNow : Nat → Int64) (dr_costs : Nat → Int64) (dr_pieces : Nat → Int32) (dr_makers : Nat → Int32) (dr_parts : Nat → Int32) (Q : (Nat → Int64) → (Nat → Int32) → (Nat → Int32) → (Nat → Int32) → Prop) (v1 : Int32) : Prop :=
  wp_St_endSlot thing maker sp_froms_sizes (fun r2 =>
  wp_St_firstSlot thing maker (fun r3 =>
  ∃ n41 : Nat, wp_C_offerSteps_L41 row needed maker sp_froms_keys sp_cents rt_aboveNow rt_belowNow v1 r2 Q n41 r3 dr_costs dr_pieces dr_makers dr_parts))
def wp_C_offerSteps (row : Int32) (needed : Int64) (thing : Int32) (maker : Int32) (sp_froms_keys : Nat → Int64) (sp_froms_sizes : Nat → Int32) (sp_cents : Nat → Int64) (rt_aboveNow : Nat → Int64) (rt_belowNow : Nat → Int64) (dr_costs : Nat → Int64) (dr_pieces : Nat → Int32) (dr_makers : Nat → Int32) (dr_parts : Nat → Int32) (Q : (Nat → Int64) → (Nat → Int32) → (Nat → Int32) → (Nat → Int32) → Prop) : Prop :=
  ((¬ thing = 30) → wp_C_offerSteps_J13 row needed thing maker sp_froms_keys sp_froms_sizes sp_cents rt_aboveNow rt_belowNow dr_costs dr_pieces dr_makers dr_parts Q thing) ∧
  ((thing = 30) → wp_C_offerSteps_J13 row needed thing maker sp_froms_keys sp_froms_sizes sp_cents rt_aboveNow rt_belowNow dr_costs dr_pieces dr_makers dr_parts Q (-1))
set_option maxHeartbeats 4000000 in
set_option maxRecDepth 100000 in
theorem k_C_offerSteps (g : GX) (hg : g.1.stackTraces = false) (a_t : Nat) (row : Int32) (needed : Int64) (thing : Int32) (maker : Int32) (a_used : Nat) (a_stock : Nat) (a_alts : Nat) (a_asm : Nat) (a_placed : Nat) (a_sp : Nat) (a_rt : Nat) (a_yl : Nat) (partCount : Int32) (tooling : Int64) (a_dr : Nat) (a_la : Nat) (a_be : Nat) (a_sp_froms : Nat) (a_sp_cents : Nat) (a_sp_froms_keys : Nat) (a_sp_froms_sizes : Nat) (sp_froms_keys : Nat → Int64) (sp_froms_sizes : Nat → Int32) (sp_cents : Nat → Int64) (a_rt_days : Nat) (a_rt_aboves : Nat) (a_rt_belows : Nat) (a_rt_aboveNow : Nat) (a_rt_belowNow : Nat) (rt_aboveNow : Nat → Int64) (rt_belowNow : Nat → Int64) (a_dr_costs : Nat) (a_dr_pieces : Nat) (a_dr_makers : Nat) (a_dr_parts : Nat) (dr_rowCount : Int32) (dr_costs : Nat → Int64) (dr_pieces : Nat → Int32) (dr_makers : Nat → Int32) (dr_parts : Nat → Int32) (Q : (Nat → Int64) → (Nat → Int32) → (Nat → Int32) → (Nat → Int32) → Prop) (hw : wp_C_offerSteps row needed thing maker sp_froms_keys sp_froms_sizes sp_cents rt_aboveNow rt_belowNow dr_costs dr_pieces dr_makers dr_parts Q) : CT g y_C_offerSteps c_C_offerSteps 13 none ({ frames := 2, cells := 0, slots := 0, locals := 52 } : Room) [.ref a_t, .int row, .long needed, .int thing, .int maker] [(a_t, .inr (5, [.ref a_used, .ref a_stock, .ref a_alts, .ref a_asm, .ref a_placed, .ref a_sp, .ref a_rt, .ref a_yl, .int partCount, .long tooling, .ref a_dr, .ref a_la, .ref a_be])), (a_sp, .inr (3, [.ref a_sp_froms, .ref a_sp_cents])), (a_sp_froms, .inr (0, [.ref a_sp_froms_keys, .ref a_sp_froms_sizes])), aJ g a_sp_froms_keys 1488 sp_froms_keys, aI g a_sp_froms_sizes 248 sp_froms_sizes, aJ g a_sp_cents 1488 sp_cents, (a_rt, .inr (2, [.ref a_rt_days, .ref a_rt_aboves, .ref a_rt_belows, .ref a_rt_aboveNow, .ref a_rt_belowNow])), aJ g a_rt_aboveNow 8 rt_aboveNow, aJ g a_rt_belowNow 8 rt_belowNow, (a_dr, .inr (1, [.ref a_dr_costs, .ref a_dr_pieces, .ref a_dr_makers, .ref a_dr_parts, .int dr_rowCount])), aJ g a_dr_costs 33 dr_costs, aI g a_dr_pieces 33 dr_pieces, aI g a_dr_makers 33 dr_makers, aI g a_dr_parts 33 dr_parts] (QV g [(a_t, .inr (5, [.ref a_used, .ref a_stock, .ref a_alts, .ref a_asm, .ref a_placed, .ref a_sp, .ref a_rt, .ref a_yl, .int partCount, .long tooling, .ref a_dr, .ref a_la, .ref a_be])), (a_sp, .inr (3, [.ref a_sp_froms, .ref a_sp_cents])), (a_sp_froms, .inr (0, [.ref a_sp_froms_keys, .ref a_sp_froms_sizes])), aJ g a_sp_froms_keys 1488 sp_froms_keys, aI g a_sp_froms_sizes 248 sp_froms_sizes, aJ g a_sp_cents 1488 sp_cents, (a_rt, .inr (2, [.ref a_rt_days, .ref a_rt_aboves, .ref a_rt_belows, .ref a_rt_aboveNow, .ref a_rt_belowNow])), aJ g a_rt_aboveNow 8 rt_aboveNow, aJ g a_rt_belowNow 8 rt_belowNow, (a_dr, .inr (1, [.ref a_dr_costs, .ref a_dr_pieces, .ref a_dr_makers, .ref a_dr_parts, .int dr_rowCount])), aJ g a_dr_costs 33 dr_costs, aI g a_dr_pieces 33 dr_pieces, aI g a_dr_makers 33 dr_makers, aI g a_dr_parts 33 dr_parts] (fun u : (Nat → Int64) × (Nat → Int32) × (Nat → Int32) × (Nat → Int32) => [(a_t, .inr (5, [.ref a_used, .ref a_stock, .ref a_alts, .ref a_asm, .ref a_placed, .ref a_sp, .ref a_rt, .ref a_yl, .int partCount, .long tooling, .ref a_dr, .ref a_la, .ref a_be])), (a_sp, .inr (3, [.ref a_sp_froms, .ref a_sp_cents])), (a_sp_froms, .inr (0, [.ref a_sp_froms_keys, .ref a_sp_froms_sizes])), aJ g a_sp_froms_keys 1488 sp_froms_keys, aI g a_sp_froms_sizes 248 sp_froms_sizes, aJ g a_sp_cents 1488 sp_cents, (a_rt, .inr (2, [.ref a_rt_days, .ref a_rt_aboves, .ref a_rt_belows, .ref a_rt_aboveNow, .ref a_rt_belowNow])), aJ g a_rt_aboveNow 8 rt_aboveNow, aJ g a_rt_belowNow 8 rt_belowNow, (a_dr, .inr (1, [.ref a_dr_costs, .ref a_dr_pieces, .ref a_dr_makers, .ref a_dr_parts, .int dr_rowCount])), aJ g a_dr_costs 33 u.1, aI g a_dr_pieces 33 u.2.1, aI g a_dr_makers 33 u.2.2.1, aI g a_dr_parts 33 u.2.2.2]) (fun u => Q u.1 u.2.1 u.2.2.1 u.2.2.2)) := by
  refine ct_of hg (by decide) (Nat.le_of_ble_eq_true rfl) (fun sz C X hr => ?_)
  unfold wp_C_offerSteps at hw
  show ST g C [(a_t, .inr (5, [.ref a_used, .ref a_stock, .ref a_alts, .ref a_asm, .ref a_placed, .ref a_sp, .ref a_rt, .ref a_yl, .int partCount, .long tooling, .ref a_dr, .ref a_la, .ref a_be])), (a_sp, .inr (3, [.ref a_sp_froms, .ref a_sp_cents])), (a_sp_froms, .inr (0, [.ref a_sp_froms_keys, .ref a_sp_froms_sizes])), aJ g a_sp_froms_keys 1488 sp_froms_keys, aI g a_sp_froms_sizes 248 sp_froms_sizes, aJ g a_sp_cents 1488 sp_cents, (a_rt, .inr (2, [.ref a_rt_days, .ref a_rt_aboves, .ref a_rt_belows, .ref a_rt_aboveNow, .ref a_rt_belowNow])), aJ g a_rt_aboveNow 8 rt_aboveNow, aJ g a_rt_belowNow 8 rt_belowNow, (a_dr, .inr (1, [.ref a_dr_costs, .ref a_dr_pieces, .ref a_dr_makers, .ref a_dr_parts, .int dr_rowCount])), aJ g a_dr_costs 33 dr_costs, aI g a_dr_pieces 33 dr_pieces, aI g a_dr_makers 33 dr_makers, aI g a_dr_parts 33 dr_parts] [(0, .ref a_t), (1, .int row), (2, .long needed), (4, .int thing), (5, .int maker)] [] 0 0 0
  refine st_iload X 3 d_C_offerSteps_0 rfl ?_
  refine st_bipush X (v := 30) d_C_offerSteps_2 (by decide) ?_
  have J13 : ∀ (v1 : Int32), wp_C_offerSteps_J13 row needed thing maker sp_froms_keys sp_froms_sizes sp_cents rt_aboveNow rt_belowNow dr_costs dr_pieces dr_makers dr_parts Q v1 → ST g C [(a_t, .inr (5, [.ref a_used, .ref a_stock, .ref a_alts, .ref a_asm, .ref a_placed, .ref a_sp, .ref a_rt, .ref a_yl, .int partCount, .long tooling, .ref a_dr, .ref a_la, .ref a_be])), (a_sp, .inr (3, [.ref a_sp_froms, .ref a_sp_cents])), (a_sp_froms, .inr (0, [.ref a_sp_froms_keys, .ref a_sp_froms_sizes])), aJ g a_sp_froms_keys 1488 sp_froms_keys, aI g a_sp_froms_sizes 248 sp_froms_sizes, aJ g a_sp_cents 1488 sp_cents, (a_rt, .inr (2, [.ref a_rt_days, .ref a_rt_aboves, .ref a_rt_belows, .ref a_rt_aboveNow, .ref a_rt_belowNow])), aJ g a_rt_aboveNow 8 rt_aboveNow, aJ g a_rt_belowNow 8 rt_belowNow, (a_dr, .inr (1, [.ref a_dr_costs, .ref a_dr_pieces, .ref a_dr_makers, .ref a_dr_parts, .int dr_rowCount])), aJ g a_dr_costs 33 dr_costs, aI g a_dr_pieces 33 dr_pieces, aI g a_dr_makers 33 dr_makers, aI g a_dr_parts 33 dr_parts] [(0, .ref a_t), (1, .int row), (2, .long needed), (4, .int thing), (5, .int maker)] [.int v1] 13 0 0 := by
    intro v1 hw
    unfold wp_C_offerSteps_J13 at hw
    refine st_istore X (lv2 := [(6, .int v1), (0, .ref a_t), (1, .int row), (2, .long needed), (4, .int thing), (5, .int maker)]) d_C_offerSteps_13 (by decide) rfl ?_
    refine st_aload_n X 1 d_C_offerSteps_15 rfl rfl ?_
    refine st_get X (ci := 5) in_C 0 5 wf_C_31 rfl rfl (by decide) rfl d_C_offerSteps_16 ?_
    refine st_iload X 4 d_C_offerSteps_19 rfl ?_
    refine st_iload X 5 d_C_offerSteps_21 rfl ?_
    have hR := rn_VN (pc := 23) (k := 0) (n := 0) (As := [.int thing, .int maker]) (rest := []) X (k_St_endSlot g hg a_sp thing maker a_sp_froms a_sp_cents a_sp_froms_keys a_sp_froms_sizes sp_froms_sizes _ hw) (q0 := 0) rfl rfl nl_C_195 wi_St_endSlot wl_St_endSlot wz_St wc_St_endSlot h9_St_endSlot ⟨by decide, by decide⟩ (Nat.le_of_ble_eq_true rfl) ⟨by decide, by decide⟩ d_C_offerSteps_23
    refine st_calli X hR [1, 2, 4] [0, 3, 5, 6, 7, 8, 9, 10, 11, 12, 13] (wr := [(a_t, .inr (5, [.ref a_used, .ref a_stock, .ref a_alts, .ref a_asm, .ref a_placed, .ref a_sp, .ref a_rt, .ref a_yl, .int partCount, .long tooling, .ref a_dr, .ref a_la, .ref a_be])), aJ g a_sp_froms_keys 1488 sp_froms_keys, aJ g a_sp_cents 1488 sp_cents, (a_rt, .inr (2, [.ref a_rt_days, .ref a_rt_aboves, .ref a_rt_belows, .ref a_rt_aboveNow, .ref a_rt_belowNow])), aJ g a_rt_aboveNow 8 rt_aboveNow, aJ g a_rt_belowNow 8 rt_belowNow, (a_dr, .inr (1, [.ref a_dr_costs, .ref a_dr_pieces, .ref a_dr_makers, .ref a_dr_parts, .int dr_rowCount])), aJ g a_dr_costs 33 dr_costs, aI g a_dr_pieces 33 dr_pieces, aI g a_dr_makers 33 dr_makers, aI g a_dr_parts 33 dr_parts]) rfl rfl (by decide) (by decide) (by decide) (fun r2 u9 hw => ?_)
    try dsimp only at hw
    refine st_widen (k2 := 0) (n2 := 0) (by decide) (by decide) ?_
    refine st_perm (ws2 := [(a_t, .inr (5, [.ref a_used, .ref a_stock, .ref a_alts, .ref a_asm, .ref a_placed, .ref a_sp, .ref a_rt, .ref a_yl, .int partCount, .long tooling, .ref a_dr, .ref a_la, .ref a_be])), (a_sp, .inr (3, [.ref a_sp_froms, .ref a_sp_cents])), (a_sp_froms, .inr (0, [.ref a_sp_froms_keys, .ref a_sp_froms_sizes])), aJ g a_sp_froms_keys 1488 sp_froms_keys, aI g a_sp_froms_sizes 248 sp_froms_sizes, aJ g a_sp_cents 1488 sp_cents, (a_rt, .inr (2, [.ref a_rt_days, .ref a_rt_aboves, .ref a_rt_belows, .ref a_rt_aboveNow, .ref a_rt_belowNow])), aJ g a_rt_aboveNow 8 rt_aboveNow, aJ g a_rt_belowNow 8 rt_belowNow, (a_dr, .inr (1, [.ref a_dr_costs, .ref a_dr_pieces, .ref a_dr_makers, .ref a_dr_parts, .int dr_rowCount])), aJ g a_dr_costs 33 dr_costs, aI g a_dr_pieces 33 dr_pieces, aI g a_dr_makers 33 dr_makers, aI g a_dr_parts 33 dr_parts]) [0, 11, 12, 1, 13, 2, 3, 4, 5, 6, 7, 8, 9, 10] rfl (by decide) ?_
    show ST g C [(a_t, .inr (5, [.ref a_used, .ref a_stock, .ref a_alts, .ref a_asm, .ref a_placed, .ref a_sp, .ref a_rt, .ref a_yl, .int partCount, .long tooling, .ref a_dr, .ref a_la, .ref a_be])), (a_sp, .inr (3, [.ref a_sp_froms, .ref a_sp_cents])), (a_sp_froms, .inr (0, [.ref a_sp_froms_keys, .ref a_sp_froms_sizes])), aJ g a_sp_froms_keys 1488 sp_froms_keys, aI g a_sp_froms_sizes 248 sp_froms_sizes, aJ g a_sp_cents 1488 sp_cents, (a_rt, .inr (2, [.ref a_rt_days, .ref a_rt_aboves, .ref a_rt_belows, .ref a_rt_aboveNow, .ref a_rt_belowNow])), aJ g a_rt_aboveNow 8 rt_aboveNow, aJ g a_rt_belowNow 8 rt_belowNow, (a_dr, .inr (1, [.ref a_dr_costs, .ref a_dr_pieces, .ref a_dr_makers, .ref a_dr_parts, .int dr_rowCount])), aJ g a_dr_costs 33 dr_costs, aI g a_dr_pieces 33 dr_pieces, aI g a_dr_makers 33 dr_makers, aI g a_dr_parts 33 dr_parts] [(6, .int v1), (0, .ref a_t), (1, .int row), (2, .long needed), (4, .int thing), (5, .int maker)] [.int r2] 26 0 0
    refine st_istore X (lv2 := [(7, .int r2), (6, .int v1), (0, .ref a_t), (1, .int row), (2, .long needed), (4, .int thing), (5, .int maker)]) d_C_offerSteps_26 (by decide) rfl ?_
    refine st_aload_n X 2 d_C_offerSteps_28 rfl rfl ?_
    refine st_get X (ci := 5) in_C 0 5 wf_C_31 rfl rfl (by decide) rfl d_C_offerSteps_29 ?_
    refine st_iload X 5 d_C_offerSteps_32 rfl ?_
    refine st_iload X 6 d_C_offerSteps_34 rfl ?_
    have hR := rn_VN (pc := 36) (k := 0) (n := 0) (As := [.int thing, .int maker]) (rest := []) X (k_St_firstSlot g hg a_sp thing maker a_sp_froms a_sp_cents a_sp_froms_keys a_sp_froms_sizes _ hw) (q0 := 0) rfl rfl nl_C_199 wi_St_firstSlot wl_St_firstSlot wz_St wc_St_firstSlot h9_St_firstSlot ⟨by decide, by decide⟩ (Nat.le_of_ble_eq_true rfl) ⟨by decide, by decide⟩ d_C_offerSteps_36
    refine st_calli X hR [1, 2] [0, 3, 4, 5, 6, 7, 8, 9, 10, 11, 12, 13] (wr := [(a_t, .inr (5, [.ref a_used, .ref a_stock, .ref a_alts, .ref a_asm, .ref a_placed, .ref a_sp, .ref a_rt, .ref a_yl, .int partCount, .long tooling, .ref a_dr, .ref a_la, .ref a_be])), aJ g a_sp_froms_keys 1488 sp_froms_keys, aI g a_sp_froms_sizes 248 sp_froms_sizes, aJ g a_sp_cents 1488 sp_cents, (a_rt, .inr (2, [.ref a_rt_days, .ref a_rt_aboves, .ref a_rt_belows, .ref a_rt_aboveNow, .ref a_rt_belowNow])), aJ g a_rt_aboveNow 8 rt_aboveNow, aJ g a_rt_belowNow 8 rt_belowNow, (a_dr, .inr (1, [.ref a_dr_costs, .ref a_dr_pieces, .ref a_dr_makers, .ref a_dr_parts, .int dr_rowCount])), aJ g a_dr_costs 33 dr_costs, aI g a_dr_pieces 33 dr_pieces, aI g a_dr_makers 33 dr_makers, aI g a_dr_parts 33 dr_parts]) rfl rfl (by decide) (by decide) (by decide) (fun r3 u9 hw => ?_)
    try dsimp only at hw
    refine st_widen (k2 := 0) (n2 := 0) (by decide) (by decide) ?_
    refine st_perm (ws2 := [(a_t, .inr (5, [.ref a_used, .ref a_stock, .ref a_alts, .ref a_asm, .ref a_placed, .ref a_sp, .ref a_rt, .ref a_yl, .int partCount, .long tooling, .ref a_dr, .ref a_la, .ref a_be])), (a_sp, .inr (3, [.ref a_sp_froms, .ref a_sp_cents])), (a_sp_froms, .inr (0, [.ref a_sp_froms_keys, .ref a_sp_froms_sizes])), aJ g a_sp_froms_keys 1488 sp_froms_keys, aI g a_sp_froms_sizes 248 sp_froms_sizes, aJ g a_sp_cents 1488 sp_cents, (a_rt, .inr (2, [.ref a_rt_days, .ref a_rt_aboves, .ref a_rt_belows, .ref a_rt_aboveNow, .ref a_rt_belowNow])), aJ g a_rt_aboveNow 8 rt_aboveNow, aJ g a_rt_belowNow 8 rt_belowNow, (a_dr, .inr (1, [.ref a_dr_costs, .ref a_dr_pieces, .ref a_dr_makers, .ref a_dr_parts, .int dr_rowCount])), aJ g a_dr_costs 33 dr_costs, aI g a_dr_pieces 33 dr_pieces, aI g a_dr_makers 33 dr_makers, aI g a_dr_parts 33 dr_parts]) [0, 12, 13, 1, 2, 3, 4, 5, 6, 7, 8, 9, 10, 11] rfl (by decide) ?_
    show ST g C [(a_t, .inr (5, [.ref a_used, .ref a_stock, .ref a_alts, .ref a_asm, .ref a_placed, .ref a_sp, .ref a_rt, .ref a_yl, .int partCount, .long tooling, .ref a_dr, .ref a_la, .ref a_be])), (a_sp, .inr (3, [.ref a_sp_froms, .ref a_sp_cents])), (a_sp_froms, .inr (0, [.ref a_sp_froms_keys, .ref a_sp_froms_sizes])), aJ g a_sp_froms_keys 1488 sp_froms_keys, aI g a_sp_froms_sizes 248 sp_froms_sizes, aJ g a_sp_cents 1488 sp_cents, (a_rt, .inr (2, [.ref a_rt_days, .ref a_rt_aboves, .ref a_rt_belows, .ref a_rt_aboveNow, .ref a_rt_belowNow])), aJ g a_rt_aboveNow 8 rt_aboveNow, aJ g a_rt_belowNow 8 rt_belowNow, (a_dr, .inr (1, [.ref a_dr_costs, .ref a_dr_pieces, .ref a_dr_makers, .ref a_dr_parts, .int dr_rowCount])), aJ g a_dr_costs 33 dr_costs, aI g a_dr_pieces 33 dr_pieces, aI g a_dr_makers 33 dr_makers, aI g a_dr_parts 33 dr_parts] [(7, .int r2), (6, .int v1), (0, .ref a_t), (1, .int row), (2, .long needed), (4, .int thing), (5, .int maker)] [.int r3] 39 0 0
    refine st_istore X (lv2 := [(8, .int r3), (7, .int r2), (6, .int v1), (0, .ref a_t), (1, .int row), (2, .long needed), (4, .int thing), (5, .int maker)]) d_C_offerSteps_39 (by decide) rfl ?_
    have L41 : ∀ (n41 : Nat) (v4 : Int32) (f5 : Nat → Int64) (f6 : Nat → Int32) (f7 : Nat → Int32) (f8 : Nat → Int32), wp_C_offerSteps_L41 row needed maker sp_froms_keys sp_cents rt_aboveNow rt_belowNow v1 r2 Q n41 v4 f5 f6 f7 f8 → ST g C [(a_t, .inr (5, [.ref a_used, .ref a_stock, .ref a_alts, .ref a_asm, .ref a_placed, .ref a_sp, .ref a_rt, .ref a_yl, .int partCount, .long tooling, .ref a_dr, .ref a_la, .ref a_be])), (a_sp, .inr (3, [.ref a_sp_froms, .ref a_sp_cents])), (a_sp_froms, .inr (0, [.ref a_sp_froms_keys, .ref a_sp_froms_sizes])), aJ g a_sp_froms_keys 1488 sp_froms_keys, aI g a_sp_froms_sizes 248 sp_froms_sizes, aJ g a_sp_cents 1488 sp_cents, (a_rt, .inr (2, [.ref a_rt_days, .ref a_rt_aboves, .ref a_rt_belows, .ref a_rt_aboveNow, .ref a_rt_belowNow])), aJ g a_rt_aboveNow 8 rt_aboveNow, aJ g a_rt_belowNow 8 rt_belowNow, (a_dr, .inr (1, [.ref a_dr_costs, .ref a_dr_pieces, .ref a_dr_makers, .ref a_dr_parts, .int dr_rowCount])), aJ g a_dr_costs 33 f5, aI g a_dr_pieces 33 f6, aI g a_dr_makers 33 f7, aI g a_dr_parts 33 f8] [(0, .ref a_t), (1, .int row), (2, .long needed), (4, .int thing), (5, .int maker), (6, .int v1), (7, .int r2), (8, .int v4)] [] 41 0 0 := by
      intro n41
      induction n41 with
      | zero => intro v4 f5 f6 f7 f8 hw; exact hw.elim
      | succ n41 ih41 =>
        intro v4 f5 f6 f7 f8 hw
        rw [wp_C_offerSteps_L41] at hw
        refine st_iload X 7 d_C_offerSteps_41 rfl ?_
        refine st_iload X 6 d_C_offerSteps_43 rfl ?_
        refine st_icmp_ge X 110 d_C_offerSteps_45 (by decide) (fun hc => ?_) (fun hc => ?_)
        · replace hw := hw.1 hc
          exact st_vret X hr (f5, f6, f7, f8) hw rfl (by decide) (by decide) d_C_offerSteps_110
        · replace hw := hw.2 hc
          refine st_lload_n X 2 d_C_offerSteps_48 rfl rfl ?_
          refine st_aload_n X 0 d_C_offerSteps_49 rfl rfl ?_
          refine st_get X (ci := 5) in_C 0 5 wf_C_31 rfl rfl (by decide) rfl d_C_offerSteps_50 ?_
          refine st_iload X 7 d_C_offerSteps_53 rfl ?_
          have hR := rn_VN (pc := 55) (k := 0) (n := 0) (As := [.int v4]) (rest := [.long needed]) X (k_St_fromAt g hg a_sp v4 a_sp_froms a_sp_cents a_sp_froms_keys a_sp_froms_sizes sp_froms_keys _ hw) (q0 := 0) rfl rfl nl_C_202 wi_St_fromAt wl_St_fromAt wz_St wc_St_fromAt h9_St_fromAt ⟨by decide, by decide⟩ (Nat.le_of_ble_eq_true rfl) ⟨by decide, by decide⟩ d_C_offerSteps_55
          refine st_calll X hR [1, 2, 3] [0, 4, 5, 6, 7, 8, 9, 10, 11, 12, 13] (wr := [(a_t, .inr (5, [.ref a_used, .ref a_stock, .ref a_alts, .ref a_asm, .ref a_placed, .ref a_sp, .ref a_rt, .ref a_yl, .int partCount, .long tooling, .ref a_dr, .ref a_la, .ref a_be])), aI g a_sp_froms_sizes 248 sp_froms_sizes, aJ g a_sp_cents 1488 sp_cents, (a_rt, .inr (2, [.ref a_rt_days, .ref a_rt_aboves, .ref a_rt_belows, .ref a_rt_aboveNow, .ref a_rt_belowNow])), aJ g a_rt_aboveNow 8 rt_aboveNow, aJ g a_rt_belowNow 8 rt_belowNow, (a_dr, .inr (1, [.ref a_dr_costs, .ref a_dr_pieces, .ref a_dr_makers, .ref a_dr_parts, .int dr_rowCount])), aJ g a_dr_costs 33 f5, aI g a_dr_pieces 33 f6, aI g a_dr_makers 33 f7, aI g a_dr_parts 33 f8]) rfl rfl (by decide) (by decide) (by decide) (fun r9 u9 hw => ?_)
          try dsimp only at hw
          refine st_widen (k2 := 0) (n2 := 0) (by decide) (by decide) ?_
          refine st_perm (ws2 := [(a_t, .inr (5, [.ref a_used, .ref a_stock, .ref a_alts, .ref a_asm, .ref a_placed, .ref a_sp, .ref a_rt, .ref a_yl, .int partCount, .long tooling, .ref a_dr, .ref a_la, .ref a_be])), (a_sp, .inr (3, [.ref a_sp_froms, .ref a_sp_cents])), (a_sp_froms, .inr (0, [.ref a_sp_froms_keys, .ref a_sp_froms_sizes])), aJ g a_sp_froms_keys 1488 sp_froms_keys, aI g a_sp_froms_sizes 248 sp_froms_sizes, aJ g a_sp_cents 1488 sp_cents, (a_rt, .inr (2, [.ref a_rt_days, .ref a_rt_aboves, .ref a_rt_belows, .ref a_rt_aboveNow, .ref a_rt_belowNow])), aJ g a_rt_aboveNow 8 rt_aboveNow, aJ g a_rt_belowNow 8 rt_belowNow, (a_dr, .inr (1, [.ref a_dr_costs, .ref a_dr_pieces, .ref a_dr_makers, .ref a_dr_parts, .int dr_rowCount])), aJ g a_dr_costs 33 f5, aI g a_dr_pieces 33 f6, aI g a_dr_makers 33 f7, aI g a_dr_parts 33 f8]) [0, 11, 12, 13, 1, 2, 3, 4, 5, 6, 7, 8, 9, 10] rfl (by decide) ?_
          show ST g C [(a_t, .inr (5, [.ref a_used, .ref a_stock, .ref a_alts, .ref a_asm, .ref a_placed, .ref a_sp, .ref a_rt, .ref a_yl, .int partCount, .long tooling, .ref a_dr, .ref a_la, .ref a_be])), (a_sp, .inr (3, [.ref a_sp_froms, .ref a_sp_cents])), (a_sp_froms, .inr (0, [.ref a_sp_froms_keys, .ref a_sp_froms_sizes])), aJ g a_sp_froms_keys 1488 sp_froms_keys, aI g a_sp_froms_sizes 248 sp_froms_sizes, aJ g a_sp_cents 1488 sp_cents, (a_rt, .inr (2, [.ref a_rt_days, .ref a_rt_aboves, .ref a_rt_belows, .ref a_rt_aboveNow, .ref a_rt_belowNow])), aJ g a_rt_aboveNow 8 rt_aboveNow, aJ g a_rt_belowNow 8 rt_belowNow, (a_dr, .inr (1, [.ref a_dr_costs, .ref a_dr_pieces, .ref a_dr_makers, .ref a_dr_parts, .int dr_rowCount])), aJ g a_dr_costs 33 f5, aI g a_dr_pieces 33 f6, aI g a_dr_makers 33 f7, aI g a_dr_parts 33 f8] [(0, .ref a_t), (1, .int row), (2, .long needed), (4, .int thing), (5, .int maker), (6, .int v1), (7, .int r2), (8, .int v4)] [.long r9, .long needed] 58 0 0
          refine st_maxJ X wm_C_206 (by decide) (Nat.le_of_ble_eq_true rfl) (by decide) (by decide) d_C_offerSteps_58 ?_
          refine st_topl (fun x10 hx10 => ?_)
          replace hw := hw x10 hx10
          refine st_lstore X (lv2 := [(9, .long x10), (0, .ref a_t), (1, .int row), (2, .long needed), (4, .int thing), (5, .int maker), (6, .int v1), (7, .int r2), (8, .int v4)]) d_C_offerSteps_61 (by decide) rfl ?_
          refine st_aload_n X 1 d_C_offerSteps_63 rfl rfl ?_
          refine st_get X (ci := 5) in_C 0 6 wf_C_38 rfl rfl (by decide) rfl d_C_offerSteps_64 ?_
          refine st_iload X 5 d_C_offerSteps_67 rfl ?_
          refine st_lload X 0 d_C_offerSteps_69 rfl ?_
          refine st_aload_n X 1 d_C_offerSteps_71 rfl rfl ?_
          refine st_get X (ci := 5) in_C 0 5 wf_C_31 rfl rfl (by decide) rfl d_C_offerSteps_72 ?_
          refine st_getN X (ci := 3) in_St 1 1 nf_C_212 rfl rfl (by decide) rfl d_C_offerSteps_75 ?_
          refine st_iload X 8 d_C_offerSteps_78 rfl ?_
          obtain ⟨hb1, hw⟩ := hw
          refine st_lald X 5 rfl hb1 d_C_offerSteps_80 ?_
          refine st_lmul X d_C_offerSteps_81 ?_
          have hR := rn_VN (pc := 82) (k := 0) (n := 0) (As := [.int maker, .long (x10 * (sp_cents v4.toNatClampNeg))]) (rest := []) X (k_Ra_exchange g hg a_rt maker (x10 * (sp_cents v4.toNatClampNeg)) a_rt_days a_rt_aboves a_rt_belows a_rt_aboveNow a_rt_belowNow rt_aboveNow rt_belowNow _ hw) (q0 := 0) rfl rfl nl_C_215 wi_Ra_exchange wl_Ra_exchange wz_Ra wc_Ra_exchange h9_Ra_exchange ⟨by decide, by decide⟩ (Nat.le_of_ble_eq_true rfl) ⟨by decide, by decide⟩ d_C_offerSteps_82
          refine st_calll X hR [6, 7, 8] [0, 1, 2, 3, 4, 5, 9, 10, 11, 12, 13] (wr := [(a_t, .inr (5, [.ref a_used, .ref a_stock, .ref a_alts, .ref a_asm, .ref a_placed, .ref a_sp, .ref a_rt, .ref a_yl, .int partCount, .long tooling, .ref a_dr, .ref a_la, .ref a_be])), (a_sp, .inr (3, [.ref a_sp_froms, .ref a_sp_cents])), (a_sp_froms, .inr (0, [.ref a_sp_froms_keys, .ref a_sp_froms_sizes])), aJ g a_sp_froms_keys 1488 sp_froms_keys, aI g a_sp_froms_sizes 248 sp_froms_sizes, aJ g a_sp_cents 1488 sp_cents, (a_dr, .inr (1, [.ref a_dr_costs, .ref a_dr_pieces, .ref a_dr_makers, .ref a_dr_parts, .int dr_rowCount])), aJ g a_dr_costs 33 f5, aI g a_dr_pieces 33 f6, aI g a_dr_makers 33 f7, aI g a_dr_parts 33 f8]) rfl rfl (by decide) (by decide) (by decide) (fun r11 u9 hw => ?_)
          try dsimp only at hw
          refine st_widen (k2 := 0) (n2 := 0) (by decide) (by decide) ?_
          refine st_perm (ws2 := [(a_t, .inr (5, [.ref a_used, .ref a_stock, .ref a_alts, .ref a_asm, .ref a_placed, .ref a_sp, .ref a_rt, .ref a_yl, .int partCount, .long tooling, .ref a_dr, .ref a_la, .ref a_be])), (a_sp, .inr (3, [.ref a_sp_froms, .ref a_sp_cents])), (a_sp_froms, .inr (0, [.ref a_sp_froms_keys, .ref a_sp_froms_sizes])), aJ g a_sp_froms_keys 1488 sp_froms_keys, aI g a_sp_froms_sizes 248 sp_froms_sizes, aJ g a_sp_cents 1488 sp_cents, (a_rt, .inr (2, [.ref a_rt_days, .ref a_rt_aboves, .ref a_rt_belows, .ref a_rt_aboveNow, .ref a_rt_belowNow])), aJ g a_rt_aboveNow 8 rt_aboveNow, aJ g a_rt_belowNow 8 rt_belowNow, (a_dr, .inr (1, [.ref a_dr_costs, .ref a_dr_pieces, .ref a_dr_makers, .ref a_dr_parts, .int dr_rowCount])), aJ g a_dr_costs 33 f5, aI g a_dr_pieces 33 f6, aI g a_dr_makers 33 f7, aI g a_dr_parts 33 f8]) [0, 1, 2, 3, 4, 5, 11, 12, 13, 6, 7, 8, 9, 10] rfl (by decide) ?_
          show ST g C [(a_t, .inr (5, [.ref a_used, .ref a_stock, .ref a_alts, .ref a_asm, .ref a_placed, .ref a_sp, .ref a_rt, .ref a_yl, .int partCount, .long tooling, .ref a_dr, .ref a_la, .ref a_be])), (a_sp, .inr (3, [.ref a_sp_froms, .ref a_sp_cents])), (a_sp_froms, .inr (0, [.ref a_sp_froms_keys, .ref a_sp_froms_sizes])), aJ g a_sp_froms_keys 1488 sp_froms_keys, aI g a_sp_froms_sizes 248 sp_froms_sizes, aJ g a_sp_cents 1488 sp_cents, (a_rt, .inr (2, [.ref a_rt_days, .ref a_rt_aboves, .ref a_rt_belows, .ref a_rt_aboveNow, .ref a_rt_belowNow])), aJ g a_rt_aboveNow 8 rt_aboveNow, aJ g a_rt_belowNow 8 rt_belowNow, (a_dr, .inr (1, [.ref a_dr_costs, .ref a_dr_pieces, .ref a_dr_makers, .ref a_dr_parts, .int dr_rowCount])), aJ g a_dr_costs 33 f5, aI g a_dr_pieces 33 f6, aI g a_dr_makers 33 f7, aI g a_dr_parts 33 f8] [(9, .long x10), (0, .ref a_t), (1, .int row), (2, .long needed), (4, .int thing), (5, .int maker), (6, .int v1), (7, .int r2), (8, .int v4)] [.long r11] 85 0 0
          refine st_lstore X (lv2 := [(11, .long r11), (9, .long x10), (0, .ref a_t), (1, .int row), (2, .long needed), (4, .int thing), (5, .int maker), (6, .int v1), (7, .int r2), (8, .int v4)]) d_C_offerSteps_85 (by decide) rfl ?_
          refine st_aload_n X 2 d_C_offerSteps_87 rfl rfl ?_
          refine st_get X (ci := 5) in_C 0 10 wf_C_60 rfl rfl (by decide) rfl d_C_offerSteps_88 ?_
          refine st_iload_n X 3 d_C_offerSteps_91 rfl rfl ?_
          refine st_lload X 0 d_C_offerSteps_92 rfl ?_
          refine st_iload X 7 d_C_offerSteps_94 rfl ?_
          refine st_iload X 6 d_C_offerSteps_96 rfl ?_
          refine st_lload X 1 d_C_offerSteps_98 rfl ?_
          refine st_l2i X d_C_offerSteps_100 ?_
          have hR := rn_VN (pc := 101) (k := 0) (n := 0) (As := [.int row, .long r11, .int v1, .int maker, .int x10.toInt32]) (rest := []) X (k_Q_consider g hg a_dr row r11 v1 maker x10.toInt32 a_dr_costs a_dr_pieces a_dr_makers a_dr_parts dr_rowCount f5 f6 f7 f8 _ hw) (q0 := 0) rfl rfl nl_C_219 wi_Q_consider wl_Q_consider wz_Q wc_Q_consider h9_Q_consider ⟨by decide, by decide⟩ (Nat.le_of_ble_eq_true rfl) ⟨by decide, by decide⟩ d_C_offerSteps_101
          refine st_callv X hR [9, 10, 11, 12, 13] [0, 1, 2, 3, 4, 5, 6, 7, 8] (wr := [(a_t, .inr (5, [.ref a_used, .ref a_stock, .ref a_alts, .ref a_asm, .ref a_placed, .ref a_sp, .ref a_rt, .ref a_yl, .int partCount, .long tooling, .ref a_dr, .ref a_la, .ref a_be])), (a_sp, .inr (3, [.ref a_sp_froms, .ref a_sp_cents])), (a_sp_froms, .inr (0, [.ref a_sp_froms_keys, .ref a_sp_froms_sizes])), aJ g a_sp_froms_keys 1488 sp_froms_keys, aI g a_sp_froms_sizes 248 sp_froms_sizes, aJ g a_sp_cents 1488 sp_cents, (a_rt, .inr (2, [.ref a_rt_days, .ref a_rt_aboves, .ref a_rt_belows, .ref a_rt_aboveNow, .ref a_rt_belowNow])), aJ g a_rt_aboveNow 8 rt_aboveNow, aJ g a_rt_belowNow 8 rt_belowNow]) rfl rfl (by decide) (by decide) (by decide) (fun u9 hw => ?_)
          obtain ⟨u12, u13, u14, u15⟩ := u9
          try dsimp only at hw
          refine st_widen (k2 := 0) (n2 := 0) (by decide) (by decide) ?_
          refine st_perm (ws2 := [(a_t, .inr (5, [.ref a_used, .ref a_stock, .ref a_alts, .ref a_asm, .ref a_placed, .ref a_sp, .ref a_rt, .ref a_yl, .int partCount, .long tooling, .ref a_dr, .ref a_la, .ref a_be])), (a_sp, .inr (3, [.ref a_sp_froms, .ref a_sp_cents])), (a_sp_froms, .inr (0, [.ref a_sp_froms_keys, .ref a_sp_froms_sizes])), aJ g a_sp_froms_keys 1488 sp_froms_keys, aI g a_sp_froms_sizes 248 sp_froms_sizes, aJ g a_sp_cents 1488 sp_cents, (a_rt, .inr (2, [.ref a_rt_days, .ref a_rt_aboves, .ref a_rt_belows, .ref a_rt_aboveNow, .ref a_rt_belowNow])), aJ g a_rt_aboveNow 8 rt_aboveNow, aJ g a_rt_belowNow 8 rt_belowNow, (a_dr, .inr (1, [.ref a_dr_costs, .ref a_dr_pieces, .ref a_dr_makers, .ref a_dr_parts, .int dr_rowCount])), aJ g a_dr_costs 33 u12, aI g a_dr_pieces 33 u13, aI g a_dr_makers 33 u14, aI g a_dr_parts 33 u15]) [0, 1, 2, 3, 4, 5, 6, 7, 8, 9, 10, 11, 12, 13] rfl (by decide) ?_
          show ST g C [(a_t, .inr (5, [.ref a_used, .ref a_stock, .ref a_alts, .ref a_asm, .ref a_placed, .ref a_sp, .ref a_rt, .ref a_yl, .int partCount, .long tooling, .ref a_dr, .ref a_la, .ref a_be])), (a_sp, .inr (3, [.ref a_sp_froms, .ref a_sp_cents])), (a_sp_froms, .inr (0, [.ref a_sp_froms_keys, .ref a_sp_froms_sizes])), aJ g a_sp_froms_keys 1488 sp_froms_keys, aI g a_sp_froms_sizes 248 sp_froms_sizes, aJ g a_sp_cents 1488 sp_cents, (a_rt, .inr (2, [.ref a_rt_days, .ref a_rt_aboves, .ref a_rt_belows, .ref a_rt_aboveNow, .ref a_rt_belowNow])), aJ g a_rt_aboveNow 8 rt_aboveNow, aJ g a_rt_belowNow 8 rt_belowNow, (a_dr, .inr (1, [.ref a_dr_costs, .ref a_dr_pieces, .ref a_dr_makers, .ref a_dr_parts, .int dr_rowCount])), aJ g a_dr_costs 33 u12, aI g a_dr_pieces 33 u13, aI g a_dr_makers 33 u14, aI g a_dr_parts 33 u15] [(11, .long r11), (9, .long x10), (0, .ref a_t), (1, .int row), (2, .long needed), (4, .int thing), (5, .int maker), (6, .int v1), (7, .int r2), (8, .int v4)] [] 104 0 0
          obtain ⟨x16, hx16⟩ : ∃ z : Int32, z = v4 + 1 := ⟨_, rfl⟩
          replace hw := hw x16 hx16
          refine st_iinc X (v := x16) (lv2 := [(8, .int x16), (11, .long r11), (9, .long x10), (0, .ref a_t), (1, .int row), (2, .long needed), (4, .int thing), (5, .int maker), (6, .int v1), (7, .int r2)]) 9 d_C_offerSteps_104 rfl (by rw [hx16]; rfl) (by decide) rfl ?_
          refine st_goto X 41 d_C_offerSteps_107 (by decide) ?_
          refine st_lv [3, 4, 5, 6, 7, 8, 9, 0] rfl ?_
          exact ih41 x16 u12 u13 u14 u15 hw
    obtain ⟨n41, hw⟩ := hw
    refine st_lv [3, 4, 5, 6, 7, 2, 1, 0] rfl ?_
    exact L41 n41 r3 dr_costs dr_pieces dr_makers dr_parts hw
  refine st_icmp_ne X 11 d_C_offerSteps_4 (by decide) (fun hc => ?_) (fun hc => ?_)
  · replace hw := hw.1 hc
    refine st_iload X 3 d_C_offerSteps_11 rfl ?_
    refine st_lv [0, 1, 2, 3, 4] rfl ?_
    exact J13 thing hw
  · replace hw := hw.2 hc
    refine st_iconst X (v := (-1)) d_C_offerSteps_7 (by decide) ?_
    refine st_goto X 13 d_C_offerSteps_8 (by decide) ?_
    refine st_lv [0, 1, 2, 3, 4] rfl ?_
    exact J13 (-1) hw

theorem h9_C_assemblyCost : y_C_assemblyCost.cls ≠ "java/lang/invoke/MethodHandle" ∧ y_C_assemblyCost.cls ≠ "java/lang/invoke/VarHandle" ∧ (parseMethodDescriptor y_C_assemblyCost.desc).map (fun d => d.parameters.length) = some 1 := by decide +kernel
def wp_C_assemblyCost_L5 (started : Int64) (asm : Nat → Int64) (placed : Nat → Int64) (Q : Int64 → Prop) : Nat → Int64 → Int32 → Prop
  | 0, _, _ => False
  | n5 + 1, v1, v2 =>
  ((8 ≤ v2) → Q v1) ∧
  ((¬ 8 ≤ v2) → vp_in v2 8 ∧
  vp_in v2 8 ∧
  wp_C_divideUp ((started * (placed v2.toNatClampNeg)) * (asm v2.toNatClampNeg)) (1000 : Int64) (fun r3 =>
  ∀ x4 : Int64, x4 = v1 + r3 →
  ∀ x5 : Int32, x5 = v2 + 1 →
  (wp_C_assemblyCost_L5 started asm placed Q n5) x4 x5))
def wp_C_assemblyCost (started : Int64) (asm : Nat → Int64) (placed : Nat → Int64) (Q : Int64 → Prop) : Prop :=
  ∃ n5 : Nat, wp_C_assemblyCost_L5 started asm placed Q n5 0 0
set_option maxHeartbeats 4000000 in
set_option maxRecDepth 100000 in
theorem k_C_assemblyCost (g : GX) (hg : g.1.stackTraces = false) (a_t : Nat) (started : Int64) (a_used : Nat) (a_stock : Nat) (a_alts : Nat) (a_asm : Nat) (a_placed : Nat) (a_sp : Nat) (a_rt : Nat) (a_yl : Nat) (partCount : Int32) (tooling : Int64) (a_dr : Nat) (a_la : Nat) (a_be : Nat) (asm : Nat → Int64) (placed : Nat → Int64) (Q : Int64 → Prop) (hw : wp_C_assemblyCost started asm placed Q) : CT g y_C_assemblyCost c_C_assemblyCost 6 (some .long) ({ frames := 1, cells := 0, slots := 0, locals := 23 } : Room) [.ref a_t, .long started] [(a_t, .inr (5, [.ref a_used, .ref a_stock, .ref a_alts, .ref a_asm, .ref a_placed, .ref a_sp, .ref a_rt, .ref a_yl, .int partCount, .long tooling, .ref a_dr, .ref a_la, .ref a_be])), aJ g a_asm 8 asm, aJ g a_placed 8 placed] (QL g [(a_t, .inr (5, [.ref a_used, .ref a_stock, .ref a_alts, .ref a_asm, .ref a_placed, .ref a_sp, .ref a_rt, .ref a_yl, .int partCount, .long tooling, .ref a_dr, .ref a_la, .ref a_be])), aJ g a_asm 8 asm, aJ g a_placed 8 placed] (fun u : Unit => [(a_t, .inr (5, [.ref a_used, .ref a_stock, .ref a_alts, .ref a_asm, .ref a_placed, .ref a_sp, .ref a_rt, .ref a_yl, .int partCount, .long tooling, .ref a_dr, .ref a_la, .ref a_be])), aJ g a_asm 8 asm, aJ g a_placed 8 placed]) (fun r u => Q r)) := by
  refine ct_of hg (by decide) (Nat.le_of_ble_eq_true rfl) (fun sz C X hr => ?_)
  unfold wp_C_assemblyCost at hw
  show ST g C [(a_t, .inr (5, [.ref a_used, .ref a_stock, .ref a_alts, .ref a_asm, .ref a_placed, .ref a_sp, .ref a_rt, .ref a_yl, .int partCount, .long tooling, .ref a_dr, .ref a_la, .ref a_be])), aJ g a_asm 8 asm, aJ g a_placed 8 placed] [(0, .ref a_t), (1, .long started)] [] 0 0 0
  refine st_lconst X (v := 0) d_C_assemblyCost_0 (by decide) ?_
  refine st_lstore_n X (lv2 := [(3, .long 0), (0, .ref a_t), (1, .long started)]) d_C_assemblyCost_1 rfl (by decide) rfl ?_
  refine st_iconst X (v := 0) d_C_assemblyCost_2 (by decide) ?_
  refine st_istore X (lv2 := [(5, .int 0), (3, .long 0), (0, .ref a_t), (1, .long started)]) d_C_assemblyCost_3 (by decide) rfl ?_
  have L5 : ∀ (n5 : Nat) (v1 : Int64) (v2 : Int32), wp_C_assemblyCost_L5 started asm placed Q n5 v1 v2 → ST g C [(a_t, .inr (5, [.ref a_used, .ref a_stock, .ref a_alts, .ref a_asm, .ref a_placed, .ref a_sp, .ref a_rt, .ref a_yl, .int partCount, .long tooling, .ref a_dr, .ref a_la, .ref a_be])), aJ g a_asm 8 asm, aJ g a_placed 8 placed] [(0, .ref a_t), (1, .long started), (3, .long v1), (5, .int v2)] [] 5 0 0 := by
    intro n5
    induction n5 with
    | zero => intro v1 v2 hw; exact hw.elim
    | succ n5 ih5 =>
      intro v1 v2 hw
      rw [wp_C_assemblyCost_L5] at hw
      refine st_iload X 3 d_C_assemblyCost_5 rfl ?_
      refine st_bipush X (v := 8) d_C_assemblyCost_7 (by decide) ?_
      refine st_icmp_ge X 44 d_C_assemblyCost_9 (by decide) (fun hc => ?_) (fun hc => ?_)
      · replace hw := hw.1 hc
        refine st_lload_n X 2 d_C_assemblyCost_44 rfl rfl ?_
        exact st_lret X hr () hw rfl (by decide) (by decide) d_C_assemblyCost_45
      · replace hw := hw.2 hc
        refine st_lload_n X 2 d_C_assemblyCost_12 rfl rfl ?_
        refine st_lload_n X 1 d_C_assemblyCost_13 rfl rfl ?_
        refine st_aload_n X 0 d_C_assemblyCost_14 rfl rfl ?_
        refine st_get X (ci := 5) in_C 0 4 wf_C_25 rfl rfl (by decide) rfl d_C_assemblyCost_15 ?_
        refine st_iload X 3 d_C_assemblyCost_18 rfl ?_
        obtain ⟨hb1, hw⟩ := hw
        refine st_lald X 2 rfl hb1 d_C_assemblyCost_20 ?_
        refine st_lmul X d_C_assemblyCost_21 ?_
        refine st_aload_n X 0 d_C_assemblyCost_22 rfl rfl ?_
        refine st_get X (ci := 5) in_C 0 3 wf_C_22 rfl rfl (by decide) rfl d_C_assemblyCost_23 ?_
        refine st_iload X 3 d_C_assemblyCost_26 rfl ?_
        obtain ⟨hb2, hw⟩ := hw
        refine st_lald X 1 rfl hb2 d_C_assemblyCost_28 ?_
        refine st_lmul X d_C_assemblyCost_29 ?_
        refine st_ldc2 X wv_C_82 d_C_assemblyCost_30 ?_
        have hR := rn_S (pc := 33) (k := 0) (n := 0) (As := [.long ((started * (placed v2.toNatClampNeg)) * (asm v2.toNatClampNeg)), .long 1000]) (rest := [.long v1]) X (k_C_divideUp g hg ((started * (placed v2.toNatClampNeg)) * (asm v2.toNatClampNeg)) (1000 : Int64) _ hw) wm_C_223 ws_C_divideUp wz_C wc_C_divideUp h9_C_divideUp ⟨by decide, by decide⟩ (Nat.le_of_ble_eq_true rfl) ⟨by decide, by decide⟩ d_C_assemblyCost_33
        refine st_calll X hR [] [0, 1, 2] (wr := [(a_t, .inr (5, [.ref a_used, .ref a_stock, .ref a_alts, .ref a_asm, .ref a_placed, .ref a_sp, .ref a_rt, .ref a_yl, .int partCount, .long tooling, .ref a_dr, .ref a_la, .ref a_be])), aJ g a_asm 8 asm, aJ g a_placed 8 placed]) rfl rfl (by decide) (by decide) (by decide) (fun r3 u9 hw => ?_)
        try dsimp only at hw
        refine st_widen (k2 := 0) (n2 := 0) (by decide) (by decide) ?_
        refine st_perm (ws2 := [(a_t, .inr (5, [.ref a_used, .ref a_stock, .ref a_alts, .ref a_asm, .ref a_placed, .ref a_sp, .ref a_rt, .ref a_yl, .int partCount, .long tooling, .ref a_dr, .ref a_la, .ref a_be])), aJ g a_asm 8 asm, aJ g a_placed 8 placed]) [0, 1, 2] rfl (by decide) ?_
        show ST g C [(a_t, .inr (5, [.ref a_used, .ref a_stock, .ref a_alts, .ref a_asm, .ref a_placed, .ref a_sp, .ref a_rt, .ref a_yl, .int partCount, .long tooling, .ref a_dr, .ref a_la, .ref a_be])), aJ g a_asm 8 asm, aJ g a_placed 8 placed] [(0, .ref a_t), (1, .long started), (3, .long v1), (5, .int v2)] [.long r3, .long v1] 36 0 0
        refine st_ladd X d_C_assemblyCost_36 ?_
        refine st_topl (fun x4 hx4 => ?_)
        replace hw := hw x4 hx4
        refine st_lstore_n X (lv2 := [(3, .long x4), (0, .ref a_t), (1, .long started), (5, .int v2)]) d_C_assemblyCost_37 rfl (by decide) rfl ?_
        obtain ⟨x5, hx5⟩ : ∃ z : Int32, z = v2 + 1 := ⟨_, rfl⟩
        replace hw := hw x5 hx5
        refine st_iinc X (v := x5) (lv2 := [(5, .int x5), (3, .long x4), (0, .ref a_t), (1, .long started)]) 3 d_C_assemblyCost_38 rfl (by rw [hx5]; rfl) (by decide) rfl ?_
        refine st_goto X 5 d_C_assemblyCost_41 (by decide) ?_
        refine st_lv [2, 3, 1, 0] rfl ?_
        exact ih5 x4 x5 hw
  obtain ⟨n5, hw⟩ := hw
  refine st_lv [2, 3, 1, 0] rfl ?_
  exact L5 n5 0 0 hw
end
section
theorem h9_C_drawPart : y_C_drawPart.cls ≠ "java/lang/invoke/MethodHandle" ∧ y_C_drawPart.cls ≠ "java/lang/invoke/VarHandle" ∧ (parseMethodDescriptor y_C_drawPart.desc).map (fun d => d.parameters.length) = some 2 := by decide +kernel
def wp_C_drawPart_J95 (v3 : Int32) (K45 : Int32 → (Nat → Int64) → (Nat → Int32) → (Nat → Int32) → (Nat → Int32) → Prop) (f10 : Nat → Int64) (f11 : Nat → Int32) (f12 : Nat → Int32) (f13 : Nat → Int32) : Prop :=
  ∀ x14 : Int32, x14 = v3 + 1 →
  K45 x14 f10 f11 f12 f13
def wp_C_drawPart_L70 (sp_froms_keys : Nat → Int64) (sp_froms_sizes : Nat → Int32) (sp_cents : Nat → Int64) (rt_aboveNow : Nat → Int64) (rt_belowNow : Nat → Int64) (x1 : Int64) (x2 : Int32) (v3 : Int32) (K45 : Int32 → (Nat → Int64) → (Nat → Int32) → (Nat → Int32) → (Nat → Int32) → Prop) : Nat → Int32 → (Nat → Int64) → (Nat → Int32) → (Nat → Int32) → (Nat → Int32) → Prop
  | 0, _, _, _, _, _ => False
  | n70 + 1, v15, f16, f17, f18, f19 =>
  ((8 ≤ v15) → wp_C_drawPart_J95 v3 K45 f16 f17 f18 f19) ∧
  ((¬ 8 ≤ v15) → wp_C_offerSteps x2 x1 v3 v15 sp_froms_keys sp_froms_sizes sp_cents rt_aboveNow rt_belowNow f16 f17 f18 f19 (fun u20 u21 u22 u23 =>
  ∀ x24 : Int32, x24 = v15 + 1 →
  (wp_C_drawPart_L70 sp_froms_keys sp_froms_sizes sp_cents rt_aboveNow rt_belowNow x1 x2 v3 K45 n70) x24 u20 u21 u22 u23))
def wp_C_drawPart_L45 (part : Int32) (partCount : Int32) (alts : Nat → Int32) (sp_froms_keys : Nat → Int64) (sp_froms_sizes : Nat → Int32) (sp_cents : Nat → Int64) (rt_aboveNow : Nat → Int64) (rt_belowNow : Nat → Int64) (x1 : Int64) (x2 : Int32) (Q : Int32 → (Nat → Int64) → (Nat → Int32) → (Nat → Int32) → (Nat → Int32) → Prop) : Nat → Int32 → (Nat → Int64) → (Nat → Int32) → (Nat → Int32) → (Nat → Int32) → Prop
  | 0, _, _, _, _, _ => False
  | n45 + 1, v3, f4, f5, f6, f7 =>
  ((partCount ≤ v3) → wp_Q_isBought x2 f6 (fun r8 =>
  (r8 = 0 ∨ r8 = 1) ∧ Q r8 f4 f5 f6 f7)) ∧
  ((¬ partCount ≤ v3) → wp_C_mayStandIn v3 part alts (fun r9 =>
  ((¬ r9 = 0) → ∃ n70 : Nat, wp_C_drawPart_L70 sp_froms_keys sp_froms_sizes sp_cents rt_aboveNow rt_belowNow x1 x2 v3 (wp_C_drawPart_L45 part partCount alts sp_froms_keys sp_froms_sizes sp_cents rt_aboveNow rt_belowNow x1 x2 Q n45) n70 0 f4 f5 f6 f7) ∧
  ((r9 = 0) → wp_C_drawPart_J95 v3 (wp_C_drawPart_L45 part partCount alts sp_froms_keys sp_froms_sizes sp_cents rt_aboveNow rt_belowNow x1 x2 Q n45) f4 f5 f6 f7)))
def wp_C_drawPart (part : Int32) (started : Int64) (partCount : Int32) (used : Nat → Int64) (stock : Nat → Int64) (alts : Nat → Int32) (sp_froms_keys : Nat → Int64) (sp_froms_sizes : Nat → Int32) (sp_cents : Nat → Int64) (rt_aboveNow : Nat → Int64) (rt_belowNow : Nat → Int64) (dr_costs : Nat → Int64) (dr_pieces : Nat → Int32) (dr_makers : Nat → Int32) (dr_parts : Nat → Int32) (Q : Int32 → (Nat → Int64) → (Nat → Int32) → (Nat → Int32) → (Nat → Int32) → Prop) : Prop :=
  vp_in part 30 ∧
  vp_in part 30 ∧
  ∀ x1 : Int64, x1 = (started * (used part.toNatClampNeg)) - (stock part.toNatClampNeg) →
  ((0 < x1) → ((x1 ≤ 1000000000) → ∀ x2 : Int32, x2 = 3 + part →
  ∃ n45 : Nat, wp_C_drawPart_L45 part partCount alts sp_froms_keys sp_froms_sizes sp_cents rt_aboveNow rt_belowNow x1 x2 Q n45 0 dr_costs dr_pieces dr_makers dr_parts) ∧
  ((¬ x1 ≤ 1000000000) → ((0 : Int32) = 0 ∨ (0 : Int32) = 1) ∧ Q 0 dr_costs dr_pieces dr_makers dr_parts)) ∧
  ((¬ 0 < x1) → ((1 : Int32) = 0 ∨ (1 : Int32) = 1) ∧ Q 1 dr_costs dr_pieces dr_makers dr_parts)
set_option maxHeartbeats 4000000 in
set_option maxRecDepth 100000 in
theorem k_C_drawPart (g : GX) (hg : g.1.stackTraces = false) (a_t : Nat) (part : Int32) (started : Int64) (a_used : Nat) (a_stock : Nat) (a_alts : Nat) (a_asm : Nat) (a_placed : Nat) (a_sp : Nat) (a_rt : Nat) (a_yl : Nat) (partCount : Int32) (tooling : Int64) (a_dr : Nat) (a_la : Nat) (a_be : Nat) (used : Nat → Int64) (stock : Nat → Int64) (alts : Nat → Int32) (a_sp_froms : Nat) (a_sp_cents : Nat) (a_sp_froms_keys : Nat) (a_sp_froms_sizes : Nat) (sp_froms_keys : Nat → Int64) (sp_froms_sizes : Nat → Int32) (sp_cents : Nat → Int64) (a_rt_days : Nat) (a_rt_aboves : Nat) (a_rt_belows : Nat) (a_rt_aboveNow : Nat) (a_rt_belowNow : Nat) (rt_aboveNow : Nat → Int64) (rt_belowNow : Nat → Int64) (a_dr_costs : Nat) (a_dr_pieces : Nat) (a_dr_makers : Nat) (a_dr_parts : Nat) (dr_rowCount : Int32) (dr_costs : Nat → Int64) (dr_pieces : Nat → Int32) (dr_makers : Nat → Int32) (dr_parts : Nat → Int32) (Q : Int32 → (Nat → Int64) → (Nat → Int32) → (Nat → Int32) → (Nat → Int32) → Prop) (hw : wp_C_drawPart part started partCount used stock alts sp_froms_keys sp_froms_sizes sp_cents rt_aboveNow rt_belowNow dr_costs dr_pieces dr_makers dr_parts Q) : CT g y_C_drawPart c_C_drawPart 9 (some .boolean) ({ frames := 3, cells := 0, slots := 0, locals := 84 } : Room) [.ref a_t, .int part, .long started] [(a_t, .inr (5, [.ref a_used, .ref a_stock, .ref a_alts, .ref a_asm, .ref a_placed, .ref a_sp, .ref a_rt, .ref a_yl, .int partCount, .long tooling, .ref a_dr, .ref a_la, .ref a_be])), aJ g a_used 30 used, aJ g a_stock 30 stock, aI g a_alts 30 alts, (a_sp, .inr (3, [.ref a_sp_froms, .ref a_sp_cents])), (a_sp_froms, .inr (0, [.ref a_sp_froms_keys, .ref a_sp_froms_sizes])), aJ g a_sp_froms_keys 1488 sp_froms_keys, aI g a_sp_froms_sizes 248 sp_froms_sizes, aJ g a_sp_cents 1488 sp_cents, (a_rt, .inr (2, [.ref a_rt_days, .ref a_rt_aboves, .ref a_rt_belows, .ref a_rt_aboveNow, .ref a_rt_belowNow])), aJ g a_rt_aboveNow 8 rt_aboveNow, aJ g a_rt_belowNow 8 rt_belowNow, (a_dr, .inr (1, [.ref a_dr_costs, .ref a_dr_pieces, .ref a_dr_makers, .ref a_dr_parts, .int dr_rowCount])), aJ g a_dr_costs 33 dr_costs, aI g a_dr_pieces 33 dr_pieces, aI g a_dr_makers 33 dr_makers, aI g a_dr_parts 33 dr_parts] (QI g [(a_t, .inr (5, [.ref a_used, .ref a_stock, .ref a_alts, .ref a_asm, .ref a_placed, .ref a_sp, .ref a_rt, .ref a_yl, .int partCount, .long tooling, .ref a_dr, .ref a_la, .ref a_be])), aJ g a_used 30 used, aJ g a_stock 30 stock, aI g a_alts 30 alts, (a_sp, .inr (3, [.ref a_sp_froms, .ref a_sp_cents])), (a_sp_froms, .inr (0, [.ref a_sp_froms_keys, .ref a_sp_froms_sizes])), aJ g a_sp_froms_keys 1488 sp_froms_keys, aI g a_sp_froms_sizes 248 sp_froms_sizes, aJ g a_sp_cents 1488 sp_cents, (a_rt, .inr (2, [.ref a_rt_days, .ref a_rt_aboves, .ref a_rt_belows, .ref a_rt_aboveNow, .ref a_rt_belowNow])), aJ g a_rt_aboveNow 8 rt_aboveNow, aJ g a_rt_belowNow 8 rt_belowNow, (a_dr, .inr (1, [.ref a_dr_costs, .ref a_dr_pieces, .ref a_dr_makers, .ref a_dr_parts, .int dr_rowCount])), aJ g a_dr_costs 33 dr_costs, aI g a_dr_pieces 33 dr_pieces, aI g a_dr_makers 33 dr_makers, aI g a_dr_parts 33 dr_parts] (fun u : (Nat → Int64) × (Nat → Int32) × (Nat → Int32) × (Nat → Int32) => [(a_t, .inr (5, [.ref a_used, .ref a_stock, .ref a_alts, .ref a_asm, .ref a_placed, .ref a_sp, .ref a_rt, .ref a_yl, .int partCount, .long tooling, .ref a_dr, .ref a_la, .ref a_be])), aJ g a_used 30 used, aJ g a_stock 30 stock, aI g a_alts 30 alts, (a_sp, .inr (3, [.ref a_sp_froms, .ref a_sp_cents])), (a_sp_froms, .inr (0, [.ref a_sp_froms_keys, .ref a_sp_froms_sizes])), aJ g a_sp_froms_keys 1488 sp_froms_keys, aI g a_sp_froms_sizes 248 sp_froms_sizes, aJ g a_sp_cents 1488 sp_cents, (a_rt, .inr (2, [.ref a_rt_days, .ref a_rt_aboves, .ref a_rt_belows, .ref a_rt_aboveNow, .ref a_rt_belowNow])), aJ g a_rt_aboveNow 8 rt_aboveNow, aJ g a_rt_belowNow 8 rt_belowNow, (a_dr, .inr (1, [.ref a_dr_costs, .ref a_dr_pieces, .ref a_dr_makers, .ref a_dr_parts, .int dr_rowCount])), aJ g a_dr_costs 33 u.1, aI g a_dr_pieces 33 u.2.1, aI g a_dr_makers 33 u.2.2.1, aI g a_dr_parts 33 u.2.2.2]) (fun r u => Q r u.1 u.2.1 u.2.2.1 u.2.2.2)) := by
  refine ct_of hg (by decide) (Nat.le_of_ble_eq_true rfl) (fun sz C X hr => ?_)
  unfold wp_C_drawPart at hw
  show ST g C [(a_t, .inr (5, [.ref a_used, .ref a_stock, .ref a_alts, .ref a_asm, .ref a_placed, .ref a_sp, .ref a_rt, .ref a_yl, .int partCount, .long tooling, .ref a_dr, .ref a_la, .ref a_be])), aJ g a_used 30 used, aJ g a_stock 30 stock, aI g a_alts 30 alts, (a_sp, .inr (3, [.ref a_sp_froms, .ref a_sp_cents])), (a_sp_froms, .inr (0, [.ref a_sp_froms_keys, .ref a_sp_froms_sizes])), aJ g a_sp_froms_keys 1488 sp_froms_keys, aI g a_sp_froms_sizes 248 sp_froms_sizes, aJ g a_sp_cents 1488 sp_cents, (a_rt, .inr (2, [.ref a_rt_days, .ref a_rt_aboves, .ref a_rt_belows, .ref a_rt_aboveNow, .ref a_rt_belowNow])), aJ g a_rt_aboveNow 8 rt_aboveNow, aJ g a_rt_belowNow 8 rt_belowNow, (a_dr, .inr (1, [.ref a_dr_costs, .ref a_dr_pieces, .ref a_dr_makers, .ref a_dr_parts, .int dr_rowCount])), aJ g a_dr_costs 33 dr_costs, aI g a_dr_pieces 33 dr_pieces, aI g a_dr_makers 33 dr_makers, aI g a_dr_parts 33 dr_parts] [(0, .ref a_t), (1, .int part), (2, .long started)] [] 0 0 0
  refine st_lload_n X 2 d_C_drawPart_0 rfl rfl ?_
  refine st_aload_n X 0 d_C_drawPart_1 rfl rfl ?_
  refine st_get X (ci := 5) in_C 0 0 wf_C_11 rfl rfl (by decide) rfl d_C_drawPart_2 ?_
  refine st_iload_n X 1 d_C_drawPart_5 rfl rfl ?_
  obtain ⟨hb1, hw⟩ := hw
  refine st_lald X 1 rfl hb1 d_C_drawPart_6 ?_
  refine st_lmul X d_C_drawPart_7 ?_
  refine st_aload_n X 0 d_C_drawPart_8 rfl rfl ?_
  refine st_get X (ci := 5) in_C 0 1 wf_C_15 rfl rfl (by decide) rfl d_C_drawPart_9 ?_
  refine st_iload_n X 1 d_C_drawPart_12 rfl rfl ?_
  obtain ⟨hb2, hw⟩ := hw
  refine st_lald X 2 rfl hb2 d_C_drawPart_13 ?_
  refine st_lsub X d_C_drawPart_14 ?_
  refine st_topl (fun x1 hx1 => ?_)
  replace hw := hw x1 hx1
  refine st_lstore X (lv2 := [(4, .long x1), (0, .ref a_t), (1, .int part), (2, .long started)]) d_C_drawPart_15 (by decide) rfl ?_
  refine st_lload X 0 d_C_drawPart_17 rfl ?_
  refine st_lconst X (v := 0) d_C_drawPart_19 (by decide) ?_
  refine st_lcmp_gt X 26 d_C_drawPart_20 d_C_drawPart_21 (by decide) (fun hc => ?_) (fun hc => ?_)
  · replace hw := hw.1 hc
    refine st_lload X 0 d_C_drawPart_26 rfl ?_
    refine st_ldc2 X wv_C_104 d_C_drawPart_28 ?_
    refine st_lcmp_le X 37 d_C_drawPart_31 d_C_drawPart_32 (by decide) (fun hc => ?_) (fun hc => ?_)
    · replace hw := hw.1 hc
      refine st_iconst X (v := 3) d_C_drawPart_37 (by decide) ?_
      refine st_iload_n X 2 d_C_drawPart_38 rfl rfl ?_
      refine st_iadd X d_C_drawPart_39 ?_
      refine st_topi (fun x2 hx2 => ?_)
      replace hw := hw x2 hx2
      refine st_istore X (lv2 := [(6, .int x2), (4, .long x1), (0, .ref a_t), (1, .int part), (2, .long started)]) d_C_drawPart_40 (by decide) rfl ?_
      refine st_iconst X (v := 0) d_C_drawPart_42 (by decide) ?_
      refine st_istore X (lv2 := [(7, .int 0), (6, .int x2), (4, .long x1), (0, .ref a_t), (1, .int part), (2, .long started)]) d_C_drawPart_43 (by decide) rfl ?_
      have L45 : ∀ (n45 : Nat) (v3 : Int32) (f4 : Nat → Int64) (f5 : Nat → Int32) (f6 : Nat → Int32) (f7 : Nat → Int32), wp_C_drawPart_L45 part partCount alts sp_froms_keys sp_froms_sizes sp_cents rt_aboveNow rt_belowNow x1 x2 Q n45 v3 f4 f5 f6 f7 → ST g C [(a_t, .inr (5, [.ref a_used, .ref a_stock, .ref a_alts, .ref a_asm, .ref a_placed, .ref a_sp, .ref a_rt, .ref a_yl, .int partCount, .long tooling, .ref a_dr, .ref a_la, .ref a_be])), aJ g a_used 30 used, aJ g a_stock 30 stock, aI g a_alts 30 alts, (a_sp, .inr (3, [.ref a_sp_froms, .ref a_sp_cents])), (a_sp_froms, .inr (0, [.ref a_sp_froms_keys, .ref a_sp_froms_sizes])), aJ g a_sp_froms_keys 1488 sp_froms_keys, aI g a_sp_froms_sizes 248 sp_froms_sizes, aJ g a_sp_cents 1488 sp_cents, (a_rt, .inr (2, [.ref a_rt_days, .ref a_rt_aboves, .ref a_rt_belows, .ref a_rt_aboveNow, .ref a_rt_belowNow])), aJ g a_rt_aboveNow 8 rt_aboveNow, aJ g a_rt_belowNow 8 rt_belowNow, (a_dr, .inr (1, [.ref a_dr_costs, .ref a_dr_pieces, .ref a_dr_makers, .ref a_dr_parts, .int dr_rowCount])), aJ g a_dr_costs 33 f4, aI g a_dr_pieces 33 f5, aI g a_dr_makers 33 f6, aI g a_dr_parts 33 f7] [(0, .ref a_t), (1, .int part), (2, .long started), (4, .long x1), (6, .int x2), (7, .int v3)] [] 45 0 0 := by
        intro n45
        induction n45 with
        | zero => intro v3 f4 f5 f6 f7 hw; exact hw.elim
        | succ n45 ih45 =>
          intro v3 f4 f5 f6 f7 hw
          rw [wp_C_drawPart_L45] at hw
          refine st_iload X 5 d_C_drawPart_45 rfl ?_
          refine st_aload_n X 0 d_C_drawPart_47 rfl rfl ?_
          refine st_get X (ci := 5) in_C 0 8 wf_C_49 rfl rfl (by decide) rfl d_C_drawPart_48 ?_
          refine st_icmp_ge X 101 d_C_drawPart_51 (by decide) (fun hc => ?_) (fun hc => ?_)
          · replace hw := hw.1 hc
            refine st_aload_n X 0 d_C_drawPart_101 rfl rfl ?_
            refine st_get X (ci := 5) in_C 0 10 wf_C_60 rfl rfl (by decide) rfl d_C_drawPart_102 ?_
            refine st_iload X 4 d_C_drawPart_105 rfl ?_
            have hR := rn_VN (pc := 107) (k := 0) (n := 0) (As := [.int x2]) (rest := []) X (k_Q_isBought g hg a_dr x2 a_dr_costs a_dr_pieces a_dr_makers a_dr_parts dr_rowCount f6 _ hw) (q0 := 0) rfl rfl nl_C_191 wi_Q_isBought wl_Q_isBought wz_Q wc_Q_isBought h9_Q_isBought ⟨by decide, by decide⟩ (Nat.le_of_ble_eq_true rfl) ⟨by decide, by decide⟩ d_C_drawPart_107
            refine st_calli X hR [12, 15] [0, 1, 2, 3, 4, 5, 6, 7, 8, 9, 10, 11, 13, 14, 16] (wr := [(a_t, .inr (5, [.ref a_used, .ref a_stock, .ref a_alts, .ref a_asm, .ref a_placed, .ref a_sp, .ref a_rt, .ref a_yl, .int partCount, .long tooling, .ref a_dr, .ref a_la, .ref a_be])), aJ g a_used 30 used, aJ g a_stock 30 stock, aI g a_alts 30 alts, (a_sp, .inr (3, [.ref a_sp_froms, .ref a_sp_cents])), (a_sp_froms, .inr (0, [.ref a_sp_froms_keys, .ref a_sp_froms_sizes])), aJ g a_sp_froms_keys 1488 sp_froms_keys, aI g a_sp_froms_sizes 248 sp_froms_sizes, aJ g a_sp_cents 1488 sp_cents, (a_rt, .inr (2, [.ref a_rt_days, .ref a_rt_aboves, .ref a_rt_belows, .ref a_rt_aboveNow, .ref a_rt_belowNow])), aJ g a_rt_aboveNow 8 rt_aboveNow, aJ g a_rt_belowNow 8 rt_belowNow, aJ g a_dr_costs 33 f4, aI g a_dr_pieces 33 f5, aI g a_dr_parts 33 f7]) rfl rfl (by decide) (by decide) (by decide) (fun r8 u9 hw => ?_)
            try dsimp only at hw
            refine st_widen (k2 := 0) (n2 := 0) (by decide) (by decide) ?_
            refine st_perm (ws2 := [(a_t, .inr (5, [.ref a_used, .ref a_stock, .ref a_alts, .ref a_asm, .ref a_placed, .ref a_sp, .ref a_rt, .ref a_yl, .int partCount, .long tooling, .ref a_dr, .ref a_la, .ref a_be])), aJ g a_used 30 used, aJ g a_stock 30 stock, aI g a_alts 30 alts, (a_sp, .inr (3, [.ref a_sp_froms, .ref a_sp_cents])), (a_sp_froms, .inr (0, [.ref a_sp_froms_keys, .ref a_sp_froms_sizes])), aJ g a_sp_froms_keys 1488 sp_froms_keys, aI g a_sp_froms_sizes 248 sp_froms_sizes, aJ g a_sp_cents 1488 sp_cents, (a_rt, .inr (2, [.ref a_rt_days, .ref a_rt_aboves, .ref a_rt_belows, .ref a_rt_aboveNow, .ref a_rt_belowNow])), aJ g a_rt_aboveNow 8 rt_aboveNow, aJ g a_rt_belowNow 8 rt_belowNow, (a_dr, .inr (1, [.ref a_dr_costs, .ref a_dr_pieces, .ref a_dr_makers, .ref a_dr_parts, .int dr_rowCount])), aJ g a_dr_costs 33 f4, aI g a_dr_pieces 33 f5, aI g a_dr_makers 33 f6, aI g a_dr_parts 33 f7]) [0, 1, 2, 3, 4, 5, 6, 7, 8, 9, 10, 11, 15, 12, 13, 16, 14] rfl (by decide) ?_
            show ST g C [(a_t, .inr (5, [.ref a_used, .ref a_stock, .ref a_alts, .ref a_asm, .ref a_placed, .ref a_sp, .ref a_rt, .ref a_yl, .int partCount, .long tooling, .ref a_dr, .ref a_la, .ref a_be])), aJ g a_used 30 used, aJ g a_stock 30 stock, aI g a_alts 30 alts, (a_sp, .inr (3, [.ref a_sp_froms, .ref a_sp_cents])), (a_sp_froms, .inr (0, [.ref a_sp_froms_keys, .ref a_sp_froms_sizes])), aJ g a_sp_froms_keys 1488 sp_froms_keys, aI g a_sp_froms_sizes 248 sp_froms_sizes, aJ g a_sp_cents 1488 sp_cents, (a_rt, .inr (2, [.ref a_rt_days, .ref a_rt_aboves, .ref a_rt_belows, .ref a_rt_aboveNow, .ref a_rt_belowNow])), aJ g a_rt_aboveNow 8 rt_aboveNow, aJ g a_rt_belowNow 8 rt_belowNow, (a_dr, .inr (1, [.ref a_dr_costs, .ref a_dr_pieces, .ref a_dr_makers, .ref a_dr_parts, .int dr_rowCount])), aJ g a_dr_costs 33 f4, aI g a_dr_pieces 33 f5, aI g a_dr_makers 33 f6, aI g a_dr_parts 33 f7] [(0, .ref a_t), (1, .int part), (2, .long started), (4, .long x1), (6, .int x2), (7, .int v3)] [.int r8] 110 0 0
            obtain ⟨hz, hw⟩ := hw
            exact st_zret X hr (f4, f5, f6, f7) hw hz rfl (by decide) (by decide) d_C_drawPart_110
          · replace hw := hw.2 hc
            refine st_aload_n X 0 d_C_drawPart_54 rfl rfl ?_
            refine st_iload X 5 d_C_drawPart_55 rfl ?_
            refine st_iload_n X 1 d_C_drawPart_57 rfl rfl ?_
            have hR := rn_V (pc := 58) (k := 0) (n := 0) (As := [.int v3, .int part]) (rest := []) X (k_C_mayStandIn g hg a_t v3 part a_used a_stock a_alts a_asm a_placed a_sp a_rt a_yl partCount tooling a_dr a_la a_be alts _ hw) (q0 := 0) rfl rfl wm_C_136 wi_C_mayStandIn wl_C_mayStandIn wz_C wc_C_mayStandIn h9_C_mayStandIn ⟨by decide, by decide⟩ (Nat.le_of_ble_eq_true rfl) ⟨by decide, by decide⟩ d_C_drawPart_58
            refine st_calli X hR [0, 3] [1, 2, 4, 5, 6, 7, 8, 9, 10, 11, 12, 13, 14, 15, 16] (wr := [aJ g a_used 30 used, aJ g a_stock 30 stock, (a_sp, .inr (3, [.ref a_sp_froms, .ref a_sp_cents])), (a_sp_froms, .inr (0, [.ref a_sp_froms_keys, .ref a_sp_froms_sizes])), aJ g a_sp_froms_keys 1488 sp_froms_keys, aI g a_sp_froms_sizes 248 sp_froms_sizes, aJ g a_sp_cents 1488 sp_cents, (a_rt, .inr (2, [.ref a_rt_days, .ref a_rt_aboves, .ref a_rt_belows, .ref a_rt_aboveNow, .ref a_rt_belowNow])), aJ g a_rt_aboveNow 8 rt_aboveNow, aJ g a_rt_belowNow 8 rt_belowNow, (a_dr, .inr (1, [.ref a_dr_costs, .ref a_dr_pieces, .ref a_dr_makers, .ref a_dr_parts, .int dr_rowCount])), aJ g a_dr_costs 33 f4, aI g a_dr_pieces 33 f5, aI g a_dr_makers 33 f6, aI g a_dr_parts 33 f7]) rfl rfl (by decide) (by decide) (by decide) (fun r9 u9 hw => ?_)
            try dsimp only at hw
            refine st_widen (k2 := 0) (n2 := 0) (by decide) (by decide) ?_
            refine st_perm (ws2 := [(a_t, .inr (5, [.ref a_used, .ref a_stock, .ref a_alts, .ref a_asm, .ref a_placed, .ref a_sp, .ref a_rt, .ref a_yl, .int partCount, .long tooling, .ref a_dr, .ref a_la, .ref a_be])), aJ g a_used 30 used, aJ g a_stock 30 stock, aI g a_alts 30 alts, (a_sp, .inr (3, [.ref a_sp_froms, .ref a_sp_cents])), (a_sp_froms, .inr (0, [.ref a_sp_froms_keys, .ref a_sp_froms_sizes])), aJ g a_sp_froms_keys 1488 sp_froms_keys, aI g a_sp_froms_sizes 248 sp_froms_sizes, aJ g a_sp_cents 1488 sp_cents, (a_rt, .inr (2, [.ref a_rt_days, .ref a_rt_aboves, .ref a_rt_belows, .ref a_rt_aboveNow, .ref a_rt_belowNow])), aJ g a_rt_aboveNow 8 rt_aboveNow, aJ g a_rt_belowNow 8 rt_belowNow, (a_dr, .inr (1, [.ref a_dr_costs, .ref a_dr_pieces, .ref a_dr_makers, .ref a_dr_parts, .int dr_rowCount])), aJ g a_dr_costs 33 f4, aI g a_dr_pieces 33 f5, aI g a_dr_makers 33 f6, aI g a_dr_parts 33 f7]) [15, 0, 1, 16, 2, 3, 4, 5, 6, 7, 8, 9, 10, 11, 12, 13, 14] rfl (by decide) ?_
            show ST g C [(a_t, .inr (5, [.ref a_used, .ref a_stock, .ref a_alts, .ref a_asm, .ref a_placed, .ref a_sp, .ref a_rt, .ref a_yl, .int partCount, .long tooling, .ref a_dr, .ref a_la, .ref a_be])), aJ g a_used 30 used, aJ g a_stock 30 stock, aI g a_alts 30 alts, (a_sp, .inr (3, [.ref a_sp_froms, .ref a_sp_cents])), (a_sp_froms, .inr (0, [.ref a_sp_froms_keys, .ref a_sp_froms_sizes])), aJ g a_sp_froms_keys 1488 sp_froms_keys, aI g a_sp_froms_sizes 248 sp_froms_sizes, aJ g a_sp_cents 1488 sp_cents, (a_rt, .inr (2, [.ref a_rt_days, .ref a_rt_aboves, .ref a_rt_belows, .ref a_rt_aboveNow, .ref a_rt_belowNow])), aJ g a_rt_aboveNow 8 rt_aboveNow, aJ g a_rt_belowNow 8 rt_belowNow, (a_dr, .inr (1, [.ref a_dr_costs, .ref a_dr_pieces, .ref a_dr_makers, .ref a_dr_parts, .int dr_rowCount])), aJ g a_dr_costs 33 f4, aI g a_dr_pieces 33 f5, aI g a_dr_makers 33 f6, aI g a_dr_parts 33 f7] [(0, .ref a_t), (1, .int part), (2, .long started), (4, .long x1), (6, .int x2), (7, .int v3)] [.int r9] 61 0 0
            have J95 : ∀ (f10 : Nat → Int64) (f11 : Nat → Int32) (f12 : Nat → Int32) (f13 : Nat → Int32), wp_C_drawPart_J95 v3 (fun z0 z1 z2 z3 z4 => wp_C_drawPart_L45 part partCount alts sp_froms_keys sp_froms_sizes sp_cents rt_aboveNow rt_belowNow x1 x2 Q n45 z0 z1 z2 z3 z4) f10 f11 f12 f13 → ST g C [(a_t, .inr (5, [.ref a_used, .ref a_stock, .ref a_alts, .ref a_asm, .ref a_placed, .ref a_sp, .ref a_rt, .ref a_yl, .int partCount, .long tooling, .ref a_dr, .ref a_la, .ref a_be])), aJ g a_used 30 used, aJ g a_stock 30 stock, aI g a_alts 30 alts, (a_sp, .inr (3, [.ref a_sp_froms, .ref a_sp_cents])), (a_sp_froms, .inr (0, [.ref a_sp_froms_keys, .ref a_sp_froms_sizes])), aJ g a_sp_froms_keys 1488 sp_froms_keys, aI g a_sp_froms_sizes 248 sp_froms_sizes, aJ g a_sp_cents 1488 sp_cents, (a_rt, .inr (2, [.ref a_rt_days, .ref a_rt_aboves, .ref a_rt_belows, .ref a_rt_aboveNow, .ref a_rt_belowNow])), aJ g a_rt_aboveNow 8 rt_aboveNow, aJ g a_rt_belowNow 8 rt_belowNow, (a_dr, .inr (1, [.ref a_dr_costs, .ref a_dr_pieces, .ref a_dr_makers, .ref a_dr_parts, .int dr_rowCount])), aJ g a_dr_costs 33 f10, aI g a_dr_pieces 33 f11, aI g a_dr_makers 33 f12, aI g a_dr_parts 33 f13] [(0, .ref a_t), (1, .int part), (2, .long started), (4, .long x1), (6, .int x2), (7, .int v3)] [] 95 0 0 := by
              intro f10 f11 f12 f13 hw
              unfold wp_C_drawPart_J95 at hw
              obtain ⟨x14, hx14⟩ : ∃ z : Int32, z = v3 + 1 := ⟨_, rfl⟩
              replace hw := hw x14 hx14
              refine st_iinc X (v := x14) (lv2 := [(7, .int x14), (0, .ref a_t), (1, .int part), (2, .long started), (4, .long x1), (6, .int x2)]) 5 d_C_drawPart_95 rfl (by rw [hx14]; rfl) (by decide) rfl ?_
              refine st_goto X 45 d_C_drawPart_98 (by decide) ?_
              refine st_lv [1, 2, 3, 4, 5, 0] rfl ?_
              exact ih45 x14 f10 f11 f12 f13 hw
            refine st_if_ne X 67 d_C_drawPart_61 (by decide) (fun hc => ?_) (fun hc => ?_)
            · replace hw := hw.1 hc
              refine st_iconst X (v := 0) d_C_drawPart_67 (by decide) ?_
              refine st_istore X (lv2 := [(8, .int 0), (0, .ref a_t), (1, .int part), (2, .long started), (4, .long x1), (6, .int x2), (7, .int v3)]) d_C_drawPart_68 (by decide) rfl ?_
              have L70 : ∀ (n70 : Nat) (v15 : Int32) (f16 : Nat → Int64) (f17 : Nat → Int32) (f18 : Nat → Int32) (f19 : Nat → Int32), wp_C_drawPart_L70 sp_froms_keys sp_froms_sizes sp_cents rt_aboveNow rt_belowNow x1 x2 v3 (fun z0 z1 z2 z3 z4 => wp_C_drawPart_L45 part partCount alts sp_froms_keys sp_froms_sizes sp_cents rt_aboveNow rt_belowNow x1 x2 Q n45 z0 z1 z2 z3 z4) n70 v15 f16 f17 f18 f19 → ST g C [(a_t, .inr (5, [.ref a_used, .ref a_stock, .ref a_alts, .ref a_asm, .ref a_placed, .ref a_sp, .ref a_rt, .ref a_yl, .int partCount, .long tooling, .ref a_dr, .ref a_la, .ref a_be])), aJ g a_used 30 used, aJ g a_stock 30 stock, aI g a_alts 30 alts, (a_sp, .inr (3, [.ref a_sp_froms, .ref a_sp_cents])), (a_sp_froms, .inr (0, [.ref a_sp_froms_keys, .ref a_sp_froms_sizes])), aJ g a_sp_froms_keys 1488 sp_froms_keys, aI g a_sp_froms_sizes 248 sp_froms_sizes, aJ g a_sp_cents 1488 sp_cents, (a_rt, .inr (2, [.ref a_rt_days, .ref a_rt_aboves, .ref a_rt_belows, .ref a_rt_aboveNow, .ref a_rt_belowNow])), aJ g a_rt_aboveNow 8 rt_aboveNow, aJ g a_rt_belowNow 8 rt_belowNow, (a_dr, .inr (1, [.ref a_dr_costs, .ref a_dr_pieces, .ref a_dr_makers, .ref a_dr_parts, .int dr_rowCount])), aJ g a_dr_costs 33 f16, aI g a_dr_pieces 33 f17, aI g a_dr_makers 33 f18, aI g a_dr_parts 33 f19] [(0, .ref a_t), (1, .int part), (2, .long started), (4, .long x1), (6, .int x2), (7, .int v3), (8, .int v15)] [] 70 0 0 := by
                intro n70
                induction n70 with
                | zero => intro v15 f16 f17 f18 f19 hw; exact hw.elim
                | succ n70 ih70 =>
                  intro v15 f16 f17 f18 f19 hw
                  rw [wp_C_drawPart_L70] at hw
                  refine st_iload X 6 d_C_drawPart_70 rfl ?_
                  refine st_bipush X (v := 8) d_C_drawPart_72 (by decide) ?_
                  refine st_icmp_ge X 95 d_C_drawPart_74 (by decide) (fun hc => ?_) (fun hc => ?_)
                  · replace hw := hw.1 hc
                    refine st_lv [0, 1, 2, 3, 4, 5] rfl ?_
                    exact J95 f16 f17 f18 f19 hw
                  · replace hw := hw.2 hc
                    refine st_aload_n X 0 d_C_drawPart_77 rfl rfl ?_
                    refine st_iload X 4 d_C_drawPart_78 rfl ?_
                    refine st_lload X 3 d_C_drawPart_80 rfl ?_
                    refine st_iload X 5 d_C_drawPart_82 rfl ?_
                    refine st_iload X 6 d_C_drawPart_84 rfl ?_
                    have hR := rn_V (pc := 86) (k := 0) (n := 0) (As := [.int x2, .long x1, .int v3, .int v15]) (rest := []) X (k_C_offerSteps g hg a_t x2 x1 v3 v15 a_used a_stock a_alts a_asm a_placed a_sp a_rt a_yl partCount tooling a_dr a_la a_be a_sp_froms a_sp_cents a_sp_froms_keys a_sp_froms_sizes sp_froms_keys sp_froms_sizes sp_cents a_rt_days a_rt_aboves a_rt_belows a_rt_aboveNow a_rt_belowNow rt_aboveNow rt_belowNow a_dr_costs a_dr_pieces a_dr_makers a_dr_parts dr_rowCount f16 f17 f18 f19 _ hw) (q0 := 0) rfl rfl wm_C_187 wi_C_offerSteps wl_C_offerSteps wz_C wc_C_offerSteps h9_C_offerSteps ⟨by decide, by decide⟩ (Nat.le_of_ble_eq_true rfl) ⟨by decide, by decide⟩ d_C_drawPart_86
                    refine st_callv X hR [0, 4, 5, 6, 7, 8, 9, 10, 11, 12, 13, 14, 15, 16] [1, 2, 3] (wr := [aJ g a_used 30 used, aJ g a_stock 30 stock, aI g a_alts 30 alts]) rfl rfl (by decide) (by decide) (by decide) (fun u9 hw => ?_)
                    obtain ⟨u20, u21, u22, u23⟩ := u9
                    try dsimp only at hw
                    refine st_widen (k2 := 0) (n2 := 0) (by decide) (by decide) ?_
                    refine st_perm (ws2 := [(a_t, .inr (5, [.ref a_used, .ref a_stock, .ref a_alts, .ref a_asm, .ref a_placed, .ref a_sp, .ref a_rt, .ref a_yl, .int partCount, .long tooling, .ref a_dr, .ref a_la, .ref a_be])), aJ g a_used 30 used, aJ g a_stock 30 stock, aI g a_alts 30 alts, (a_sp, .inr (3, [.ref a_sp_froms, .ref a_sp_cents])), (a_sp_froms, .inr (0, [.ref a_sp_froms_keys, .ref a_sp_froms_sizes])), aJ g a_sp_froms_keys 1488 sp_froms_keys, aI g a_sp_froms_sizes 248 sp_froms_sizes, aJ g a_sp_cents 1488 sp_cents, (a_rt, .inr (2, [.ref a_rt_days, .ref a_rt_aboves, .ref a_rt_belows, .ref a_rt_aboveNow, .ref a_rt_belowNow])), aJ g a_rt_aboveNow 8 rt_aboveNow, aJ g a_rt_belowNow 8 rt_belowNow, (a_dr, .inr (1, [.ref a_dr_costs, .ref a_dr_pieces, .ref a_dr_makers, .ref a_dr_parts, .int dr_rowCount])), aJ g a_dr_costs 33 u20, aI g a_dr_pieces 33 u21, aI g a_dr_makers 33 u22, aI g a_dr_parts 33 u23]) [3, 0, 1, 2, 4, 5, 6, 7, 8, 9, 10, 11, 12, 13, 14, 15, 16] rfl (by decide) ?_
                    show ST g C [(a_t, .inr (5, [.ref a_used, .ref a_stock, .ref a_alts, .ref a_asm, .ref a_placed, .ref a_sp, .ref a_rt, .ref a_yl, .int partCount, .long tooling, .ref a_dr, .ref a_la, .ref a_be])), aJ g a_used 30 used, aJ g a_stock 30 stock, aI g a_alts 30 alts, (a_sp, .inr (3, [.ref a_sp_froms, .ref a_sp_cents])), (a_sp_froms, .inr (0, [.ref a_sp_froms_keys, .ref a_sp_froms_sizes])), aJ g a_sp_froms_keys 1488 sp_froms_keys, aI g a_sp_froms_sizes 248 sp_froms_sizes, aJ g a_sp_cents 1488 sp_cents, (a_rt, .inr (2, [.ref a_rt_days, .ref a_rt_aboves, .ref a_rt_belows, .ref a_rt_aboveNow, .ref a_rt_belowNow])), aJ g a_rt_aboveNow 8 rt_aboveNow, aJ g a_rt_belowNow 8 rt_belowNow, (a_dr, .inr (1, [.ref a_dr_costs, .ref a_dr_pieces, .ref a_dr_makers, .ref a_dr_parts, .int dr_rowCount])), aJ g a_dr_costs 33 u20, aI g a_dr_pieces 33 u21, aI g a_dr_makers 33 u22, aI g a_dr_parts 33 u23] [(0, .ref a_t), (1, .int part), (2, .long started), (4, .long x1), (6, .int x2), (7, .int v3), (8, .int v15)] [] 89 0 0
                    obtain ⟨x24, hx24⟩ : ∃ z : Int32, z = v15 + 1 := ⟨_, rfl⟩
                    replace hw := hw x24 hx24
                    refine st_iinc X (v := x24) (lv2 := [(8, .int x24), (0, .ref a_t), (1, .int part), (2, .long started), (4, .long x1), (6, .int x2), (7, .int v3)]) 6 d_C_drawPart_89 rfl (by rw [hx24]; rfl) (by decide) rfl ?_
                    refine st_goto X 70 d_C_drawPart_92 (by decide) ?_
                    refine st_lv [1, 2, 3, 4, 5, 6, 0] rfl ?_
                    exact ih70 x24 u20 u21 u22 u23 hw
              obtain ⟨n70, hw⟩ := hw
              refine st_lv [1, 2, 3, 4, 5, 6, 0] rfl ?_
              exact L70 n70 0 f4 f5 f6 f7 hw
            · replace hw := hw.2 hc
              refine st_goto X 95 d_C_drawPart_64 (by decide) ?_
              refine st_lv [0, 1, 2, 3, 4, 5] rfl ?_
              exact J95 f4 f5 f6 f7 hw
      obtain ⟨n45, hw⟩ := hw
      refine st_lv [3, 4, 5, 2, 1, 0] rfl ?_
      exact L45 n45 0 dr_costs dr_pieces dr_makers dr_parts hw
    · replace hw := hw.2 hc
      refine st_iconst X (v := 0) d_C_drawPart_35 (by decide) ?_
      obtain ⟨hz, hw⟩ := hw
      exact st_zret X hr (dr_costs, dr_pieces, dr_makers, dr_parts) hw hz rfl (by decide) (by decide) d_C_drawPart_36
  · replace hw := hw.2 hc
    refine st_iconst X (v := 1) d_C_drawPart_24 (by decide) ?_
    obtain ⟨hz, hw⟩ := hw
    exact st_zret X hr (dr_costs, dr_pieces, dr_makers, dr_parts) hw hz rfl (by decide) (by decide) d_C_drawPart_25

theorem h9_C_drawBoards : y_C_drawBoards.cls ≠ "java/lang/invoke/MethodHandle" ∧ y_C_drawBoards.cls ≠ "java/lang/invoke/VarHandle" ∧ (parseMethodDescriptor y_C_drawBoards.desc).map (fun d => d.parameters.length) = some 2 := by decide +kernel
def wp_C_drawBoards (started : Int64) (maker : Int32) (sp_froms_keys : Nat → Int64) (sp_froms_sizes : Nat → Int32) (sp_cents : Nat → Int64) (rt_aboveNow : Nat → Int64) (rt_belowNow : Nat → Int64) (dr_costs : Nat → Int64) (dr_pieces : Nat → Int32) (dr_makers : Nat → Int32) (dr_parts : Nat → Int32) (Q : Int32 → (Nat → Int64) → (Nat → Int32) → (Nat → Int32) → (Nat → Int32) → Prop) : Prop :=
  wp_Q_clearRow (1 : Int32) dr_costs dr_pieces dr_makers dr_parts (fun u1 u2 u3 u4 =>
  ((0 < started) → wp_C_offerSteps (1 : Int32) started (30 : Int32) maker sp_froms_keys sp_froms_sizes sp_cents rt_aboveNow rt_belowNow u1 u2 u3 u4 (fun u5 u6 u7 u8 =>
  wp_Q_isBought (1 : Int32) u7 (fun r9 =>
  (r9 = 0 ∨ r9 = 1) ∧ Q r9 u5 u6 u7 u8))) ∧
  ((¬ 0 < started) → ((1 : Int32) = 0 ∨ (1 : Int32) = 1) ∧ Q 1 u1 u2 u3 u4))
set_option maxHeartbeats 4000000 in
set_option maxRecDepth 100000 in
theorem k_C_drawBoards (g : GX) (hg : g.1.stackTraces = false) (a_t : Nat) (started : Int64) (maker : Int32) (a_used : Nat) (a_stock : Nat) (a_alts : Nat) (a_asm : Nat) (a_placed : Nat) (a_sp : Nat) (a_rt : Nat) (a_yl : Nat) (partCount : Int32) (tooling : Int64) (a_dr : Nat) (a_la : Nat) (a_be : Nat) (a_sp_froms : Nat) (a_sp_cents : Nat) (a_sp_froms_keys : Nat) (a_sp_froms_sizes : Nat) (sp_froms_keys : Nat → Int64) (sp_froms_sizes : Nat → Int32) (sp_cents : Nat → Int64) (a_rt_days : Nat) (a_rt_aboves : Nat) (a_rt_belows : Nat) (a_rt_aboveNow : Nat) (a_rt_belowNow : Nat) (rt_aboveNow : Nat → Int64) (rt_belowNow : Nat → Int64) (a_dr_costs : Nat) (a_dr_pieces : Nat) (a_dr_makers : Nat) (a_dr_parts : Nat) (dr_rowCount : Int32) (dr_costs : Nat → Int64) (dr_pieces : Nat → Int32) (dr_makers : Nat → Int32) (dr_parts : Nat → Int32) (Q : Int32 → (Nat → Int64) → (Nat → Int32) → (Nat → Int32) → (Nat → Int32) → Prop) (hw : wp_C_drawBoards started maker sp_froms_keys sp_froms_sizes sp_cents rt_aboveNow rt_belowNow dr_costs dr_pieces dr_makers dr_parts Q) : CT g y_C_drawBoards c_C_drawBoards 4 (some .boolean) ({ frames := 3, cells := 0, slots := 0, locals := 84 } : Room) [.ref a_t, .long started, .int maker] [(a_t, .inr (5, [.ref a_used, .ref a_stock, .ref a_alts, .ref a_asm, .ref a_placed, .ref a_sp, .ref a_rt, .ref a_yl, .int partCount, .long tooling, .ref a_dr, .ref a_la, .ref a_be])), (a_sp, .inr (3, [.ref a_sp_froms, .ref a_sp_cents])), (a_sp_froms, .inr (0, [.ref a_sp_froms_keys, .ref a_sp_froms_sizes])), aJ g a_sp_froms_keys 1488 sp_froms_keys, aI g a_sp_froms_sizes 248 sp_froms_sizes, aJ g a_sp_cents 1488 sp_cents, (a_rt, .inr (2, [.ref a_rt_days, .ref a_rt_aboves, .ref a_rt_belows, .ref a_rt_aboveNow, .ref a_rt_belowNow])), aJ g a_rt_aboveNow 8 rt_aboveNow, aJ g a_rt_belowNow 8 rt_belowNow, (a_dr, .inr (1, [.ref a_dr_costs, .ref a_dr_pieces, .ref a_dr_makers, .ref a_dr_parts, .int dr_rowCount])), aJ g a_dr_costs 33 dr_costs, aI g a_dr_pieces 33 dr_pieces, aI g a_dr_makers 33 dr_makers, aI g a_dr_parts 33 dr_parts] (QI g [(a_t, .inr (5, [.ref a_used, .ref a_stock, .ref a_alts, .ref a_asm, .ref a_placed, .ref a_sp, .ref a_rt, .ref a_yl, .int partCount, .long tooling, .ref a_dr, .ref a_la, .ref a_be])), (a_sp, .inr (3, [.ref a_sp_froms, .ref a_sp_cents])), (a_sp_froms, .inr (0, [.ref a_sp_froms_keys, .ref a_sp_froms_sizes])), aJ g a_sp_froms_keys 1488 sp_froms_keys, aI g a_sp_froms_sizes 248 sp_froms_sizes, aJ g a_sp_cents 1488 sp_cents, (a_rt, .inr (2, [.ref a_rt_days, .ref a_rt_aboves, .ref a_rt_belows, .ref a_rt_aboveNow, .ref a_rt_belowNow])), aJ g a_rt_aboveNow 8 rt_aboveNow, aJ g a_rt_belowNow 8 rt_belowNow, (a_dr, .inr (1, [.ref a_dr_costs, .ref a_dr_pieces, .ref a_dr_makers, .ref a_dr_parts, .int dr_rowCount])), aJ g a_dr_costs 33 dr_costs, aI g a_dr_pieces 33 dr_pieces, aI g a_dr_makers 33 dr_makers, aI g a_dr_parts 33 dr_parts] (fun u : (Nat → Int64) × (Nat → Int32) × (Nat → Int32) × (Nat → Int32) => [(a_t, .inr (5, [.ref a_used, .ref a_stock, .ref a_alts, .ref a_asm, .ref a_placed, .ref a_sp, .ref a_rt, .ref a_yl, .int partCount, .long tooling, .ref a_dr, .ref a_la, .ref a_be])), (a_sp, .inr (3, [.ref a_sp_froms, .ref a_sp_cents])), (a_sp_froms, .inr (0, [.ref a_sp_froms_keys, .ref a_sp_froms_sizes])), aJ g a_sp_froms_keys 1488 sp_froms_keys, aI g a_sp_froms_sizes 248 sp_froms_sizes, aJ g a_sp_cents 1488 sp_cents, (a_rt, .inr (2, [.ref a_rt_days, .ref a_rt_aboves, .ref a_rt_belows, .ref a_rt_aboveNow, .ref a_rt_belowNow])), aJ g a_rt_aboveNow 8 rt_aboveNow, aJ g a_rt_belowNow 8 rt_belowNow, (a_dr, .inr (1, [.ref a_dr_costs, .ref a_dr_pieces, .ref a_dr_makers, .ref a_dr_parts, .int dr_rowCount])), aJ g a_dr_costs 33 u.1, aI g a_dr_pieces 33 u.2.1, aI g a_dr_makers 33 u.2.2.1, aI g a_dr_parts 33 u.2.2.2]) (fun r u => Q r u.1 u.2.1 u.2.2.1 u.2.2.2)) := by
  refine ct_of hg (by decide) (Nat.le_of_ble_eq_true rfl) (fun sz C X hr => ?_)
  unfold wp_C_drawBoards at hw
  show ST g C [(a_t, .inr (5, [.ref a_used, .ref a_stock, .ref a_alts, .ref a_asm, .ref a_placed, .ref a_sp, .ref a_rt, .ref a_yl, .int partCount, .long tooling, .ref a_dr, .ref a_la, .ref a_be])), (a_sp, .inr (3, [.ref a_sp_froms, .ref a_sp_cents])), (a_sp_froms, .inr (0, [.ref a_sp_froms_keys, .ref a_sp_froms_sizes])), aJ g a_sp_froms_keys 1488 sp_froms_keys, aI g a_sp_froms_sizes 248 sp_froms_sizes, aJ g a_sp_cents 1488 sp_cents, (a_rt, .inr (2, [.ref a_rt_days, .ref a_rt_aboves, .ref a_rt_belows, .ref a_rt_aboveNow, .ref a_rt_belowNow])), aJ g a_rt_aboveNow 8 rt_aboveNow, aJ g a_rt_belowNow 8 rt_belowNow, (a_dr, .inr (1, [.ref a_dr_costs, .ref a_dr_pieces, .ref a_dr_makers, .ref a_dr_parts, .int dr_rowCount])), aJ g a_dr_costs 33 dr_costs, aI g a_dr_pieces 33 dr_pieces, aI g a_dr_makers 33 dr_makers, aI g a_dr_parts 33 dr_parts] [(0, .ref a_t), (1, .long started), (3, .int maker)] [] 0 0 0
  refine st_aload_n X 0 d_C_drawBoards_0 rfl rfl ?_
  refine st_get X (ci := 5) in_C 0 10 wf_C_60 rfl rfl (by decide) rfl d_C_drawBoards_1 ?_
  refine st_iconst X (v := 1) d_C_drawBoards_4 (by decide) ?_
  have hR := rn_VN (pc := 5) (k := 0) (n := 0) (As := [.int 1]) (rest := []) X (k_Q_clearRow g hg a_dr (1 : Int32) a_dr_costs a_dr_pieces a_dr_makers a_dr_parts dr_rowCount dr_costs dr_pieces dr_makers dr_parts _ hw) (q0 := 0) rfl rfl nl_C_184 wi_Q_clearRow wl_Q_clearRow wz_Q wc_Q_clearRow h9_Q_clearRow ⟨by decide, by decide⟩ (Nat.le_of_ble_eq_true rfl) ⟨by decide, by decide⟩ d_C_drawBoards_5
  refine st_callv X hR [9, 10, 11, 12, 13] [0, 1, 2, 3, 4, 5, 6, 7, 8] (wr := [(a_t, .inr (5, [.ref a_used, .ref a_stock, .ref a_alts, .ref a_asm, .ref a_placed, .ref a_sp, .ref a_rt, .ref a_yl, .int partCount, .long tooling, .ref a_dr, .ref a_la, .ref a_be])), (a_sp, .inr (3, [.ref a_sp_froms, .ref a_sp_cents])), (a_sp_froms, .inr (0, [.ref a_sp_froms_keys, .ref a_sp_froms_sizes])), aJ g a_sp_froms_keys 1488 sp_froms_keys, aI g a_sp_froms_sizes 248 sp_froms_sizes, aJ g a_sp_cents 1488 sp_cents, (a_rt, .inr (2, [.ref a_rt_days, .ref a_rt_aboves, .ref a_rt_belows, .ref a_rt_aboveNow, .ref a_rt_belowNow])), aJ g a_rt_aboveNow 8 rt_aboveNow, aJ g a_rt_belowNow 8 rt_belowNow]) rfl rfl (by decide) (by decide) (by decide) (fun u9 hw => ?_)
  obtain ⟨u1, u2, u3, u4⟩ := u9
  try dsimp only at hw
  refine st_widen (k2 := 0) (n2 := 0) (by decide) (by decide) ?_
  refine st_perm (ws2 := [(a_t, .inr (5, [.ref a_used, .ref a_stock, .ref a_alts, .ref a_asm, .ref a_placed, .ref a_sp, .ref a_rt, .ref a_yl, .int partCount, .long tooling, .ref a_dr, .ref a_la, .ref a_be])), (a_sp, .inr (3, [.ref a_sp_froms, .ref a_sp_cents])), (a_sp_froms, .inr (0, [.ref a_sp_froms_keys, .ref a_sp_froms_sizes])), aJ g a_sp_froms_keys 1488 sp_froms_keys, aI g a_sp_froms_sizes 248 sp_froms_sizes, aJ g a_sp_cents 1488 sp_cents, (a_rt, .inr (2, [.ref a_rt_days, .ref a_rt_aboves, .ref a_rt_belows, .ref a_rt_aboveNow, .ref a_rt_belowNow])), aJ g a_rt_aboveNow 8 rt_aboveNow, aJ g a_rt_belowNow 8 rt_belowNow, (a_dr, .inr (1, [.ref a_dr_costs, .ref a_dr_pieces, .ref a_dr_makers, .ref a_dr_parts, .int dr_rowCount])), aJ g a_dr_costs 33 u1, aI g a_dr_pieces 33 u2, aI g a_dr_makers 33 u3, aI g a_dr_parts 33 u4]) [0, 1, 2, 3, 4, 5, 6, 7, 8, 9, 10, 11, 12, 13] rfl (by decide) ?_
  show ST g C [(a_t, .inr (5, [.ref a_used, .ref a_stock, .ref a_alts, .ref a_asm, .ref a_placed, .ref a_sp, .ref a_rt, .ref a_yl, .int partCount, .long tooling, .ref a_dr, .ref a_la, .ref a_be])), (a_sp, .inr (3, [.ref a_sp_froms, .ref a_sp_cents])), (a_sp_froms, .inr (0, [.ref a_sp_froms_keys, .ref a_sp_froms_sizes])), aJ g a_sp_froms_keys 1488 sp_froms_keys, aI g a_sp_froms_sizes 248 sp_froms_sizes, aJ g a_sp_cents 1488 sp_cents, (a_rt, .inr (2, [.ref a_rt_days, .ref a_rt_aboves, .ref a_rt_belows, .ref a_rt_aboveNow, .ref a_rt_belowNow])), aJ g a_rt_aboveNow 8 rt_aboveNow, aJ g a_rt_belowNow 8 rt_belowNow, (a_dr, .inr (1, [.ref a_dr_costs, .ref a_dr_pieces, .ref a_dr_makers, .ref a_dr_parts, .int dr_rowCount])), aJ g a_dr_costs 33 u1, aI g a_dr_pieces 33 u2, aI g a_dr_makers 33 u3, aI g a_dr_parts 33 u4] [(0, .ref a_t), (1, .long started), (3, .int maker)] [] 8 0 0
  refine st_lload_n X 1 d_C_drawBoards_8 rfl rfl ?_
  refine st_lconst X (v := 0) d_C_drawBoards_9 (by decide) ?_
  refine st_lcmp_gt X 16 d_C_drawBoards_10 d_C_drawBoards_11 (by decide) (fun hc => ?_) (fun hc => ?_)
  · replace hw := hw.1 hc
    refine st_aload_n X 0 d_C_drawBoards_16 rfl rfl ?_
    refine st_iconst X (v := 1) d_C_drawBoards_17 (by decide) ?_
    refine st_lload_n X 1 d_C_drawBoards_18 rfl rfl ?_
    refine st_bipush X (v := 30) d_C_drawBoards_19 (by decide) ?_
    refine st_iload_n X 2 d_C_drawBoards_21 rfl rfl ?_
    have hR := rn_V (pc := 22) (k := 0) (n := 0) (As := [.int 1, .long started, .int 30, .int maker]) (rest := []) X (k_C_offerSteps g hg a_t (1 : Int32) started (30 : Int32) maker a_used a_stock a_alts a_asm a_placed a_sp a_rt a_yl partCount tooling a_dr a_la a_be a_sp_froms a_sp_cents a_sp_froms_keys a_sp_froms_sizes sp_froms_keys sp_froms_sizes sp_cents a_rt_days a_rt_aboves a_rt_belows a_rt_aboveNow a_rt_belowNow rt_aboveNow rt_belowNow a_dr_costs a_dr_pieces a_dr_makers a_dr_parts dr_rowCount u1 u2 u3 u4 _ hw) (q0 := 0) rfl rfl wm_C_187 wi_C_offerSteps wl_C_offerSteps wz_C wc_C_offerSteps h9_C_offerSteps ⟨by decide, by decide⟩ (Nat.le_of_ble_eq_true rfl) ⟨by decide, by decide⟩ d_C_drawBoards_22
    refine st_callv X hR [0, 1, 2, 3, 4, 5, 6, 7, 8, 9, 10, 11, 12, 13] [] (wr := []) rfl rfl (by decide) (by decide) (by decide) (fun u9 hw => ?_)
    obtain ⟨u5, u6, u7, u8⟩ := u9
    try dsimp only at hw
    refine st_widen (k2 := 0) (n2 := 0) (by decide) (by decide) ?_
    refine st_perm (ws2 := [(a_t, .inr (5, [.ref a_used, .ref a_stock, .ref a_alts, .ref a_asm, .ref a_placed, .ref a_sp, .ref a_rt, .ref a_yl, .int partCount, .long tooling, .ref a_dr, .ref a_la, .ref a_be])), (a_sp, .inr (3, [.ref a_sp_froms, .ref a_sp_cents])), (a_sp_froms, .inr (0, [.ref a_sp_froms_keys, .ref a_sp_froms_sizes])), aJ g a_sp_froms_keys 1488 sp_froms_keys, aI g a_sp_froms_sizes 248 sp_froms_sizes, aJ g a_sp_cents 1488 sp_cents, (a_rt, .inr (2, [.ref a_rt_days, .ref a_rt_aboves, .ref a_rt_belows, .ref a_rt_aboveNow, .ref a_rt_belowNow])), aJ g a_rt_aboveNow 8 rt_aboveNow, aJ g a_rt_belowNow 8 rt_belowNow, (a_dr, .inr (1, [.ref a_dr_costs, .ref a_dr_pieces, .ref a_dr_makers, .ref a_dr_parts, .int dr_rowCount])), aJ g a_dr_costs 33 u5, aI g a_dr_pieces 33 u6, aI g a_dr_makers 33 u7, aI g a_dr_parts 33 u8]) [0, 1, 2, 3, 4, 5, 6, 7, 8, 9, 10, 11, 12, 13] rfl (by decide) ?_
    show ST g C [(a_t, .inr (5, [.ref a_used, .ref a_stock, .ref a_alts, .ref a_asm, .ref a_placed, .ref a_sp, .ref a_rt, .ref a_yl, .int partCount, .long tooling, .ref a_dr, .ref a_la, .ref a_be])), (a_sp, .inr (3, [.ref a_sp_froms, .ref a_sp_cents])), (a_sp_froms, .inr (0, [.ref a_sp_froms_keys, .ref a_sp_froms_sizes])), aJ g a_sp_froms_keys 1488 sp_froms_keys, aI g a_sp_froms_sizes 248 sp_froms_sizes, aJ g a_sp_cents 1488 sp_cents, (a_rt, .inr (2, [.ref a_rt_days, .ref a_rt_aboves, .ref a_rt_belows, .ref a_rt_aboveNow, .ref a_rt_belowNow])), aJ g a_rt_aboveNow 8 rt_aboveNow, aJ g a_rt_belowNow 8 rt_belowNow, (a_dr, .inr (1, [.ref a_dr_costs, .ref a_dr_pieces, .ref a_dr_makers, .ref a_dr_parts, .int dr_rowCount])), aJ g a_dr_costs 33 u5, aI g a_dr_pieces 33 u6, aI g a_dr_makers 33 u7, aI g a_dr_parts 33 u8] [(0, .ref a_t), (1, .long started), (3, .int maker)] [] 25 0 0
    refine st_aload_n X 0 d_C_drawBoards_25 rfl rfl ?_
    refine st_get X (ci := 5) in_C 0 10 wf_C_60 rfl rfl (by decide) rfl d_C_drawBoards_26 ?_
    refine st_iconst X (v := 1) d_C_drawBoards_29 (by decide) ?_
    have hR := rn_VN (pc := 30) (k := 0) (n := 0) (As := [.int 1]) (rest := []) X (k_Q_isBought g hg a_dr (1 : Int32) a_dr_costs a_dr_pieces a_dr_makers a_dr_parts dr_rowCount u7 _ hw) (q0 := 0) rfl rfl nl_C_191 wi_Q_isBought wl_Q_isBought wz_Q wc_Q_isBought h9_Q_isBought ⟨by decide, by decide⟩ (Nat.le_of_ble_eq_true rfl) ⟨by decide, by decide⟩ d_C_drawBoards_30
    refine st_calli X hR [9, 12] [0, 1, 2, 3, 4, 5, 6, 7, 8, 10, 11, 13] (wr := [(a_t, .inr (5, [.ref a_used, .ref a_stock, .ref a_alts, .ref a_asm, .ref a_placed, .ref a_sp, .ref a_rt, .ref a_yl, .int partCount, .long tooling, .ref a_dr, .ref a_la, .ref a_be])), (a_sp, .inr (3, [.ref a_sp_froms, .ref a_sp_cents])), (a_sp_froms, .inr (0, [.ref a_sp_froms_keys, .ref a_sp_froms_sizes])), aJ g a_sp_froms_keys 1488 sp_froms_keys, aI g a_sp_froms_sizes 248 sp_froms_sizes, aJ g a_sp_cents 1488 sp_cents, (a_rt, .inr (2, [.ref a_rt_days, .ref a_rt_aboves, .ref a_rt_belows, .ref a_rt_aboveNow, .ref a_rt_belowNow])), aJ g a_rt_aboveNow 8 rt_aboveNow, aJ g a_rt_belowNow 8 rt_belowNow, aJ g a_dr_costs 33 u5, aI g a_dr_pieces 33 u6, aI g a_dr_parts 33 u8]) rfl rfl (by decide) (by decide) (by decide) (fun r9 u9 hw => ?_)
    try dsimp only at hw
    refine st_widen (k2 := 0) (n2 := 0) (by decide) (by decide) ?_
    refine st_perm (ws2 := [(a_t, .inr (5, [.ref a_used, .ref a_stock, .ref a_alts, .ref a_asm, .ref a_placed, .ref a_sp, .ref a_rt, .ref a_yl, .int partCount, .long tooling, .ref a_dr, .ref a_la, .ref a_be])), (a_sp, .inr (3, [.ref a_sp_froms, .ref a_sp_cents])), (a_sp_froms, .inr (0, [.ref a_sp_froms_keys, .ref a_sp_froms_sizes])), aJ g a_sp_froms_keys 1488 sp_froms_keys, aI g a_sp_froms_sizes 248 sp_froms_sizes, aJ g a_sp_cents 1488 sp_cents, (a_rt, .inr (2, [.ref a_rt_days, .ref a_rt_aboves, .ref a_rt_belows, .ref a_rt_aboveNow, .ref a_rt_belowNow])), aJ g a_rt_aboveNow 8 rt_aboveNow, aJ g a_rt_belowNow 8 rt_belowNow, (a_dr, .inr (1, [.ref a_dr_costs, .ref a_dr_pieces, .ref a_dr_makers, .ref a_dr_parts, .int dr_rowCount])), aJ g a_dr_costs 33 u5, aI g a_dr_pieces 33 u6, aI g a_dr_makers 33 u7, aI g a_dr_parts 33 u8]) [0, 1, 2, 3, 4, 5, 6, 7, 8, 12, 9, 10, 13, 11] rfl (by decide) ?_
    show ST g C [(a_t, .inr (5, [.ref a_used, .ref a_stock, .ref a_alts, .ref a_asm, .ref a_placed, .ref a_sp, .ref a_rt, .ref a_yl, .int partCount, .long tooling, .ref a_dr, .ref a_la, .ref a_be])), (a_sp, .inr (3, [.ref a_sp_froms, .ref a_sp_cents])), (a_sp_froms, .inr (0, [.ref a_sp_froms_keys, .ref a_sp_froms_sizes])), aJ g a_sp_froms_keys 1488 sp_froms_keys, aI g a_sp_froms_sizes 248 sp_froms_sizes, aJ g a_sp_cents 1488 sp_cents, (a_rt, .inr (2, [.ref a_rt_days, .ref a_rt_aboves, .ref a_rt_belows, .ref a_rt_aboveNow, .ref a_rt_belowNow])), aJ g a_rt_aboveNow 8 rt_aboveNow, aJ g a_rt_belowNow 8 rt_belowNow, (a_dr, .inr (1, [.ref a_dr_costs, .ref a_dr_pieces, .ref a_dr_makers, .ref a_dr_parts, .int dr_rowCount])), aJ g a_dr_costs 33 u5, aI g a_dr_pieces 33 u6, aI g a_dr_makers 33 u7, aI g a_dr_parts 33 u8] [(0, .ref a_t), (1, .long started), (3, .int maker)] [.int r9] 33 0 0
    obtain ⟨hz, hw⟩ := hw
    exact st_zret X hr (u5, u6, u7, u8) hw hz rfl (by decide) (by decide) d_C_drawBoards_33
  · replace hw := hw.2 hc
    refine st_iconst X (v := 1) d_C_drawBoards_14 (by decide) ?_
    obtain ⟨hz, hw⟩ := hw
    exact st_zret X hr (u1, u2, u3, u4) hw hz rfl (by decide) (by decide) d_C_drawBoards_15

theorem h9_C_keepDraft : y_C_keepDraft.cls ≠ "java/lang/invoke/MethodHandle" ∧ y_C_keepDraft.cls ≠ "java/lang/invoke/VarHandle" ∧ (parseMethodDescriptor y_C_keepDraft.desc).map (fun d => d.parameters.length) = some 0 := by decide +kernel
def wp_C_keepDraft (Q : Prop) : Prop :=
  Q
set_option maxHeartbeats 4000000 in
set_option maxRecDepth 100000 in
theorem k_C_keepDraft (g : GX) (hg : g.1.stackTraces = false) (a_t : Nat) (a_used : Nat) (a_stock : Nat) (a_alts : Nat) (a_asm : Nat) (a_placed : Nat) (a_sp : Nat) (a_rt : Nat) (a_yl : Nat) (partCount : Int32) (tooling : Int64) (a_dr : Nat) (a_la : Nat) (a_be : Nat) (Q : Prop) (hw : wp_C_keepDraft Q) : CT g y_C_keepDraft c_C_keepDraft 2 none ({ frames := 0, cells := 0, slots := 0, locals := 0 } : Room) [.ref a_t] [(a_t, .inr (5, [.ref a_used, .ref a_stock, .ref a_alts, .ref a_asm, .ref a_placed, .ref a_sp, .ref a_rt, .ref a_yl, .int partCount, .long tooling, .ref a_dr, .ref a_la, .ref a_be]))] (QV g [(a_t, .inr (5, [.ref a_used, .ref a_stock, .ref a_alts, .ref a_asm, .ref a_placed, .ref a_sp, .ref a_rt, .ref a_yl, .int partCount, .long tooling, .ref a_dr, .ref a_la, .ref a_be]))] (fun u : Unit => [(a_t, .inr (5, [.ref a_used, .ref a_stock, .ref a_alts, .ref a_asm, .ref a_placed, .ref a_sp, .ref a_rt, .ref a_yl, .int partCount, .long tooling, .ref a_be, .ref a_dr, .ref a_la]))]) (fun u => Q)) := by
  refine ct_of hg (by decide) (Nat.le_of_ble_eq_true rfl) (fun sz C X hr => ?_)
  unfold wp_C_keepDraft at hw
  show ST g C [(a_t, .inr (5, [.ref a_used, .ref a_stock, .ref a_alts, .ref a_asm, .ref a_placed, .ref a_sp, .ref a_rt, .ref a_yl, .int partCount, .long tooling, .ref a_dr, .ref a_la, .ref a_be]))] [(0, .ref a_t)] [] 0 0 0
  refine st_aload_n X 0 d_C_keepDraft_0 rfl rfl ?_
  refine st_get X (ci := 5) in_C 0 12 wf_C_67 rfl rfl (by decide) rfl d_C_keepDraft_1 ?_
  refine st_astore_n X (lv2 := [(1, .ref a_be), (0, .ref a_t)]) d_C_keepDraft_4 rfl (by decide) rfl ?_
  refine st_aload_n X 1 d_C_keepDraft_5 rfl rfl ?_
  refine st_aload_n X 1 d_C_keepDraft_6 rfl rfl ?_
  refine st_get X (ci := 5) in_C 0 11 wf_C_64 rfl rfl (by decide) rfl d_C_keepDraft_7 ?_
  refine st_put X (ci := 5) (ty := .object "CostSteps$Quote") in_C t_C to_C nm_C 0 12 wf_C_67 rfl rfl (by decide) rfl (by decide +kernel) rfl rfl (Nat.le_of_ble_eq_true rfl) (ws2 := [(a_t, .inr (5, [.ref a_used, .ref a_stock, .ref a_alts, .ref a_asm, .ref a_placed, .ref a_sp, .ref a_rt, .ref a_yl, .int partCount, .long tooling, .ref a_dr, .ref a_la, .ref a_la]))]) rfl d_C_keepDraft_10 ?_
  refine st_aload_n X 1 d_C_keepDraft_13 rfl rfl ?_
  refine st_aload_n X 1 d_C_keepDraft_14 rfl rfl ?_
  refine st_get X (ci := 5) in_C 0 10 wf_C_60 rfl rfl (by decide) rfl d_C_keepDraft_15 ?_
  refine st_put X (ci := 5) (ty := .object "CostSteps$Quote") in_C t_C to_C nm_C 0 11 wf_C_64 rfl rfl (by decide) rfl (by decide +kernel) rfl rfl (Nat.le_of_ble_eq_true rfl) (ws2 := [(a_t, .inr (5, [.ref a_used, .ref a_stock, .ref a_alts, .ref a_asm, .ref a_placed, .ref a_sp, .ref a_rt, .ref a_yl, .int partCount, .long tooling, .ref a_dr, .ref a_dr, .ref a_la]))]) rfl d_C_keepDraft_18 ?_
  refine st_aload_n X 1 d_C_keepDraft_21 rfl rfl ?_
  refine st_aload_n X 0 d_C_keepDraft_22 rfl rfl ?_
  refine st_put X (ci := 5) (ty := .object "CostSteps$Quote") in_C t_C to_C nm_C 0 10 wf_C_60 rfl rfl (by decide) rfl (by decide +kernel) rfl rfl (Nat.le_of_ble_eq_true rfl) (ws2 := [(a_t, .inr (5, [.ref a_used, .ref a_stock, .ref a_alts, .ref a_asm, .ref a_placed, .ref a_sp, .ref a_rt, .ref a_yl, .int partCount, .long tooling, .ref a_be, .ref a_dr, .ref a_la]))]) rfl d_C_keepDraft_23 ?_
  exact st_vret X hr () hw rfl (by decide) (by decide) d_C_keepDraft_26
end
section
theorem h9_C_drawAllButBoards : y_C_drawAllButBoards.cls ≠ "java/lang/invoke/MethodHandle" ∧ y_C_drawAllButBoards.cls ≠ "java/lang/invoke/VarHandle" ∧ (parseMethodDescriptor y_C_drawAllButBoards.desc).map (fun d => d.parameters.length) = some 2 := by decide +kernel
def wp_C_drawAllButBoards_L61 (started : Int64) (partCount : Int32) (used : Nat → Int64) (stock : Nat → Int64) (alts : Nat → Int32) (sp_froms_keys : Nat → Int64) (sp_froms_sizes : Nat → Int32) (sp_cents : Nat → Int64) (u1 : Int32) (u6 : Nat → Int64) (u7 : Nat → Int64) (Q : Int32 → (Nat → Int64) → (Nat → Int64) → Int32 → (Nat → Int64) → (Nat → Int32) → (Nat → Int32) → (Nat → Int32) → Prop) : Nat → Int32 → (Nat → Int64) → (Nat → Int32) → (Nat → Int32) → (Nat → Int32) → Prop
  | 0, _, _, _, _, _ => False
  | n61 + 1, v11, f12, f13, f14, f15 =>
  ((partCount ≤ v11) → ((1 : Int32) = 0 ∨ (1 : Int32) = 1) ∧ Q 1 u6 u7 u1 f12 f13 f14 f15) ∧
  ((¬ partCount ≤ v11) → wp_C_drawPart v11 started partCount used stock alts sp_froms_keys sp_froms_sizes sp_cents u6 u7 f12 f13 f14 f15 (fun r20 u16 u17 u18 u19 =>
  ((¬ r20 = 0) → ∀ x21 : Int32, x21 = v11 + 1 →
  (wp_C_drawAllButBoards_L61 started partCount used stock alts sp_froms_keys sp_froms_sizes sp_cents u1 u6 u7 Q n61) x21 u16 u17 u18 u19) ∧
  ((r20 = 0) → ((0 : Int32) = 0 ∨ (0 : Int32) = 1) ∧ Q 0 u6 u7 u1 u16 u17 u18 u19)))
def wp_C_drawAllButBoards (started : Int64) (day : Int64) (partCount : Int32) (tooling : Int64) (used : Nat → Int64) (stock : Nat → Int64) (alts : Nat → Int32) (asm : Nat → Int64) (placed : Nat → Int64) (sp_froms_keys : Nat → Int64) (sp_froms_sizes : Nat → Int32) (sp_cents : Nat → Int64) (rt_days_keys : Nat → Int64) (rt_days_sizes : Nat → Int32) (rt_aboves : Nat → Int64) (rt_belows : Nat → Int64) (rt_aboveNow : Nat → Int64) (rt_belowNow : Nat → Int64) (dr_costs : Nat → Int64) (dr_pieces : Nat → Int32) (dr_makers : Nat → Int32) (dr_parts : Nat → Int32) (Q : Int32 → (Nat → Int64) → (Nat → Int64) → Int32 → (Nat → Int64) → (Nat → Int32) → (Nat → Int32) → (Nat → Int32) → Prop) : Prop :=
  wp_Q_begin (3 + partCount) dr_costs dr_pieces dr_makers dr_parts (fun u1 u2 u3 u4 u5 =>
  ((started ≤ 1000000000) → wp_Ra_turnTo day rt_days_keys rt_days_sizes rt_aboves rt_belows rt_aboveNow rt_belowNow (fun u6 u7 =>
  vp_in (0 : Int32) 33 ∧
  ∀ f8 : Nat → Int64, f8 = vp_updL u2 (0 : Int32).toNatClampNeg tooling →
  wp_C_assemblyCost started asm placed (fun r9 =>
  vp_in (2 : Int32) 33 ∧
  ∀ f10 : Nat → Int64, f10 = vp_updL f8 (2 : Int32).toNatClampNeg r9 →
  ∃ n61 : Nat, wp_C_drawAllButBoards_L61 started partCount used stock alts sp_froms_keys sp_froms_sizes sp_cents u1 u6 u7 Q n61 0 f10 u3 u4 u5))) ∧
  ((¬ started ≤ 1000000000) → ((0 : Int32) = 0 ∨ (0 : Int32) = 1) ∧ Q 0 rt_aboveNow rt_belowNow u1 u2 u3 u4 u5))
set_option maxHeartbeats 4000000 in
set_option maxRecDepth 100000 in
theorem k_C_drawAllButBoards (g : GX) (hg : g.1.stackTraces = false) (a_t : Nat) (started : Int64) (day : Int64) (a_used : Nat) (a_stock : Nat) (a_alts : Nat) (a_asm : Nat) (a_placed : Nat) (a_sp : Nat) (a_rt : Nat) (a_yl : Nat) (partCount : Int32) (tooling : Int64) (a_dr : Nat) (a_la : Nat) (a_be : Nat) (used : Nat → Int64) (stock : Nat → Int64) (alts : Nat → Int32) (asm : Nat → Int64) (placed : Nat → Int64) (a_sp_froms : Nat) (a_sp_cents : Nat) (a_sp_froms_keys : Nat) (a_sp_froms_sizes : Nat) (sp_froms_keys : Nat → Int64) (sp_froms_sizes : Nat → Int32) (sp_cents : Nat → Int64) (a_rt_days : Nat) (a_rt_aboves : Nat) (a_rt_belows : Nat) (a_rt_aboveNow : Nat) (a_rt_belowNow : Nat) (a_rt_days_keys : Nat) (a_rt_days_sizes : Nat) (rt_days_keys : Nat → Int64) (rt_days_sizes : Nat → Int32) (rt_aboves : Nat → Int64) (rt_belows : Nat → Int64) (rt_aboveNow : Nat → Int64) (rt_belowNow : Nat → Int64) (a_dr_costs : Nat) (a_dr_pieces : Nat) (a_dr_makers : Nat) (a_dr_parts : Nat) (dr_rowCount : Int32) (dr_costs : Nat → Int64) (dr_pieces : Nat → Int32) (dr_makers : Nat → Int32) (dr_parts : Nat → Int32) (Q : Int32 → (Nat → Int64) → (Nat → Int64) → Int32 → (Nat → Int64) → (Nat → Int32) → (Nat → Int32) → (Nat → Int32) → Prop) (hw : wp_C_drawAllButBoards started day partCount tooling used stock alts asm placed sp_froms_keys sp_froms_sizes sp_cents rt_days_keys rt_days_sizes rt_aboves rt_belows rt_aboveNow rt_belowNow dr_costs dr_pieces dr_makers dr_parts Q) : CT g y_C_drawAllButBoards c_C_drawAllButBoards 6 (some .boolean) ({ frames := 4, cells := 0, slots := 0, locals := 112 } : Room) [.ref a_t, .long started, .long day] [(a_t, .inr (5, [.ref a_used, .ref a_stock, .ref a_alts, .ref a_asm, .ref a_placed, .ref a_sp, .ref a_rt, .ref a_yl, .int partCount, .long tooling, .ref a_dr, .ref a_la, .ref a_be])), aJ g a_used 30 used, aJ g a_stock 30 stock, aI g a_alts 30 alts, aJ g a_asm 8 asm, aJ g a_placed 8 placed, (a_sp, .inr (3, [.ref a_sp_froms, .ref a_sp_cents])), (a_sp_froms, .inr (0, [.ref a_sp_froms_keys, .ref a_sp_froms_sizes])), aJ g a_sp_froms_keys 1488 sp_froms_keys, aI g a_sp_froms_sizes 248 sp_froms_sizes, aJ g a_sp_cents 1488 sp_cents, (a_rt, .inr (2, [.ref a_rt_days, .ref a_rt_aboves, .ref a_rt_belows, .ref a_rt_aboveNow, .ref a_rt_belowNow])), (a_rt_days, .inr (0, [.ref a_rt_days_keys, .ref a_rt_days_sizes])), aJ g a_rt_days_keys 48 rt_days_keys, aI g a_rt_days_sizes 8 rt_days_sizes, aJ g a_rt_aboves 48 rt_aboves, aJ g a_rt_belows 48 rt_belows, aJ g a_rt_aboveNow 8 rt_aboveNow, aJ g a_rt_belowNow 8 rt_belowNow, (a_dr, .inr (1, [.ref a_dr_costs, .ref a_dr_pieces, .ref a_dr_makers, .ref a_dr_parts, .int dr_rowCount])), aJ g a_dr_costs 33 dr_costs, aI g a_dr_pieces 33 dr_pieces, aI g a_dr_makers 33 dr_makers, aI g a_dr_parts 33 dr_parts] (QI g [(a_t, .inr (5, [.ref a_used, .ref a_stock, .ref a_alts, .ref a_asm, .ref a_placed, .ref a_sp, .ref a_rt, .ref a_yl, .int partCount, .long tooling, .ref a_dr, .ref a_la, .ref a_be])), aJ g a_used 30 used, aJ g a_stock 30 stock, aI g a_alts 30 alts, aJ g a_asm 8 asm, aJ g a_placed 8 placed, (a_sp, .inr (3, [.ref a_sp_froms, .ref a_sp_cents])), (a_sp_froms, .inr (0, [.ref a_sp_froms_keys, .ref a_sp_froms_sizes])), aJ g a_sp_froms_keys 1488 sp_froms_keys, aI g a_sp_froms_sizes 248 sp_froms_sizes, aJ g a_sp_cents 1488 sp_cents, (a_rt, .inr (2, [.ref a_rt_days, .ref a_rt_aboves, .ref a_rt_belows, .ref a_rt_aboveNow, .ref a_rt_belowNow])), (a_rt_days, .inr (0, [.ref a_rt_days_keys, .ref a_rt_days_sizes])), aJ g a_rt_days_keys 48 rt_days_keys, aI g a_rt_days_sizes 8 rt_days_sizes, aJ g a_rt_aboves 48 rt_aboves, aJ g a_rt_belows 48 rt_belows, aJ g a_rt_aboveNow 8 rt_aboveNow, aJ g a_rt_belowNow 8 rt_belowNow, (a_dr, .inr (1, [.ref a_dr_costs, .ref a_dr_pieces, .ref a_dr_makers, .ref a_dr_parts, .int dr_rowCount])), aJ g a_dr_costs 33 dr_costs, aI g a_dr_pieces 33 dr_pieces, aI g a_dr_makers 33 dr_makers, aI g a_dr_parts 33 dr_parts] (fun u : (Nat → Int64) × (Nat → Int64) × Int32 × (Nat → Int64) × (Nat → Int32) × (Nat → Int32) × (Nat → Int32) => [(a_t, .inr (5, [.ref a_used, .ref a_stock, .ref a_alts, .ref a_asm, .ref a_placed, .ref a_sp, .ref a_rt, .ref a_yl, .int partCount, .long tooling, .ref a_dr, .ref a_la, .ref a_be])), aJ g a_used 30 used, aJ g a_stock 30 stock, aI g a_alts 30 alts, aJ g a_asm 8 asm, aJ g a_placed 8 placed, (a_sp, .inr (3, [.ref a_sp_froms, .ref a_sp_cents])), (a_sp_froms, .inr (0, [.ref a_sp_froms_keys, .ref a_sp_froms_sizes])), aJ g a_sp_froms_keys 1488 sp_froms_keys, aI g a_sp_froms_sizes 248 sp_froms_sizes, aJ g a_sp_cents 1488 sp_cents, (a_rt, .inr (2, [.ref a_rt_days, .ref a_rt_aboves, .ref a_rt_belows, .ref a_rt_aboveNow, .ref a_rt_belowNow])), (a_rt_days, .inr (0, [.ref a_rt_days_keys, .ref a_rt_days_sizes])), aJ g a_rt_days_keys 48 rt_days_keys, aI g a_rt_days_sizes 8 rt_days_sizes, aJ g a_rt_aboves 48 rt_aboves, aJ g a_rt_belows 48 rt_belows, aJ g a_rt_aboveNow 8 u.1, aJ g a_rt_belowNow 8 u.2.1, (a_dr, .inr (1, [.ref a_dr_costs, .ref a_dr_pieces, .ref a_dr_makers, .ref a_dr_parts, .int u.2.2.1])), aJ g a_dr_costs 33 u.2.2.2.1, aI g a_dr_pieces 33 u.2.2.2.2.1, aI g a_dr_makers 33 u.2.2.2.2.2.1, aI g a_dr_parts 33 u.2.2.2.2.2.2]) (fun r u => Q r u.1 u.2.1 u.2.2.1 u.2.2.2.1 u.2.2.2.2.1 u.2.2.2.2.2.1 u.2.2.2.2.2.2)) := by
  refine ct_of hg (by decide) (Nat.le_of_ble_eq_true rfl) (fun sz C X hr => ?_)
  unfold wp_C_drawAllButBoards at hw
  show ST g C [(a_t, .inr (5, [.ref a_used, .ref a_stock, .ref a_alts, .ref a_asm, .ref a_placed, .ref a_sp, .ref a_rt, .ref a_yl, .int partCount, .long tooling, .ref a_dr, .ref a_la, .ref a_be])), aJ g a_used 30 used, aJ g a_stock 30 stock, aI g a_alts 30 alts, aJ g a_asm 8 asm, aJ g a_placed 8 placed, (a_sp, .inr (3, [.ref a_sp_froms, .ref a_sp_cents])), (a_sp_froms, .inr (0, [.ref a_sp_froms_keys, .ref a_sp_froms_sizes])), aJ g a_sp_froms_keys 1488 sp_froms_keys, aI g a_sp_froms_sizes 248 sp_froms_sizes, aJ g a_sp_cents 1488 sp_cents, (a_rt, .inr (2, [.ref a_rt_days, .ref a_rt_aboves, .ref a_rt_belows, .ref a_rt_aboveNow, .ref a_rt_belowNow])), (a_rt_days, .inr (0, [.ref a_rt_days_keys, .ref a_rt_days_sizes])), aJ g a_rt_days_keys 48 rt_days_keys, aI g a_rt_days_sizes 8 rt_days_sizes, aJ g a_rt_aboves 48 rt_aboves, aJ g a_rt_belows 48 rt_belows, aJ g a_rt_aboveNow 8 rt_aboveNow, aJ g a_rt_belowNow 8 rt_belowNow, (a_dr, .inr (1, [.ref a_dr_costs, .ref a_dr_pieces, .ref a_dr_makers, .ref a_dr_parts, .int dr_rowCount])), aJ g a_dr_costs 33 dr_costs, aI g a_dr_pieces 33 dr_pieces, aI g a_dr_makers 33 dr_makers, aI g a_dr_parts 33 dr_parts] [(0, .ref a_t), (1, .long started), (3, .long day)] [] 0 0 0
  refine st_aload_n X 0 d_C_drawAllButBoards_0 rfl rfl ?_
  refine st_get X (ci := 5) in_C 0 10 wf_C_60 rfl rfl (by decide) rfl d_C_drawAllButBoards_1 ?_
  refine st_iconst X (v := 3) d_C_drawAllButBoards_4 (by decide) ?_
  refine st_aload_n X 0 d_C_drawAllButBoards_5 rfl rfl ?_
  refine st_get X (ci := 5) in_C 0 8 wf_C_49 rfl rfl (by decide) rfl d_C_drawAllButBoards_6 ?_
  refine st_iadd X d_C_drawAllButBoards_9 ?_
  have hR := rn_VN (pc := 10) (k := 0) (n := 0) (As := [.int (3 + partCount)]) (rest := []) X (k_Q_begin g hg a_dr (3 + partCount) a_dr_costs a_dr_pieces a_dr_makers a_dr_parts dr_rowCount dr_costs dr_pieces dr_makers dr_parts _ hw) (q0 := 0) rfl rfl nl_C_169 wi_Q_begin wl_Q_begin wz_Q wc_Q_begin h9_Q_begin ⟨by decide, by decide⟩ (Nat.le_of_ble_eq_true rfl) ⟨by decide, by decide⟩ d_C_drawAllButBoards_10
  refine st_callv X hR [19, 20, 21, 22, 23] [0, 1, 2, 3, 4, 5, 6, 7, 8, 9, 10, 11, 12, 13, 14, 15, 16, 17, 18] (wr := [(a_t, .inr (5, [.ref a_used, .ref a_stock, .ref a_alts, .ref a_asm, .ref a_placed, .ref a_sp, .ref a_rt, .ref a_yl, .int partCount, .long tooling, .ref a_dr, .ref a_la, .ref a_be])), aJ g a_used 30 used, aJ g a_stock 30 stock, aI g a_alts 30 alts, aJ g a_asm 8 asm, aJ g a_placed 8 placed, (a_sp, .inr (3, [.ref a_sp_froms, .ref a_sp_cents])), (a_sp_froms, .inr (0, [.ref a_sp_froms_keys, .ref a_sp_froms_sizes])), aJ g a_sp_froms_keys 1488 sp_froms_keys, aI g a_sp_froms_sizes 248 sp_froms_sizes, aJ g a_sp_cents 1488 sp_cents, (a_rt, .inr (2, [.ref a_rt_days, .ref a_rt_aboves, .ref a_rt_belows, .ref a_rt_aboveNow, .ref a_rt_belowNow])), (a_rt_days, .inr (0, [.ref a_rt_days_keys, .ref a_rt_days_sizes])), aJ g a_rt_days_keys 48 rt_days_keys, aI g a_rt_days_sizes 8 rt_days_sizes, aJ g a_rt_aboves 48 rt_aboves, aJ g a_rt_belows 48 rt_belows, aJ g a_rt_aboveNow 8 rt_aboveNow, aJ g a_rt_belowNow 8 rt_belowNow]) rfl rfl (by decide) (by decide) (by decide) (fun u9 hw => ?_)
  obtain ⟨u1, u2, u3, u4, u5⟩ := u9
  try dsimp only at hw
  refine st_widen (k2 := 0) (n2 := 0) (by decide) (by decide) ?_
  refine st_perm (ws2 := [(a_t, .inr (5, [.ref a_used, .ref a_stock, .ref a_alts, .ref a_asm, .ref a_placed, .ref a_sp, .ref a_rt, .ref a_yl, .int partCount, .long tooling, .ref a_dr, .ref a_la, .ref a_be])), aJ g a_used 30 used, aJ g a_stock 30 stock, aI g a_alts 30 alts, aJ g a_asm 8 asm, aJ g a_placed 8 placed, (a_sp, .inr (3, [.ref a_sp_froms, .ref a_sp_cents])), (a_sp_froms, .inr (0, [.ref a_sp_froms_keys, .ref a_sp_froms_sizes])), aJ g a_sp_froms_keys 1488 sp_froms_keys, aI g a_sp_froms_sizes 248 sp_froms_sizes, aJ g a_sp_cents 1488 sp_cents, (a_rt, .inr (2, [.ref a_rt_days, .ref a_rt_aboves, .ref a_rt_belows, .ref a_rt_aboveNow, .ref a_rt_belowNow])), (a_rt_days, .inr (0, [.ref a_rt_days_keys, .ref a_rt_days_sizes])), aJ g a_rt_days_keys 48 rt_days_keys, aI g a_rt_days_sizes 8 rt_days_sizes, aJ g a_rt_aboves 48 rt_aboves, aJ g a_rt_belows 48 rt_belows, aJ g a_rt_aboveNow 8 rt_aboveNow, aJ g a_rt_belowNow 8 rt_belowNow, (a_dr, .inr (1, [.ref a_dr_costs, .ref a_dr_pieces, .ref a_dr_makers, .ref a_dr_parts, .int u1])), aJ g a_dr_costs 33 u2, aI g a_dr_pieces 33 u3, aI g a_dr_makers 33 u4, aI g a_dr_parts 33 u5]) [0, 1, 2, 3, 4, 5, 6, 7, 8, 9, 10, 11, 12, 13, 14, 15, 16, 17, 18, 19, 20, 21, 22, 23] rfl (by decide) ?_
  show ST g C [(a_t, .inr (5, [.ref a_used, .ref a_stock, .ref a_alts, .ref a_asm, .ref a_placed, .ref a_sp, .ref a_rt, .ref a_yl, .int partCount, .long tooling, .ref a_dr, .ref a_la, .ref a_be])), aJ g a_used 30 used, aJ g a_stock 30 stock, aI g a_alts 30 alts, aJ g a_asm 8 asm, aJ g a_placed 8 placed, (a_sp, .inr (3, [.ref a_sp_froms, .ref a_sp_cents])), (a_sp_froms, .inr (0, [.ref a_sp_froms_keys, .ref a_sp_froms_sizes])), aJ g a_sp_froms_keys 1488 sp_froms_keys, aI g a_sp_froms_sizes 248 sp_froms_sizes, aJ g a_sp_cents 1488 sp_cents, (a_rt, .inr (2, [.ref a_rt_days, .ref a_rt_aboves, .ref a_rt_belows, .ref a_rt_aboveNow, .ref a_rt_belowNow])), (a_rt_days, .inr (0, [.ref a_rt_days_keys, .ref a_rt_days_sizes])), aJ g a_rt_days_keys 48 rt_days_keys, aI g a_rt_days_sizes 8 rt_days_sizes, aJ g a_rt_aboves 48 rt_aboves, aJ g a_rt_belows 48 rt_belows, aJ g a_rt_aboveNow 8 rt_aboveNow, aJ g a_rt_belowNow 8 rt_belowNow, (a_dr, .inr (1, [.ref a_dr_costs, .ref a_dr_pieces, .ref a_dr_makers, .ref a_dr_parts, .int u1])), aJ g a_dr_costs 33 u2, aI g a_dr_pieces 33 u3, aI g a_dr_makers 33 u4, aI g a_dr_parts 33 u5] [(0, .ref a_t), (1, .long started), (3, .long day)] [] 13 0 0
  refine st_lload_n X 1 d_C_drawAllButBoards_13 rfl rfl ?_
  refine st_ldc2 X wv_C_104 d_C_drawAllButBoards_14 ?_
  refine st_lcmp_le X 23 d_C_drawAllButBoards_17 d_C_drawAllButBoards_18 (by decide) (fun hc => ?_) (fun hc => ?_)
  · replace hw := hw.1 hc
    refine st_aload_n X 0 d_C_drawAllButBoards_23 rfl rfl ?_
    refine st_get X (ci := 5) in_C 0 6 wf_C_38 rfl rfl (by decide) rfl d_C_drawAllButBoards_24 ?_
    refine st_lload_n X 2 d_C_drawAllButBoards_27 rfl rfl ?_
    have hR := rn_VN (pc := 28) (k := 0) (n := 0) (As := [.long day]) (rest := []) X (k_Ra_turnTo g hg a_rt day a_rt_days a_rt_aboves a_rt_belows a_rt_aboveNow a_rt_belowNow a_rt_days_keys a_rt_days_sizes rt_days_keys rt_days_sizes rt_aboves rt_belows rt_aboveNow rt_belowNow _ hw) (q0 := 0) rfl rfl nl_C_173 wi_Ra_turnTo wl_Ra_turnTo wz_Ra wc_Ra_turnTo h9_Ra_turnTo ⟨by decide, by decide⟩ (Nat.le_of_ble_eq_true rfl) ⟨by decide, by decide⟩ d_C_drawAllButBoards_28
    refine st_callv X hR [11, 12, 13, 14, 15, 16, 17, 18] [0, 1, 2, 3, 4, 5, 6, 7, 8, 9, 10, 19, 20, 21, 22, 23] (wr := [(a_t, .inr (5, [.ref a_used, .ref a_stock, .ref a_alts, .ref a_asm, .ref a_placed, .ref a_sp, .ref a_rt, .ref a_yl, .int partCount, .long tooling, .ref a_dr, .ref a_la, .ref a_be])), aJ g a_used 30 used, aJ g a_stock 30 stock, aI g a_alts 30 alts, aJ g a_asm 8 asm, aJ g a_placed 8 placed, (a_sp, .inr (3, [.ref a_sp_froms, .ref a_sp_cents])), (a_sp_froms, .inr (0, [.ref a_sp_froms_keys, .ref a_sp_froms_sizes])), aJ g a_sp_froms_keys 1488 sp_froms_keys, aI g a_sp_froms_sizes 248 sp_froms_sizes, aJ g a_sp_cents 1488 sp_cents, (a_dr, .inr (1, [.ref a_dr_costs, .ref a_dr_pieces, .ref a_dr_makers, .ref a_dr_parts, .int u1])), aJ g a_dr_costs 33 u2, aI g a_dr_pieces 33 u3, aI g a_dr_makers 33 u4, aI g a_dr_parts 33 u5]) rfl rfl (by decide) (by decide) (by decide) (fun u9 hw => ?_)
    obtain ⟨u6, u7⟩ := u9
    try dsimp only at hw
    refine st_widen (k2 := 0) (n2 := 0) (by decide) (by decide) ?_
    refine st_perm (ws2 := [(a_t, .inr (5, [.ref a_used, .ref a_stock, .ref a_alts, .ref a_asm, .ref a_placed, .ref a_sp, .ref a_rt, .ref a_yl, .int partCount, .long tooling, .ref a_dr, .ref a_la, .ref a_be])), aJ g a_used 30 used, aJ g a_stock 30 stock, aI g a_alts 30 alts, aJ g a_asm 8 asm, aJ g a_placed 8 placed, (a_sp, .inr (3, [.ref a_sp_froms, .ref a_sp_cents])), (a_sp_froms, .inr (0, [.ref a_sp_froms_keys, .ref a_sp_froms_sizes])), aJ g a_sp_froms_keys 1488 sp_froms_keys, aI g a_sp_froms_sizes 248 sp_froms_sizes, aJ g a_sp_cents 1488 sp_cents, (a_rt, .inr (2, [.ref a_rt_days, .ref a_rt_aboves, .ref a_rt_belows, .ref a_rt_aboveNow, .ref a_rt_belowNow])), (a_rt_days, .inr (0, [.ref a_rt_days_keys, .ref a_rt_days_sizes])), aJ g a_rt_days_keys 48 rt_days_keys, aI g a_rt_days_sizes 8 rt_days_sizes, aJ g a_rt_aboves 48 rt_aboves, aJ g a_rt_belows 48 rt_belows, aJ g a_rt_aboveNow 8 u6, aJ g a_rt_belowNow 8 u7, (a_dr, .inr (1, [.ref a_dr_costs, .ref a_dr_pieces, .ref a_dr_makers, .ref a_dr_parts, .int u1])), aJ g a_dr_costs 33 u2, aI g a_dr_pieces 33 u3, aI g a_dr_makers 33 u4, aI g a_dr_parts 33 u5]) [0, 1, 2, 3, 4, 5, 6, 7, 8, 9, 10, 16, 17, 18, 19, 20, 21, 22, 23, 11, 12, 13, 14, 15] rfl (by decide) ?_
    show ST g C [(a_t, .inr (5, [.ref a_used, .ref a_stock, .ref a_alts, .ref a_asm, .ref a_placed, .ref a_sp, .ref a_rt, .ref a_yl, .int partCount, .long tooling, .ref a_dr, .ref a_la, .ref a_be])), aJ g a_used 30 used, aJ g a_stock 30 stock, aI g a_alts 30 alts, aJ g a_asm 8 asm, aJ g a_placed 8 placed, (a_sp, .inr (3, [.ref a_sp_froms, .ref a_sp_cents])), (a_sp_froms, .inr (0, [.ref a_sp_froms_keys, .ref a_sp_froms_sizes])), aJ g a_sp_froms_keys 1488 sp_froms_keys, aI g a_sp_froms_sizes 248 sp_froms_sizes, aJ g a_sp_cents 1488 sp_cents, (a_rt, .inr (2, [.ref a_rt_days, .ref a_rt_aboves, .ref a_rt_belows, .ref a_rt_aboveNow, .ref a_rt_belowNow])), (a_rt_days, .inr (0, [.ref a_rt_days_keys, .ref a_rt_days_sizes])), aJ g a_rt_days_keys 48 rt_days_keys, aI g a_rt_days_sizes 8 rt_days_sizes, aJ g a_rt_aboves 48 rt_aboves, aJ g a_rt_belows 48 rt_belows, aJ g a_rt_aboveNow 8 u6, aJ g a_rt_belowNow 8 u7, (a_dr, .inr (1, [.ref a_dr_costs, .ref a_dr_pieces, .ref a_dr_makers, .ref a_dr_parts, .int u1])), aJ g a_dr_costs 33 u2, aI g a_dr_pieces 33 u3, aI g a_dr_makers 33 u4, aI g a_dr_parts 33 u5] [(0, .ref a_t), (1, .long started), (3, .long day)] [] 31 0 0
    refine st_aload_n X 0 d_C_drawAllButBoards_31 rfl rfl ?_
    refine st_get X (ci := 5) in_C 0 10 wf_C_60 rfl rfl (by decide) rfl d_C_drawAllButBoards_32 ?_
    refine st_getN X (ci := 1) in_Q 19 0 nf_C_143 rfl rfl (by decide) rfl d_C_drawAllButBoards_35 ?_
    refine st_iconst X (v := 0) d_C_drawAllButBoards_38 (by decide) ?_
    refine st_aload_n X 0 d_C_drawAllButBoards_39 rfl rfl ?_
    refine st_get X (ci := 5) in_C 0 9 wf_C_53 rfl rfl (by decide) rfl d_C_drawAllButBoards_40 ?_
    obtain ⟨hb1, hw⟩ := hw
    obtain ⟨f8, hf8⟩ : ∃ z : Nat → Int64, z = vp_updL u2 (0 : Int32).toNatClampNeg tooling := ⟨_, rfl⟩
    replace hw := hw f8 hf8
    refine st_last X (ws2 := [(a_t, .inr (5, [.ref a_used, .ref a_stock, .ref a_alts, .ref a_asm, .ref a_placed, .ref a_sp, .ref a_rt, .ref a_yl, .int partCount, .long tooling, .ref a_dr, .ref a_la, .ref a_be])), aJ g a_used 30 used, aJ g a_stock 30 stock, aI g a_alts 30 alts, aJ g a_asm 8 asm, aJ g a_placed 8 placed, (a_sp, .inr (3, [.ref a_sp_froms, .ref a_sp_cents])), (a_sp_froms, .inr (0, [.ref a_sp_froms_keys, .ref a_sp_froms_sizes])), aJ g a_sp_froms_keys 1488 sp_froms_keys, aI g a_sp_froms_sizes 248 sp_froms_sizes, aJ g a_sp_cents 1488 sp_cents, (a_rt, .inr (2, [.ref a_rt_days, .ref a_rt_aboves, .ref a_rt_belows, .ref a_rt_aboveNow, .ref a_rt_belowNow])), (a_rt_days, .inr (0, [.ref a_rt_days_keys, .ref a_rt_days_sizes])), aJ g a_rt_days_keys 48 rt_days_keys, aI g a_rt_days_sizes 8 rt_days_sizes, aJ g a_rt_aboves 48 rt_aboves, aJ g a_rt_belows 48 rt_belows, aJ g a_rt_aboveNow 8 u6, aJ g a_rt_belowNow 8 u7, (a_dr, .inr (1, [.ref a_dr_costs, .ref a_dr_pieces, .ref a_dr_makers, .ref a_dr_parts, .int u1])), aJ g a_dr_costs 33 f8, aI g a_dr_pieces 33 u3, aI g a_dr_makers 33 u4, aI g a_dr_parts 33 u5]) 20 rfl hb1 (by rw [hf8]; rfl) d_C_drawAllButBoards_43 ?_
    refine st_aload_n X 0 d_C_drawAllButBoards_44 rfl rfl ?_
    refine st_get X (ci := 5) in_C 0 10 wf_C_60 rfl rfl (by decide) rfl d_C_drawAllButBoards_45 ?_
    refine st_getN X (ci := 1) in_Q 19 0 nf_C_143 rfl rfl (by decide) rfl d_C_drawAllButBoards_48 ?_
    refine st_iconst X (v := 2) d_C_drawAllButBoards_51 (by decide) ?_
    refine st_aload_n X 0 d_C_drawAllButBoards_52 rfl rfl ?_
    refine st_lload_n X 1 d_C_drawAllButBoards_53 rfl rfl ?_
    have hR := rn_V (pc := 54) (k := 0) (n := 0) (As := [.long started]) (rest := [.int 2, .ref a_dr_costs]) X (k_C_assemblyCost g hg a_t started a_used a_stock a_alts a_asm a_placed a_sp a_rt a_yl partCount tooling a_dr a_la a_be asm placed _ hw) (q0 := 0) rfl rfl wm_C_177 wi_C_assemblyCost wl_C_assemblyCost wz_C wc_C_assemblyCost h9_C_assemblyCost ⟨by decide, by decide⟩ (Nat.le_of_ble_eq_true rfl) ⟨by decide, by decide⟩ d_C_drawAllButBoards_54
    refine st_calll X hR [0, 4, 5] [1, 2, 3, 6, 7, 8, 9, 10, 11, 12, 13, 14, 15, 16, 17, 18, 19, 20, 21, 22, 23] (wr := [aJ g a_used 30 used, aJ g a_stock 30 stock, aI g a_alts 30 alts, (a_sp, .inr (3, [.ref a_sp_froms, .ref a_sp_cents])), (a_sp_froms, .inr (0, [.ref a_sp_froms_keys, .ref a_sp_froms_sizes])), aJ g a_sp_froms_keys 1488 sp_froms_keys, aI g a_sp_froms_sizes 248 sp_froms_sizes, aJ g a_sp_cents 1488 sp_cents, (a_rt, .inr (2, [.ref a_rt_days, .ref a_rt_aboves, .ref a_rt_belows, .ref a_rt_aboveNow, .ref a_rt_belowNow])), (a_rt_days, .inr (0, [.ref a_rt_days_keys, .ref a_rt_days_sizes])), aJ g a_rt_days_keys 48 rt_days_keys, aI g a_rt_days_sizes 8 rt_days_sizes, aJ g a_rt_aboves 48 rt_aboves, aJ g a_rt_belows 48 rt_belows, aJ g a_rt_aboveNow 8 u6, aJ g a_rt_belowNow 8 u7, (a_dr, .inr (1, [.ref a_dr_costs, .ref a_dr_pieces, .ref a_dr_makers, .ref a_dr_parts, .int u1])), aJ g a_dr_costs 33 f8, aI g a_dr_pieces 33 u3, aI g a_dr_makers 33 u4, aI g a_dr_parts 33 u5]) rfl rfl (by decide) (by decide) (by decide) (fun r9 u9 hw => ?_)
    try dsimp only at hw
    refine st_widen (k2 := 0) (n2 := 0) (by decide) (by decide) ?_
    refine st_perm (ws2 := [(a_t, .inr (5, [.ref a_used, .ref a_stock, .ref a_alts, .ref a_asm, .ref a_placed, .ref a_sp, .ref a_rt, .ref a_yl, .int partCount, .long tooling, .ref a_dr, .ref a_la, .ref a_be])), aJ g a_used 30 used, aJ g a_stock 30 stock, aI g a_alts 30 alts, aJ g a_asm 8 asm, aJ g a_placed 8 placed, (a_sp, .inr (3, [.ref a_sp_froms, .ref a_sp_cents])), (a_sp_froms, .inr (0, [.ref a_sp_froms_keys, .ref a_sp_froms_sizes])), aJ g a_sp_froms_keys 1488 sp_froms_keys, aI g a_sp_froms_sizes 248 sp_froms_sizes, aJ g a_sp_cents 1488 sp_cents, (a_rt, .inr (2, [.ref a_rt_days, .ref a_rt_aboves, .ref a_rt_belows, .ref a_rt_aboveNow, .ref a_rt_belowNow])), (a_rt_days, .inr (0, [.ref a_rt_days_keys, .ref a_rt_days_sizes])), aJ g a_rt_days_keys 48 rt_days_keys, aI g a_rt_days_sizes 8 rt_days_sizes, aJ g a_rt_aboves 48 rt_aboves, aJ g a_rt_belows 48 rt_belows, aJ g a_rt_aboveNow 8 u6, aJ g a_rt_belowNow 8 u7, (a_dr, .inr (1, [.ref a_dr_costs, .ref a_dr_pieces, .ref a_dr_makers, .ref a_dr_parts, .int u1])), aJ g a_dr_costs 33 f8, aI g a_dr_pieces 33 u3, aI g a_dr_makers 33 u4, aI g a_dr_parts 33 u5]) [21, 0, 1, 2, 22, 23, 3, 4, 5, 6, 7, 8, 9, 10, 11, 12, 13, 14, 15, 16, 17, 18, 19, 20] rfl (by decide) ?_
    show ST g C [(a_t, .inr (5, [.ref a_used, .ref a_stock, .ref a_alts, .ref a_asm, .ref a_placed, .ref a_sp, .ref a_rt, .ref a_yl, .int partCount, .long tooling, .ref a_dr, .ref a_la, .ref a_be])), aJ g a_used 30 used, aJ g a_stock 30 stock, aI g a_alts 30 alts, aJ g a_asm 8 asm, aJ g a_placed 8 placed, (a_sp, .inr (3, [.ref a_sp_froms, .ref a_sp_cents])), (a_sp_froms, .inr (0, [.ref a_sp_froms_keys, .ref a_sp_froms_sizes])), aJ g a_sp_froms_keys 1488 sp_froms_keys, aI g a_sp_froms_sizes 248 sp_froms_sizes, aJ g a_sp_cents 1488 sp_cents, (a_rt, .inr (2, [.ref a_rt_days, .ref a_rt_aboves, .ref a_rt_belows, .ref a_rt_aboveNow, .ref a_rt_belowNow])), (a_rt_days, .inr (0, [.ref a_rt_days_keys, .ref a_rt_days_sizes])), aJ g a_rt_days_keys 48 rt_days_keys, aI g a_rt_days_sizes 8 rt_days_sizes, aJ g a_rt_aboves 48 rt_aboves, aJ g a_rt_belows 48 rt_belows, aJ g a_rt_aboveNow 8 u6, aJ g a_rt_belowNow 8 u7, (a_dr, .inr (1, [.ref a_dr_costs, .ref a_dr_pieces, .ref a_dr_makers, .ref a_dr_parts, .int u1])), aJ g a_dr_costs 33 f8, aI g a_dr_pieces 33 u3, aI g a_dr_makers 33 u4, aI g a_dr_parts 33 u5] [(0, .ref a_t), (1, .long started), (3, .long day)] [.long r9, .int 2, .ref a_dr_costs] 57 0 0
    obtain ⟨hb2, hw⟩ := hw
    obtain ⟨f10, hf10⟩ : ∃ z : Nat → Int64, z = vp_updL f8 (2 : Int32).toNatClampNeg r9 := ⟨_, rfl⟩
    replace hw := hw f10 hf10
    refine st_last X (ws2 := [(a_t, .inr (5, [.ref a_used, .ref a_stock, .ref a_alts, .ref a_asm, .ref a_placed, .ref a_sp, .ref a_rt, .ref a_yl, .int partCount, .long tooling, .ref a_dr, .ref a_la, .ref a_be])), aJ g a_used 30 used, aJ g a_stock 30 stock, aI g a_alts 30 alts, aJ g a_asm 8 asm, aJ g a_placed 8 placed, (a_sp, .inr (3, [.ref a_sp_froms, .ref a_sp_cents])), (a_sp_froms, .inr (0, [.ref a_sp_froms_keys, .ref a_sp_froms_sizes])), aJ g a_sp_froms_keys 1488 sp_froms_keys, aI g a_sp_froms_sizes 248 sp_froms_sizes, aJ g a_sp_cents 1488 sp_cents, (a_rt, .inr (2, [.ref a_rt_days, .ref a_rt_aboves, .ref a_rt_belows, .ref a_rt_aboveNow, .ref a_rt_belowNow])), (a_rt_days, .inr (0, [.ref a_rt_days_keys, .ref a_rt_days_sizes])), aJ g a_rt_days_keys 48 rt_days_keys, aI g a_rt_days_sizes 8 rt_days_sizes, aJ g a_rt_aboves 48 rt_aboves, aJ g a_rt_belows 48 rt_belows, aJ g a_rt_aboveNow 8 u6, aJ g a_rt_belowNow 8 u7, (a_dr, .inr (1, [.ref a_dr_costs, .ref a_dr_pieces, .ref a_dr_makers, .ref a_dr_parts, .int u1])), aJ g a_dr_costs 33 f10, aI g a_dr_pieces 33 u3, aI g a_dr_makers 33 u4, aI g a_dr_parts 33 u5]) 20 rfl hb2 (by rw [hf10]; rfl) d_C_drawAllButBoards_57 ?_
    refine st_iconst X (v := 0) d_C_drawAllButBoards_58 (by decide) ?_
    refine st_istore X (lv2 := [(5, .int 0), (0, .ref a_t), (1, .long started), (3, .long day)]) d_C_drawAllButBoards_59 (by decide) rfl ?_
    have L61 : ∀ (n61 : Nat) (v11 : Int32) (f12 : Nat → Int64) (f13 : Nat → Int32) (f14 : Nat → Int32) (f15 : Nat → Int32), wp_C_drawAllButBoards_L61 started partCount used stock alts sp_froms_keys sp_froms_sizes sp_cents u1 u6 u7 Q n61 v11 f12 f13 f14 f15 → ST g C [(a_t, .inr (5, [.ref a_used, .ref a_stock, .ref a_alts, .ref a_asm, .ref a_placed, .ref a_sp, .ref a_rt, .ref a_yl, .int partCount, .long tooling, .ref a_dr, .ref a_la, .ref a_be])), aJ g a_used 30 used, aJ g a_stock 30 stock, aI g a_alts 30 alts, aJ g a_asm 8 asm, aJ g a_placed 8 placed, (a_sp, .inr (3, [.ref a_sp_froms, .ref a_sp_cents])), (a_sp_froms, .inr (0, [.ref a_sp_froms_keys, .ref a_sp_froms_sizes])), aJ g a_sp_froms_keys 1488 sp_froms_keys, aI g a_sp_froms_sizes 248 sp_froms_sizes, aJ g a_sp_cents 1488 sp_cents, (a_rt, .inr (2, [.ref a_rt_days, .ref a_rt_aboves, .ref a_rt_belows, .ref a_rt_aboveNow, .ref a_rt_belowNow])), (a_rt_days, .inr (0, [.ref a_rt_days_keys, .ref a_rt_days_sizes])), aJ g a_rt_days_keys 48 rt_days_keys, aI g a_rt_days_sizes 8 rt_days_sizes, aJ g a_rt_aboves 48 rt_aboves, aJ g a_rt_belows 48 rt_belows, aJ g a_rt_aboveNow 8 u6, aJ g a_rt_belowNow 8 u7, (a_dr, .inr (1, [.ref a_dr_costs, .ref a_dr_pieces, .ref a_dr_makers, .ref a_dr_parts, .int u1])), aJ g a_dr_costs 33 f12, aI g a_dr_pieces 33 f13, aI g a_dr_makers 33 f14, aI g a_dr_parts 33 f15] [(0, .ref a_t), (1, .long started), (3, .long day), (5, .int v11)] [] 61 0 0 := by
      intro n61
      induction n61 with
      | zero => intro v11 f12 f13 f14 f15 hw; exact hw.elim
      | succ n61 ih61 =>
        intro v11 f12 f13 f14 f15 hw
        rw [wp_C_drawAllButBoards_L61] at hw
        refine st_iload X 3 d_C_drawAllButBoards_61 rfl ?_
        refine st_aload_n X 0 d_C_drawAllButBoards_63 rfl rfl ?_
        refine st_get X (ci := 5) in_C 0 8 wf_C_49 rfl rfl (by decide) rfl d_C_drawAllButBoards_64 ?_
        refine st_icmp_ge X 88 d_C_drawAllButBoards_67 (by decide) (fun hc => ?_) (fun hc => ?_)
        · replace hw := hw.1 hc
          refine st_iconst X (v := 1) d_C_drawAllButBoards_88 (by decide) ?_
          obtain ⟨hz, hw⟩ := hw
          exact st_zret X hr (u6, u7, u1, f12, f13, f14, f15) hw hz rfl (by decide) (by decide) d_C_drawAllButBoards_89
        · replace hw := hw.2 hc
          refine st_aload_n X 0 d_C_drawAllButBoards_70 rfl rfl ?_
          refine st_iload X 3 d_C_drawAllButBoards_71 rfl ?_
          refine st_lload_n X 1 d_C_drawAllButBoards_73 rfl rfl ?_
          have hR := rn_V (pc := 74) (k := 0) (n := 0) (As := [.int v11, .long started]) (rest := []) X (k_C_drawPart g hg a_t v11 started a_used a_stock a_alts a_asm a_placed a_sp a_rt a_yl partCount tooling a_dr a_la a_be used stock alts a_sp_froms a_sp_cents a_sp_froms_keys a_sp_froms_sizes sp_froms_keys sp_froms_sizes sp_cents a_rt_days a_rt_aboves a_rt_belows a_rt_aboveNow a_rt_belowNow u6 u7 a_dr_costs a_dr_pieces a_dr_makers a_dr_parts u1 f12 f13 f14 f15 _ hw) (q0 := 0) rfl rfl wm_C_180 wi_C_drawPart wl_C_drawPart wz_C wc_C_drawPart h9_C_drawPart ⟨by decide, by decide⟩ (Nat.le_of_ble_eq_true rfl) ⟨by decide, by decide⟩ d_C_drawAllButBoards_74
          refine st_calli X hR [0, 1, 2, 3, 6, 7, 8, 9, 10, 11, 17, 18, 19, 20, 21, 22, 23] [4, 5, 12, 13, 14, 15, 16] (wr := [aJ g a_asm 8 asm, aJ g a_placed 8 placed, (a_rt_days, .inr (0, [.ref a_rt_days_keys, .ref a_rt_days_sizes])), aJ g a_rt_days_keys 48 rt_days_keys, aI g a_rt_days_sizes 8 rt_days_sizes, aJ g a_rt_aboves 48 rt_aboves, aJ g a_rt_belows 48 rt_belows]) rfl rfl (by decide) (by decide) (by decide) (fun r20 u9 hw => ?_)
          obtain ⟨u16, u17, u18, u19⟩ := u9
          try dsimp only at hw
          refine st_widen (k2 := 0) (n2 := 0) (by decide) (by decide) ?_
          refine st_perm (ws2 := [(a_t, .inr (5, [.ref a_used, .ref a_stock, .ref a_alts, .ref a_asm, .ref a_placed, .ref a_sp, .ref a_rt, .ref a_yl, .int partCount, .long tooling, .ref a_dr, .ref a_la, .ref a_be])), aJ g a_used 30 used, aJ g a_stock 30 stock, aI g a_alts 30 alts, aJ g a_asm 8 asm, aJ g a_placed 8 placed, (a_sp, .inr (3, [.ref a_sp_froms, .ref a_sp_cents])), (a_sp_froms, .inr (0, [.ref a_sp_froms_keys, .ref a_sp_froms_sizes])), aJ g a_sp_froms_keys 1488 sp_froms_keys, aI g a_sp_froms_sizes 248 sp_froms_sizes, aJ g a_sp_cents 1488 sp_cents, (a_rt, .inr (2, [.ref a_rt_days, .ref a_rt_aboves, .ref a_rt_belows, .ref a_rt_aboveNow, .ref a_rt_belowNow])), (a_rt_days, .inr (0, [.ref a_rt_days_keys, .ref a_rt_days_sizes])), aJ g a_rt_days_keys 48 rt_days_keys, aI g a_rt_days_sizes 8 rt_days_sizes, aJ g a_rt_aboves 48 rt_aboves, aJ g a_rt_belows 48 rt_belows, aJ g a_rt_aboveNow 8 u6, aJ g a_rt_belowNow 8 u7, (a_dr, .inr (1, [.ref a_dr_costs, .ref a_dr_pieces, .ref a_dr_makers, .ref a_dr_parts, .int u1])), aJ g a_dr_costs 33 u16, aI g a_dr_pieces 33 u17, aI g a_dr_makers 33 u18, aI g a_dr_parts 33 u19]) [7, 8, 9, 10, 0, 1, 11, 12, 13, 14, 15, 16, 2, 3, 4, 5, 6, 17, 18, 19, 20, 21, 22, 23] rfl (by decide) ?_
          show ST g C [(a_t, .inr (5, [.ref a_used, .ref a_stock, .ref a_alts, .ref a_asm, .ref a_placed, .ref a_sp, .ref a_rt, .ref a_yl, .int partCount, .long tooling, .ref a_dr, .ref a_la, .ref a_be])), aJ g a_used 30 used, aJ g a_stock 30 stock, aI g a_alts 30 alts, aJ g a_asm 8 asm, aJ g a_placed 8 placed, (a_sp, .inr (3, [.ref a_sp_froms, .ref a_sp_cents])), (a_sp_froms, .inr (0, [.ref a_sp_froms_keys, .ref a_sp_froms_sizes])), aJ g a_sp_froms_keys 1488 sp_froms_keys, aI g a_sp_froms_sizes 248 sp_froms_sizes, aJ g a_sp_cents 1488 sp_cents, (a_rt, .inr (2, [.ref a_rt_days, .ref a_rt_aboves, .ref a_rt_belows, .ref a_rt_aboveNow, .ref a_rt_belowNow])), (a_rt_days, .inr (0, [.ref a_rt_days_keys, .ref a_rt_days_sizes])), aJ g a_rt_days_keys 48 rt_days_keys, aI g a_rt_days_sizes 8 rt_days_sizes, aJ g a_rt_aboves 48 rt_aboves, aJ g a_rt_belows 48 rt_belows, aJ g a_rt_aboveNow 8 u6, aJ g a_rt_belowNow 8 u7, (a_dr, .inr (1, [.ref a_dr_costs, .ref a_dr_pieces, .ref a_dr_makers, .ref a_dr_parts, .int u1])), aJ g a_dr_costs 33 u16, aI g a_dr_pieces 33 u17, aI g a_dr_makers 33 u18, aI g a_dr_parts 33 u19] [(0, .ref a_t), (1, .long started), (3, .long day), (5, .int v11)] [.int r20] 77 0 0
          refine st_if_ne X 82 d_C_drawAllButBoards_77 (by decide) (fun hc => ?_) (fun hc => ?_)
          · replace hw := hw.1 hc
            obtain ⟨x21, hx21⟩ : ∃ z : Int32, z = v11 + 1 := ⟨_, rfl⟩
            replace hw := hw x21 hx21
            refine st_iinc X (v := x21) (lv2 := [(5, .int x21), (0, .ref a_t), (1, .long started), (3, .long day)]) 3 d_C_drawAllButBoards_82 rfl (by rw [hx21]; rfl) (by decide) rfl ?_
            refine st_goto X 61 d_C_drawAllButBoards_85 (by decide) ?_
            refine st_lv [1, 2, 3, 0] rfl ?_
            exact ih61 x21 u16 u17 u18 u19 hw
          · replace hw := hw.2 hc
            refine st_iconst X (v := 0) d_C_drawAllButBoards_80 (by decide) ?_
            obtain ⟨hz, hw⟩ := hw
            exact st_zret X hr (u6, u7, u1, u16, u17, u18, u19) hw hz rfl (by decide) (by decide) d_C_drawAllButBoards_81
    obtain ⟨n61, hw⟩ := hw
    refine st_lv [1, 2, 3, 0] rfl ?_
    exact L61 n61 0 f10 u3 u4 u5 hw
  · replace hw := hw.2 hc
    refine st_iconst X (v := 0) d_C_drawAllButBoards_21 (by decide) ?_
    obtain ⟨hz, hw⟩ := hw
    exact st_zret X hr (rt_aboveNow, rt_belowNow, u1, u2, u3, u4, u5) hw hz rfl (by decide) (by decide) d_C_drawAllButBoards_22

theorem h9_C_draw : y_C_draw.cls ≠ "java/lang/invoke/MethodHandle" ∧ y_C_draw.cls ≠ "java/lang/invoke/VarHandle" ∧ (parseMethodDescriptor y_C_draw.desc).map (fun d => d.parameters.length) = some 3 := by decide +kernel
def wp_C_draw_J36 (u2 : Nat → Int64) (u3 : Nat → Int64) (u4 : Int32) (Q : Int32 → (Nat → Int64) → (Nat → Int64) → Int32 → (Nat → Int64) → (Nat → Int32) → (Nat → Int32) → (Nat → Int32) → Prop) (v10 : Int32) (f11 : Nat → Int64) (f12 : Nat → Int32) (f13 : Nat → Int32) (f14 : Nat → Int32) : Prop :=
  (v10 = 0 ∨ v10 = 1) ∧ Q v10 u2 u3 u4 f11 f12 f13 f14
def wp_C_draw_J35 (u2 : Nat → Int64) (u3 : Nat → Int64) (u4 : Int32) (Q : Int32 → (Nat → Int64) → (Nat → Int64) → Int32 → (Nat → Int64) → (Nat → Int32) → (Nat → Int32) → (Nat → Int32) → Prop) (f15 : Nat → Int64) (f16 : Nat → Int32) (f17 : Nat → Int32) (f18 : Nat → Int32) : Prop :=
  wp_C_draw_J36 u2 u3 u4 Q 0 f15 f16 f17 f18
def wp_C_draw (quantity : Int64) (maker : Int32) (day : Int64) (partCount : Int32) (tooling : Int64) (used : Nat → Int64) (stock : Nat → Int64) (alts : Nat → Int32) (asm : Nat → Int64) (placed : Nat → Int64) (sp_froms_keys : Nat → Int64) (sp_froms_sizes : Nat → Int32) (sp_cents : Nat → Int64) (rt_days_keys : Nat → Int64) (rt_days_sizes : Nat → Int32) (rt_aboves : Nat → Int64) (rt_belows : Nat → Int64) (rt_aboveNow : Nat → Int64) (rt_belowNow : Nat → Int64) (yl_count : Int32) (yl_aboves : Nat → Int64) (yl_belows : Nat → Int64) (dr_costs : Nat → Int64) (dr_pieces : Nat → Int32) (dr_makers : Nat → Int32) (dr_parts : Nat → Int32) (Q : Int32 → (Nat → Int64) → (Nat → Int64) → Int32 → (Nat → Int64) → (Nat → Int32) → (Nat → Int32) → (Nat → Int32) → Prop) : Prop :=
  wp_Y_startedFor quantity yl_count yl_aboves yl_belows (fun r1 =>
  wp_C_drawAllButBoards r1 day partCount tooling used stock alts asm placed sp_froms_keys sp_froms_sizes sp_cents rt_days_keys rt_days_sizes rt_aboves rt_belows rt_aboveNow rt_belowNow dr_costs dr_pieces dr_makers dr_parts (fun r9 u2 u3 u4 u5 u6 u7 u8 =>
  ((r9 = 0) → wp_C_draw_J35 u2 u3 u4 Q u5 u6 u7 u8) ∧
  ((¬ r9 = 0) → wp_C_drawBoards r1 maker sp_froms_keys sp_froms_sizes sp_cents u2 u3 u5 u6 u7 u8 (fun r23 u19 u20 u21 u22 =>
  ((r23 = 0) → wp_C_draw_J35 u2 u3 u4 Q u19 u20 u21 u22) ∧
  ((¬ r23 = 0) → wp_C_draw_J36 u2 u3 u4 Q 1 u19 u20 u21 u22)))))
set_option maxHeartbeats 4000000 in
set_option maxRecDepth 100000 in
theorem k_C_draw (g : GX) (hg : g.1.stackTraces = false) (a_t : Nat) (quantity : Int64) (maker : Int32) (day : Int64) (a_used : Nat) (a_stock : Nat) (a_alts : Nat) (a_asm : Nat) (a_placed : Nat) (a_sp : Nat) (a_rt : Nat) (a_yl : Nat) (partCount : Int32) (tooling : Int64) (a_dr : Nat) (a_la : Nat) (a_be : Nat) (used : Nat → Int64) (stock : Nat → Int64) (alts : Nat → Int32) (asm : Nat → Int64) (placed : Nat → Int64) (a_sp_froms : Nat) (a_sp_cents : Nat) (a_sp_froms_keys : Nat) (a_sp_froms_sizes : Nat) (sp_froms_keys : Nat → Int64) (sp_froms_sizes : Nat → Int32) (sp_cents : Nat → Int64) (a_rt_days : Nat) (a_rt_aboves : Nat) (a_rt_belows : Nat) (a_rt_aboveNow : Nat) (a_rt_belowNow : Nat) (a_rt_days_keys : Nat) (a_rt_days_sizes : Nat) (rt_days_keys : Nat → Int64) (rt_days_sizes : Nat → Int32) (rt_aboves : Nat → Int64) (rt_belows : Nat → Int64) (rt_aboveNow : Nat → Int64) (rt_belowNow : Nat → Int64) (a_yl_aboves : Nat) (a_yl_belows : Nat) (yl_count : Int32) (yl_aboves : Nat → Int64) (yl_belows : Nat → Int64) (a_dr_costs : Nat) (a_dr_pieces : Nat) (a_dr_makers : Nat) (a_dr_parts : Nat) (dr_rowCount : Int32) (dr_costs : Nat → Int64) (dr_pieces : Nat → Int32) (dr_makers : Nat → Int32) (dr_parts : Nat → Int32) (Q : Int32 → (Nat → Int64) → (Nat → Int64) → Int32 → (Nat → Int64) → (Nat → Int32) → (Nat → Int32) → (Nat → Int32) → Prop) (hw : wp_C_draw quantity maker day partCount tooling used stock alts asm placed sp_froms_keys sp_froms_sizes sp_cents rt_days_keys rt_days_sizes rt_aboves rt_belows rt_aboveNow rt_belowNow yl_count yl_aboves yl_belows dr_costs dr_pieces dr_makers dr_parts Q) : CT g y_C_draw c_C_draw 8 (some .boolean) ({ frames := 5, cells := 0, slots := 0, locals := 137 } : Room) [.ref a_t, .long quantity, .int maker, .long day] [(a_t, .inr (5, [.ref a_used, .ref a_stock, .ref a_alts, .ref a_asm, .ref a_placed, .ref a_sp, .ref a_rt, .ref a_yl, .int partCount, .long tooling, .ref a_dr, .ref a_la, .ref a_be])), aJ g a_used 30 used, aJ g a_stock 30 stock, aI g a_alts 30 alts, aJ g a_asm 8 asm, aJ g a_placed 8 placed, (a_sp, .inr (3, [.ref a_sp_froms, .ref a_sp_cents])), (a_sp_froms, .inr (0, [.ref a_sp_froms_keys, .ref a_sp_froms_sizes])), aJ g a_sp_froms_keys 1488 sp_froms_keys, aI g a_sp_froms_sizes 248 sp_froms_sizes, aJ g a_sp_cents 1488 sp_cents, (a_rt, .inr (2, [.ref a_rt_days, .ref a_rt_aboves, .ref a_rt_belows, .ref a_rt_aboveNow, .ref a_rt_belowNow])), (a_rt_days, .inr (0, [.ref a_rt_days_keys, .ref a_rt_days_sizes])), aJ g a_rt_days_keys 48 rt_days_keys, aI g a_rt_days_sizes 8 rt_days_sizes, aJ g a_rt_aboves 48 rt_aboves, aJ g a_rt_belows 48 rt_belows, aJ g a_rt_aboveNow 8 rt_aboveNow, aJ g a_rt_belowNow 8 rt_belowNow, (a_yl, .inr (4, [.ref a_yl_aboves, .ref a_yl_belows, .int yl_count])), aJ g a_yl_aboves 8 yl_aboves, aJ g a_yl_belows 8 yl_belows, (a_dr, .inr (1, [.ref a_dr_costs, .ref a_dr_pieces, .ref a_dr_makers, .ref a_dr_parts, .int dr_rowCount])), aJ g a_dr_costs 33 dr_costs, aI g a_dr_pieces 33 dr_pieces, aI g a_dr_makers 33 dr_makers, aI g a_dr_parts 33 dr_parts] (QI g [(a_t, .inr (5, [.ref a_used, .ref a_stock, .ref a_alts, .ref a_asm, .ref a_placed, .ref a_sp, .ref a_rt, .ref a_yl, .int partCount, .long tooling, .ref a_dr, .ref a_la, .ref a_be])), aJ g a_used 30 used, aJ g a_stock 30 stock, aI g a_alts 30 alts, aJ g a_asm 8 asm, aJ g a_placed 8 placed, (a_sp, .inr (3, [.ref a_sp_froms, .ref a_sp_cents])), (a_sp_froms, .inr (0, [.ref a_sp_froms_keys, .ref a_sp_froms_sizes])), aJ g a_sp_froms_keys 1488 sp_froms_keys, aI g a_sp_froms_sizes 248 sp_froms_sizes, aJ g a_sp_cents 1488 sp_cents, (a_rt, .inr (2, [.ref a_rt_days, .ref a_rt_aboves, .ref a_rt_belows, .ref a_rt_aboveNow, .ref a_rt_belowNow])), (a_rt_days, .inr (0, [.ref a_rt_days_keys, .ref a_rt_days_sizes])), aJ g a_rt_days_keys 48 rt_days_keys, aI g a_rt_days_sizes 8 rt_days_sizes, aJ g a_rt_aboves 48 rt_aboves, aJ g a_rt_belows 48 rt_belows, aJ g a_rt_aboveNow 8 rt_aboveNow, aJ g a_rt_belowNow 8 rt_belowNow, (a_yl, .inr (4, [.ref a_yl_aboves, .ref a_yl_belows, .int yl_count])), aJ g a_yl_aboves 8 yl_aboves, aJ g a_yl_belows 8 yl_belows, (a_dr, .inr (1, [.ref a_dr_costs, .ref a_dr_pieces, .ref a_dr_makers, .ref a_dr_parts, .int dr_rowCount])), aJ g a_dr_costs 33 dr_costs, aI g a_dr_pieces 33 dr_pieces, aI g a_dr_makers 33 dr_makers, aI g a_dr_parts 33 dr_parts] (fun u : (Nat → Int64) × (Nat → Int64) × Int32 × (Nat → Int64) × (Nat → Int32) × (Nat → Int32) × (Nat → Int32) => [(a_t, .inr (5, [.ref a_used, .ref a_stock, .ref a_alts, .ref a_asm, .ref a_placed, .ref a_sp, .ref a_rt, .ref a_yl, .int partCount, .long tooling, .ref a_dr, .ref a_la, .ref a_be])), aJ g a_used 30 used, aJ g a_stock 30 stock, aI g a_alts 30 alts, aJ g a_asm 8 asm, aJ g a_placed 8 placed, (a_sp, .inr (3, [.ref a_sp_froms, .ref a_sp_cents])), (a_sp_froms, .inr (0, [.ref a_sp_froms_keys, .ref a_sp_froms_sizes])), aJ g a_sp_froms_keys 1488 sp_froms_keys, aI g a_sp_froms_sizes 248 sp_froms_sizes, aJ g a_sp_cents 1488 sp_cents, (a_rt, .inr (2, [.ref a_rt_days, .ref a_rt_aboves, .ref a_rt_belows, .ref a_rt_aboveNow, .ref a_rt_belowNow])), (a_rt_days, .inr (0, [.ref a_rt_days_keys, .ref a_rt_days_sizes])), aJ g a_rt_days_keys 48 rt_days_keys, aI g a_rt_days_sizes 8 rt_days_sizes, aJ g a_rt_aboves 48 rt_aboves, aJ g a_rt_belows 48 rt_belows, aJ g a_rt_aboveNow 8 u.1, aJ g a_rt_belowNow 8 u.2.1, (a_yl, .inr (4, [.ref a_yl_aboves, .ref a_yl_belows, .int yl_count])), aJ g a_yl_aboves 8 yl_aboves, aJ g a_yl_belows 8 yl_belows, (a_dr, .inr (1, [.ref a_dr_costs, .ref a_dr_pieces, .ref a_dr_makers, .ref a_dr_parts, .int u.2.2.1])), aJ g a_dr_costs 33 u.2.2.2.1, aI g a_dr_pieces 33 u.2.2.2.2.1, aI g a_dr_makers 33 u.2.2.2.2.2.1, aI g a_dr_parts 33 u.2.2.2.2.2.2]) (fun r u => Q r u.1 u.2.1 u.2.2.1 u.2.2.2.1 u.2.2.2.2.1 u.2.2.2.2.2.1 u.2.2.2.2.2.2)) := by
  refine ct_of hg (by decide) (Nat.le_of_ble_eq_true rfl) (fun sz C X hr => ?_)
  unfold wp_C_draw at hw
  show ST g C [(a_t, .inr (5, [.ref a_used, .ref a_stock, .ref a_alts, .ref a_asm, .ref a_placed, .ref a_sp, .ref a_rt, .ref a_yl, .int partCount, .long tooling, .ref a_dr, .ref a_la, .ref a_be])), aJ g a_used 30 used, aJ g a_stock 30 stock, aI g a_alts 30 alts, aJ g a_asm 8 asm, aJ g a_placed 8 placed, (a_sp, .inr (3, [.ref a_sp_froms, .ref a_sp_cents])), (a_sp_froms, .inr (0, [.ref a_sp_froms_keys, .ref a_sp_froms_sizes])), aJ g a_sp_froms_keys 1488 sp_froms_keys, aI g a_sp_froms_sizes 248 sp_froms_sizes, aJ g a_sp_cents 1488 sp_cents, (a_rt, .inr (2, [.ref a_rt_days, .ref a_rt_aboves, .ref a_rt_belows, .ref a_rt_aboveNow, .ref a_rt_belowNow])), (a_rt_days, .inr (0, [.ref a_rt_days_keys, .ref a_rt_days_sizes])), aJ g a_rt_days_keys 48 rt_days_keys, aI g a_rt_days_sizes 8 rt_days_sizes, aJ g a_rt_aboves 48 rt_aboves, aJ g a_rt_belows 48 rt_belows, aJ g a_rt_aboveNow 8 rt_aboveNow, aJ g a_rt_belowNow 8 rt_belowNow, (a_yl, .inr (4, [.ref a_yl_aboves, .ref a_yl_belows, .int yl_count])), aJ g a_yl_aboves 8 yl_aboves, aJ g a_yl_belows 8 yl_belows, (a_dr, .inr (1, [.ref a_dr_costs, .ref a_dr_pieces, .ref a_dr_makers, .ref a_dr_parts, .int dr_rowCount])), aJ g a_dr_costs 33 dr_costs, aI g a_dr_pieces 33 dr_pieces, aI g a_dr_makers 33 dr_makers, aI g a_dr_parts 33 dr_parts] [(0, .ref a_t), (1, .long quantity), (3, .int maker), (4, .long day)] [] 0 0 0
  refine st_aload_n X 0 d_C_draw_0 rfl rfl ?_
  refine st_get X (ci := 5) in_C 0 7 wf_C_45 rfl rfl (by decide) rfl d_C_draw_1 ?_
  refine st_lload_n X 1 d_C_draw_4 rfl rfl ?_
  have hR := rn_VN (pc := 5) (k := 0) (n := 0) (As := [.long quantity]) (rest := []) X (k_Y_startedFor g hg a_yl quantity a_yl_aboves a_yl_belows yl_count yl_aboves yl_belows _ hw) (q0 := 0) rfl rfl nl_C_119 wi_Y_startedFor wl_Y_startedFor wz_Y wc_Y_startedFor h9_Y_startedFor ⟨by decide, by decide⟩ (Nat.le_of_ble_eq_true rfl) ⟨by decide, by decide⟩ d_C_draw_5
  refine st_calll X hR [19, 20, 21] [0, 1, 2, 3, 4, 5, 6, 7, 8, 9, 10, 11, 12, 13, 14, 15, 16, 17, 18, 22, 23, 24, 25, 26] (wr := [(a_t, .inr (5, [.ref a_used, .ref a_stock, .ref a_alts, .ref a_asm, .ref a_placed, .ref a_sp, .ref a_rt, .ref a_yl, .int partCount, .long tooling, .ref a_dr, .ref a_la, .ref a_be])), aJ g a_used 30 used, aJ g a_stock 30 stock, aI g a_alts 30 alts, aJ g a_asm 8 asm, aJ g a_placed 8 placed, (a_sp, .inr (3, [.ref a_sp_froms, .ref a_sp_cents])), (a_sp_froms, .inr (0, [.ref a_sp_froms_keys, .ref a_sp_froms_sizes])), aJ g a_sp_froms_keys 1488 sp_froms_keys, aI g a_sp_froms_sizes 248 sp_froms_sizes, aJ g a_sp_cents 1488 sp_cents, (a_rt, .inr (2, [.ref a_rt_days, .ref a_rt_aboves, .ref a_rt_belows, .ref a_rt_aboveNow, .ref a_rt_belowNow])), (a_rt_days, .inr (0, [.ref a_rt_days_keys, .ref a_rt_days_sizes])), aJ g a_rt_days_keys 48 rt_days_keys, aI g a_rt_days_sizes 8 rt_days_sizes, aJ g a_rt_aboves 48 rt_aboves, aJ g a_rt_belows 48 rt_belows, aJ g a_rt_aboveNow 8 rt_aboveNow, aJ g a_rt_belowNow 8 rt_belowNow, (a_dr, .inr (1, [.ref a_dr_costs, .ref a_dr_pieces, .ref a_dr_makers, .ref a_dr_parts, .int dr_rowCount])), aJ g a_dr_costs 33 dr_costs, aI g a_dr_pieces 33 dr_pieces, aI g a_dr_makers 33 dr_makers, aI g a_dr_parts 33 dr_parts]) rfl rfl (by decide) (by decide) (by decide) (fun r1 u9 hw => ?_)
  try dsimp only at hw
  refine st_widen (k2 := 0) (n2 := 0) (by decide) (by decide) ?_
  refine st_perm (ws2 := [(a_t, .inr (5, [.ref a_used, .ref a_stock, .ref a_alts, .ref a_asm, .ref a_placed, .ref a_sp, .ref a_rt, .ref a_yl, .int partCount, .long tooling, .ref a_dr, .ref a_la, .ref a_be])), aJ g a_used 30 used, aJ g a_stock 30 stock, aI g a_alts 30 alts, aJ g a_asm 8 asm, aJ g a_placed 8 placed, (a_sp, .inr (3, [.ref a_sp_froms, .ref a_sp_cents])), (a_sp_froms, .inr (0, [.ref a_sp_froms_keys, .ref a_sp_froms_sizes])), aJ g a_sp_froms_keys 1488 sp_froms_keys, aI g a_sp_froms_sizes 248 sp_froms_sizes, aJ g a_sp_cents 1488 sp_cents, (a_rt, .inr (2, [.ref a_rt_days, .ref a_rt_aboves, .ref a_rt_belows, .ref a_rt_aboveNow, .ref a_rt_belowNow])), (a_rt_days, .inr (0, [.ref a_rt_days_keys, .ref a_rt_days_sizes])), aJ g a_rt_days_keys 48 rt_days_keys, aI g a_rt_days_sizes 8 rt_days_sizes, aJ g a_rt_aboves 48 rt_aboves, aJ g a_rt_belows 48 rt_belows, aJ g a_rt_aboveNow 8 rt_aboveNow, aJ g a_rt_belowNow 8 rt_belowNow, (a_yl, .inr (4, [.ref a_yl_aboves, .ref a_yl_belows, .int yl_count])), aJ g a_yl_aboves 8 yl_aboves, aJ g a_yl_belows 8 yl_belows, (a_dr, .inr (1, [.ref a_dr_costs, .ref a_dr_pieces, .ref a_dr_makers, .ref a_dr_parts, .int dr_rowCount])), aJ g a_dr_costs 33 dr_costs, aI g a_dr_pieces 33 dr_pieces, aI g a_dr_makers 33 dr_makers, aI g a_dr_parts 33 dr_parts]) [0, 1, 2, 3, 4, 5, 6, 7, 8, 9, 10, 11, 12, 13, 14, 15, 16, 17, 18, 24, 25, 26, 19, 20, 21, 22, 23] rfl (by decide) ?_
  show ST g C [(a_t, .inr (5, [.ref a_used, .ref a_stock, .ref a_alts, .ref a_asm, .ref a_placed, .ref a_sp, .ref a_rt, .ref a_yl, .int partCount, .long tooling, .ref a_dr, .ref a_la, .ref a_be])), aJ g a_used 30 used, aJ g a_stock 30 stock, aI g a_alts 30 alts, aJ g a_asm 8 asm, aJ g a_placed 8 placed, (a_sp, .inr (3, [.ref a_sp_froms, .ref a_sp_cents])), (a_sp_froms, .inr (0, [.ref a_sp_froms_keys, .ref a_sp_froms_sizes])), aJ g a_sp_froms_keys 1488 sp_froms_keys, aI g a_sp_froms_sizes 248 sp_froms_sizes, aJ g a_sp_cents 1488 sp_cents, (a_rt, .inr (2, [.ref a_rt_days, .ref a_rt_aboves, .ref a_rt_belows, .ref a_rt_aboveNow, .ref a_rt_belowNow])), (a_rt_days, .inr (0, [.ref a_rt_days_keys, .ref a_rt_days_sizes])), aJ g a_rt_days_keys 48 rt_days_keys, aI g a_rt_days_sizes 8 rt_days_sizes, aJ g a_rt_aboves 48 rt_aboves, aJ g a_rt_belows 48 rt_belows, aJ g a_rt_aboveNow 8 rt_aboveNow, aJ g a_rt_belowNow 8 rt_belowNow, (a_yl, .inr (4, [.ref a_yl_aboves, .ref a_yl_belows, .int yl_count])), aJ g a_yl_aboves 8 yl_aboves, aJ g a_yl_belows 8 yl_belows, (a_dr, .inr (1, [.ref a_dr_costs, .ref a_dr_pieces, .ref a_dr_makers, .ref a_dr_parts, .int dr_rowCount])), aJ g a_dr_costs 33 dr_costs, aI g a_dr_pieces 33 dr_pieces, aI g a_dr_makers 33 dr_makers, aI g a_dr_parts 33 dr_parts] [(0, .ref a_t), (1, .long quantity), (3, .int maker), (4, .long day)] [.long r1] 8 0 0
  refine st_lstore X (lv2 := [(6, .long r1), (0, .ref a_t), (1, .long quantity), (3, .int maker), (4, .long day)]) d_C_draw_8 (by decide) rfl ?_
  refine st_aload_n X 1 d_C_draw_10 rfl rfl ?_
  refine st_lload X 0 d_C_draw_11 rfl ?_
  refine st_lload X 4 d_C_draw_13 rfl ?_
  have hR := rn_V (pc := 15) (k := 0) (n := 0) (As := [.long r1, .long day]) (rest := []) X (k_C_drawAllButBoards g hg a_t r1 day a_used a_stock a_alts a_asm a_placed a_sp a_rt a_yl partCount tooling a_dr a_la a_be used stock alts asm placed a_sp_froms a_sp_cents a_sp_froms_keys a_sp_froms_sizes sp_froms_keys sp_froms_sizes sp_cents a_rt_days a_rt_aboves a_rt_belows a_rt_aboveNow a_rt_belowNow a_rt_days_keys a_rt_days_sizes rt_days_keys rt_days_sizes rt_aboves rt_belows rt_aboveNow rt_belowNow a_dr_costs a_dr_pieces a_dr_makers a_dr_parts dr_rowCount dr_costs dr_pieces dr_makers dr_parts _ hw) (q0 := 0) rfl rfl wm_C_123 wi_C_drawAllButBoards wl_C_drawAllButBoards wz_C wc_C_drawAllButBoards h9_C_drawAllButBoards ⟨by decide, by decide⟩ (Nat.le_of_ble_eq_true rfl) ⟨by decide, by decide⟩ d_C_draw_15
  refine st_calli X hR [0, 1, 2, 3, 4, 5, 6, 7, 8, 9, 10, 11, 12, 13, 14, 15, 16, 17, 18, 22, 23, 24, 25, 26] [19, 20, 21] (wr := [(a_yl, .inr (4, [.ref a_yl_aboves, .ref a_yl_belows, .int yl_count])), aJ g a_yl_aboves 8 yl_aboves, aJ g a_yl_belows 8 yl_belows]) rfl rfl (by decide) (by decide) (by decide) (fun r9 u9 hw => ?_)
  obtain ⟨u2, u3, u4, u5, u6, u7, u8⟩ := u9
  try dsimp only at hw
  refine st_widen (k2 := 0) (n2 := 0) (by decide) (by decide) ?_
  refine st_perm (ws2 := [(a_t, .inr (5, [.ref a_used, .ref a_stock, .ref a_alts, .ref a_asm, .ref a_placed, .ref a_sp, .ref a_rt, .ref a_yl, .int partCount, .long tooling, .ref a_dr, .ref a_la, .ref a_be])), aJ g a_used 30 used, aJ g a_stock 30 stock, aI g a_alts 30 alts, aJ g a_asm 8 asm, aJ g a_placed 8 placed, (a_sp, .inr (3, [.ref a_sp_froms, .ref a_sp_cents])), (a_sp_froms, .inr (0, [.ref a_sp_froms_keys, .ref a_sp_froms_sizes])), aJ g a_sp_froms_keys 1488 sp_froms_keys, aI g a_sp_froms_sizes 248 sp_froms_sizes, aJ g a_sp_cents 1488 sp_cents, (a_rt, .inr (2, [.ref a_rt_days, .ref a_rt_aboves, .ref a_rt_belows, .ref a_rt_aboveNow, .ref a_rt_belowNow])), (a_rt_days, .inr (0, [.ref a_rt_days_keys, .ref a_rt_days_sizes])), aJ g a_rt_days_keys 48 rt_days_keys, aI g a_rt_days_sizes 8 rt_days_sizes, aJ g a_rt_aboves 48 rt_aboves, aJ g a_rt_belows 48 rt_belows, aJ g a_rt_aboveNow 8 u2, aJ g a_rt_belowNow 8 u3, (a_yl, .inr (4, [.ref a_yl_aboves, .ref a_yl_belows, .int yl_count])), aJ g a_yl_aboves 8 yl_aboves, aJ g a_yl_belows 8 yl_belows, (a_dr, .inr (1, [.ref a_dr_costs, .ref a_dr_pieces, .ref a_dr_makers, .ref a_dr_parts, .int u4])), aJ g a_dr_costs 33 u5, aI g a_dr_pieces 33 u6, aI g a_dr_makers 33 u7, aI g a_dr_parts 33 u8]) [3, 4, 5, 6, 7, 8, 9, 10, 11, 12, 13, 14, 15, 16, 17, 18, 19, 20, 21, 0, 1, 2, 22, 23, 24, 25, 26] rfl (by decide) ?_
  show ST g C [(a_t, .inr (5, [.ref a_used, .ref a_stock, .ref a_alts, .ref a_asm, .ref a_placed, .ref a_sp, .ref a_rt, .ref a_yl, .int partCount, .long tooling, .ref a_dr, .ref a_la, .ref a_be])), aJ g a_used 30 used, aJ g a_stock 30 stock, aI g a_alts 30 alts, aJ g a_asm 8 asm, aJ g a_placed 8 placed, (a_sp, .inr (3, [.ref a_sp_froms, .ref a_sp_cents])), (a_sp_froms, .inr (0, [.ref a_sp_froms_keys, .ref a_sp_froms_sizes])), aJ g a_sp_froms_keys 1488 sp_froms_keys, aI g a_sp_froms_sizes 248 sp_froms_sizes, aJ g a_sp_cents 1488 sp_cents, (a_rt, .inr (2, [.ref a_rt_days, .ref a_rt_aboves, .ref a_rt_belows, .ref a_rt_aboveNow, .ref a_rt_belowNow])), (a_rt_days, .inr (0, [.ref a_rt_days_keys, .ref a_rt_days_sizes])), aJ g a_rt_days_keys 48 rt_days_keys, aI g a_rt_days_sizes 8 rt_days_sizes, aJ g a_rt_aboves 48 rt_aboves, aJ g a_rt_belows 48 rt_belows, aJ g a_rt_aboveNow 8 u2, aJ g a_rt_belowNow 8 u3, (a_yl, .inr (4, [.ref a_yl_aboves, .ref a_yl_belows, .int yl_count])), aJ g a_yl_aboves 8 yl_aboves, aJ g a_yl_belows 8 yl_belows, (a_dr, .inr (1, [.ref a_dr_costs, .ref a_dr_pieces, .ref a_dr_makers, .ref a_dr_parts, .int u4])), aJ g a_dr_costs 33 u5, aI g a_dr_pieces 33 u6, aI g a_dr_makers 33 u7, aI g a_dr_parts 33 u8] [(6, .long r1), (0, .ref a_t), (1, .long quantity), (3, .int maker), (4, .long day)] [.int r9] 18 0 0
  have J36 : ∀ (v10 : Int32) (f11 : Nat → Int64) (f12 : Nat → Int32) (f13 : Nat → Int32) (f14 : Nat → Int32), wp_C_draw_J36 u2 u3 u4 Q v10 f11 f12 f13 f14 → ST g C [(a_t, .inr (5, [.ref a_used, .ref a_stock, .ref a_alts, .ref a_asm, .ref a_placed, .ref a_sp, .ref a_rt, .ref a_yl, .int partCount, .long tooling, .ref a_dr, .ref a_la, .ref a_be])), aJ g a_used 30 used, aJ g a_stock 30 stock, aI g a_alts 30 alts, aJ g a_asm 8 asm, aJ g a_placed 8 placed, (a_sp, .inr (3, [.ref a_sp_froms, .ref a_sp_cents])), (a_sp_froms, .inr (0, [.ref a_sp_froms_keys, .ref a_sp_froms_sizes])), aJ g a_sp_froms_keys 1488 sp_froms_keys, aI g a_sp_froms_sizes 248 sp_froms_sizes, aJ g a_sp_cents 1488 sp_cents, (a_rt, .inr (2, [.ref a_rt_days, .ref a_rt_aboves, .ref a_rt_belows, .ref a_rt_aboveNow, .ref a_rt_belowNow])), (a_rt_days, .inr (0, [.ref a_rt_days_keys, .ref a_rt_days_sizes])), aJ g a_rt_days_keys 48 rt_days_keys, aI g a_rt_days_sizes 8 rt_days_sizes, aJ g a_rt_aboves 48 rt_aboves, aJ g a_rt_belows 48 rt_belows, aJ g a_rt_aboveNow 8 u2, aJ g a_rt_belowNow 8 u3, (a_yl, .inr (4, [.ref a_yl_aboves, .ref a_yl_belows, .int yl_count])), aJ g a_yl_aboves 8 yl_aboves, aJ g a_yl_belows 8 yl_belows, (a_dr, .inr (1, [.ref a_dr_costs, .ref a_dr_pieces, .ref a_dr_makers, .ref a_dr_parts, .int u4])), aJ g a_dr_costs 33 f11, aI g a_dr_pieces 33 f12, aI g a_dr_makers 33 f13, aI g a_dr_parts 33 f14] [(0, .ref a_t), (1, .long quantity), (3, .int maker), (4, .long day), (6, .long r1)] [.int v10] 36 0 0 := by
    intro v10 f11 f12 f13 f14 hw
    unfold wp_C_draw_J36 at hw
    obtain ⟨hz, hw⟩ := hw
    exact st_zret X hr (u2, u3, u4, f11, f12, f13, f14) hw hz rfl (by decide) (by decide) d_C_draw_36
  have J35 : ∀ (f15 : Nat → Int64) (f16 : Nat → Int32) (f17 : Nat → Int32) (f18 : Nat → Int32), wp_C_draw_J35 u2 u3 u4 Q f15 f16 f17 f18 → ST g C [(a_t, .inr (5, [.ref a_used, .ref a_stock, .ref a_alts, .ref a_asm, .ref a_placed, .ref a_sp, .ref a_rt, .ref a_yl, .int partCount, .long tooling, .ref a_dr, .ref a_la, .ref a_be])), aJ g a_used 30 used, aJ g a_stock 30 stock, aI g a_alts 30 alts, aJ g a_asm 8 asm, aJ g a_placed 8 placed, (a_sp, .inr (3, [.ref a_sp_froms, .ref a_sp_cents])), (a_sp_froms, .inr (0, [.ref a_sp_froms_keys, .ref a_sp_froms_sizes])), aJ g a_sp_froms_keys 1488 sp_froms_keys, aI g a_sp_froms_sizes 248 sp_froms_sizes, aJ g a_sp_cents 1488 sp_cents, (a_rt, .inr (2, [.ref a_rt_days, .ref a_rt_aboves, .ref a_rt_belows, .ref a_rt_aboveNow, .ref a_rt_belowNow])), (a_rt_days, .inr (0, [.ref a_rt_days_keys, .ref a_rt_days_sizes])), aJ g a_rt_days_keys 48 rt_days_keys, aI g a_rt_days_sizes 8 rt_days_sizes, aJ g a_rt_aboves 48 rt_aboves, aJ g a_rt_belows 48 rt_belows, aJ g a_rt_aboveNow 8 u2, aJ g a_rt_belowNow 8 u3, (a_yl, .inr (4, [.ref a_yl_aboves, .ref a_yl_belows, .int yl_count])), aJ g a_yl_aboves 8 yl_aboves, aJ g a_yl_belows 8 yl_belows, (a_dr, .inr (1, [.ref a_dr_costs, .ref a_dr_pieces, .ref a_dr_makers, .ref a_dr_parts, .int u4])), aJ g a_dr_costs 33 f15, aI g a_dr_pieces 33 f16, aI g a_dr_makers 33 f17, aI g a_dr_parts 33 f18] [(0, .ref a_t), (1, .long quantity), (3, .int maker), (4, .long day), (6, .long r1)] [] 35 0 0 := by
    intro f15 f16 f17 f18 hw
    unfold wp_C_draw_J35 at hw
    refine st_iconst X (v := 0) d_C_draw_35 (by decide) ?_
    refine st_lv [0, 1, 2, 3, 4] rfl ?_
    exact J36 0 f15 f16 f17 f18 hw
  refine st_if_eq X 35 d_C_draw_18 (by decide) (fun hc => ?_) (fun hc => ?_)
  · replace hw := hw.1 hc
    refine st_lv [1, 2, 3, 4, 0] rfl ?_
    exact J35 u5 u6 u7 u8 hw
  · replace hw := hw.2 hc
    refine st_aload_n X 1 d_C_draw_21 rfl rfl ?_
    refine st_lload X 0 d_C_draw_22 rfl ?_
    refine st_iload_n X 3 d_C_draw_24 rfl rfl ?_
    have hR := rn_V (pc := 25) (k := 0) (n := 0) (As := [.long r1, .int maker]) (rest := []) X (k_C_drawBoards g hg a_t r1 maker a_used a_stock a_alts a_asm a_placed a_sp a_rt a_yl partCount tooling a_dr a_la a_be a_sp_froms a_sp_cents a_sp_froms_keys a_sp_froms_sizes sp_froms_keys sp_froms_sizes sp_cents a_rt_days a_rt_aboves a_rt_belows a_rt_aboveNow a_rt_belowNow u2 u3 a_dr_costs a_dr_pieces a_dr_makers a_dr_parts u4 u5 u6 u7 u8 _ hw) (q0 := 0) rfl rfl wm_C_126 wi_C_drawBoards wl_C_drawBoards wz_C wc_C_drawBoards h9_C_drawBoards ⟨by decide, by decide⟩ (Nat.le_of_ble_eq_true rfl) ⟨by decide, by decide⟩ d_C_draw_25
    refine st_calli X hR [0, 6, 7, 8, 9, 10, 11, 17, 18, 22, 23, 24, 25, 26] [1, 2, 3, 4, 5, 12, 13, 14, 15, 16, 19, 20, 21] (wr := [aJ g a_used 30 used, aJ g a_stock 30 stock, aI g a_alts 30 alts, aJ g a_asm 8 asm, aJ g a_placed 8 placed, (a_rt_days, .inr (0, [.ref a_rt_days_keys, .ref a_rt_days_sizes])), aJ g a_rt_days_keys 48 rt_days_keys, aI g a_rt_days_sizes 8 rt_days_sizes, aJ g a_rt_aboves 48 rt_aboves, aJ g a_rt_belows 48 rt_belows, (a_yl, .inr (4, [.ref a_yl_aboves, .ref a_yl_belows, .int yl_count])), aJ g a_yl_aboves 8 yl_aboves, aJ g a_yl_belows 8 yl_belows]) rfl rfl (by decide) (by decide) (by decide) (fun r23 u9 hw => ?_)
    obtain ⟨u19, u20, u21, u22⟩ := u9
    try dsimp only at hw
    refine st_widen (k2 := 0) (n2 := 0) (by decide) (by decide) ?_
    refine st_perm (ws2 := [(a_t, .inr (5, [.ref a_used, .ref a_stock, .ref a_alts, .ref a_asm, .ref a_placed, .ref a_sp, .ref a_rt, .ref a_yl, .int partCount, .long tooling, .ref a_dr, .ref a_la, .ref a_be])), aJ g a_used 30 used, aJ g a_stock 30 stock, aI g a_alts 30 alts, aJ g a_asm 8 asm, aJ g a_placed 8 placed, (a_sp, .inr (3, [.ref a_sp_froms, .ref a_sp_cents])), (a_sp_froms, .inr (0, [.ref a_sp_froms_keys, .ref a_sp_froms_sizes])), aJ g a_sp_froms_keys 1488 sp_froms_keys, aI g a_sp_froms_sizes 248 sp_froms_sizes, aJ g a_sp_cents 1488 sp_cents, (a_rt, .inr (2, [.ref a_rt_days, .ref a_rt_aboves, .ref a_rt_belows, .ref a_rt_aboveNow, .ref a_rt_belowNow])), (a_rt_days, .inr (0, [.ref a_rt_days_keys, .ref a_rt_days_sizes])), aJ g a_rt_days_keys 48 rt_days_keys, aI g a_rt_days_sizes 8 rt_days_sizes, aJ g a_rt_aboves 48 rt_aboves, aJ g a_rt_belows 48 rt_belows, aJ g a_rt_aboveNow 8 u2, aJ g a_rt_belowNow 8 u3, (a_yl, .inr (4, [.ref a_yl_aboves, .ref a_yl_belows, .int yl_count])), aJ g a_yl_aboves 8 yl_aboves, aJ g a_yl_belows 8 yl_belows, (a_dr, .inr (1, [.ref a_dr_costs, .ref a_dr_pieces, .ref a_dr_makers, .ref a_dr_parts, .int u4])), aJ g a_dr_costs 33 u19, aI g a_dr_pieces 33 u20, aI g a_dr_makers 33 u21, aI g a_dr_parts 33 u22]) [13, 0, 1, 2, 3, 4, 14, 15, 16, 17, 18, 19, 5, 6, 7, 8, 9, 20, 21, 10, 11, 12, 22, 23, 24, 25, 26] rfl (by decide) ?_
    show ST g C [(a_t, .inr (5, [.ref a_used, .ref a_stock, .ref a_alts, .ref a_asm, .ref a_placed, .ref a_sp, .ref a_rt, .ref a_yl, .int partCount, .long tooling, .ref a_dr, .ref a_la, .ref a_be])), aJ g a_used 30 used, aJ g a_stock 30 stock, aI g a_alts 30 alts, aJ g a_asm 8 asm, aJ g a_placed 8 placed, (a_sp, .inr (3, [.ref a_sp_froms, .ref a_sp_cents])), (a_sp_froms, .inr (0, [.ref a_sp_froms_keys, .ref a_sp_froms_sizes])), aJ g a_sp_froms_keys 1488 sp_froms_keys, aI g a_sp_froms_sizes 248 sp_froms_sizes, aJ g a_sp_cents 1488 sp_cents, (a_rt, .inr (2, [.ref a_rt_days, .ref a_rt_aboves, .ref a_rt_belows, .ref a_rt_aboveNow, .ref a_rt_belowNow])), (a_rt_days, .inr (0, [.ref a_rt_days_keys, .ref a_rt_days_sizes])), aJ g a_rt_days_keys 48 rt_days_keys, aI g a_rt_days_sizes 8 rt_days_sizes, aJ g a_rt_aboves 48 rt_aboves, aJ g a_rt_belows 48 rt_belows, aJ g a_rt_aboveNow 8 u2, aJ g a_rt_belowNow 8 u3, (a_yl, .inr (4, [.ref a_yl_aboves, .ref a_yl_belows, .int yl_count])), aJ g a_yl_aboves 8 yl_aboves, aJ g a_yl_belows 8 yl_belows, (a_dr, .inr (1, [.ref a_dr_costs, .ref a_dr_pieces, .ref a_dr_makers, .ref a_dr_parts, .int u4])), aJ g a_dr_costs 33 u19, aI g a_dr_pieces 33 u20, aI g a_dr_makers 33 u21, aI g a_dr_parts 33 u22] [(6, .long r1), (0, .ref a_t), (1, .long quantity), (3, .int maker), (4, .long day)] [.int r23] 28 0 0
    refine st_if_eq X 35 d_C_draw_28 (by decide) (fun hc => ?_) (fun hc => ?_)
    · replace hw := hw.1 hc
      refine st_lv [1, 2, 3, 4, 0] rfl ?_
      exact J35 u19 u20 u21 u22 hw
    · replace hw := hw.2 hc
      refine st_iconst X (v := 1) d_C_draw_31 (by decide) ?_
      refine st_goto X 36 d_C_draw_32 (by decide) ?_
      refine st_lv [1, 2, 3, 4, 0] rfl ?_
      exact J36 1 u19 u20 u21 u22 hw
end
