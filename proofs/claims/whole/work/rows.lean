section
-- ===== PART A: goes FIRST, ahead of the names: the tables' words, and 'selects' of the private methods out of them =====
/-- a private method of a class that the tables say can be made, by its rows of tables_1 -/
def lw_okq (q : MethodName × Nat) : Prop := (q.1.cls ≠ "java/lang/invoke/MethodHandle" ∧ q.1.cls ≠ "java/lang/invoke/VarHandle") ∧ Cond.instantiable q.1.cls q.2 ∈ tables_1 ∧ Cond.privateMethod q.1 ∈ tables_1 ∧ Cond.instanceMethod q.1 ∈ tables_1
theorem lw_p0 : lw_okq (⟨"java/lang/Throwable", "fillInStackTrace", "(I)Ljava/lang/Throwable;"⟩, 6) := ⟨⟨by decide +kernel, by decide +kernel⟩, List.mem_of_getElem? (i := 222) (by decide +kernel), List.mem_of_getElem? (i := 220) (by decide +kernel), List.mem_of_getElem? (i := 221) (by decide +kernel)⟩
theorem lw_p1 : lw_okq (⟨"CostSteps$Steps", "tell", "(IIJJ)Z"⟩, 2) := ⟨⟨by decide +kernel, by decide +kernel⟩, List.mem_of_getElem? (i := 24) (by decide +kernel), List.mem_of_getElem? (i := 276) (by decide +kernel), List.mem_of_getElem? (i := 277) (by decide +kernel)⟩
theorem lw_p2 : lw_okq (⟨"CostSteps$KeyLists", "slotFor", "(IJ)I"⟩, 2) := ⟨⟨by decide +kernel, by decide +kernel⟩, List.mem_of_getElem? (i := 30) (by decide +kernel), List.mem_of_getElem? (i := 280) (by decide +kernel), List.mem_of_getElem? (i := 281) (by decide +kernel)⟩
theorem lw_p3 : lw_okq (⟨"CostSteps$KeyLists", "endSlot", "(I)I"⟩, 2) := ⟨⟨by decide +kernel, by decide +kernel⟩, List.mem_of_getElem? (i := 30) (by decide +kernel), List.mem_of_getElem? (i := 284) (by decide +kernel), List.mem_of_getElem? (i := 285) (by decide +kernel)⟩
theorem lw_p4 : lw_okq (⟨"CostSteps$KeyLists", "firstSlot", "(I)I"⟩, 2) := ⟨⟨by decide +kernel, by decide +kernel⟩, List.mem_of_getElem? (i := 30) (by decide +kernel), List.mem_of_getElem? (i := 288) (by decide +kernel), List.mem_of_getElem? (i := 289) (by decide +kernel)⟩
theorem lw_p5 : lw_okq (⟨"CostSteps$Yields", "add", "(JJ)Z"⟩, 3) := ⟨⟨by decide +kernel, by decide +kernel⟩, List.mem_of_getElem? (i := 82) (by decide +kernel), List.mem_of_getElem? (i := 336) (by decide +kernel), List.mem_of_getElem? (i := 337) (by decide +kernel)⟩
theorem lw_p6 : lw_okq (⟨"CostSteps$Rates", "tell", "(IJJJ)Z"⟩, 5) := ⟨⟨by decide +kernel, by decide +kernel⟩, List.mem_of_getElem? (i := 58) (by decide +kernel), List.mem_of_getElem? (i := 347) (by decide +kernel), List.mem_of_getElem? (i := 348) (by decide +kernel)⟩
theorem lw_p7 : lw_okq (⟨"CostSteps", "draw", "(JIJ)Z"⟩, 13) := ⟨⟨by decide +kernel, by decide +kernel⟩, List.mem_of_getElem? (i := 16) (by decide +kernel), List.mem_of_getElem? (i := 374) (by decide +kernel), List.mem_of_getElem? (i := 375) (by decide +kernel)⟩
theorem lw_p8 : lw_okq (⟨"CostSteps$Yields", "startedFor", "(J)J"⟩, 3) := ⟨⟨by decide +kernel, by decide +kernel⟩, List.mem_of_getElem? (i := 82) (by decide +kernel), List.mem_of_getElem? (i := 378) (by decide +kernel), List.mem_of_getElem? (i := 379) (by decide +kernel)⟩
theorem lw_p9 : lw_okq (⟨"CostSteps", "drawAllButBoards", "(JJ)Z"⟩, 13) := ⟨⟨by decide +kernel, by decide +kernel⟩, List.mem_of_getElem? (i := 16) (by decide +kernel), List.mem_of_getElem? (i := 386) (by decide +kernel), List.mem_of_getElem? (i := 387) (by decide +kernel)⟩
theorem lw_p10 : lw_okq (⟨"CostSteps$Quote", "begin", "(I)V"⟩, 5) := ⟨⟨by decide +kernel, by decide +kernel⟩, List.mem_of_getElem? (i := 98) (by decide +kernel), List.mem_of_getElem? (i := 390) (by decide +kernel), List.mem_of_getElem? (i := 391) (by decide +kernel)⟩
theorem lw_p11 : lw_okq (⟨"CostSteps$Quote", "clearRow", "(I)V"⟩, 5) := ⟨⟨by decide +kernel, by decide +kernel⟩, List.mem_of_getElem? (i := 98) (by decide +kernel), List.mem_of_getElem? (i := 394) (by decide +kernel), List.mem_of_getElem? (i := 395) (by decide +kernel)⟩
theorem lw_p12 : lw_okq (⟨"CostSteps$Rates", "turnTo", "(J)V"⟩, 5) := ⟨⟨by decide +kernel, by decide +kernel⟩, List.mem_of_getElem? (i := 58) (by decide +kernel), List.mem_of_getElem? (i := 398) (by decide +kernel), List.mem_of_getElem? (i := 399) (by decide +kernel)⟩
theorem lw_p13 : lw_okq (⟨"CostSteps$Rates", "latestSlot", "(IJ)I"⟩, 5) := ⟨⟨by decide +kernel, by decide +kernel⟩, List.mem_of_getElem? (i := 58) (by decide +kernel), List.mem_of_getElem? (i := 402) (by decide +kernel), List.mem_of_getElem? (i := 403) (by decide +kernel)⟩
theorem lw_p14 : lw_okq (⟨"CostSteps", "assemblyCost", "(J)J"⟩, 13) := ⟨⟨by decide +kernel, by decide +kernel⟩, List.mem_of_getElem? (i := 16) (by decide +kernel), List.mem_of_getElem? (i := 408) (by decide +kernel), List.mem_of_getElem? (i := 409) (by decide +kernel)⟩
theorem lw_p15 : lw_okq (⟨"CostSteps", "drawPart", "(IJ)Z"⟩, 13) := ⟨⟨by decide +kernel, by decide +kernel⟩, List.mem_of_getElem? (i := 16) (by decide +kernel), List.mem_of_getElem? (i := 413) (by decide +kernel), List.mem_of_getElem? (i := 414) (by decide +kernel)⟩
def lw_privs_1 : List (MethodName × Nat) := [(⟨"java/lang/Throwable", "fillInStackTrace", "(I)Ljava/lang/Throwable;"⟩, 6), (⟨"CostSteps$Steps", "tell", "(IIJJ)Z"⟩, 2), (⟨"CostSteps$KeyLists", "slotFor", "(IJ)I"⟩, 2), (⟨"CostSteps$KeyLists", "endSlot", "(I)I"⟩, 2), (⟨"CostSteps$KeyLists", "firstSlot", "(I)I"⟩, 2), (⟨"CostSteps$Yields", "add", "(JJ)Z"⟩, 3), (⟨"CostSteps$Rates", "tell", "(IJJJ)Z"⟩, 5), (⟨"CostSteps", "draw", "(JIJ)Z"⟩, 13), (⟨"CostSteps$Yields", "startedFor", "(J)J"⟩, 3), (⟨"CostSteps", "drawAllButBoards", "(JJ)Z"⟩, 13), (⟨"CostSteps$Quote", "begin", "(I)V"⟩, 5), (⟨"CostSteps$Quote", "clearRow", "(I)V"⟩, 5), (⟨"CostSteps$Rates", "turnTo", "(J)V"⟩, 5), (⟨"CostSteps$Rates", "latestSlot", "(IJ)I"⟩, 5), (⟨"CostSteps", "assemblyCost", "(J)J"⟩, 13), (⟨"CostSteps", "drawPart", "(IJ)Z"⟩, 13)]
theorem lw_r1 : ∀ q ∈ lw_privs_1, lw_okq q := List.forall_mem_cons.mpr ⟨lw_p0, List.forall_mem_cons.mpr ⟨lw_p1, List.forall_mem_cons.mpr ⟨lw_p2, List.forall_mem_cons.mpr ⟨lw_p3, List.forall_mem_cons.mpr ⟨lw_p4, List.forall_mem_cons.mpr ⟨lw_p5, List.forall_mem_cons.mpr ⟨lw_p6, List.forall_mem_cons.mpr ⟨lw_p7, List.forall_mem_cons.mpr ⟨lw_p8, List.forall_mem_cons.mpr ⟨lw_p9, List.forall_mem_cons.mpr ⟨lw_p10, List.forall_mem_cons.mpr ⟨lw_p11, List.forall_mem_cons.mpr ⟨lw_p12, List.forall_mem_cons.mpr ⟨lw_p13, List.forall_mem_cons.mpr ⟨lw_p14, List.forall_mem_cons.mpr ⟨lw_p15, fun _ h => absurd h List.not_mem_nil⟩⟩⟩⟩⟩⟩⟩⟩⟩⟩⟩⟩⟩⟩⟩⟩
theorem lw_p16 : lw_okq (⟨"CostSteps", "mayStandIn", "(II)Z"⟩, 13) := ⟨⟨by decide +kernel, by decide +kernel⟩, List.mem_of_getElem? (i := 16) (by decide +kernel), List.mem_of_getElem? (i := 417) (by decide +kernel), List.mem_of_getElem? (i := 418) (by decide +kernel)⟩
theorem lw_p17 : lw_okq (⟨"CostSteps", "offerSteps", "(IJII)V"⟩, 13) := ⟨⟨by decide +kernel, by decide +kernel⟩, List.mem_of_getElem? (i := 16) (by decide +kernel), List.mem_of_getElem? (i := 421) (by decide +kernel), List.mem_of_getElem? (i := 422) (by decide +kernel)⟩
theorem lw_p18 : lw_okq (⟨"CostSteps$Steps", "endSlot", "(II)I"⟩, 2) := ⟨⟨by decide +kernel, by decide +kernel⟩, List.mem_of_getElem? (i := 24) (by decide +kernel), List.mem_of_getElem? (i := 425) (by decide +kernel), List.mem_of_getElem? (i := 426) (by decide +kernel)⟩
theorem lw_p19 : lw_okq (⟨"CostSteps$Steps", "firstSlot", "(II)I"⟩, 2) := ⟨⟨by decide +kernel, by decide +kernel⟩, List.mem_of_getElem? (i := 24) (by decide +kernel), List.mem_of_getElem? (i := 430) (by decide +kernel), List.mem_of_getElem? (i := 431) (by decide +kernel)⟩
theorem lw_p20 : lw_okq (⟨"CostSteps$Steps", "fromAt", "(I)J"⟩, 2) := ⟨⟨by decide +kernel, by decide +kernel⟩, List.mem_of_getElem? (i := 24) (by decide +kernel), List.mem_of_getElem? (i := 435) (by decide +kernel), List.mem_of_getElem? (i := 436) (by decide +kernel)⟩
theorem lw_p21 : lw_okq (⟨"CostSteps$Rates", "exchange", "(IJ)J"⟩, 5) := ⟨⟨by decide +kernel, by decide +kernel⟩, List.mem_of_getElem? (i := 58) (by decide +kernel), List.mem_of_getElem? (i := 442) (by decide +kernel), List.mem_of_getElem? (i := 443) (by decide +kernel)⟩
theorem lw_p22 : lw_okq (⟨"CostSteps$Quote", "consider", "(IJIII)V"⟩, 5) := ⟨⟨by decide +kernel, by decide +kernel⟩, List.mem_of_getElem? (i := 98) (by decide +kernel), List.mem_of_getElem? (i := 447) (by decide +kernel), List.mem_of_getElem? (i := 448) (by decide +kernel)⟩
theorem lw_p23 : lw_okq (⟨"CostSteps$Quote", "isBought", "(I)Z"⟩, 5) := ⟨⟨by decide +kernel, by decide +kernel⟩, List.mem_of_getElem? (i := 98) (by decide +kernel), List.mem_of_getElem? (i := 451) (by decide +kernel), List.mem_of_getElem? (i := 452) (by decide +kernel)⟩
theorem lw_p24 : lw_okq (⟨"CostSteps$Quote", "isBetter", "(IJIII)Z"⟩, 5) := ⟨⟨by decide +kernel, by decide +kernel⟩, List.mem_of_getElem? (i := 98) (by decide +kernel), List.mem_of_getElem? (i := 455) (by decide +kernel), List.mem_of_getElem? (i := 456) (by decide +kernel)⟩
theorem lw_p25 : lw_okq (⟨"CostSteps", "drawBoards", "(JI)Z"⟩, 13) := ⟨⟨by decide +kernel, by decide +kernel⟩, List.mem_of_getElem? (i := 16) (by decide +kernel), List.mem_of_getElem? (i := 460) (by decide +kernel), List.mem_of_getElem? (i := 461) (by decide +kernel)⟩
theorem lw_p26 : lw_okq (⟨"CostSteps", "keepDraft", "()V"⟩, 13) := ⟨⟨by decide +kernel, by decide +kernel⟩, List.mem_of_getElem? (i := 16) (by decide +kernel), List.mem_of_getElem? (i := 466) (by decide +kernel), List.mem_of_getElem? (i := 467) (by decide +kernel)⟩
theorem lw_p27 : lw_okq (⟨"CostSteps$Quote", "sum", "()J"⟩, 5) := ⟨⟨by decide +kernel, by decide +kernel⟩, List.mem_of_getElem? (i := 98) (by decide +kernel), List.mem_of_getElem? (i := 470) (by decide +kernel), List.mem_of_getElem? (i := 471) (by decide +kernel)⟩
theorem lw_p28 : lw_okq (⟨"CostSteps$Quote", "makersBoughtOf", "()I"⟩, 5) := ⟨⟨by decide +kernel, by decide +kernel⟩, List.mem_of_getElem? (i := 98) (by decide +kernel), List.mem_of_getElem? (i := 481) (by decide +kernel), List.mem_of_getElem? (i := 482) (by decide +kernel)⟩
theorem lw_p29 : lw_okq (⟨"CostStepsModel", "isPart", "(I)Z"⟩, 31) := ⟨⟨by decide +kernel, by decide +kernel⟩, List.mem_of_getElem? (i := 520) (by decide +kernel), List.mem_of_getElem? (i := 637) (by decide +kernel), List.mem_of_getElem? (i := 638) (by decide +kernel)⟩
theorem lw_p30 : lw_okq (⟨"CostStepsModel", "tellStep", "(IJJ)Z"⟩, 31) := ⟨⟨by decide +kernel, by decide +kernel⟩, List.mem_of_getElem? (i := 520) (by decide +kernel), List.mem_of_getElem? (i := 644) (by decide +kernel), List.mem_of_getElem? (i := 645) (by decide +kernel)⟩
theorem lw_p31 : lw_okq (⟨"CostStepsModel", "refusal", "(JI)I"⟩, 31) := ⟨⟨by decide +kernel, by decide +kernel⟩, List.mem_of_getElem? (i := 520) (by decide +kernel), List.mem_of_getElem? (i := 693) (by decide +kernel), List.mem_of_getElem? (i := 694) (by decide +kernel)⟩
def lw_privs_2 : List (MethodName × Nat) := [(⟨"CostSteps", "mayStandIn", "(II)Z"⟩, 13), (⟨"CostSteps", "offerSteps", "(IJII)V"⟩, 13), (⟨"CostSteps$Steps", "endSlot", "(II)I"⟩, 2), (⟨"CostSteps$Steps", "firstSlot", "(II)I"⟩, 2), (⟨"CostSteps$Steps", "fromAt", "(I)J"⟩, 2), (⟨"CostSteps$Rates", "exchange", "(IJ)J"⟩, 5), (⟨"CostSteps$Quote", "consider", "(IJIII)V"⟩, 5), (⟨"CostSteps$Quote", "isBought", "(I)Z"⟩, 5), (⟨"CostSteps$Quote", "isBetter", "(IJIII)Z"⟩, 5), (⟨"CostSteps", "drawBoards", "(JI)Z"⟩, 13), (⟨"CostSteps", "keepDraft", "()V"⟩, 13), (⟨"CostSteps$Quote", "sum", "()J"⟩, 5), (⟨"CostSteps$Quote", "makersBoughtOf", "()I"⟩, 5), (⟨"CostStepsModel", "isPart", "(I)Z"⟩, 31), (⟨"CostStepsModel", "tellStep", "(IJJ)Z"⟩, 31), (⟨"CostStepsModel", "refusal", "(JI)I"⟩, 31)]
theorem lw_r2 : ∀ q ∈ lw_privs_2, lw_okq q := List.forall_mem_cons.mpr ⟨lw_p16, List.forall_mem_cons.mpr ⟨lw_p17, List.forall_mem_cons.mpr ⟨lw_p18, List.forall_mem_cons.mpr ⟨lw_p19, List.forall_mem_cons.mpr ⟨lw_p20, List.forall_mem_cons.mpr ⟨lw_p21, List.forall_mem_cons.mpr ⟨lw_p22, List.forall_mem_cons.mpr ⟨lw_p23, List.forall_mem_cons.mpr ⟨lw_p24, List.forall_mem_cons.mpr ⟨lw_p25, List.forall_mem_cons.mpr ⟨lw_p26, List.forall_mem_cons.mpr ⟨lw_p27, List.forall_mem_cons.mpr ⟨lw_p28, List.forall_mem_cons.mpr ⟨lw_p29, List.forall_mem_cons.mpr ⟨lw_p30, List.forall_mem_cons.mpr ⟨lw_p31, fun _ h => absurd h List.not_mem_nil⟩⟩⟩⟩⟩⟩⟩⟩⟩⟩⟩⟩⟩⟩⟩⟩
theorem lw_p32 : lw_okq (⟨"CostStepsModel", "reckon", "(JIJ)V"⟩, 31) := ⟨⟨by decide +kernel, by decide +kernel⟩, List.mem_of_getElem? (i := 520) (by decide +kernel), List.mem_of_getElem? (i := 700) (by decide +kernel), List.mem_of_getElem? (i := 701) (by decide +kernel)⟩
theorem lw_p33 : lw_okq (⟨"CostStepsModel", "started", "(J)J"⟩, 31) := ⟨⟨by decide +kernel, by decide +kernel⟩, List.mem_of_getElem? (i := 520) (by decide +kernel), List.mem_of_getElem? (i := 704) (by decide +kernel), List.mem_of_getElem? (i := 705) (by decide +kernel)⟩
theorem lw_p34 : lw_okq (⟨"CostStepsModel", "offer", "(IIIJJ)V"⟩, 31) := ⟨⟨by decide +kernel, by decide +kernel⟩, List.mem_of_getElem? (i := 520) (by decide +kernel), List.mem_of_getElem? (i := 711) (by decide +kernel), List.mem_of_getElem? (i := 712) (by decide +kernel)⟩
theorem lw_p35 : lw_okq (⟨"CostStepsModel", "rateOf", "(IJ)I"⟩, 31) := ⟨⟨by decide +kernel, by decide +kernel⟩, List.mem_of_getElem? (i := 520) (by decide +kernel), List.mem_of_getElem? (i := 715) (by decide +kernel), List.mem_of_getElem? (i := 716) (by decide +kernel)⟩
theorem lw_p36 : lw_okq (⟨"CostStepsModel", "buyPart", "(IJJ)V"⟩, 31) := ⟨⟨by decide +kernel, by decide +kernel⟩, List.mem_of_getElem? (i := 520) (by decide +kernel), List.mem_of_getElem? (i := 719) (by decide +kernel), List.mem_of_getElem? (i := 720) (by decide +kernel)⟩
theorem lw_p37 : lw_okq (⟨"CostStepsModel", "makersNow", "()I"⟩, 31) := ⟨⟨by decide +kernel, by decide +kernel⟩, List.mem_of_getElem? (i := 520) (by decide +kernel), List.mem_of_getElem? (i := 728) (by decide +kernel), List.mem_of_getElem? (i := 729) (by decide +kernel)⟩
def lw_privs_3 : List (MethodName × Nat) := [(⟨"CostStepsModel", "reckon", "(JIJ)V"⟩, 31), (⟨"CostStepsModel", "started", "(J)J"⟩, 31), (⟨"CostStepsModel", "offer", "(IIIJJ)V"⟩, 31), (⟨"CostStepsModel", "rateOf", "(IJ)I"⟩, 31), (⟨"CostStepsModel", "buyPart", "(IJJ)V"⟩, 31), (⟨"CostStepsModel", "makersNow", "()I"⟩, 31)]
theorem lw_r3 : ∀ q ∈ lw_privs_3, lw_okq q := List.forall_mem_cons.mpr ⟨lw_p32, List.forall_mem_cons.mpr ⟨lw_p33, List.forall_mem_cons.mpr ⟨lw_p34, List.forall_mem_cons.mpr ⟨lw_p35, List.forall_mem_cons.mpr ⟨lw_p36, List.forall_mem_cons.mpr ⟨lw_p37, fun _ h => absurd h List.not_mem_nil⟩⟩⟩⟩⟩⟩
def lw_privs : List (MethodName × Nat) := lw_privs_1 ++ (lw_privs_2 ++ (lw_privs_3))
def lw_tbl : List Cond := k2_sels lw_privs ++ tables_1
theorem lw_privs_ok : ∀ q ∈ lw_privs, lw_okq q := by
  show ∀ q ∈ lw_privs_1 ++ (lw_privs_2 ++ (lw_privs_3)), lw_okq q
  exact List.forall_mem_append.mpr ⟨lw_r1, List.forall_mem_append.mpr ⟨lw_r2, lw_r3⟩⟩
end
section
/-! ===== BEGIN words of one list among another's, by their places ===== -/
theorem goodIn_r {big : List Cond} (ws : List Cond) (ps : List Nat) (hp : ws = ps.filterMap (fun i => big[i]?)) (h : ws.all goodWord = true) : GoodIn big ws := by
  intro w hw
  have h1 := List.all_eq_true.mp h w hw
  rw [hp] at hw
  obtain ⟨i, -, hi⟩ := List.mem_filterMap.mp hw
  have hm : w ∈ big := by first | exact List.mem_of_getElem? hi | exact List.getElem?_mem hi
  exact ⟨hm, good_of_word h1⟩
theorem goodIn_app {big a b : List Cond} (ha : GoodIn big a) (hb : GoodIn big b) : GoodIn big (a ++ b) := fun w h => (List.mem_append.mp h).elim (ha w) (hb w)
theorem goodIn_ca {big a b : List Cond} {c : Cond} (ha : GoodIn big (c :: a)) (hb : GoodIn big b) : GoodIn big (c :: (a ++ b)) := fun w h => (List.mem_cons.mp h).elim (fun e => ha w (List.mem_cons.mpr (Or.inl e))) (fun h => (List.mem_append.mp h).elim (fun h => ha w (List.mem_cons.mpr (Or.inr h))) (hb w))
theorem goodIn_sub {big ws : List Cond} (hm : ∀ w ∈ ws, w ∈ big) (h : ws.all goodWord = true) : GoodIn big ws := fun w hw => ⟨hm w hw, good_of_word (List.all_eq_true.mp h w hw)⟩
/-! ===== END ===== -/

/-! ===== BEGIN exceptions that leave a method, and their catching by the caller (launches without stack traces) ===== -/
section VXA
/-! The laws vx_back, vx_callV, vx_callS, vx_callSW, vx_throw0, vx_throwS follow proofs of the library, with one case more: JvmDerived/Free/Laws.lean (Back.of_free), Shelf42/LK1.lean (callV, callS), Shelf/KitTraced.lean (throwNew0V, throwNewS). -/
/-- where a method has thrown q: the class by its name, the cell, what was written, the world -/
def vx_T (XC : String → State → State → Prop) (st : State) (q : Addr) (t : State) (mc ms : Nat) (free : Addr → Prop) : Prop :=
  ∃ (E : String) (ce : Cell) (L : List Loc), XC E st t ∧ t.heap[q]? = some ce ∧ ce.vm = .none ∧ st.vm.findClass E = some ce.cls ∧ st.WarmedH t.vm ∧ st.sameButNew ({ t with vm := st.vm } : State) L mc ms ∧ ∀ z ∈ L, free z.base
def vx_Q (Qc : Array Value → State → Outcome → State → Prop) (XC : String → State → State → Prop) (mc ms : Nat) (free : Addr → Prop) : Array Value → State → Outcome → State → Prop := fun a st o t =>
  (Qc a st o t ∧ ∃ L, FrameEnd st o t L mc ms ∧ ∀ q ∈ L, free q.base) ∨ ∃ q, o = .threw q ∧ vx_T XC st q t mc ms free
/-- a callee that returns or throws -/
def vx_Met (l : Launch) (y : MethodName) (ws : List Cond) (rm : Room) (Pc : Array Value → State → Prop) (Qc : Array Value → State → Outcome → State → Prop) (XC : String → State → State → Prop) (mc ms : Nat) (free : Addr → Prop) : Prop :=
  MetFree l y (headSpec ws rm) Pc (fun _ _ _ _ _ => True) (vx_Q Qc XC mc ms free)
def vx_Post (XC : String → State → State → Prop) (mc ms : Nat) (free : Addr → Prop) : Pt → Array Value → Addr → Pt → Prop := fun A a q B =>
  ∃ (g : JFrame) (mk : MethodId) (t : State) (L : List Loc) (E : String) (ce : Cell), B.U.heap = t.heap ∧ B.U.vm = t.vm ∧ XC E (A.U.calling g mk a) t ∧ t.heap[q]? = some ce ∧ ce.vm = .none ∧ A.U.vm.findClass E = some ce.cls ∧ B.locs = A.locs ++ L ∧ (∀ z ∈ L, free z.base) ∧ B.cells = A.cells + mc ∧ B.slots = A.slots + ms
def vx_Back (l : Launch) (R : Room) (p : Program) (e : Env) (below : List Frame) (s : State) (sargs : Array Value) (y : MethodName) (len W9 : Nat)
    (Pre : Pt → Array Value → Prop) (Post : Pt → Array Value → Option Value → Pt → Prop) (PostX : Pt → Array Value → Addr → Pt → Prop) : Prop :=
  ∀ (m : MethodId) (meth : Method) (c : Code) (A : Pt) (g : JFrame) (ig : Instr) (mk : MethodId) (a : Array Value),
    Stand p l e R s m sargs below meth c A.U A.locs A.cells A.slots → g.method = m → g.locals.size = c.maxLocals → decode c.code g.pc = .ok (ig, len) →
    2 * g.monitorRoom + (g.stack.map fun v => v.category).sum ≤ W9 → A.U.methodNamed? y = some mk → Pre A a →
    (∃ (v : Option Value) (B : Pt), Stand p l e R s m sargs below meth c B.U B.locs B.cells B.slots ∧ Post A a v B ∧
      Steps p.tables e below (doInvoke e (A.U.setTop g) [] mk a).1 (B.U.setTop { g with pc := g.pc + len, stack := v.toList ++ g.stack })) ∨
    (∃ (q : Addr) (B : Pt), Stand p l e R s m sargs below meth c B.U B.locs B.cells B.slots ∧ PostX A a q B ∧
      Steps p.tables e below (doInvoke e (A.U.setTop g) [] mk a).1 ((B.U.setTop g).pushFrame (.throwing q)))
section Payer
variable {l : Launch} {R : Room} {p : Program} {e : Env} {below : List Frame} {s : State} {sargs : Array Value} {y : MethodName} {len W9 : Nat}
theorem vx_back {ws : List Cond} {rm : Room} {Pc : Array Value → State → Prop} {Qc : Array Value → State → Outcome → State → Prop} {XC : String → State → State → Prop} {mc ms : Nat} {free : Addr → Prop} {bytes : ByteArray} {maxL : Nat} {ret : Option FieldType}
    (hM : vx_Met l y ws rm Pc Qc XC mc ms free) (hblind : FrameBlind Pc) (hrc : rm.cells = mc) (hrs : rm.slots = ms)
    (hframes : rm.frames + 1 ≤ R.frames) (hlocals : W9 + (maxL + 11) + rm.locals ≤ R.locals)
    (hws : ∀ w ∈ ws, ∀ a' U, s.WarmedH U.vm → w.before a' U = true) (hcode : Cond.code y bytes maxL ret ∈ ws) (hinit : ∀ a' U, s.WarmedH U.vm → (Cond.initialized y.cls).before a' U = true) :
    vx_Back l R p e below s sargs y len W9 (PreOf R mc ms Pc) (PostOf Qc mc ms free) (vx_Post XC mc ms free) := by
  intro m meth c A g ig mk a X hg hsize hdg hW hn hp
  have h1 : (headSpec ws rm).pre.before a A.U = true := atoms_intro fun w hw => hws w hw _ _ X.warmed
  have h2 : (Cond.code y bytes maxL ret).before a A.U = true := hws _ hcode _ _ X.warmed
  have h3 : (Cond.initialized y.cls).before a A.U = true := hinit _ _ X.warmed
  have h4 : A.cells + (headSpec ws rm).room.cells ≤ R.cells := by rw [show (headSpec ws rm).room.cells = mc from hrc]; exact hp.1
  have h5 : A.slots + (headSpec ws rm).room.slots ≤ R.slots := by rw [show (headSpec ws rm).room.slots = ms from hrs]; exact hp.2.1
  have hPc : Pc a (A.U.calling g mk a) := hblind _ _ _ _ hp.2.2
  obtain ⟨U, Ls, c0, s0⟩ := A
  dsimp only [Pt.U, Pt.locs, Pt.cells, Pt.slots] at h1 h2 h3 h4 h5 X hn hPc ⊢
  obtain ⟨methY, cY, hmY, hcY, -, hlY, -, -, -, -⟩ := Cond.code_spec hn h2
  obtain ⟨kY, hkY, -⟩ := className_of_methodNamed hn
  have hinitY : kY.init = .initialized := Cond.initialized_spec (findClass_of_methodNamed hn) hkY h3
  have h : At U g.method c below := by rw [hg]; exact X.here
  have hlocals9 : W9 + (maxL + 11) + (headSpec ws rm).room.locals ≤ R.locals := hlocals
  have happ : (headSpec ws rm).appliesLoose y e.platform (U.calling g mk a) = true :=
    Spec.appliesLoose_calling (g := g) h hdg hn hkY hinitY
      (X.room_calling (g := g) (R' := (headSpec ws rm).room) hsize hmY hcY hframes (by rw [hlY]; omega) h4 h5) h1
  obtain ⟨mid, hmid⟩ := h.above
  have hfr : (U.setTop g).frames = (.java g :: mid) ++ below := by rw [State.frames_setTop' g h.top, hmid]; rfl
  obtain ⟨o, s₂, hsteps, -, hend, hq⟩ := Steps.callFree hM p X.admits X.cas X.clock (acts := []) hfr happ hPc trivial
  have hq' : vx_Q Qc XC mc ms free a (U.calling g mk a) o s₂ := hq
  rw [State.frames_setTop' g h.top] at hend
  obtain ⟨g₀, hg0⟩ := Option.isSome_iff_exists.mp h.top
  obtain ⟨r, hr⟩ := State.topJava?_eq_some.mp hg0
  have hr' : (({ U with heap := s₂.heap, slotsUsed := s₂.slotsUsed } : State).setVm s₂.vm).frames = .java g₀ :: r := hr
  rcases hq' with ⟨hqc, L, hfe, hL⟩ | ⟨q, rfl, E, ce, L, hx, hce, hcv, hcl, hW₂, hsm, hL⟩
  · obtain ⟨⟨v, rfl⟩, hW₂, e2, q2, q3, q4, q5, q6⟩ := id hfe
    have e3 : s₂ = ({ (U.calling g mk a).setFrames s₂.frames with heap := s₂.heap, slotsUsed := s₂.slotsUsed } : State).setVm s₂.vm := by
      have : s₂ = ({ s₂ with vm := (U.calling g mk a).vm } : State).setVm s₂.vm := rfl
      rw [e2] at this
      exact this
    obtain ⟨c₂, i₂, len₂, hc₂, hd₂, hf₂⟩ := hend
    have hW' : U.WarmedH s₂.vm := hW₂
    have hcc : c₂ = c := by
      have h1 : s₂.code? g.method = U.code? g.method := by
        rw [State.code?_eq, State.code?_eq, hW'.alike.method?]
      exact Option.some.inj (hc₂.symm.trans (h1.trans h.code))
    subst hcc
    have hlen : len₂ = len := by rw [hdg] at hd₂; cases hd₂; rfl
    subst hlen
    have hs₂ : s₂ = (({ U with heap := s₂.heap, slotsUsed := s₂.slotsUsed } : State).setVm s₂.vm).setTop { g with pc := g.pc + len₂, stack := v.toList ++ g.stack } := by
      refine e3.trans ?_
      rw [hf₂, State.calling_eq h.top, State.setFrames_setFrames, State.setTop_of_frames _ hr', hr]
      rfl
    have hsame : U.sameButNew ({ U with heap := s₂.heap, slotsUsed := s₂.slotsUsed } : State) L mc ms := by
      refine ⟨?_, q2, q3, q4, q5, q6⟩
      obtain ⟨t, ht, -⟩ := State.frames_cons hr
      show ({ U with heap := s₂.heap, slotsUsed := s₂.slotsUsed } : State) = { U.setFrames U.frames with heap := s₂.heap, slotsUsed := s₂.slotsUsed }
      rw [State.setFrames_self ht]
    subst hg
    refine Or.inl ⟨v, ⟨(({ U with heap := s₂.heap, slotsUsed := s₂.slotsUsed } : State).setVm s₂.vm), Ls ++ L, c0 + mc, s0 + ms⟩,
      ⟨X.admits, X.cas, X.clock, X.frames, X.room, X.hears, X.method, X.code, (X.here.setHeapUsed s₂.heap s₂.slotsUsed).setVm hW'.alike, X.tail, State.WarmedH.trans X.warmed hW', X.limits, X.bytes, X.same.trans (hsame.setVm s.vm)⟩,
      ⟨g, mk, s₂, L, rfl, rfl, hqc, rfl, hL, rfl, rfl⟩, ?_⟩
    show Steps p.tables e below _ ((({ U with heap := s₂.heap, slotsUsed := s₂.slotsUsed } : State).setVm s₂.vm).setTop { g with pc := g.pc + len₂, stack := v.toList ++ g.stack })
    rw [← hs₂]
    exact hsteps
  · obtain ⟨e2, q2, q3, q4, q5, q6⟩ := id hsm
    have e3 : s₂ = ({ (U.calling g mk a).setFrames s₂.frames with heap := s₂.heap, slotsUsed := s₂.slotsUsed } : State).setVm s₂.vm := by
      have : s₂ = ({ s₂ with vm := (U.calling g mk a).vm } : State).setVm s₂.vm := rfl
      rw [e2] at this
      exact this
    have hf₂ : s₂.frames = .throwing q :: .java g :: U.frames.tail := hend
    have hW' : U.WarmedH s₂.vm := hW₂
    have hs₂ : s₂ = ((({ U with heap := s₂.heap, slotsUsed := s₂.slotsUsed } : State).setVm s₂.vm).setTop g).pushFrame (.throwing q) := by
      refine e3.trans ?_
      rw [hf₂, State.calling_eq h.top, State.setFrames_setFrames, State.pushFrame, State.frames_setTop _ hr', State.setTop_of_frames _ hr', State.setFrames_setFrames, hr]
      rfl
    have hsame : U.sameButNew ({ U with heap := s₂.heap, slotsUsed := s₂.slotsUsed } : State) L mc ms := by
      refine ⟨?_, q2, q3, q4, q5, q6⟩
      obtain ⟨t, ht, -⟩ := State.frames_cons hr
      show ({ U with heap := s₂.heap, slotsUsed := s₂.slotsUsed } : State) = { U.setFrames U.frames with heap := s₂.heap, slotsUsed := s₂.slotsUsed }
      rw [State.setFrames_self ht]
    subst hg
    refine Or.inr ⟨q, ⟨(({ U with heap := s₂.heap, slotsUsed := s₂.slotsUsed } : State).setVm s₂.vm), Ls ++ L, c0 + mc, s0 + ms⟩,
      ⟨X.admits, X.cas, X.clock, X.frames, X.room, X.hears, X.method, X.code, (X.here.setHeapUsed s₂.heap s₂.slotsUsed).setVm hW'.alike, X.tail, State.WarmedH.trans X.warmed hW', X.limits, X.bytes, X.same.trans (hsame.setVm s.vm)⟩,
      ⟨g, mk, s₂, L, E, ce, rfl, rfl, hx, hce, hcv, hcl, rfl, hL, rfl, rfl⟩, ?_⟩
    show Steps p.tables e below _ (((({ U with heap := s₂.heap, slotsUsed := s₂.slotsUsed } : State).setVm s₂.vm).setTop g).pushFrame (.throwing q))
    rw [← hs₂]
    exact hsteps
end Payer
section Calls
variable {p : Program} {l : Launch} {e : Env} {R : Room} {s : State} {m : MethodId} {args : Array Value} {below : List Frame} {meth : Method} {c : Code} {T : State} {locs : List Loc} {cells slots : Nat}
theorem vx_callV (X : Stand p l e R s m args below meth c T locs cells slots) (hexec : p.tables.exec = Jvm.exec) {own C : String} {index : Nat} {y : MethodName} {bytes : ByteArray} {maxL : Nat} {ret : Option FieldType}
    (hown : s.vm.findClass own = some m.cls) (hlink : (Cond.methodLink own index y).before args s = true) (hinst : (Cond.instanceMethod y).before args s = true) (hsel : (Cond.selects C y y).before args s = true)
    (hcode : (Cond.code y bytes maxL ret).before args s = true) (hy : y.cls ≠ "java/lang/invoke/MethodHandle" ∧ y.cls ≠ "java/lang/invoke/VarHandle")
    {W9 : Nat} {Pre : Pt → Array Value → Prop} {Post : Pt → Array Value → Option Value → Pt → Prop} {PostX : Pt → Array Value → Addr → Pt → Prop} (hK : vx_Back l R p e below s args y 3 W9 Pre Post PostX)
    {b : Addr} {cellB : Cell} (hcell : T.heap[b]? = some cellB) (hobj : cellB.vm.isStatics = false) (hcls : s.vm.findClass C = some cellB.cls)
    {g : JFrame} (hg : g.method = m) (hsize : g.locals.size = c.maxLocals) {argsL rest : List Value} (hlen : ∀ sig, parseMethodDescriptor y.desc = some sig → argsL.length = sig.parameters.length)
    (hstack : g.stack = argsL.reverse ++ .ref b :: rest) (hW : 2 * g.monitorRoom + (rest.map fun v => v.category).sum ≤ W9) (hdg : decode c.code g.pc = .ok (.invokevirtual index, 3))
    (hpre : ∀ vm₁, s.WarmedH vm₁ → Pre ⟨T.setVm vm₁, locs, cells, slots⟩ (Value.ref b :: argsL).toArray) :
    (∃ (v : Option Value) (vm₁ : Vm) (B : Pt), s.WarmedH vm₁ ∧ Stand p l e R s m args below meth c B.U B.locs B.cells B.slots ∧ Post ⟨T.setVm vm₁, locs, cells, slots⟩ (Value.ref b :: argsL).toArray v B ∧
      ∀ target, Steps p.tables e below (B.U.setTop { g with pc := g.pc + 3, stack := v.toList ++ rest }) target → Steps p.tables e below (T.setTop g) target) ∨
    (∃ (q : Addr) (vm₁ : Vm) (B : Pt), s.WarmedH vm₁ ∧ Stand p l e R s m args below meth c B.U B.locs B.cells B.slots ∧ PostX ⟨T.setVm vm₁, locs, cells, slots⟩ (Value.ref b :: argsL).toArray q B ∧
      Steps p.tables e below (T.setTop g) ((B.U.setTop { g with stack := rest }).pushFrame (.throwing q))) := by
  obtain ⟨mk, methM, hnamed, hmethM, hstM, habM⟩ := Cond.instanceMethod_spec hinst
  obtain ⟨methM', cM, hmethM', -, -, -, -, -, -, hsigM⟩ := Cond.code_spec hnamed hcode
  cases hmethM.symm.trans hmethM'
  obtain ⟨c2, r2, m2, q1, q2, q3, q4, kP, hkP, hkPi⟩ := Cond.selects_spec hsel
  cases hcls.symm.trans q1
  cases (State.methodFound?_of_named hnamed hy).symm.trans q2
  cases hnamed.symm.trans q3
  have hselP : selectMethod e.platform s.vm cellB.cls mk = .method mk := by rw [Launch.admits_selectMethod X.admits]; exact q4
  obtain ⟨vm₁, X₁, hstep₁⟩ := X.invokevirtual hexec hown hlink hnamed hmethM hstM hkP hkPi hy (a := b) (cell := cellB) hcell
    (fun z h => by rw [h] at hobj; cases hobj) hselP hmethM habM hkP hkPi (g := g) hg (argsL := argsL) (rest := rest) (hlen _ hsigM) hstack hdg
  rcases hK m meth c ⟨T.setVm vm₁, locs, cells, slots⟩ { g with stack := rest } (.invokevirtual index) mk (Value.ref b :: argsL).toArray X₁ hg hsize hdg hW (X₁.named hnamed) (hpre vm₁ X₁.warmed) with ⟨v, B, X', hpost, hsteps⟩ | ⟨q, B, X', hpost, hsteps⟩
  · exact Or.inl ⟨v, vm₁, B, X₁.warmed, X', hpost, fun target h => hstep₁ _ fun acts => by rw [doInvoke_state]; exact hsteps.trans h⟩
  · exact Or.inr ⟨q, vm₁, B, X₁.warmed, X', hpost, hstep₁ _ fun acts => by rw [doInvoke_state]; exact hsteps⟩
theorem vx_callS (X : Stand p l e R s m args below meth c T locs cells slots) (hexec : p.tables.exec = Jvm.exec) {own : String} {index : Nat} {y : MethodName} {bytes : ByteArray} {maxL : Nat} {ret : Option FieldType}
    (hown : s.vm.findClass own = some m.cls) (hlink : (Cond.methodLink own index y).before args s = true) (hstat : (Cond.static y).before args s = true) (hinit : (Cond.initialized y.cls).before args s = true)
    (hcode : (Cond.code y bytes maxL ret).before args s = true) (hy : y.cls ≠ "java/lang/invoke/MethodHandle" ∧ y.cls ≠ "java/lang/invoke/VarHandle")
    {W9 : Nat} {Pre : Pt → Array Value → Prop} {Post : Pt → Array Value → Option Value → Pt → Prop} {PostX : Pt → Array Value → Addr → Pt → Prop} (hK : vx_Back l R p e below s args y 3 W9 Pre Post PostX)
    {g : JFrame} (hg : g.method = m) (hsize : g.locals.size = c.maxLocals) {argsL rest : List Value} (hlen : ∀ sig, parseMethodDescriptor y.desc = some sig → argsL.length = sig.parameters.length)
    (hstack : g.stack = argsL.reverse ++ rest) (hW : 2 * g.monitorRoom + (rest.map fun v => v.category).sum ≤ W9) (hdg : decode c.code g.pc = .ok (.invokestatic index, 3))
    (hpre : ∀ vm₁, s.WarmedH vm₁ → Pre ⟨T.setVm vm₁, locs, cells, slots⟩ argsL.toArray) :
    (∃ (v : Option Value) (vm₁ : Vm) (B : Pt), s.WarmedH vm₁ ∧ Stand p l e R s m args below meth c B.U B.locs B.cells B.slots ∧ Post ⟨T.setVm vm₁, locs, cells, slots⟩ argsL.toArray v B ∧
      ∀ target, Steps p.tables e below (B.U.setTop { g with pc := g.pc + 3, stack := v.toList ++ rest }) target → Steps p.tables e below (T.setTop g) target) ∨
    (∃ (q : Addr) (vm₁ : Vm) (B : Pt), s.WarmedH vm₁ ∧ Stand p l e R s m args below meth c B.U B.locs B.cells B.slots ∧ PostX ⟨T.setVm vm₁, locs, cells, slots⟩ argsL.toArray q B ∧
      Steps p.tables e below (T.setTop g) ((B.U.setTop { g with stack := rest }).pushFrame (.throwing q))) := by
  obtain ⟨mk, hnamed⟩ := Cond.code_named hcode
  obtain ⟨methM, cM, hmethM, -, -, -, -, -, -, hsigM⟩ := Cond.code_spec hnamed hcode
  have hstatic : methM.isStatic = true := Cond.static_spec hnamed hmethM hstat
  obtain ⟨kP, hkP, -⟩ := className_of_methodNamed hnamed
  have hinitP : kP.init = .initialized := Cond.initialized_spec (findClass_of_methodNamed hnamed) hkP hinit
  obtain ⟨vm₁, X₁, hstep₁⟩ := X.invokestatic hexec hown hlink hnamed hmethM hstatic hkP hinitP hy (g := g) hg (argsL := argsL) (rest := rest) (hlen _ hsigM) hstack hdg
  rcases hK m meth c ⟨T.setVm vm₁, locs, cells, slots⟩ { g with stack := rest } (.invokestatic index) mk argsL.toArray X₁ hg hsize hdg hW (X₁.named hnamed) (hpre vm₁ X₁.warmed) with ⟨v, B, X', hpost, hsteps⟩ | ⟨q, B, X', hpost, hsteps⟩
  · exact Or.inl ⟨v, vm₁, B, X₁.warmed, X', hpost, fun target h => hstep₁ _ fun acts => by rw [doInvoke_state]; exact hsteps.trans h⟩
  · exact Or.inr ⟨q, vm₁, B, X₁.warmed, X', hpost, hstep₁ _ fun acts => by rw [doInvoke_state]; exact hsteps⟩
end Calls
theorem vx_cls {s : State} {T : State} {vm₁ : Vm} {E : String} {k : ClassId} (hW : s.WarmedH vm₁) (h : (T.setVm vm₁).vm.findClass E = some k) : s.vm.findClass E = some k := by
  have h1 : vm₁.findClass E = some k := h
  rw [hW.alike.findClass] at h1
  exact h1
/-- the method's frame g, with q thrown over it -/
def vx_W (p : Program) (l : Launch) (e : Env) (R : Room) (s : State) (m : MethodId) (args : Array Value) (below : List Frame) (meth : Method) (c : Code) (H : Heap) (locs : List Loc) (cells slots : Nat) (Q : State → Prop) (g : JFrame) (q : Addr) : Prop :=
  ∀ T : State, T.heap = H → Stand p l e R s m args below meth c T locs cells slots → ∃ t, Steps p.tables e below ((T.setTop g).pushFrame (.throwing q)) t ∧ Q t
def vx_Run (p : Program) (l : Launch) (e : Env) (R : Room) (s : State) (m : MethodId) (args : Array Value) (below : List Frame) (meth : Method) (c : Code) (H : Heap) (locs : List Loc) (cells slots mc ms : Nat) (g : JFrame) (rest : List Value) (Qa : State → Outcome → State → Prop) (XC : String → State → State → Prop) (free : Addr → Prop) : Prop :=
  ∀ T : State, T.heap = H → Stand p l e R s m args below meth c T locs cells slots →
    (∃ (v : Option Value) (st₀ t T' : State) (L : List Loc), st₀.heap = H ∧ Stand p l e R s m args below meth c T' (locs ++ L) (cells + mc) (slots + ms) ∧ (∀ q ∈ L, free q.base) ∧ T'.heap = t.heap ∧ T'.vm = t.vm ∧ Qa st₀ (.returned v) t ∧
      Goes p e below T g T' { g with pc := g.pc + 3, stack := v.toList ++ rest }) ∨
    (∃ (q : Addr) (st₀ t T' : State) (L : List Loc) (E : String) (ce : Cell), st₀.heap = H ∧ Stand p l e R s m args below meth c T' (locs ++ L) (cells + mc) (slots + ms) ∧ (∀ z ∈ L, free z.base) ∧ T'.heap = t.heap ∧ T'.vm = t.vm ∧ XC E st₀ t ∧ t.heap[q]? = some ce ∧ ce.vm = .none ∧ s.vm.findClass E = some ce.cls ∧
      Steps p.tables e below (T.setTop g) ((T'.setTop { g with stack := rest }).pushFrame (.throwing q)))
def vx_X {S : Type} (px : S → Prop) (B : String → S → State → Prop) (A : Nat → Prop) : String → State → State → Prop := fun E st t => ∃ u : S, px u ∧ B E u t ∧ va_F A st t
section Runs
variable {p : Program} {l : Launch} {e : Env} {R : Room} {s : State} {m : MethodId} {args : Array Value} {below : List Frame} {meth : Method} {c : Code} {H : Heap} {locs : List Loc} {cells slots : Nat}
variable {y : MethodName} {bytes cc : ByteArray} {maxL nL mc ms n index : Nat} {ret : Option FieldType} {ws : List Cond} {rm : Room} {Pc : Array Value → State → Prop} {Qc : Array Value → State → Outcome → State → Prop} {XC : String → State → State → Prop} {free : Addr → Prop} {Ts : List Cond} {own C : String} {b : Addr} {As rest : List Value} {g : JFrame}
theorem vx_callBack (cb : CallB R s args own index y bytes maxL ret ws rm mc ms n) (hM : vx_Met l y ws rm Pc Qc XC mc ms free) (hbl : FrameBlind Pc) : vx_Back l R p e below s args y 3 8 (PreOf R mc ms Pc) (PostOf Qc mc ms free) (vx_Post XC mc ms free) := by
  obtain ⟨hrc, hrs, hfr, hlo, hws, hcw, -, hini, -⟩ := cb
  exact vx_back (bytes := bytes) (maxL := maxL) (ret := ret) hM hbl hrc hrs hfr hlo hws hcw (fun a' U hW => word_at hW (Or.inl (by first | rfl | simp [Cond.onTables, Cond.keeps, Cond.steady])) hini)
theorem vx_runV (S : CallFix p m c cc nL s args Ts own) (hM : vx_Met l y ws rm Pc Qc XC mc ms free) (cw : CallW R s args own C index y bytes maxL ret ws rm mc ms n) (hp : PreV s H C b Pc As)
    (hg : g.method = m) (hn : As.length = n) (hsize : g.locals.size = nL) (hstack : g.stack = As.reverse ++ .ref b :: rest) (hW : 2 * g.monitorRoom + (rest.map fun v => v.category).sum ≤ 8) (hdg : decode cc g.pc = .ok (.invokevirtual index, 3)) (hf : cells + mc ≤ R.cells ∧ slots + ms ≤ R.slots) :
    vx_Run p l e R s m args below meth c H locs cells slots mc ms g rest (Qc (Value.ref b :: As).toArray) XC free := by
  have hK : vx_Back l R p e below s args y 3 8 (PreOf R mc ms Pc) (PostOf Qc mc ms free) (vx_Post XC mc ms free) := vx_callBack cw.1 hM hp.1
  obtain ⟨⟨-, -, -, -, -, -, hcode, -, hy, hlen, hl⟩, hin, hse⟩ := cw
  obtain ⟨hx, hb, hml, ho, -⟩ := S
  obtain ⟨-, ⟨cellB, hcB, hoB, hclB⟩, hPc⟩ := hp
  intro T hT X
  rcases vx_callV X hx (C := C) (bytes := bytes) (maxL := maxL) (ret := ret) ho hl hin hse hcode hy hK (by rw [hT]; exact hcB) hoB hclB hg (hsize.trans hml.symm) (argsL := As) (rest := rest) (fun sig h => hn.trans (hlen sig h)) hstack hW (by rw [hb]; exact hdg)
    (fun vm₁ hW₁ => ⟨hf.1, hf.2, hPc (T.setVm vm₁) hT hW₁⟩) with ⟨v, vm₁, ⟨U', l2, c2, s2⟩, hW₁, X', ⟨g', mk, t, L, e1, e2, hq, h1, hL, h2, h3⟩, st⟩ | ⟨q, vm₁, ⟨U', l2, c2, s2⟩, hW₁, X', ⟨g', mk, t, L, E, ce, e1, e2, hq, hce, hcv, hcl, h1, hL, h2, h3⟩, st⟩
  · dsimp only [Pt.U, Pt.locs, Pt.cells, Pt.slots] at X' e1 e2 h1 h2 h3 st
    subst h1; subst h2; subst h3
    exact Or.inl ⟨v, (T.setVm vm₁).calling g' mk (Value.ref b :: As).toArray, t, U', L, hT, X', hL, e1, e2, hq, st⟩
  · dsimp only [Pt.U, Pt.locs, Pt.cells, Pt.slots] at X' e1 e2 h1 h2 h3 st hcl
    subst h1; subst h2; subst h3
    exact Or.inr ⟨q, (T.setVm vm₁).calling g' mk (Value.ref b :: As).toArray, t, U', L, E, ce, hT, X', hL, e1, e2, hq, hce, hcv, vx_cls hW₁ hcl, st⟩
theorem vx_runS (S : CallFix p m c cc nL s args Ts own) (hM : vx_Met l y ws rm Pc Qc XC mc ms free) (cw : CallB R s args own index y bytes maxL ret ws rm mc ms n ∧ (Cond.static y).before args s = true) (hp : PreS s H Pc As)
    (hg : g.method = m) (hn : As.length = n) (hsize : g.locals.size = nL) (hstack : g.stack = As.reverse ++ rest) (hW : 2 * g.monitorRoom + (rest.map fun v => v.category).sum ≤ 8) (hdg : decode cc g.pc = .ok (.invokestatic index, 3)) (hf : cells + mc ≤ R.cells ∧ slots + ms ≤ R.slots) :
    vx_Run p l e R s m args below meth c H locs cells slots mc ms g rest (Qc As.toArray) XC free := by
  have hK : vx_Back l R p e below s args y 3 8 (PreOf R mc ms Pc) (PostOf Qc mc ms free) (vx_Post XC mc ms free) := vx_callBack cw.1 hM hp.1
  obtain ⟨⟨-, -, -, -, -, -, hcode, hini, hy, hlen, hl⟩, hstt⟩ := cw
  obtain ⟨hx, hb, hml, ho, -⟩ := S
  intro T hT X
  rcases vx_callS X hx (bytes := bytes) (maxL := maxL) (ret := ret) ho hl hstt hini hcode hy hK hg (hsize.trans hml.symm) (argsL := As) (rest := rest) (fun sig h => hn.trans (hlen sig h)) hstack hW (by rw [hb]; exact hdg)
    (fun vm₁ hW₁ => ⟨hf.1, hf.2, hp.2 (T.setVm vm₁) hT hW₁⟩) with ⟨v, vm₁, ⟨U', l2, c2, s2⟩, hW₁, X', ⟨g', mk, t, L, e1, e2, hq, h1, hL, h2, h3⟩, st⟩ | ⟨q, vm₁, ⟨U', l2, c2, s2⟩, hW₁, X', ⟨g', mk, t, L, E, ce, e1, e2, hq, hce, hcv, hcl, h1, hL, h2, h3⟩, st⟩
  · dsimp only [Pt.U, Pt.locs, Pt.cells, Pt.slots] at X' e1 e2 h1 h2 h3 st
    subst h1; subst h2; subst h3
    exact Or.inl ⟨v, (T.setVm vm₁).calling g' mk As.toArray, t, U', L, hT, X', hL, e1, e2, hq, st⟩
  · dsimp only [Pt.U, Pt.locs, Pt.cells, Pt.slots] at X' e1 e2 h1 h2 h3 st hcl
    subst h1; subst h2; subst h3
    exact Or.inr ⟨q, (T.setVm vm₁).calling g' mk As.toArray, t, U', L, E, ce, hT, X', hL, e1, e2, hq, hce, hcv, vx_cls hW₁ hcl, st⟩
end Runs
section Rows
variable {p : Program} {l : Launch} {e : Env} {R : Room} {s : State} {m : MethodId} {args : Array Value} {below : List Frame} {meth : Method} {c : Code} {H : Heap} {locs : List Loc} {cells slots : Nat} {Q : State → Prop}
variable {mc ms : Nat} {free : Addr → Prop} {A0 A1 : Nat → Prop} {H0 : Heap} {a : Array Value} {pc : Nat} {ls : Array Slot} {st0 rest : List Value}
theorem vx_keep {st₀ t T' : State} {L : List Loc} (h0 : st₀.heap = H) (e1 : T'.heap = t.heap) (hS : va_S A0 H0 H locs) (hA : ∀ q, q < H.size → A1 q → A0 q) (hf : ∀ q, free q → A0 q) (hL : ∀ q ∈ L, free q.base) (hF : va_F A1 st₀ t) :
    H.size ≤ T'.heap.size ∧ (∀ q : Nat, q < H.size → ¬ A1 q → T'.heap[q]? = H[q]?) ∧ va_S A0 H0 T'.heap (locs ++ L) := by
  obtain ⟨hz, hk⟩ := hF
  rw [h0] at hz hk
  exact ⟨by rw [e1]; exact hz, fun q h1 h2 => by rw [e1]; exact hk q h1 h2,
    ⟨Nat.le_trans hS.1 (by rw [e1]; exact hz), fun q h1 h2 => by rw [e1, hk q (Nat.lt_of_lt_of_le h1 hS.1) (fun z => h2 (hA q (Nat.lt_of_lt_of_le h1 hS.1) z))]; exact hS.2.1 q h1 h2, fun q hq => by
      rcases List.mem_append.mp hq with h | h
      · exact hS.2.2 q h
      · exact hf _ (hL q h)⟩⟩
theorem vx_calli {S SX : Type} {post : Int32 → S → Prop} {px : SX → Prop} {B : S → State → Prop} {BX : String → SX → State → Prop} {AX : Nat → Prop} (hr : vx_Run p l e R s m args below meth c H locs cells slots mc ms (F0 m pc ls st0) rest (va_Qi post B A1 a) (vx_X px BX AX) free) (hS : va_S A0 H0 H locs) (hA : ∀ q, q < H.size → A1 q → A0 q) (hf : ∀ q, free q → A0 q) (hAX : ∀ q, q < H.size → AX q → A0 q)
    (kx : ∀ (E : String) (ce : Cell) (q9 : Addr) (u : SX) (t : State) (H1 : Heap) (locs1 : List Loc), t.heap = H1 → s.vm.Alike t.vm → px u → BX E u t → H.size ≤ H1.size → (∀ q : Nat, q < H.size → ¬ AX q → H1[q]? = H[q]?) → va_S A0 H0 H1 locs1 → H1[q9]? = some ce → ce.vm = .none → s.vm.findClass E = some ce.cls → vx_W p l e R s m args below meth c H1 locs1 (cells + mc) (slots + ms) Q (F0 m pc ls rest) q9)
    (kk : ∀ (r : Int32) (u : S) (t : State) (H1 : Heap) (locs1 : List Loc), t.heap = H1 → s.vm.Alike t.vm → post r u → B u t → H.size ≤ H1.size → (∀ q : Nat, q < H.size → ¬ A1 q → H1[q]? = H[q]?) → va_S A0 H0 H1 locs1 → W p l e R s m args below meth c H1 locs1 (cells + mc) (slots + ms) Q (F0 m (pc + 3) ls (.int r :: rest))) : W p l e R s m args below meth c H locs cells slots Q (F0 m pc ls st0) := by
  intro T hT X
  rcases hr T hT X with ⟨v, st₀, t, T', L, h0, X', hL, e1, e2, ⟨⟨r, u, hv, hp, hb⟩, hF⟩, st⟩ | ⟨q, st₀, t, T', L, E, ce, h0, X', hL, e1, e2, ⟨u, hp, hb, hF⟩, hce, hcv, hcl, st⟩
  · cases hv
    obtain ⟨k1, k2, k3⟩ := vx_keep h0 e1 hS hA hf hL hF
    obtain ⟨t2, a1, b1⟩ := kk r u t T'.heap (locs ++ L) e1.symm (by rw [← e2]; exact X'.warmed.alike) hp hb k1 k2 k3 T' rfl X'
    exact ⟨t2, st t2 a1, b1⟩
  · obtain ⟨k1, k2, k3⟩ := vx_keep h0 e1 hS hAX hf hL hF
    obtain ⟨t2, a1, b1⟩ := kx E ce q u t T'.heap (locs ++ L) e1.symm (by rw [← e2]; exact X'.warmed.alike) hp hb k1 k2 k3 (by rw [e1]; exact hce) hcv hcl T' rfl X'
    exact ⟨t2, st.trans a1, b1⟩
theorem vx_calll {S SX : Type} {post : Int64 → S → Prop} {px : SX → Prop} {B : S → State → Prop} {BX : String → SX → State → Prop} {AX : Nat → Prop} (hr : vx_Run p l e R s m args below meth c H locs cells slots mc ms (F0 m pc ls st0) rest (va_Ql post B A1 a) (vx_X px BX AX) free) (hS : va_S A0 H0 H locs) (hA : ∀ q, q < H.size → A1 q → A0 q) (hf : ∀ q, free q → A0 q) (hAX : ∀ q, q < H.size → AX q → A0 q)
    (kx : ∀ (E : String) (ce : Cell) (q9 : Addr) (u : SX) (t : State) (H1 : Heap) (locs1 : List Loc), t.heap = H1 → s.vm.Alike t.vm → px u → BX E u t → H.size ≤ H1.size → (∀ q : Nat, q < H.size → ¬ AX q → H1[q]? = H[q]?) → va_S A0 H0 H1 locs1 → H1[q9]? = some ce → ce.vm = .none → s.vm.findClass E = some ce.cls → vx_W p l e R s m args below meth c H1 locs1 (cells + mc) (slots + ms) Q (F0 m pc ls rest) q9)
    (kk : ∀ (r : Int64) (u : S) (t : State) (H1 : Heap) (locs1 : List Loc), t.heap = H1 → s.vm.Alike t.vm → post r u → B u t → H.size ≤ H1.size → (∀ q : Nat, q < H.size → ¬ A1 q → H1[q]? = H[q]?) → va_S A0 H0 H1 locs1 → W p l e R s m args below meth c H1 locs1 (cells + mc) (slots + ms) Q (F0 m (pc + 3) ls (.long r :: rest))) : W p l e R s m args below meth c H locs cells slots Q (F0 m pc ls st0) := by
  intro T hT X
  rcases hr T hT X with ⟨v, st₀, t, T', L, h0, X', hL, e1, e2, ⟨⟨r, u, hv, hp, hb⟩, hF⟩, st⟩ | ⟨q, st₀, t, T', L, E, ce, h0, X', hL, e1, e2, ⟨u, hp, hb, hF⟩, hce, hcv, hcl, st⟩
  · cases hv
    obtain ⟨k1, k2, k3⟩ := vx_keep h0 e1 hS hA hf hL hF
    obtain ⟨t2, a1, b1⟩ := kk r u t T'.heap (locs ++ L) e1.symm (by rw [← e2]; exact X'.warmed.alike) hp hb k1 k2 k3 T' rfl X'
    exact ⟨t2, st t2 a1, b1⟩
  · obtain ⟨k1, k2, k3⟩ := vx_keep h0 e1 hS hAX hf hL hF
    obtain ⟨t2, a1, b1⟩ := kx E ce q u t T'.heap (locs ++ L) e1.symm (by rw [← e2]; exact X'.warmed.alike) hp hb k1 k2 k3 (by rw [e1]; exact hce) hcv hcl T' rfl X'
    exact ⟨t2, st.trans a1, b1⟩
theorem vx_callf {S SX : Type} {post : UInt32 → S → Prop} {px : SX → Prop} {B : S → State → Prop} {BX : String → SX → State → Prop} {AX : Nat → Prop} (hr : vx_Run p l e R s m args below meth c H locs cells slots mc ms (F0 m pc ls st0) rest (va_Qf post B A1 a) (vx_X px BX AX) free) (hS : va_S A0 H0 H locs) (hA : ∀ q, q < H.size → A1 q → A0 q) (hf : ∀ q, free q → A0 q) (hAX : ∀ q, q < H.size → AX q → A0 q)
    (kx : ∀ (E : String) (ce : Cell) (q9 : Addr) (u : SX) (t : State) (H1 : Heap) (locs1 : List Loc), t.heap = H1 → s.vm.Alike t.vm → px u → BX E u t → H.size ≤ H1.size → (∀ q : Nat, q < H.size → ¬ AX q → H1[q]? = H[q]?) → va_S A0 H0 H1 locs1 → H1[q9]? = some ce → ce.vm = .none → s.vm.findClass E = some ce.cls → vx_W p l e R s m args below meth c H1 locs1 (cells + mc) (slots + ms) Q (F0 m pc ls rest) q9)
    (kk : ∀ (r : UInt32) (u : S) (t : State) (H1 : Heap) (locs1 : List Loc), t.heap = H1 → s.vm.Alike t.vm → post r u → B u t → H.size ≤ H1.size → (∀ q : Nat, q < H.size → ¬ A1 q → H1[q]? = H[q]?) → va_S A0 H0 H1 locs1 → W p l e R s m args below meth c H1 locs1 (cells + mc) (slots + ms) Q (F0 m (pc + 3) ls (.float r :: rest))) : W p l e R s m args below meth c H locs cells slots Q (F0 m pc ls st0) := by
  intro T hT X
  rcases hr T hT X with ⟨v, st₀, t, T', L, h0, X', hL, e1, e2, ⟨⟨r, u, hv, hp, hb⟩, hF⟩, st⟩ | ⟨q, st₀, t, T', L, E, ce, h0, X', hL, e1, e2, ⟨u, hp, hb, hF⟩, hce, hcv, hcl, st⟩
  · cases hv
    obtain ⟨k1, k2, k3⟩ := vx_keep h0 e1 hS hA hf hL hF
    obtain ⟨t2, a1, b1⟩ := kk r u t T'.heap (locs ++ L) e1.symm (by rw [← e2]; exact X'.warmed.alike) hp hb k1 k2 k3 T' rfl X'
    exact ⟨t2, st t2 a1, b1⟩
  · obtain ⟨k1, k2, k3⟩ := vx_keep h0 e1 hS hAX hf hL hF
    obtain ⟨t2, a1, b1⟩ := kx E ce q u t T'.heap (locs ++ L) e1.symm (by rw [← e2]; exact X'.warmed.alike) hp hb k1 k2 k3 (by rw [e1]; exact hce) hcv hcl T' rfl X'
    exact ⟨t2, st.trans a1, b1⟩
theorem vx_calld {S SX : Type} {post : UInt64 → S → Prop} {px : SX → Prop} {B : S → State → Prop} {BX : String → SX → State → Prop} {AX : Nat → Prop} (hr : vx_Run p l e R s m args below meth c H locs cells slots mc ms (F0 m pc ls st0) rest (va_Qd post B A1 a) (vx_X px BX AX) free) (hS : va_S A0 H0 H locs) (hA : ∀ q, q < H.size → A1 q → A0 q) (hf : ∀ q, free q → A0 q) (hAX : ∀ q, q < H.size → AX q → A0 q)
    (kx : ∀ (E : String) (ce : Cell) (q9 : Addr) (u : SX) (t : State) (H1 : Heap) (locs1 : List Loc), t.heap = H1 → s.vm.Alike t.vm → px u → BX E u t → H.size ≤ H1.size → (∀ q : Nat, q < H.size → ¬ AX q → H1[q]? = H[q]?) → va_S A0 H0 H1 locs1 → H1[q9]? = some ce → ce.vm = .none → s.vm.findClass E = some ce.cls → vx_W p l e R s m args below meth c H1 locs1 (cells + mc) (slots + ms) Q (F0 m pc ls rest) q9)
    (kk : ∀ (r : UInt64) (u : S) (t : State) (H1 : Heap) (locs1 : List Loc), t.heap = H1 → s.vm.Alike t.vm → post r u → B u t → H.size ≤ H1.size → (∀ q : Nat, q < H.size → ¬ A1 q → H1[q]? = H[q]?) → va_S A0 H0 H1 locs1 → W p l e R s m args below meth c H1 locs1 (cells + mc) (slots + ms) Q (F0 m (pc + 3) ls (.double r :: rest))) : W p l e R s m args below meth c H locs cells slots Q (F0 m pc ls st0) := by
  intro T hT X
  rcases hr T hT X with ⟨v, st₀, t, T', L, h0, X', hL, e1, e2, ⟨⟨r, u, hv, hp, hb⟩, hF⟩, st⟩ | ⟨q, st₀, t, T', L, E, ce, h0, X', hL, e1, e2, ⟨u, hp, hb, hF⟩, hce, hcv, hcl, st⟩
  · cases hv
    obtain ⟨k1, k2, k3⟩ := vx_keep h0 e1 hS hA hf hL hF
    obtain ⟨t2, a1, b1⟩ := kk r u t T'.heap (locs ++ L) e1.symm (by rw [← e2]; exact X'.warmed.alike) hp hb k1 k2 k3 T' rfl X'
    exact ⟨t2, st t2 a1, b1⟩
  · obtain ⟨k1, k2, k3⟩ := vx_keep h0 e1 hS hAX hf hL hF
    obtain ⟨t2, a1, b1⟩ := kx E ce q u t T'.heap (locs ++ L) e1.symm (by rw [← e2]; exact X'.warmed.alike) hp hb k1 k2 k3 (by rw [e1]; exact hce) hcv hcl T' rfl X'
    exact ⟨t2, st.trans a1, b1⟩
theorem vx_callv {S SX : Type} {post : S → Prop} {px : SX → Prop} {B : S → State → Prop} {BX : String → SX → State → Prop} {AX : Nat → Prop} (hr : vx_Run p l e R s m args below meth c H locs cells slots mc ms (F0 m pc ls st0) rest (va_Qv post B A1 a) (vx_X px BX AX) free) (hS : va_S A0 H0 H locs) (hA : ∀ q, q < H.size → A1 q → A0 q) (hf : ∀ q, free q → A0 q) (hAX : ∀ q, q < H.size → AX q → A0 q)
    (kx : ∀ (E : String) (ce : Cell) (q9 : Addr) (u : SX) (t : State) (H1 : Heap) (locs1 : List Loc), t.heap = H1 → s.vm.Alike t.vm → px u → BX E u t → H.size ≤ H1.size → (∀ q : Nat, q < H.size → ¬ AX q → H1[q]? = H[q]?) → va_S A0 H0 H1 locs1 → H1[q9]? = some ce → ce.vm = .none → s.vm.findClass E = some ce.cls → vx_W p l e R s m args below meth c H1 locs1 (cells + mc) (slots + ms) Q (F0 m pc ls rest) q9)
    (kk : ∀ (u : S) (t : State) (H1 : Heap) (locs1 : List Loc), t.heap = H1 → s.vm.Alike t.vm → post u → B u t → H.size ≤ H1.size → (∀ q : Nat, q < H.size → ¬ A1 q → H1[q]? = H[q]?) → va_S A0 H0 H1 locs1 → W p l e R s m args below meth c H1 locs1 (cells + mc) (slots + ms) Q (F0 m (pc + 3) ls (rest))) : W p l e R s m args below meth c H locs cells slots Q (F0 m pc ls st0) := by
  intro T hT X
  rcases hr T hT X with ⟨v, st₀, t, T', L, h0, X', hL, e1, e2, ⟨⟨u, hv, hp, hb⟩, hF⟩, st⟩ | ⟨q, st₀, t, T', L, E, ce, h0, X', hL, e1, e2, ⟨u, hp, hb, hF⟩, hce, hcv, hcl, st⟩
  · cases hv
    obtain ⟨k1, k2, k3⟩ := vx_keep h0 e1 hS hA hf hL hF
    obtain ⟨t2, a1, b1⟩ := kk u t T'.heap (locs ++ L) e1.symm (by rw [← e2]; exact X'.warmed.alike) hp hb k1 k2 k3 T' rfl X'
    exact ⟨t2, st t2 a1, b1⟩
  · obtain ⟨k1, k2, k3⟩ := vx_keep h0 e1 hS hAX hf hL hF
    obtain ⟨t2, a1, b1⟩ := kx E ce q u t T'.heap (locs ++ L) e1.symm (by rw [← e2]; exact X'.warmed.alike) hp hb k1 k2 k3 (by rw [e1]; exact hce) hcv hcl T' rfl X'
    exact ⟨t2, st.trans a1, b1⟩
/-- caught by the row x of this method's table; the rows ahead don't take it -/
theorem vx_catch {own name : String} {E : String} {ce : Cell} {q : Addr} (hown : s.vm.findClass own = some m.cls) (pre : List ExceptionTableEntry) (x : ExceptionTableEntry) (suf : List ExceptionTableEntry) (hsplit : c.exceptionTable.toList = pre ++ x :: suf)
    (hpass : ∀ z ∈ pre, covers z pc = false ∨ (z.catchType ≠ 0 ∧ ∃ nm : String, (Cond.classLink own z.catchType nm).before args s = true ∧ va_Nc E nm s)) (hx : covers x pc = true) (h0 : x.catchType ≠ 0)
    (hlink : (Cond.classLink own x.catchType name).before args s = true) (hcast : (Cond.castable E name).before args s = true) (hcell : H[q]? = some ce) (hv : ce.vm = .none) (hcl : s.vm.findClass E = some ce.cls)
    (kk : W p l e R s m args below meth c H locs cells slots Q (F0 m x.handlerPc ls [.ref q])) : vx_W p l e R s m args below meth c H locs cells slots Q (F0 m pc ls rest) q := by
  intro T hT X
  have hpl : e.platform.magicAccessors = ({} : Platform).magicAccessors := by rw [X.admits.platform]
  obtain ⟨c3, c4, hc3, hc4, hasg⟩ := Cond.castable_spec hcast
  cases Option.some.inj (hc3.symm.trans hcl)
  obtain ⟨c5, hc5, hcl5⟩ := Cond.classLink_spec hown hlink e.platform hpl
  cases Option.some.inj (hc4.symm.trans hc5)
  obtain ⟨vm', X', st⟩ := X.thenCaughtThrough q (g := F0 m pc ls rest) rfl (Steps.refl _) (by rw [hT]; exact hcell) (by rw [hv]; rfl) (by obtain ⟨k9, h9, -⟩ := Vm.findClass_spec hcl; exact ⟨k9, h9⟩) pre x suf hsplit
    (fun z hz => by
      rcases hpass z hz with h | ⟨hz0, nm, hl1, hn1⟩
      · exact Or.inl h
      · obtain ⟨c6, hc6, hcl6⟩ := Cond.classLink_spec hown hl1 e.platform hpl
        obtain ⟨a8, b8, h1, h2, h3⟩ := hn1
        cases Option.some.inj (h1.symm.trans hcl)
        cases Option.some.inj (h2.symm.trans hc6)
        exact Or.inr ⟨hz0, _, hcl6, h3⟩) hx (Or.inr ⟨h0, c4, hcl5, hasg⟩)
  obtain ⟨t, a1, b1⟩ := kk (T.setVm vm') hT X'
  exact ⟨t, st.trans a1, b1⟩
end Rows
section Ends
variable {p : Program} {l : Launch} {e : Env} {R : Room} {s : State} {m : MethodId} {args : Array Value} {below : List Frame} {meth : Method} {c : Code} {H : Heap} {locs : List Loc} {cells slots : Nat} {Q : State → Prop}
variable {mc ms : Nat} {free : Addr → Prop} {A0 A1 : Nat → Prop} {H0 : Heap} {a : Array Value} {ls : Array Slot} {st0 rest : List Value}
variable {Qc : Array Value → State → Outcome → State → Prop} {XC : String → State → State → Prop}
/-- what a body that may throw owes at its end -/
def vx_MQ (below : List Frame) (Qc : Array Value → State → Outcome → State → Prop) (XC : String → State → State → Prop) (a : Array Value) (s : State) (mc ms : Nat) (free : Addr → Prop) : State → Prop := fun t =>
  ∃ o, t.status = .running ∧ Ended t below o ∧ vx_Q Qc XC mc ms free a s o t
theorem vx_ret {g : JFrame} {mc ms : Nat} (k : W p l e R s m args below meth c H locs cells slots (MQ below Qc args s mc ms free) g) : W p l e R s m args below meth c H locs cells slots (vx_MQ below Qc XC args s mc ms free) g := by
  intro T hT X
  obtain ⟨t, a1, o, b1, b2, b3, b4⟩ := k T hT X
  exact ⟨t, a1, o, b1, b2, Or.inl ⟨b3, b4⟩⟩
/-- not caught here: it goes on to the caller -/
theorem vx_widen {g : JFrame} {q : Addr} {k n : Nat} (h1 : cells ≤ k) (h2 : slots ≤ n) (kk : vx_W p l e R s m args below meth c H locs k n Q g q) : vx_W p l e R s m args below meth c H locs cells slots Q g q := fun T hT X => kk T hT (stand_widen X h1 h2)
theorem vx_out {pc : Nat} {E : String} {ce : Cell} {q : Addr} {mc ms : Nat} (hout : ∀ x ∈ c.exceptionTable.toList, covers x pc = false) (hlocks : meth.locks = false) (hcell : H[q]? = some ce) (hv : ce.vm = .none) (hcl : s.vm.findClass E = some ce.cls)
    (hx : ∀ t : State, t.heap = H → s.vm.Alike t.vm → XC E s t) (hf : ∀ z ∈ locs, free z.base) (hc : cells ≤ mc) (hs : slots ≤ ms) :
    vx_W p l e R s m args below meth c H locs cells slots (vx_MQ below Qc XC args s mc ms free) (F0 m pc ls rest) q := by
  intro T hT X
  obtain ⟨st1, hrun, hend, hW, hsm⟩ := X.leaveThrown q (g := F0 m pc ls rest) rfl rfl rfl hout hlocks
  have hcell9 : (T.setFrames (.throwing q :: below)).heap[q]? = some ce := by
    show T.heap[q]? = some ce
    rw [hT]; exact hcell
  exact ⟨_, st1, .threw q, hrun, hend, Or.inr ⟨q, rfl, E, ce, locs, hx _ hT hW.alike, hcell9, hv, hcl, hW, hsm.mono hc hs, hf⟩⟩
theorem vx_frame {U : State} {k n : Nat} (h : s.sameButNew ({ U with vm := s.vm } : State) locs k n) : s.heap.size ≤ U.heap.size ∧ ∀ q : Nat, q < s.heap.size → (∀ z ∈ locs, z.base ≠ q) → U.heap[q]? = s.heap[q]? := by
  obtain ⟨-, h2, -, -, -, h6⟩ := h
  refine ⟨h2, fun q hq hz => ?_⟩
  obtain ⟨c9, e1, e2, e3, e4⟩ := h6 q _ (Array.getElem?_eq_getElem hq)
  have hs : c9.slots = (s.heap[q]).slots := Array.ext_getElem? fun i => e4 i fun hm => hz _ hm rfl
  have h9 : c9 = s.heap[q] := by
    rw [hs] at e2
    exact e2
  have e5 : U.heap[q]? = some c9 := e1
  rw [e5, h9, Array.getElem?_eq_getElem hq]
/-- the words of a throw but the four that speak of the heap -/
def vx_no (w : Cond) : Bool := decide (w ≠ .isRef (.static Bundle.tN "UNASSIGNED_STACK" Bundle.steD)) && decide (w ≠ .isRef (.static Bundle.tN "SUPPRESSED_SENTINEL" Bundle.listD)) && decide (w ≠ .laysStatic Bundle.tN "UNASSIGNED_STACK" Bundle.steD) && decide (w ≠ .laysStatic Bundle.tN "SUPPRESSED_SENTINEL" Bundle.listD)
def vx_at0 (own : String) (ic : Nat) (X : String) (names : List String) : List Cond := (Bundle.ownAtoms0 own ic X names).filter vx_no
def vx_atS (own : String) (ic : Nat) (X : String) (names : List String) : List Cond := (Bundle.ownAtoms own ic X names).filter vx_no
/-- a word that the tables alone decide, or a good one -/
def vx_ot (w : Cond) : Bool := w.onTables || goodWord w
theorem vx_ot_at {args a' : Array Value} {s U : State} {w : Cond} (hW : s.WarmedH U.vm) (hvm : s.vm = U.vm) (hg : vx_ot w = true) (h : w.before args s = true) : w.before a' U = true := by
  simp only [vx_ot, Bool.or_eq_true] at hg
  rcases hg with hg | hg
  · exact va_tabs hg hvm h
  · exact word_at hW (good_of_word hg) h
/-- a list's words: the good ones out of the method's own list, the others by premises of their own -/
theorem vx_hat {args : Array Value} {s : State} {L B : List Cond} (h1 : ∀ w ∈ L.filter goodWord, w.before args s = true) (h2 : ∀ w ∈ L.filter (fun w => !goodWord w), w ∈ B) (h3 : ∀ w ∈ B, w.before args s = true) : ∀ w ∈ L, w.before args s = true := by
  intro w hw
  by_cases g : goodWord w = true
  · exact h1 w (List.mem_filter.mpr ⟨hw, g⟩)
  · refine h3 w (h2 w (List.mem_filter.mpr ⟨hw, ?_⟩))
    show (!goodWord w) = true
    cases hgw : goodWord w
    · rfl
    · exact absurd hgw g
theorem vx_c {args : Array Value} {s : State} {w : Cond} {B : List Cond} (h : w.before args s = true) (t : ∀ w ∈ B, w.before args s = true) : ∀ w' ∈ w :: B, w'.before args s = true := fun w' h' => (List.mem_cons.mp h').elim (fun e => by rw [e]; exact h) (t w')
theorem vx_n {args : Array Value} {s : State} : ∀ w ∈ ([] : List Cond), w.before args s = true := fun _ h => nomatch h
theorem vx_own {args : Array Value} {s : State} {L : List Cond} (h1 : ∀ w ∈ L.filter vx_no, w.before args s = true)
    (hU : (Cond.isRef (.static Bundle.tN "UNASSIGNED_STACK" Bundle.steD)).before args s = true) (hN : (Cond.isRef (.static Bundle.tN "SUPPRESSED_SENTINEL" Bundle.listD)).before args s = true)
    (lU : (Cond.laysStatic Bundle.tN "UNASSIGNED_STACK" Bundle.steD).before args s = true) (lN : (Cond.laysStatic Bundle.tN "SUPPRESSED_SENTINEL" Bundle.listD).before args s = true) : ∀ w ∈ L, w.before args s = true := by
  intro w hw
  by_cases e1 : w = .isRef (.static Bundle.tN "UNASSIGNED_STACK" Bundle.steD)
  · rw [e1]; exact hU
  · by_cases e2 : w = .isRef (.static Bundle.tN "SUPPRESSED_SENTINEL" Bundle.listD)
    · rw [e2]; exact hN
    · by_cases e3 : w = .laysStatic Bundle.tN "UNASSIGNED_STACK" Bundle.steD
      · rw [e3]; exact lU
      · by_cases e4 : w = .laysStatic Bundle.tN "SUPPRESSED_SENTINEL" Bundle.listD
        · rw [e4]; exact lN
        · exact h1 w (List.mem_filter.mpr ⟨hw, by unfold vx_no; rw [decide_eq_true e1, decide_eq_true e2, decide_eq_true e3, decide_eq_true e4]; rfl⟩)
/-- where a static field lies, its class's statics cell in H -/
def vx_L (C n d : String) (A : Nat → Prop) (U : State) (H : Heap) : Prop := ∃ (c : ClassId) (k : Class) (i : Nat) (f : Field) (a : Nat) (cell : Cell), U.vm.findClass C = some c ∧ U.fieldFound? C n d = some (c, k, i, f) ∧ f.isStatic = true ∧ k.statics = some a ∧ H[a]? = some cell ∧ cell.vm.isStatics = true ∧ cell.cls = c ∧ f.slot < cell.slots.size ∧ k.staticTypes[f.slot]? = some f.type ∧ ¬ A a
theorem vx_L.moved {C n d : String} {A : Nat → Prop} {u U : State} {H : Heap} (hvm : u.vm.Alike U.vm) (h : vx_L C n d A u H) : vx_L C n d A U H := by
  obtain ⟨c, k, i, f, a, cell, h1, h2, h3, h4, h5, h6, h7, h8, h9, h10⟩ := h
  obtain ⟨k', hi', he⟩ := State.fieldFound?_setVm hvm h2
  exact ⟨c, k', i, f, a, cell, by rw [hvm.findClass]; exact h1, hi', h3, by rw [he]; exact h4, h5, h6, h7, h8, by rw [he]; exact h9, h10⟩
theorem vx_L.kept {C n d : String} {A : Nat → Prop} {U : State} {H H1 : Heap} (h : vx_L C n d A U H) (hq : ∀ a : Nat, a < H.size → ¬ A a → H1[a]? = H[a]?) : vx_L C n d A U H1 := by
  obtain ⟨c, k, i, f, a, cell, h1, h2, h3, h4, h5, h6, h7, h8, h9, h10⟩ := h
  exact ⟨c, k, i, f, a, cell, h1, h2, h3, h4, by rw [hq a (Array.getElem?_eq_some_iff.mp h5).1 h10]; exact h5, h6, h7, h8, h9, h10⟩
theorem vx_L.narrow {C n d : String} {A B : Nat → Prop} {U : State} {H : Heap} (h : vx_L C n d A U H) (hAB : ∀ q, B q → A q) : vx_L C n d B U H := by
  obtain ⟨c, k, i, f, a, cell, h1, h2, h3, h4, h5, h6, h7, h8, h9, h10⟩ := h
  exact ⟨c, k, i, f, a, cell, h1, h2, h3, h4, h5, h6, h7, h8, h9, fun z => h10 (hAB _ z)⟩
theorem vx_L.word {C n d : String} {A : Nat → Prop} {s : State} {args : Array Value} (h : vx_L C n d A s s.heap) : (Cond.laysStatic C n d).before args s = true := by
  obtain ⟨c, k, i, f, a, cell, h1, h2, h3, h4, h5, h6, h7, h8, h9, -⟩ := h
  show (Cond.laysStatic C n d).holds args s none s [] = true
  exact Cond.laysStatic_of h1 h2 h3 h4 h5 h6 h7 h8 h9
/-- .. and what it holds: null or some reference -/
def vx_Zq (C n d : String) (A : Nat → Prop) (U : State) (H : Heap) : Prop := va_Zq C n d A U H ∧ vx_L C n d A U H
theorem vx_Zq.moved {C n d : String} {A : Nat → Prop} {u U : State} {H : Heap} (hvm : u.vm.Alike U.vm) (h : vx_Zq C n d A u H) : vx_Zq C n d A U H := ⟨va_Zq.moved hvm h.1, vx_L.moved hvm h.2⟩
theorem vx_Zq.kept {C n d : String} {A : Nat → Prop} {U : State} {H H1 : Heap} (h : vx_Zq C n d A U H) (hq : ∀ a : Nat, a < H.size → ¬ A a → H1[a]? = H[a]?) : vx_Zq C n d A U H1 := ⟨va_Zq.kept h.1 hq, vx_L.kept h.2 hq⟩
theorem vx_Zq.narrow {C n d : String} {A B : Nat → Prop} {U : State} {H : Heap} (h : vx_Zq C n d A U H) (hAB : ∀ q, B q → A q) : vx_Zq C n d B U H := ⟨va_Zq.narrow h.1 hAB, vx_L.narrow h.2 hAB⟩
theorem vx_Zqof {args : Array Value} {s : State} {C n d : String} {A : Nat → Prop} (hl : (Cond.laysStatic C n d).before args s = true) (hini : (Cond.initialized C).before args s = true) (h : (Cond.isRef (.static C n d)).before args s = true) (hA : ∀ a : Nat, a < s.heap.size → ¬ A a) : vx_Zq C n d A s s.heap := by
  refine ⟨va_Zqof hl hini h hA, ?_⟩
  obtain ⟨c, k, i, f, a, cell, h1, h2, h3, h4, h5, h6, h7, h8, h9⟩ := Cond.laysStatic_spec hl
  exact ⟨c, k, i, f, a, cell, h1, h2, h3, h4, h5, h6, h7, h8, h9, hA a (Array.getElem?_eq_some_iff.mp h5).1⟩
theorem vx_isRef {C n d : String} {v : Value} {A : Nat → Prop} {s : State} {args : Array Value} (h : va_Z C n d v A s s.heap) (hv : v.isRef = true) : (Cond.isRef (.static C n d)).before args s = true := by
  obtain ⟨cf, kf, fi, f, a, cell, h1, h2, h3, h4, h5, h6, h7, -⟩ := h
  have he : (Term.static C n d).eval args s none [] s = some v := by
    simp [Term.eval, State.fieldNamed?, h1, h2, h4, h5, h6, h7]
  simp only [Cond.before, Cond.holds, Cond.value, he]
  cases v <;> simp_all [Value.isRef]
theorem vx_isRefq {C n d : String} {A : Nat → Prop} {s : State} {args : Array Value} (h : va_Zq C n d A s s.heap) : (Cond.isRef (.static C n d)).before args s = true := by
  rcases h with h | ⟨t, h⟩
  · exact vx_isRef h rfl
  · exact vx_isRef h rfl
/-- the same frame, seen from here: as if the method were called anew in this heap -/
theorem vx_rebase {T : State} (X : Stand p l e R s m args below meth c T locs cells slots) {R' : Room} (hf : R'.frames ≤ R.frames) (hl : R'.locals ≤ R.locals) (hc : cells + R'.cells ≤ R.cells) (hs : slots + R'.slots ≤ R.slots) :
    Stand p l e R' ((T.setVm s.vm).setFrames (.invoking m args :: below)) m args below meth c T [] 0 0 := by
  have htop : (T.setVm s.vm).topJava?.isSome := X.here.top
  have hF : ((T.setVm s.vm).setFrames (.invoking m args :: below)).frames = .invoking m args :: below := State.frames_setFrames _ (State.cur_lt_of_top htop)
  obtain ⟨g₀, hg0⟩ := Option.isSome_iff_exists.mp htop
  obtain ⟨r, hr⟩ := State.topJava?_eq_some.mp hg0
  have hl9 : e.platform.stackLimits (T.setVm s.vm).me = e.platform.stackLimits s.me := X.limits
  have hb9 : (T.setVm s.vm).me.stackBytes = s.me.stackBytes := X.bytes
  refine ⟨X.admits, X.cas, X.clock, hF, ?_, X.hears, X.method, X.code, X.here, X.tail, X.warmed, ?_, ?_, ?_⟩
  · have h := X.room
    have hU : ((T.setVm s.vm).setFrames (.invoking m args :: below)).localsInUse = s.localsInUse := by
      rw [State.localsInUse_invoking hF (meth := meth) (c := c) X.method X.code, State.localsInUse_invoking X.frames X.method X.code]
    simp only [State.hasRoom, Bool.and_eq_true, decide_eq_true_eq] at h ⊢
    obtain ⟨⟨⟨⟨h1, h2, h3, h4, h5, h6⟩, h7⟩, h8⟩, h9⟩ := h
    rw [X.frames, List.length_cons] at h2 h3
    have q1 := X.heapSize
    have q2 := X.used
    simp only [hF, hU, List.length_cons, State.stackLimits_setFrames, State.stackBytes_setFrames, hl9, hb9]
    refine ⟨⟨⟨⟨by omega, by omega, by omega, by omega, by omega, h6⟩, ?_⟩, ?_⟩, X.book⟩
    · show T.heap.size + R'.cells ≤ e.platform.maxCells
      omega
    · show T.slotsUsed + R'.slots ≤ e.platform.maxSlots
      omega
  · rw [State.stackLimits_setFrames]; rfl
  · rw [State.stackBytes_setFrames]; rfl
  · refine ⟨?_, Nat.le_refl _, Nat.le_refl _, ?_, ?_, fun a c9 h9 => ⟨c9, h9, rfl, rfl, fun _ _ => rfl⟩⟩
    · obtain ⟨t, ht, -⟩ := State.frames_cons hr
      show T.setVm s.vm = { ((T.setVm s.vm).setFrames (.invoking m args :: below)).setFrames (T.setVm s.vm).frames with heap := T.heap, slotsUsed := T.slotsUsed }
      rw [State.setFrames_setFrames, State.setFrames_self ht]
      rfl
    · show T.slotsUsed = T.slotsUsed + ((T.heap.toList.drop T.heap.size).map (·.slots.size)).sum
      rw [List.drop_eq_nil_of_le (Nat.le_of_eq Array.length_toList)]
      rfl
    · show ((T.heap.toList.drop T.heap.size).map (·.slots.size)).sum ≤ 0
      rw [List.drop_eq_nil_of_le (Nat.le_of_eq Array.length_toList)]
      exact Nat.le_refl _
/-- 'throw new E()': new; dup; invokespecial; athrow -/
theorem vx_throw0 {cc : ByteArray} {pc : Nat} (hexec : p.tables.exec = Jvm.exec) (hb : c.code = cc) (hl : l.stackTraces = false) {own cls : String} {names : List String} {ik ic mc ms : Nat} {A : Nat → Prop}
    (hown : s.vm.findClass own = some m.cls) (hcls : Bundle.fit cls = true) (hnames : ∀ n ∈ names, Bundle.fit n = true)
    (hk : (Cond.classLink own ik cls).before args s = true) (hini : (Cond.initialized cls).before args s = true) (hat : ∀ w ∈ vx_at0 own ic cls names, w.before args s = true)
    (hgood : ∀ w ∈ Cond.classLink own ik cls :: Cond.initialized cls :: vx_at0 own ic cls names, vx_ot w = true)
    (hU : vx_Zq Bundle.tN "UNASSIGNED_STACK" Bundle.steD A s s.heap) (hN : vx_Zq Bundle.tN "SUPPRESSED_SENTINEL" Bundle.listD A s s.heap) (hS : va_S A s.heap H locs) (hsize : ls.size = c.maxLocals)
    (d0 : decode cc pc = .ok (.new ik, 3)) (d3 : decode cc (pc + 3) = .ok (.dup, 1)) (d4 : decode cc (pc + 4) = .ok (.invokespecial ic, 3)) (d7 : decode cc (pc + 7) = .ok (.athrow, 1))
    (hout : ∀ x ∈ c.exceptionTable.toList, covers x (pc + 7) = false)
    (hRframes : names.length + 3 < R.frames) (hRlocals : (rest.map fun v => v.category).sum + (13 * (names.length + 1) + 42) ≤ R.locals) (hRcells : cells + 1 ≤ R.cells) (hRslots : slots + 6 ≤ R.slots) (hlocks : meth.locks = false)
    (hx : ∀ t : State, s.vm.Alike t.vm → H.size ≤ t.heap.size → (∀ q : Nat, q < H.size → t.heap[q]? = H[q]?) → XC cls s t)
    (hf : ∀ z ∈ locs, free z.base) (hc : cells + 1 ≤ mc) (hs : slots + 6 ≤ ms) :
    W p l e R s m args below meth c H locs cells slots (vx_MQ below Qc XC args s mc ms free) (F0 m pc ls rest) := by
  intro T hT X
  have htr : e.platform.stackTraces = false := (show e.platform.stackTraces = l.stackTraces by rw [X.admits.platform]).trans hl
  have Y := vx_rebase X (R' := { frames := R.frames, locals := R.locals, cells := 1, slots := 6 }) (Nat.le_refl _) (Nat.le_refl _) hRcells hRslots
  obtain ⟨s', hA⟩ : ∃ z, z = (T.setVm s.vm).setFrames (.invoking m args :: below) := ⟨_, rfl⟩
  rw [← hA] at Y
  have hvm : s'.vm = s.vm := by rw [hA]; rfl
  have hhp : s'.heap = H := by rw [hA]; exact hT
  have hW0 : s.WarmedH s'.vm := by rw [hvm]; exact State.WarmedH.refl s
  have hat' : ∀ w ∈ vx_at0 own ic cls names, w.before args s' = true := fun w hw => vx_ot_at hW0 hvm.symm (hgood w (List.mem_cons_of_mem _ (List.mem_cons_of_mem _ hw))) (hat w hw)
  have hk' : (Cond.classLink own ik cls).before args s' = true := vx_ot_at hW0 hvm.symm (hgood _ List.mem_cons_self) hk
  have hini' : (Cond.initialized cls).before args s' = true := vx_ot_at hW0 hvm.symm (hgood _ (List.mem_cons_of_mem _ List.mem_cons_self)) hini
  have hU' : vx_Zq Bundle.tN "UNASSIGNED_STACK" Bundle.steD A s' s'.heap := by rw [hhp]; exact vx_Zq.moved hW0.alike (hU.kept hS.2.1)
  have hN' : vx_Zq Bundle.tN "SUPPRESSED_SENTINEL" Bundle.listD A s' s'.heap := by rw [hhp]; exact vx_Zq.moved hW0.alike (hN.kept hS.2.1)
  have h : ∀ w ∈ Bundle.ownAtoms0 own ic cls names, w.before args s' = true := vx_own hat' (vx_isRefq hU'.1) (vx_isRefq hN'.1) hU'.2.word hN'.2.word
  have hown' : s'.vm.findClass own = some m.cls := by rw [hvm]; exact hown
  have hins : (Cond.instantiable cls 6).before args s' = true := h _ (by simp [Bundle.ownAtoms0])
  obtain ⟨vm₁, cX, kX, hfX, hkX, -, -, X₁, st1⟩ := Y.newCold hexec (own := own) (C := cls) (index := ik) (n := 6) hown' hk' hins hini'
    (g := F0 m pc ls rest) rfl (by rw [hb]; exact d0) (Nat.le_refl _) (Nat.le_refl _)
  generalize hT1 : (T.setVm vm₁).pushCell { cls := cX, slots := kX.instanceTypes.map defaultValue, vm := .none } = T1 at X₁ st1
  have hcat : (Value.ref T.heap.size).category = 1 := rfl
  have hcellA : T1.heap[T.heap.size]? = some (freshCell cX kX) := by rw [← hT1]; exact State.heap_pushCell_size _ _
  have d3' : decode c.code (pc + 3) = .ok (.dup, 1) := by rw [hb]; exact d3
  obtain ⟨U, hsteps, hrun, hend, hW, hsame, ce, hce, hO⟩ := X₁.ctorThrow0 hexec htr (own := own) (cls := cls) (names := names) (ic := ic) hown' hcls hnames h (fun x hx => nomatch hx) hfX hkX hcellA (by rw [hhp, hT]; exact Nat.le_refl _)
    (g := { method := m, pc := pc + 4, locals := ls, stack := .ref T.heap.size :: .ref T.heap.size :: rest, locked := none }) rfl hsize rfl rfl (rest := rest) rfl
    (by rw [hb]; exact d4) (by rw [hb]; exact d7) hout hRframes (by simp only [List.map_cons, List.sum_cons, hcat]; omega) hlocks
  obtain ⟨f1, f2⟩ := vx_frame hsame
  rw [hhp] at f1 f2
  have hWs : s.WarmedH U.vm := State.WarmedH.trans hW0 hW
  have hcl : s.vm.findClass cls = some ce.cls := by
    have h9 := hO.cls
    rw [hvm] at h9
    exact h9
  have hall : s.sameButNew ({ U with vm := s.vm } : State) locs mc ms := by
    subst hA
    obtain ⟨e1, e2⟩ := hsame
    rw [State.setFrames_setFrames] at e1
    have h2 : (T.setVm s.vm).sameButNew ({ U with vm := s.vm } : State) [] (0 + 1) (0 + 6) := ⟨e1, e2⟩
    have h3 := X.same.trans h2
    rw [List.append_nil] at h3
    exact h3.mono hc hs
  refine ⟨U, ?_, .threw T.heap.size, hrun, hend, Or.inr ⟨T.heap.size, rfl, cls, ce, locs, hx U hWs.alike f1 (fun q hq => f2 q hq (fun z hz => nomatch hz)), hce, hO.vm, hcl, hWs, hall, hf⟩⟩
  refine st1 _ ?_
  show Steps p.tables e below (T1.setTop { method := m, pc := pc + 3, locals := ls, stack := .ref T.heap.size :: rest, locked := none }) _
  jvm_step X₁.here [X₁.here.top, hexec, d3', Value.category]
  exact hsteps
/-- 'throw new E("text")': new; dup; ldc; invokespecial; athrow -/
theorem vx_throwS {cc : ByteArray} {pc : Nat} (hexec : p.tables.exec = Jvm.exec) (hb : c.code = cc) (hl : l.stackTraces = false) {own cls text : String} {names : List String} {ik is ic mc ms sa : Nat} {A : Nat → Prop}
    (hown : s.vm.findClass own = some m.cls) (hcls : Bundle.fit cls = true) (hnames : ∀ n ∈ names, Bundle.fit n = true)
    (hk : (Cond.classLink own ik cls).before args s = true) (hini : (Cond.initialized cls).before args s = true) (hstr : vk_R own is text sa s) (hat : ∀ w ∈ vx_atS own ic cls names, w.before args s = true)
    (hgood : ∀ w ∈ Cond.classLink own ik cls :: Cond.initialized cls :: vx_atS own ic cls names, vx_ot w = true)
    (hU : vx_Zq Bundle.tN "UNASSIGNED_STACK" Bundle.steD A s s.heap) (hN : vx_Zq Bundle.tN "SUPPRESSED_SENTINEL" Bundle.listD A s s.heap) (hS : va_S A s.heap H locs) (hsize : ls.size = c.maxLocals)
    (d0 : decode cc pc = .ok (.new ik, 3)) (d3 : decode cc (pc + 3) = .ok (.dup, 1)) (d4 : decode cc (pc + 4) = .ok (.ldc is, 2)) (d6 : decode cc (pc + 6) = .ok (.invokespecial ic, 3)) (d9 : decode cc (pc + 9) = .ok (.athrow, 1))
    (hout : ∀ x ∈ c.exceptionTable.toList, covers x (pc + 9) = false)
    (hRframes : names.length + 3 < R.frames) (hRlocals : (rest.map fun v => v.category).sum + (13 * (names.length + 1) + 43) ≤ R.locals) (hRcells : cells + 1 ≤ R.cells) (hRslots : slots + 6 ≤ R.slots) (hlocks : meth.locks = false)
    (hx : ∀ t : State, s.vm.Alike t.vm → H.size ≤ t.heap.size → (∀ q : Nat, q < H.size → t.heap[q]? = H[q]?) → XC cls s t)
    (hf : ∀ z ∈ locs, free z.base) (hc : cells + 1 ≤ mc) (hs : slots + 6 ≤ ms) :
    W p l e R s m args below meth c H locs cells slots (vx_MQ below Qc XC args s mc ms free) (F0 m pc ls rest) := by
  intro T hT X
  have htr : e.platform.stackTraces = false := (show e.platform.stackTraces = l.stackTraces by rw [X.admits.platform]).trans hl
  have Y := vx_rebase X (R' := { frames := R.frames, locals := R.locals, cells := 1, slots := 6 }) (Nat.le_refl _) (Nat.le_refl _) hRcells hRslots
  obtain ⟨s', hA⟩ : ∃ z, z = (T.setVm s.vm).setFrames (.invoking m args :: below) := ⟨_, rfl⟩
  rw [← hA] at Y
  have hvm : s'.vm = s.vm := by rw [hA]; rfl
  have hhp : s'.heap = H := by rw [hA]; exact hT
  have hW0 : s.WarmedH s'.vm := by rw [hvm]; exact State.WarmedH.refl s
  have hat' : ∀ w ∈ vx_atS own ic cls names, w.before args s' = true := fun w hw => vx_ot_at hW0 hvm.symm (hgood w (List.mem_cons_of_mem _ (List.mem_cons_of_mem _ hw))) (hat w hw)
  have hk' : (Cond.classLink own ik cls).before args s' = true := vx_ot_at hW0 hvm.symm (hgood _ List.mem_cons_self) hk
  have hini' : (Cond.initialized cls).before args s' = true := vx_ot_at hW0 hvm.symm (hgood _ (List.mem_cons_of_mem _ List.mem_cons_self)) hini
  have hU' : vx_Zq Bundle.tN "UNASSIGNED_STACK" Bundle.steD A s' s'.heap := by rw [hhp]; exact vx_Zq.moved hW0.alike (hU.kept hS.2.1)
  have hN' : vx_Zq Bundle.tN "SUPPRESSED_SENTINEL" Bundle.listD A s' s'.heap := by rw [hhp]; exact vx_Zq.moved hW0.alike (hN.kept hS.2.1)
  have h : ∀ w ∈ Bundle.ownAtoms own ic cls names, w.before args s' = true := vx_own hat' (vx_isRefq hU'.1) (vx_isRefq hN'.1) hU'.2.word hN'.2.word
  have hown' : s'.vm.findClass own = some m.cls := by rw [hvm]; exact hown
  have hins : (Cond.instantiable cls 6).before args s' = true := h _ (by simp [Bundle.ownAtoms])
  obtain ⟨vm₁, cX, kX, hfX, hkX, -, -, X₁, st1⟩ := Y.newCold hexec (own := own) (C := cls) (index := ik) (n := 6) hown' hk' hins hini'
    (g := F0 m pc ls rest) rfl (by rw [hb]; exact d0) (Nat.le_refl _) (Nat.le_refl _)
  generalize hT1 : (T.setVm vm₁).pushCell { cls := cX, slots := kX.instanceTypes.map defaultValue, vm := .none } = T1 at X₁ st1
  have hcat : (Value.ref T.heap.size).category = 1 := rfl
  have hcellA : T1.heap[T.heap.size]? = some (freshCell cX kX) := by rw [← hT1]; exact State.heap_pushCell_size _ _
  have d3' : decode c.code (pc + 3) = .ok (.dup, 1) := by rw [hb]; exact d3
  have d4' : decode c.code (pc + 4) = .ok (.ldc is, 2) := by rw [hb]; exact d4
  have hstr' : vk_R own is text sa s' := vk_R.warm hW0 hstr
  obtain ⟨U, hsteps, hrun, hend, hW, hsame, ce, hce, hO⟩ := X₁.ctorThrowS hexec htr (own := own) (cls := cls) (names := names) (ic := ic) hown' hcls hnames h (fun x hx => nomatch hx) hfX hkX hcellA (by rw [hhp, hT]; exact Nat.le_refl _) (msg := .ref sa) rfl
    (g := { method := m, pc := pc + 6, locals := ls, stack := .ref sa :: .ref T.heap.size :: .ref T.heap.size :: rest, locked := none }) rfl hsize rfl rfl (rest := rest) rfl
    (by rw [hb]; exact d6) (by rw [hb]; exact d9) hout hRframes (by simp only [List.map_cons, List.sum_cons, hcat]; omega) hlocks
  obtain ⟨f1, f2⟩ := vx_frame hsame
  rw [hhp] at f1 f2
  have hWs : s.WarmedH U.vm := State.WarmedH.trans hW0 hW
  have hcl : s.vm.findClass cls = some ce.cls := by
    have h9 := hO.cls
    rw [hvm] at h9
    exact h9
  have hall : s.sameButNew ({ U with vm := s.vm } : State) locs mc ms := by
    subst hA
    obtain ⟨e1, e2⟩ := hsame
    rw [State.setFrames_setFrames] at e1
    have h2 : (T.setVm s.vm).sameButNew ({ U with vm := s.vm } : State) [] (0 + 1) (0 + 6) := ⟨e1, e2⟩
    have h3 := X.same.trans h2
    rw [List.append_nil] at h3
    exact h3.mono hc hs
  refine ⟨U, ?_, .threw T.heap.size, hrun, hend, Or.inr ⟨T.heap.size, rfl, cls, ce, locs, hx U hWs.alike f1 (fun q hq => f2 q hq (fun z hz => nomatch hz)), hce, hO.vm, hcl, hWs, hall, hf⟩⟩
  refine st1 _ ?_
  show Steps p.tables e below (T1.setTop { method := m, pc := pc + 3, locals := ls, stack := .ref T.heap.size :: rest, locked := none }) _
  jvm_step X₁.here [X₁.here.top, hexec, d3', Value.category]
  exact X₁.ldcString hexec (own := own) (text := text) (index := is) (a := sa) hown' hstr'.1 hstr'.2
    (g := { method := m, pc := pc + 4, locals := ls, stack := .ref T.heap.size :: .ref T.heap.size :: rest, locked := none }) rfl d4' _ hsteps
/-- 'throw new E("text")', the text by a wide index -/
theorem vx_throwSW {cc : ByteArray} {pc : Nat} (hexec : p.tables.exec = Jvm.exec) (hb : c.code = cc) (hl : l.stackTraces = false) {own cls text : String} {names : List String} {ik is ic mc ms sa : Nat} {A : Nat → Prop}
    (hown : s.vm.findClass own = some m.cls) (hcls : Bundle.fit cls = true) (hnames : ∀ n ∈ names, Bundle.fit n = true)
    (hk : (Cond.classLink own ik cls).before args s = true) (hini : (Cond.initialized cls).before args s = true) (hstr : vk_R own is text sa s) (hat : ∀ w ∈ vx_atS own ic cls names, w.before args s = true)
    (hgood : ∀ w ∈ Cond.classLink own ik cls :: Cond.initialized cls :: vx_atS own ic cls names, vx_ot w = true)
    (hU : vx_Zq Bundle.tN "UNASSIGNED_STACK" Bundle.steD A s s.heap) (hN : vx_Zq Bundle.tN "SUPPRESSED_SENTINEL" Bundle.listD A s s.heap) (hS : va_S A s.heap H locs) (hsize : ls.size = c.maxLocals)
    (d0 : decode cc pc = .ok (.new ik, 3)) (d3 : decode cc (pc + 3) = .ok (.dup, 1)) (d4 : decode cc (pc + 4) = .ok (.ldc_w is, 3)) (d7 : decode cc (pc + 7) = .ok (.invokespecial ic, 3)) (d10 : decode cc (pc + 10) = .ok (.athrow, 1))
    (hout : ∀ x ∈ c.exceptionTable.toList, covers x (pc + 10) = false)
    (hRframes : names.length + 3 < R.frames) (hRlocals : (rest.map fun v => v.category).sum + (13 * (names.length + 1) + 43) ≤ R.locals) (hRcells : cells + 1 ≤ R.cells) (hRslots : slots + 6 ≤ R.slots) (hlocks : meth.locks = false)
    (hx : ∀ t : State, s.vm.Alike t.vm → H.size ≤ t.heap.size → (∀ q : Nat, q < H.size → t.heap[q]? = H[q]?) → XC cls s t)
    (hf : ∀ z ∈ locs, free z.base) (hc : cells + 1 ≤ mc) (hs : slots + 6 ≤ ms) :
    W p l e R s m args below meth c H locs cells slots (vx_MQ below Qc XC args s mc ms free) (F0 m pc ls rest) := by
  intro T hT X
  have htr : e.platform.stackTraces = false := (show e.platform.stackTraces = l.stackTraces by rw [X.admits.platform]).trans hl
  have Y := vx_rebase X (R' := { frames := R.frames, locals := R.locals, cells := 1, slots := 6 }) (Nat.le_refl _) (Nat.le_refl _) hRcells hRslots
  obtain ⟨s', hA⟩ : ∃ z, z = (T.setVm s.vm).setFrames (.invoking m args :: below) := ⟨_, rfl⟩
  rw [← hA] at Y
  have hvm : s'.vm = s.vm := by rw [hA]; rfl
  have hhp : s'.heap = H := by rw [hA]; exact hT
  have hW0 : s.WarmedH s'.vm := by rw [hvm]; exact State.WarmedH.refl s
  have hat' : ∀ w ∈ vx_atS own ic cls names, w.before args s' = true := fun w hw => vx_ot_at hW0 hvm.symm (hgood w (List.mem_cons_of_mem _ (List.mem_cons_of_mem _ hw))) (hat w hw)
  have hk' : (Cond.classLink own ik cls).before args s' = true := vx_ot_at hW0 hvm.symm (hgood _ List.mem_cons_self) hk
  have hini' : (Cond.initialized cls).before args s' = true := vx_ot_at hW0 hvm.symm (hgood _ (List.mem_cons_of_mem _ List.mem_cons_self)) hini
  have hU' : vx_Zq Bundle.tN "UNASSIGNED_STACK" Bundle.steD A s' s'.heap := by rw [hhp]; exact vx_Zq.moved hW0.alike (hU.kept hS.2.1)
  have hN' : vx_Zq Bundle.tN "SUPPRESSED_SENTINEL" Bundle.listD A s' s'.heap := by rw [hhp]; exact vx_Zq.moved hW0.alike (hN.kept hS.2.1)
  have h : ∀ w ∈ Bundle.ownAtoms own ic cls names, w.before args s' = true := vx_own hat' (vx_isRefq hU'.1) (vx_isRefq hN'.1) hU'.2.word hN'.2.word
  have hown' : s'.vm.findClass own = some m.cls := by rw [hvm]; exact hown
  have hins : (Cond.instantiable cls 6).before args s' = true := h _ (by simp [Bundle.ownAtoms])
  obtain ⟨vm₁, cX, kX, hfX, hkX, -, -, X₁, st1⟩ := Y.newCold hexec (own := own) (C := cls) (index := ik) (n := 6) hown' hk' hins hini'
    (g := F0 m pc ls rest) rfl (by rw [hb]; exact d0) (Nat.le_refl _) (Nat.le_refl _)
  generalize hT1 : (T.setVm vm₁).pushCell { cls := cX, slots := kX.instanceTypes.map defaultValue, vm := .none } = T1 at X₁ st1
  have hcat : (Value.ref T.heap.size).category = 1 := rfl
  have hcellA : T1.heap[T.heap.size]? = some (freshCell cX kX) := by rw [← hT1]; exact State.heap_pushCell_size _ _
  have d3' : decode c.code (pc + 3) = .ok (.dup, 1) := by rw [hb]; exact d3
  have d4' : decode c.code (pc + 4) = .ok (.ldc_w is, 3) := by rw [hb]; exact d4
  have hstr' : vk_R own is text sa s' := vk_R.warm hW0 hstr
  obtain ⟨U, hsteps, hrun, hend, hW, hsame, ce, hce, hO⟩ := X₁.ctorThrowS hexec htr (own := own) (cls := cls) (names := names) (ic := ic) hown' hcls hnames h (fun x hx => nomatch hx) hfX hkX hcellA (by rw [hhp, hT]; exact Nat.le_refl _) (msg := .ref sa) rfl
    (g := { method := m, pc := pc + 7, locals := ls, stack := .ref sa :: .ref T.heap.size :: .ref T.heap.size :: rest, locked := none }) rfl hsize rfl rfl (rest := rest) rfl
    (by rw [hb]; exact d7) (by rw [hb]; exact d10) hout hRframes (by simp only [List.map_cons, List.sum_cons, hcat]; omega) hlocks
  obtain ⟨f1, f2⟩ := vx_frame hsame
  rw [hhp] at f1 f2
  have hWs : s.WarmedH U.vm := State.WarmedH.trans hW0 hW
  have hcl : s.vm.findClass cls = some ce.cls := by
    have h9 := hO.cls
    rw [hvm] at h9
    exact h9
  have hall : s.sameButNew ({ U with vm := s.vm } : State) locs mc ms := by
    subst hA
    obtain ⟨e1, e2⟩ := hsame
    rw [State.setFrames_setFrames] at e1
    have h2 : (T.setVm s.vm).sameButNew ({ U with vm := s.vm } : State) [] (0 + 1) (0 + 6) := ⟨e1, e2⟩
    have h3 := X.same.trans h2
    rw [List.append_nil] at h3
    exact h3.mono hc hs
  refine ⟨U, ?_, .threw T.heap.size, hrun, hend, Or.inr ⟨T.heap.size, rfl, cls, ce, locs, hx U hWs.alike f1 (fun q hq => f2 q hq (fun z hz => nomatch hz)), hce, hO.vm, hcl, hWs, hall, hf⟩⟩
  refine st1 _ ?_
  show Steps p.tables e below (T1.setTop { method := m, pc := pc + 3, locals := ls, stack := .ref T.heap.size :: rest, locked := none }) _
  jvm_step X₁.here [X₁.here.top, hexec, d3', Value.category]
  exact X₁.ldcStringW hexec (own := own) (text := text) (index := is) (a := sa) hown' hstr'.1 hstr'.2
    (g := { method := m, pc := pc + 4, locals := ls, stack := .ref T.heap.size :: .ref T.heap.size :: rest, locked := none }) rfl d4' _ hsteps
end Ends
section Bodies
variable {l : Launch}
theorem vx_ofW {y : MethodName} {ws ws' : List Cond} {rm : Room} {Pc : Array Value → State → Prop} {Qc : Array Value → State → Outcome → State → Prop} {XC : String → State → State → Prop} {mc ms : Nat} {free : Addr → Prop} {cc : ByteArray} {maxL : Nat} {ret : Option FieldType}
    (hy : plainName y.cls = true) (hw : ws = Cond.code y cc maxL ret :: ws')
    (body : ∀ p e s m args below meth c s₁, BodyLoose p l y (headSpec ws rm) cc maxL ret e s m args below meth c s₁ → c.maxLocals = maxL → (∀ x ∈ c.exceptionTable.toList, False) → Pc args s →
      W p l e (headSpec ws rm).room s m args below meth c s.heap [] 0 0 (vx_MQ below Qc XC args s mc ms free) (entryFrame m args maxL)) : vx_Met l y ws rm Pc Qc XC mc ms free := by
  refine MetFree.of_bodyS (code := cc) (maxLocals := maxL) (ret := ret) hy ?_ ?_
  · intro args s m h hn
    obtain ⟨meth, c, h1, h2, h3, h4, h5, h6, -, -⟩ := Cond.code_spec hn (atoms_spec (ws := ws) h _ (by rw [hw]; exact List.mem_cons_self))
    exact ⟨meth, c, h1, h2, h3, h4, h5, h6⟩
  · intro p e s m args below meth c s₁ B hml hP _
    have hh0 : s₁.heap = s.heap := by rw [B.state]; rfl
    have ht : ∀ x ∈ c.exceptionTable.toList, False := by
      obtain ⟨meth9, c9, h1, h2, -, -, -, -, h7, -⟩ := Cond.code_spec B.named (atoms_spec (ws := ws) B.pre _ (by rw [hw]; exact List.mem_cons_self))
      cases Option.some.inj (h1.symm.trans B.method)
      cases Option.some.inj (h2.symm.trans (Stand.of_body B).code)
      intro x hx
      rw [Array.isEmpty_iff.mp h7] at hx
      cases hx
    obtain ⟨t, a1, o, b1, b2, b3⟩ := body p e s m args below meth c s₁ B hml ht hP s₁ hh0 (Stand.of_body B)
    exact ⟨t, o, a1, b1, b2, b3⟩
/-- the table of a body with handlers -/
theorem vx_table {p : Program} {x y : MethodName} {S : Spec} {cc bytes : ByteArray} {maxL maxL' : Nat} {ret ret' : Option FieldType} {e : Env} {s s₁ : State} {m : MethodId} {args : Array Value} {below : List Frame} {meth : Method} {c : Code} {hh : List (Nat × Nat × Nat × Nat)}
    (B : BodyLoose p l y S cc maxL ret e s m args below meth c s₁) (h : (Cond.codeWith y bytes maxL' ret' hh).before args s = true) : c.exceptionTable.toList = tableOf hh := by
  obtain ⟨m9, meth9, c9, hn9, h1, h2, -, -, h6, -⟩ := Cond.codeWith_spec h
  cases Option.some.inj (hn9.symm.trans B.named)
  cases Option.some.inj (h1.symm.trans B.method)
  cases Option.some.inj (h2.symm.trans (Stand.of_body B).code)
  rw [← h6, table_eq]
end Bodies
end VXA
/-! ===== END ===== -/
/-! ===== BEGIN a static call of a method with an exception table ===== -/
section VXS
variable {p : Program} {l : Launch} {e : Env} {R : Room} {s : State} {m : MethodId} {args : Array Value} {below : List Frame} {meth : Method} {c : Code} {T : State} {H : Heap} {locs : List Loc} {cells slots : Nat}
abbrev vx_CSW (R : Room) (s : State) (args : Array Value) (own : String) (index : Nat) (y : MethodName) (bytes : ByteArray) (maxL : Nat) (ret : Option FieldType) (hh : List (Nat × Nat × Nat × Nat)) (ws : List Cond) (rm : Room) (mc ms n : Nat) : Prop :=
  (rm.cells = mc ∧ rm.slots = ms ∧ rm.frames + 1 ≤ R.frames ∧ 8 + (maxL + 11) + rm.locals ≤ R.locals ∧ (∀ w ∈ ws, ∀ (a' : Array Value) (U : State), s.WarmedH U.vm → w.before a' U = true) ∧ Cond.codeWith y bytes maxL ret hh ∈ ws) ∧
  (Cond.codeWith y bytes maxL ret hh).before args s = true ∧ (Cond.initialized y.cls).before args s = true ∧ (y.cls ≠ "java/lang/invoke/MethodHandle" ∧ y.cls ≠ "java/lang/invoke/VarHandle") ∧
  (∀ sig, parseMethodDescriptor y.desc = some sig → n = sig.parameters.length) ∧ (Cond.methodLink own index y).before args s = true ∧ (Cond.static y).before args s = true
theorem vx_cwSW {own : String} {index maxL mc ms : Nat} {y : MethodName} {bytes : ByteArray} {ret : Option FieldType} {hh : List (Nat × Nat × Nat × Nat)} {Ts ws ws' : List Cond} {rm : Room} (n : Nat) (ht : ∀ w ∈ Ts, w.before args s = true) (hT : GoodIn Ts (va_wsS own index y ws)) (hw : ws = Cond.codeWith y bytes maxL ret hh :: ws') (hrc : rm.cells = mc) (hrs : rm.slots = ms)
    (hd : y.cls ≠ "java/lang/invoke/MethodHandle" ∧ y.cls ≠ "java/lang/invoke/VarHandle" ∧ (parseMethodDescriptor y.desc).map (fun d => d.parameters.length) = some n) (hR : rm.frames + 1 ≤ R.frames ∧ 8 + (maxL + 11) + rm.locals ≤ R.locals) :
    vx_CSW R s args own index y bytes maxL ret hh ws rm mc ms n := by
  have ok : ∀ w ∈ va_wsS own index y ws, w.before args s = true := fun w h => ht w (hT w h).1
  have hG : GoodIn Ts ws := fun w h => hT w (by unfold va_wsS; exact List.mem_append_right _ h)
  have hc : Cond.codeWith y bytes maxL ret hh ∈ ws := by rw [hw]; exact List.mem_cons_self
  refine ⟨⟨hrc, hrs, hR.1, hR.2, pay_in ht hG, hc⟩, ht _ (hG _ hc).1, ok _ (by simp [va_wsS]), ⟨hd.1, hd.2.1⟩, fun sig h => ?_, ok _ (by simp [va_wsS]), ok _ (by simp [va_wsS])⟩
  have h2 := hd.2.2
  rw [h] at h2
  exact (Option.some.inj h2).symm
theorem vx_callSW (X : Stand p l e R s m args below meth c T locs cells slots) (hexec : p.tables.exec = Jvm.exec) {own : String} {index : Nat} {y : MethodName} {bytes : ByteArray} {maxL : Nat} {ret : Option FieldType} {hh : List (Nat × Nat × Nat × Nat)}
    (hown : s.vm.findClass own = some m.cls) (hlink : (Cond.methodLink own index y).before args s = true) (hstat : (Cond.static y).before args s = true) (hinit : (Cond.initialized y.cls).before args s = true)
    (hcode : (Cond.codeWith y bytes maxL ret hh).before args s = true) (hy : y.cls ≠ "java/lang/invoke/MethodHandle" ∧ y.cls ≠ "java/lang/invoke/VarHandle")
    {W9 : Nat} {Pre : Pt → Array Value → Prop} {Post : Pt → Array Value → Option Value → Pt → Prop} (hK : Back l R p e below s args y 3 W9 Pre Post)
    {g : JFrame} (hg : g.method = m) (hsize : g.locals.size = c.maxLocals) {argsL rest : List Value} (hlen : ∀ sig, parseMethodDescriptor y.desc = some sig → argsL.length = sig.parameters.length)
    (hstack : g.stack = argsL.reverse ++ rest) (hW : 2 * g.monitorRoom + (rest.map fun v => v.category).sum ≤ W9) (hdg : decode c.code g.pc = .ok (.invokestatic index, 3))
    (hpre : ∀ vm₁, s.WarmedH vm₁ → Pre ⟨T.setVm vm₁, locs, cells, slots⟩ argsL.toArray) :
    ∃ (v : Option Value) (vm₁ : Vm) (B : Pt), s.WarmedH vm₁ ∧ Stand p l e R s m args below meth c B.U B.locs B.cells B.slots ∧ Post ⟨T.setVm vm₁, locs, cells, slots⟩ argsL.toArray v B ∧
      ∀ target, Steps p.tables e below (B.U.setTop { g with pc := g.pc + 3, stack := v.toList ++ rest }) target → Steps p.tables e below (T.setTop g) target := by
  obtain ⟨mk, methM, cM, hnamed, hmethM, -, -, -, -, -, -, hsigM⟩ := Cond.codeWith_spec hcode
  have hstatic : methM.isStatic = true := Cond.static_spec hnamed hmethM hstat
  obtain ⟨kP, hkP, -⟩ := className_of_methodNamed hnamed
  have hinitP : kP.init = .initialized := Cond.initialized_spec (findClass_of_methodNamed hnamed) hkP hinit
  obtain ⟨vm₁, X₁, hstep₁⟩ := X.invokestatic hexec hown hlink hnamed hmethM hstatic hkP hinitP hy (g := g) hg (argsL := argsL) (rest := rest) (hlen _ hsigM) hstack hdg
  obtain ⟨v, B, X', hpost, hsteps⟩ := hK m meth c ⟨T.setVm vm₁, locs, cells, slots⟩ { g with stack := rest } (.invokestatic index) mk argsL.toArray X₁ hg hsize hdg hW (X₁.named hnamed) (hpre vm₁ X₁.warmed)
  exact ⟨v, vm₁, B, X₁.warmed, X', hpost, fun target h => hstep₁ _ fun acts => by rw [doInvoke_state]; exact hsteps.trans h⟩
theorem vx_runSW {y : MethodName} {bytes cc : ByteArray} {maxL nL mc ms n index : Nat} {ret : Option FieldType} {hh : List (Nat × Nat × Nat × Nat)} {ws : List Cond} {rm : Room} {Pc : Array Value → State → Prop} {Qc : Array Value → State → Outcome → State → Prop} {free : Addr → Prop} {Ts : List Cond} {own : String} {As rest : List Value} {g : JFrame}
    (S : CallFix p m c cc nL s args Ts own) (hM : Met l y ws rm Pc Qc mc ms free) (cw : vx_CSW R s args own index y bytes maxL ret hh ws rm mc ms n) (hp : PreS s H Pc As)
    (hg : g.method = m) (hn : As.length = n) (hsize : g.locals.size = nL) (hstack : g.stack = As.reverse ++ rest) (hW : 2 * g.monitorRoom + (rest.map fun v => v.category).sum ≤ 8) (hdg : decode cc g.pc = .ok (.invokestatic index, 3)) (hf : cells + mc ≤ R.cells ∧ slots + ms ≤ R.slots) :
    va_Run p l e R s m args below meth c H locs cells slots mc ms g rest (Qc As.toArray) (free) := by
  obtain ⟨⟨hrc, hrs, hfr, hlo, hws, hcw⟩, hcode, hini, hy, hlen, hl, hstt⟩ := cw
  have hK : Back l R p e below s args y 3 8 (PreOf R mc ms Pc) (PostOf Qc mc ms free) := va_backW (hh := hh) (bytes := bytes) (maxL := maxL) (ret := ret) hM hp.1 hrc hrs hfr hlo hws hcw (fun a' U hW => word_at hW (Or.inl (by first | rfl | simp [Cond.onTables, Cond.keeps, Cond.steady])) hini)
  obtain ⟨hx, hb, hml, ho, -⟩ := S
  intro T hT X
  obtain ⟨v, vm₁, ⟨U', l2, c2, s2⟩, hW₁, X', ⟨g', mk, t, L, e1, e2, hq, h1, hL, h2, h3⟩, st⟩ := vx_callSW X hx (hh := hh) (bytes := bytes) (maxL := maxL) (ret := ret) ho hl hstt hini hcode hy hK hg (hsize.trans hml.symm) (argsL := As) (rest := rest) (fun sig h => hn.trans (hlen sig h)) hstack hW (by rw [hb]; exact hdg)
    (fun vm₁ hW₁ => ⟨hf.1, hf.2, hp.2 (T.setVm vm₁) hT hW₁⟩)
  dsimp only [Pt.U, Pt.locs, Pt.cells, Pt.slots] at X' e1 e2 h1 h2 h3 st
  subst h1; subst h2; subst h3
  exact ⟨v, (T.setVm vm₁).calling g' mk As.toArray, t, U', L, hT, X', hL, e1, e2, hq, st⟩
/-- not caught here, past rows that name other classes: it goes on to the caller -/
theorem vx_outP {p : Program} {l : Launch} {e : Env} {R : Room} {s : State} {m : MethodId} {args : Array Value} {below : List Frame} {meth : Method} {c : Code} {H : Heap} {locs : List Loc} {cells slots : Nat} {free : Addr → Prop} {ls : Array Slot} {rest : List Value} {Qc : Array Value → State → Outcome → State → Prop} {XC : String → State → State → Prop}
    {pc : Nat} {own E : String} {ce : Cell} {q : Addr} {mc ms : Nat} (hown : s.vm.findClass own = some m.cls) (hlocks : meth.locks = false)
    (hpass : ∀ z ∈ c.exceptionTable.toList, covers z pc = false ∨ (z.catchType ≠ 0 ∧ ∃ nm : String, (Cond.classLink own z.catchType nm).before args s = true ∧ va_Nc E nm s)) (hcell : H[q]? = some ce) (hv : ce.vm = .none) (hcl : s.vm.findClass E = some ce.cls)
    (hx : ∀ t : State, t.heap = H → s.vm.Alike t.vm → XC E s t) (hf : ∀ z ∈ locs, free z.base) (hc : cells ≤ mc) (hs : slots ≤ ms) :
    vx_W p l e R s m args below meth c H locs cells slots (vx_MQ below Qc XC args s mc ms free) (F0 m pc ls rest) q := by
  intro T hT X
  have hpl : e.platform.magicAccessors = ({} : Platform).magicAccessors := by rw [X.admits.platform]
  obtain ⟨vm', hW', X', st⟩ := X.outThrough hlocks q (g := F0 m pc ls rest) rfl rfl rfl (cell := ce) (by rw [hT]; exact hcell) (by rw [hv]; rfl)
    (by obtain ⟨k9, h9, -⟩ := Vm.findClass_spec hcl; exact ⟨k9, h9⟩) (fun z hz => by
      rcases hpass z hz with h | ⟨hz0, nm, hl1, hn1⟩
      · exact Or.inl h
      · obtain ⟨c6, hc6, hcl6⟩ := Cond.classLink_spec hown hl1 e.platform hpl
        obtain ⟨a8, b8, h1, h2, h3⟩ := hn1
        cases Option.some.inj (h1.symm.trans hcl)
        cases Option.some.inj (h2.symm.trans hc6)
        exact Or.inr ⟨hz0, _, hcl6, h3⟩)
  obtain ⟨g₀, hfr⟩ := X'.frames_eq
  have hcell9 : ((T.setVm vm').setFrames (.throwing q :: below)).heap[q]? = some ce := by
    show T.heap[q]? = some ce
    rw [hT]; exact hcell
  have hend : Ended ((T.setVm vm').setFrames (.throwing q :: below)) below (.threw q) := State.frames_setFrames _ (State.cur_lt_of_frames hfr)
  refine ⟨(T.setVm vm').setFrames (.throwing q :: below), ?_, .threw q, X'.here.running, hend, Or.inr ⟨q, rfl, E, ce, locs, hx _ hT (X'.ends _).1.alike, hcell9, hv, hcl, (X'.ends _).1, (X'.ends _).2.mono hc hs, hf⟩⟩
  rw [X.pushThrowing_eq]
  exact st
/-- a thing of a world lies in the heap -/
theorem vx_lt {D : va_G} {cl : List vw_C} {ws : va_W} {H1 : Heap} (h : va_P D cl ws H1) {k : Nat} {q : Nat × va_E} (hk : ws[k]? = some q) : q.1 < H1.size := (h k q hk).lt
end VXS
/-! ===== END ===== -/
/-! ===== BEGIN methods with a table of their own: called by a name, returning or throwing ===== -/
section VXH
/-! vx_backW, vx_callVX, vx_callSX, vx_callVW, vx_runVW, vx_runVX, vx_runSX, vx_ofWH follow the same proofs as their sisters above (Free/Laws.lean, Shelf42/LK1.lean); vx_outP calls Shelf42/NT130.lean (outThrough). -/
section
variable {l : Launch} {R : Room} {p : Program} {e : Env} {below : List Frame} {s : State} {sargs : Array Value} {y : MethodName} {len W9 : Nat}
theorem vx_backW {ws : List Cond} {rm : Room} {Pc : Array Value → State → Prop} {Qc : Array Value → State → Outcome → State → Prop} {XC : String → State → State → Prop} {mc ms : Nat} {free : Addr → Prop} {bytes : ByteArray} {maxL : Nat} {ret : Option FieldType} {hh : List (Nat × Nat × Nat × Nat)}
    (hM : vx_Met l y ws rm Pc Qc XC mc ms free) (hblind : FrameBlind Pc) (hrc : rm.cells = mc) (hrs : rm.slots = ms)
    (hframes : rm.frames + 1 ≤ R.frames) (hlocals : W9 + (maxL + 11) + rm.locals ≤ R.locals)
    (hws : ∀ w ∈ ws, ∀ a' U, s.WarmedH U.vm → w.before a' U = true) (hcode : Cond.codeWith y bytes maxL ret hh ∈ ws) (hinit : ∀ a' U, s.WarmedH U.vm → (Cond.initialized y.cls).before a' U = true) :
    vx_Back l R p e below s sargs y len W9 (PreOf R mc ms Pc) (PostOf Qc mc ms free) (vx_Post XC mc ms free) := by
  intro m meth c A g ig mk a X hg hsize hdg hW hn hp
  have h1 : (headSpec ws rm).pre.before a A.U = true := atoms_intro fun w hw => hws w hw _ _ X.warmed
  have h2 : (Cond.codeWith y bytes maxL ret hh).before a A.U = true := hws _ hcode _ _ X.warmed
  have h3 : (Cond.initialized y.cls).before a A.U = true := hinit _ _ X.warmed
  have h4 : A.cells + (headSpec ws rm).room.cells ≤ R.cells := by rw [show (headSpec ws rm).room.cells = mc from hrc]; exact hp.1
  have h5 : A.slots + (headSpec ws rm).room.slots ≤ R.slots := by rw [show (headSpec ws rm).room.slots = ms from hrs]; exact hp.2.1
  have hPc : Pc a (A.U.calling g mk a) := hblind _ _ _ _ hp.2.2
  obtain ⟨U, Ls, c0, s0⟩ := A
  dsimp only [Pt.U, Pt.locs, Pt.cells, Pt.slots] at h1 h2 h3 h4 h5 X hn hPc ⊢
  obtain ⟨m9, methY, cY, hn9, hmY, hcY, -, hlY, -⟩ := Cond.codeWith_spec h2
  cases Option.some.inj (hn9.symm.trans hn)
  obtain ⟨kY, hkY, -⟩ := className_of_methodNamed hn
  have hinitY : kY.init = .initialized := Cond.initialized_spec (findClass_of_methodNamed hn) hkY h3
  have h : At U g.method c below := by rw [hg]; exact X.here
  have hlocals9 : W9 + (maxL + 11) + (headSpec ws rm).room.locals ≤ R.locals := hlocals
  have happ : (headSpec ws rm).appliesLoose y e.platform (U.calling g mk a) = true :=
    Spec.appliesLoose_calling (g := g) h hdg hn hkY hinitY
      (X.room_calling (g := g) (R' := (headSpec ws rm).room) hsize hmY hcY hframes (by rw [hlY]; omega) h4 h5) h1
  obtain ⟨mid, hmid⟩ := h.above
  have hfr : (U.setTop g).frames = (.java g :: mid) ++ below := by rw [State.frames_setTop' g h.top, hmid]; rfl
  obtain ⟨o, s₂, hsteps, -, hend, hq⟩ := Steps.callFree hM p X.admits X.cas X.clock (acts := []) hfr happ hPc trivial
  have hq' : vx_Q Qc XC mc ms free a (U.calling g mk a) o s₂ := hq
  rw [State.frames_setTop' g h.top] at hend
  obtain ⟨g₀, hg0⟩ := Option.isSome_iff_exists.mp h.top
  obtain ⟨r, hr⟩ := State.topJava?_eq_some.mp hg0
  have hr' : (({ U with heap := s₂.heap, slotsUsed := s₂.slotsUsed } : State).setVm s₂.vm).frames = .java g₀ :: r := hr
  rcases hq' with ⟨hqc, L, hfe, hL⟩ | ⟨q, rfl, E, ce, L, hx, hce, hcv, hcl, hW₂, hsm, hL⟩
  · obtain ⟨⟨v, rfl⟩, hW₂, e2, q2, q3, q4, q5, q6⟩ := id hfe
    have e3 : s₂ = ({ (U.calling g mk a).setFrames s₂.frames with heap := s₂.heap, slotsUsed := s₂.slotsUsed } : State).setVm s₂.vm := by
      have : s₂ = ({ s₂ with vm := (U.calling g mk a).vm } : State).setVm s₂.vm := rfl
      rw [e2] at this
      exact this
    obtain ⟨c₂, i₂, len₂, hc₂, hd₂, hf₂⟩ := hend
    have hW' : U.WarmedH s₂.vm := hW₂
    have hcc : c₂ = c := by
      have h1 : s₂.code? g.method = U.code? g.method := by
        rw [State.code?_eq, State.code?_eq, hW'.alike.method?]
      exact Option.some.inj (hc₂.symm.trans (h1.trans h.code))
    subst hcc
    have hlen : len₂ = len := by rw [hdg] at hd₂; cases hd₂; rfl
    subst hlen
    have hs₂ : s₂ = (({ U with heap := s₂.heap, slotsUsed := s₂.slotsUsed } : State).setVm s₂.vm).setTop { g with pc := g.pc + len₂, stack := v.toList ++ g.stack } := by
      refine e3.trans ?_
      rw [hf₂, State.calling_eq h.top, State.setFrames_setFrames, State.setTop_of_frames _ hr', hr]
      rfl
    have hsame : U.sameButNew ({ U with heap := s₂.heap, slotsUsed := s₂.slotsUsed } : State) L mc ms := by
      refine ⟨?_, q2, q3, q4, q5, q6⟩
      obtain ⟨t, ht, -⟩ := State.frames_cons hr
      show ({ U with heap := s₂.heap, slotsUsed := s₂.slotsUsed } : State) = { U.setFrames U.frames with heap := s₂.heap, slotsUsed := s₂.slotsUsed }
      rw [State.setFrames_self ht]
    subst hg
    refine Or.inl ⟨v, ⟨(({ U with heap := s₂.heap, slotsUsed := s₂.slotsUsed } : State).setVm s₂.vm), Ls ++ L, c0 + mc, s0 + ms⟩,
      ⟨X.admits, X.cas, X.clock, X.frames, X.room, X.hears, X.method, X.code, (X.here.setHeapUsed s₂.heap s₂.slotsUsed).setVm hW'.alike, X.tail, State.WarmedH.trans X.warmed hW', X.limits, X.bytes, X.same.trans (hsame.setVm s.vm)⟩,
      ⟨g, mk, s₂, L, rfl, rfl, hqc, rfl, hL, rfl, rfl⟩, ?_⟩
    show Steps p.tables e below _ ((({ U with heap := s₂.heap, slotsUsed := s₂.slotsUsed } : State).setVm s₂.vm).setTop { g with pc := g.pc + len₂, stack := v.toList ++ g.stack })
    rw [← hs₂]
    exact hsteps
  · obtain ⟨e2, q2, q3, q4, q5, q6⟩ := id hsm
    have e3 : s₂ = ({ (U.calling g mk a).setFrames s₂.frames with heap := s₂.heap, slotsUsed := s₂.slotsUsed } : State).setVm s₂.vm := by
      have : s₂ = ({ s₂ with vm := (U.calling g mk a).vm } : State).setVm s₂.vm := rfl
      rw [e2] at this
      exact this
    have hf₂ : s₂.frames = .throwing q :: .java g :: U.frames.tail := hend
    have hW' : U.WarmedH s₂.vm := hW₂
    have hs₂ : s₂ = ((({ U with heap := s₂.heap, slotsUsed := s₂.slotsUsed } : State).setVm s₂.vm).setTop g).pushFrame (.throwing q) := by
      refine e3.trans ?_
      rw [hf₂, State.calling_eq h.top, State.setFrames_setFrames, State.pushFrame, State.frames_setTop _ hr', State.setTop_of_frames _ hr', State.setFrames_setFrames, hr]
      rfl
    have hsame : U.sameButNew ({ U with heap := s₂.heap, slotsUsed := s₂.slotsUsed } : State) L mc ms := by
      refine ⟨?_, q2, q3, q4, q5, q6⟩
      obtain ⟨t, ht, -⟩ := State.frames_cons hr
      show ({ U with heap := s₂.heap, slotsUsed := s₂.slotsUsed } : State) = { U.setFrames U.frames with heap := s₂.heap, slotsUsed := s₂.slotsUsed }
      rw [State.setFrames_self ht]
    subst hg
    refine Or.inr ⟨q, ⟨(({ U with heap := s₂.heap, slotsUsed := s₂.slotsUsed } : State).setVm s₂.vm), Ls ++ L, c0 + mc, s0 + ms⟩,
      ⟨X.admits, X.cas, X.clock, X.frames, X.room, X.hears, X.method, X.code, (X.here.setHeapUsed s₂.heap s₂.slotsUsed).setVm hW'.alike, X.tail, State.WarmedH.trans X.warmed hW', X.limits, X.bytes, X.same.trans (hsame.setVm s.vm)⟩,
      ⟨g, mk, s₂, L, E, ce, rfl, rfl, hx, hce, hcv, hcl, rfl, hL, rfl, rfl⟩, ?_⟩
    show Steps p.tables e below _ (((({ U with heap := s₂.heap, slotsUsed := s₂.slotsUsed } : State).setVm s₂.vm).setTop g).pushFrame (.throwing q))
    rw [← hs₂]
    exact hsteps
end
variable {p : Program} {l : Launch} {e : Env} {R : Room} {s : State} {m : MethodId} {args : Array Value} {below : List Frame} {meth : Method} {c : Code} {T : State} {H : Heap} {locs : List Loc} {cells slots : Nat}
theorem vx_callVX (X : Stand p l e R s m args below meth c T locs cells slots) (hexec : p.tables.exec = Jvm.exec) {own C : String} {index : Nat} {y : MethodName} {bytes : ByteArray} {maxL : Nat} {ret : Option FieldType} {hh : List (Nat × Nat × Nat × Nat)}
    (hown : s.vm.findClass own = some m.cls) (hlink : (Cond.methodLink own index y).before args s = true) (hinst : (Cond.instanceMethod y).before args s = true) (hsel : (Cond.selects C y y).before args s = true)
    (hcode : (Cond.codeWith y bytes maxL ret hh).before args s = true) (hy : y.cls ≠ "java/lang/invoke/MethodHandle" ∧ y.cls ≠ "java/lang/invoke/VarHandle")
    {W9 : Nat} {Pre : Pt → Array Value → Prop} {Post : Pt → Array Value → Option Value → Pt → Prop} {PostX : Pt → Array Value → Addr → Pt → Prop} (hK : vx_Back l R p e below s args y 3 W9 Pre Post PostX)
    {b : Addr} {cellB : Cell} (hcell : T.heap[b]? = some cellB) (hobj : cellB.vm.isStatics = false) (hcls : s.vm.findClass C = some cellB.cls)
    {g : JFrame} (hg : g.method = m) (hsize : g.locals.size = c.maxLocals) {argsL rest : List Value} (hlen : ∀ sig, parseMethodDescriptor y.desc = some sig → argsL.length = sig.parameters.length)
    (hstack : g.stack = argsL.reverse ++ .ref b :: rest) (hW : 2 * g.monitorRoom + (rest.map fun v => v.category).sum ≤ W9) (hdg : decode c.code g.pc = .ok (.invokevirtual index, 3))
    (hpre : ∀ vm₁, s.WarmedH vm₁ → Pre ⟨T.setVm vm₁, locs, cells, slots⟩ (Value.ref b :: argsL).toArray) :
    (∃ (v : Option Value) (vm₁ : Vm) (B : Pt), s.WarmedH vm₁ ∧ Stand p l e R s m args below meth c B.U B.locs B.cells B.slots ∧ Post ⟨T.setVm vm₁, locs, cells, slots⟩ (Value.ref b :: argsL).toArray v B ∧
      ∀ target, Steps p.tables e below (B.U.setTop { g with pc := g.pc + 3, stack := v.toList ++ rest }) target → Steps p.tables e below (T.setTop g) target) ∨
    (∃ (q : Addr) (vm₁ : Vm) (B : Pt), s.WarmedH vm₁ ∧ Stand p l e R s m args below meth c B.U B.locs B.cells B.slots ∧ PostX ⟨T.setVm vm₁, locs, cells, slots⟩ (Value.ref b :: argsL).toArray q B ∧
      Steps p.tables e below (T.setTop g) ((B.U.setTop { g with stack := rest }).pushFrame (.throwing q))) := by
  obtain ⟨mk, methM, hnamed, hmethM, hstM, habM⟩ := Cond.instanceMethod_spec hinst
  obtain ⟨m8, methM', cM, hn8, hmethM', -, -, -, -, -, -, hsigM⟩ := Cond.codeWith_spec hcode
  cases Option.some.inj (hn8.symm.trans hnamed)
  cases hmethM.symm.trans hmethM'
  obtain ⟨c2, r2, m2, q1, q2, q3, q4, kP, hkP, hkPi⟩ := Cond.selects_spec hsel
  cases hcls.symm.trans q1
  cases (State.methodFound?_of_named hnamed hy).symm.trans q2
  cases hnamed.symm.trans q3
  have hselP : selectMethod e.platform s.vm cellB.cls mk = .method mk := by rw [Launch.admits_selectMethod X.admits]; exact q4
  obtain ⟨vm₁, X₁, hstep₁⟩ := X.invokevirtual hexec hown hlink hnamed hmethM hstM hkP hkPi hy (a := b) (cell := cellB) hcell
    (fun z h => by rw [h] at hobj; cases hobj) hselP hmethM habM hkP hkPi (g := g) hg (argsL := argsL) (rest := rest) (hlen _ hsigM) hstack hdg
  rcases hK m meth c ⟨T.setVm vm₁, locs, cells, slots⟩ { g with stack := rest } (.invokevirtual index) mk (Value.ref b :: argsL).toArray X₁ hg hsize hdg hW (X₁.named hnamed) (hpre vm₁ X₁.warmed) with ⟨v, B, X', hpost, hsteps⟩ | ⟨q, B, X', hpost, hsteps⟩
  · exact Or.inl ⟨v, vm₁, B, X₁.warmed, X', hpost, fun target h => hstep₁ _ fun acts => by rw [doInvoke_state]; exact hsteps.trans h⟩
  · exact Or.inr ⟨q, vm₁, B, X₁.warmed, X', hpost, hstep₁ _ fun acts => by rw [doInvoke_state]; exact hsteps⟩
theorem vx_callSX (X : Stand p l e R s m args below meth c T locs cells slots) (hexec : p.tables.exec = Jvm.exec) {own : String} {index : Nat} {y : MethodName} {bytes : ByteArray} {maxL : Nat} {ret : Option FieldType} {hh : List (Nat × Nat × Nat × Nat)}
    (hown : s.vm.findClass own = some m.cls) (hlink : (Cond.methodLink own index y).before args s = true) (hstat : (Cond.static y).before args s = true) (hinit : (Cond.initialized y.cls).before args s = true)
    (hcode : (Cond.codeWith y bytes maxL ret hh).before args s = true) (hy : y.cls ≠ "java/lang/invoke/MethodHandle" ∧ y.cls ≠ "java/lang/invoke/VarHandle")
    {W9 : Nat} {Pre : Pt → Array Value → Prop} {Post : Pt → Array Value → Option Value → Pt → Prop} {PostX : Pt → Array Value → Addr → Pt → Prop} (hK : vx_Back l R p e below s args y 3 W9 Pre Post PostX)
    {g : JFrame} (hg : g.method = m) (hsize : g.locals.size = c.maxLocals) {argsL rest : List Value} (hlen : ∀ sig, parseMethodDescriptor y.desc = some sig → argsL.length = sig.parameters.length)
    (hstack : g.stack = argsL.reverse ++ rest) (hW : 2 * g.monitorRoom + (rest.map fun v => v.category).sum ≤ W9) (hdg : decode c.code g.pc = .ok (.invokestatic index, 3))
    (hpre : ∀ vm₁, s.WarmedH vm₁ → Pre ⟨T.setVm vm₁, locs, cells, slots⟩ argsL.toArray) :
    (∃ (v : Option Value) (vm₁ : Vm) (B : Pt), s.WarmedH vm₁ ∧ Stand p l e R s m args below meth c B.U B.locs B.cells B.slots ∧ Post ⟨T.setVm vm₁, locs, cells, slots⟩ argsL.toArray v B ∧
      ∀ target, Steps p.tables e below (B.U.setTop { g with pc := g.pc + 3, stack := v.toList ++ rest }) target → Steps p.tables e below (T.setTop g) target) ∨
    (∃ (q : Addr) (vm₁ : Vm) (B : Pt), s.WarmedH vm₁ ∧ Stand p l e R s m args below meth c B.U B.locs B.cells B.slots ∧ PostX ⟨T.setVm vm₁, locs, cells, slots⟩ argsL.toArray q B ∧
      Steps p.tables e below (T.setTop g) ((B.U.setTop { g with stack := rest }).pushFrame (.throwing q))) := by
  obtain ⟨mk, methM, cM, hnamed, hmethM, -, -, -, -, -, -, hsigM⟩ := Cond.codeWith_spec hcode
  have hstatic : methM.isStatic = true := Cond.static_spec hnamed hmethM hstat
  obtain ⟨kP, hkP, -⟩ := className_of_methodNamed hnamed
  have hinitP : kP.init = .initialized := Cond.initialized_spec (findClass_of_methodNamed hnamed) hkP hinit
  obtain ⟨vm₁, X₁, hstep₁⟩ := X.invokestatic hexec hown hlink hnamed hmethM hstatic hkP hinitP hy (g := g) hg (argsL := argsL) (rest := rest) (hlen _ hsigM) hstack hdg
  rcases hK m meth c ⟨T.setVm vm₁, locs, cells, slots⟩ { g with stack := rest } (.invokestatic index) mk argsL.toArray X₁ hg hsize hdg hW (X₁.named hnamed) (hpre vm₁ X₁.warmed) with ⟨v, B, X', hpost, hsteps⟩ | ⟨q, B, X', hpost, hsteps⟩
  · exact Or.inl ⟨v, vm₁, B, X₁.warmed, X', hpost, fun target h => hstep₁ _ fun acts => by rw [doInvoke_state]; exact hsteps.trans h⟩
  · exact Or.inr ⟨q, vm₁, B, X₁.warmed, X', hpost, hstep₁ _ fun acts => by rw [doInvoke_state]; exact hsteps⟩
theorem vx_callVW (X : Stand p l e R s m args below meth c T locs cells slots) (hexec : p.tables.exec = Jvm.exec) {own C : String} {index : Nat} {y : MethodName} {bytes : ByteArray} {maxL : Nat} {ret : Option FieldType} {hh : List (Nat × Nat × Nat × Nat)}
    (hown : s.vm.findClass own = some m.cls) (hlink : (Cond.methodLink own index y).before args s = true) (hinst : (Cond.instanceMethod y).before args s = true) (hsel : (Cond.selects C y y).before args s = true)
    (hcode : (Cond.codeWith y bytes maxL ret hh).before args s = true) (hy : y.cls ≠ "java/lang/invoke/MethodHandle" ∧ y.cls ≠ "java/lang/invoke/VarHandle")
    {W9 : Nat} {Pre : Pt → Array Value → Prop} {Post : Pt → Array Value → Option Value → Pt → Prop} (hK : Back l R p e below s args y 3 W9 Pre Post)
    {b : Addr} {cellB : Cell} (hcell : T.heap[b]? = some cellB) (hobj : cellB.vm.isStatics = false) (hcls : s.vm.findClass C = some cellB.cls)
    {g : JFrame} (hg : g.method = m) (hsize : g.locals.size = c.maxLocals) {argsL rest : List Value} (hlen : ∀ sig, parseMethodDescriptor y.desc = some sig → argsL.length = sig.parameters.length)
    (hstack : g.stack = argsL.reverse ++ .ref b :: rest) (hW : 2 * g.monitorRoom + (rest.map fun v => v.category).sum ≤ W9) (hdg : decode c.code g.pc = .ok (.invokevirtual index, 3))
    (hpre : ∀ vm₁, s.WarmedH vm₁ → Pre ⟨T.setVm vm₁, locs, cells, slots⟩ (Value.ref b :: argsL).toArray) :
    ∃ (v : Option Value) (vm₁ : Vm) (B : Pt), s.WarmedH vm₁ ∧ Stand p l e R s m args below meth c B.U B.locs B.cells B.slots ∧ Post ⟨T.setVm vm₁, locs, cells, slots⟩ (Value.ref b :: argsL).toArray v B ∧
      ∀ target, Steps p.tables e below (B.U.setTop { g with pc := g.pc + 3, stack := v.toList ++ rest }) target → Steps p.tables e below (T.setTop g) target := by
  obtain ⟨mk, methM, hnamed, hmethM, hstM, habM⟩ := Cond.instanceMethod_spec hinst
  obtain ⟨m8, methM', cM, hn8, hmethM', -, -, -, -, -, -, hsigM⟩ := Cond.codeWith_spec hcode
  cases Option.some.inj (hn8.symm.trans hnamed)
  cases hmethM.symm.trans hmethM'
  obtain ⟨c2, r2, m2, q1, q2, q3, q4, kP, hkP, hkPi⟩ := Cond.selects_spec hsel
  cases hcls.symm.trans q1
  cases (State.methodFound?_of_named hnamed hy).symm.trans q2
  cases hnamed.symm.trans q3
  have hselP : selectMethod e.platform s.vm cellB.cls mk = .method mk := by rw [Launch.admits_selectMethod X.admits]; exact q4
  obtain ⟨vm₁, X₁, hstep₁⟩ := X.invokevirtual hexec hown hlink hnamed hmethM hstM hkP hkPi hy (a := b) (cell := cellB) hcell
    (fun z h => by rw [h] at hobj; cases hobj) hselP hmethM habM hkP hkPi (g := g) hg (argsL := argsL) (rest := rest) (hlen _ hsigM) hstack hdg
  obtain ⟨v, B, X', hpost, hsteps⟩ := hK m meth c ⟨T.setVm vm₁, locs, cells, slots⟩ { g with stack := rest } (.invokevirtual index) mk (Value.ref b :: argsL).toArray X₁ hg hsize hdg hW (X₁.named hnamed) (hpre vm₁ X₁.warmed)
  exact ⟨v, vm₁, B, X₁.warmed, X', hpost, fun target h => hstep₁ _ fun acts => by rw [doInvoke_state]; exact hsteps.trans h⟩
abbrev vx_CVW (R : Room) (s : State) (args : Array Value) (own C : String) (index : Nat) (y : MethodName) (bytes : ByteArray) (maxL : Nat) (ret : Option FieldType) (hh : List (Nat × Nat × Nat × Nat)) (ws : List Cond) (rm : Room) (mc ms n : Nat) : Prop :=
  (rm.cells = mc ∧ rm.slots = ms ∧ rm.frames + 1 ≤ R.frames ∧ 8 + (maxL + 11) + rm.locals ≤ R.locals ∧ (∀ w ∈ ws, ∀ (a' : Array Value) (U : State), s.WarmedH U.vm → w.before a' U = true) ∧ Cond.codeWith y bytes maxL ret hh ∈ ws) ∧
  (Cond.codeWith y bytes maxL ret hh).before args s = true ∧ (Cond.initialized y.cls).before args s = true ∧ (y.cls ≠ "java/lang/invoke/MethodHandle" ∧ y.cls ≠ "java/lang/invoke/VarHandle") ∧
  (∀ sig, parseMethodDescriptor y.desc = some sig → n = sig.parameters.length) ∧ (Cond.methodLink own index y).before args s = true ∧ (Cond.instanceMethod y).before args s = true ∧ (Cond.selects C y y).before args s = true
theorem vx_cwVW {own C : String} {index maxL mc ms : Nat} {y : MethodName} {bytes : ByteArray} {ret : Option FieldType} {hh : List (Nat × Nat × Nat × Nat)} {Ts ws ws' : List Cond} {rm : Room} (n : Nat) (ht : ∀ w ∈ Ts, w.before args s = true) (hT : GoodIn Ts (wsV own index C y ws)) (hw : ws = Cond.codeWith y bytes maxL ret hh :: ws') (hrc : rm.cells = mc) (hrs : rm.slots = ms)
    (hd : y.cls = C ∧ y.cls ≠ "java/lang/invoke/MethodHandle" ∧ y.cls ≠ "java/lang/invoke/VarHandle" ∧ (parseMethodDescriptor y.desc).map (fun d => d.parameters.length) = some n) (hR : rm.frames + 1 ≤ R.frames ∧ 8 + (maxL + 11) + rm.locals ≤ R.locals) :
    vx_CVW R s args own C index y bytes maxL ret hh ws rm mc ms n := by
  obtain ⟨hC, hd⟩ := hd
  subst hC
  have ok : ∀ w ∈ wsV own index y.cls y ws, w.before args s = true := fun w h => ht w (hT w h).1
  have hG : GoodIn Ts ws := fun w h => hT w (by unfold wsV; exact List.mem_append_right _ h)
  have hc : Cond.codeWith y bytes maxL ret hh ∈ ws := by rw [hw]; exact List.mem_cons_self
  refine ⟨⟨hrc, hrs, hR.1, hR.2, pay_in ht hG, hc⟩, ht _ (hG _ hc).1, ok _ (by simp [wsV]), ⟨hd.1, hd.2.1⟩, fun sig h => ?_, ok _ (by simp [wsV]), ok _ (by simp [wsV]), ok _ (by simp [wsV])⟩
  have h2 := hd.2.2
  rw [h] at h2
  exact (Option.some.inj h2).symm
theorem vx_runVW {y : MethodName} {bytes cc : ByteArray} {maxL nL mc ms n index : Nat} {ret : Option FieldType} {hh : List (Nat × Nat × Nat × Nat)} {ws : List Cond} {rm : Room} {Pc : Array Value → State → Prop} {Qc : Array Value → State → Outcome → State → Prop} {free : Addr → Prop} {Ts : List Cond} {own C : String} {b : Addr} {As rest : List Value} {g : JFrame}
    (S : CallFix p m c cc nL s args Ts own) (hM : Met l y ws rm Pc Qc mc ms free) (cw : vx_CVW R s args own C index y bytes maxL ret hh ws rm mc ms n) (hp : PreV s H C b Pc As)
    (hg : g.method = m) (hn : As.length = n) (hsize : g.locals.size = nL) (hstack : g.stack = As.reverse ++ .ref b :: rest) (hW : 2 * g.monitorRoom + (rest.map fun v => v.category).sum ≤ 8) (hdg : decode cc g.pc = .ok (.invokevirtual index, 3)) (hf : cells + mc ≤ R.cells ∧ slots + ms ≤ R.slots) :
    va_Run p l e R s m args below meth c H locs cells slots mc ms g rest (Qc (Value.ref b :: As).toArray) free := by
  obtain ⟨⟨hrc, hrs, hfr, hlo, hws, hcw⟩, hcode, hini, hy, hlen, hl, hin, hse⟩ := cw
  have hK : Back l R p e below s args y 3 8 (PreOf R mc ms Pc) (PostOf Qc mc ms free) := va_backW (hh := hh) (bytes := bytes) (maxL := maxL) (ret := ret) hM hp.1 hrc hrs hfr hlo hws hcw (fun a' U hW => word_at hW (Or.inl (by first | rfl | simp [Cond.onTables, Cond.keeps, Cond.steady])) hini)
  obtain ⟨hx, hb, hml, ho, -⟩ := S
  obtain ⟨-, ⟨cellB, hcB, hoB, hclB⟩, hPc⟩ := hp
  intro T hT X
  obtain ⟨v, vm₁, ⟨U', l2, c2, s2⟩, hW₁, X', ⟨g', mk, t, L, e1, e2, hq, h1, hL, h2, h3⟩, st⟩ := vx_callVW X hx (C := C) (hh := hh) (bytes := bytes) (maxL := maxL) (ret := ret) ho hl hin hse hcode hy hK (by rw [hT]; exact hcB) hoB hclB hg (hsize.trans hml.symm) (argsL := As) (rest := rest) (fun sig h => hn.trans (hlen sig h)) hstack hW (by rw [hb]; exact hdg)
    (fun vm₁ hW₁ => ⟨hf.1, hf.2, hPc (T.setVm vm₁) hT hW₁⟩)
  dsimp only [Pt.U, Pt.locs, Pt.cells, Pt.slots] at X' e1 e2 h1 h2 h3 st
  subst h1; subst h2; subst h3
  exact ⟨v, (T.setVm vm₁).calling g' mk (Value.ref b :: As).toArray, t, U', L, hT, X', hL, e1, e2, hq, st⟩
section
variable {y : MethodName} {bytes cc : ByteArray} {maxL nL mc ms n index : Nat} {ret : Option FieldType} {ws : List Cond} {rm : Room} {Pc : Array Value → State → Prop} {Qc : Array Value → State → Outcome → State → Prop} {XC : String → State → State → Prop} {free : Addr → Prop} {Ts : List Cond} {own C : String} {b : Addr} {As rest : List Value} {g : JFrame}
theorem vx_runVX {hh : List (Nat × Nat × Nat × Nat)} (S : CallFix p m c cc nL s args Ts own) (hM : vx_Met l y ws rm Pc Qc XC mc ms free) (cw : vx_CVW R s args own C index y bytes maxL ret hh ws rm mc ms n) (hp : PreV s H C b Pc As)
    (hg : g.method = m) (hn : As.length = n) (hsize : g.locals.size = nL) (hstack : g.stack = As.reverse ++ .ref b :: rest) (hW : 2 * g.monitorRoom + (rest.map fun v => v.category).sum ≤ 8) (hdg : decode cc g.pc = .ok (.invokevirtual index, 3)) (hf : cells + mc ≤ R.cells ∧ slots + ms ≤ R.slots) :
    vx_Run p l e R s m args below meth c H locs cells slots mc ms g rest (Qc (Value.ref b :: As).toArray) XC free := by
  obtain ⟨⟨hrc, hrs, hfr, hlo, hws, hcw⟩, hcode, hini, hy, hlen, hl, hin, hse⟩ := cw
  have hK : vx_Back l R p e below s args y 3 8 (PreOf R mc ms Pc) (PostOf Qc mc ms free) (vx_Post XC mc ms free) := vx_backW (hh := hh) (bytes := bytes) (maxL := maxL) (ret := ret) hM hp.1 hrc hrs hfr hlo hws hcw (fun a' U hW => word_at hW (Or.inl (by first | rfl | simp [Cond.onTables, Cond.keeps, Cond.steady])) hini)
  obtain ⟨hx, hb, hml, ho, -⟩ := S
  obtain ⟨-, ⟨cellB, hcB, hoB, hclB⟩, hPc⟩ := hp
  intro T hT X
  rcases vx_callVX X hx (C := C) (hh := hh) (bytes := bytes) (maxL := maxL) (ret := ret) ho hl hin hse hcode hy hK (by rw [hT]; exact hcB) hoB hclB hg (hsize.trans hml.symm) (argsL := As) (rest := rest) (fun sig h => hn.trans (hlen sig h)) hstack hW (by rw [hb]; exact hdg)
    (fun vm₁ hW₁ => ⟨hf.1, hf.2, hPc (T.setVm vm₁) hT hW₁⟩) with ⟨v, vm₁, ⟨U', l2, c2, s2⟩, hW₁, X', ⟨g', mk, t, L, e1, e2, hq, h1, hL, h2, h3⟩, st⟩ | ⟨q, vm₁, ⟨U', l2, c2, s2⟩, hW₁, X', ⟨g', mk, t, L, E, ce, e1, e2, hq, hce, hcv, hcl, h1, hL, h2, h3⟩, st⟩
  · dsimp only [Pt.U, Pt.locs, Pt.cells, Pt.slots] at X' e1 e2 h1 h2 h3 st
    subst h1; subst h2; subst h3
    exact Or.inl ⟨v, (T.setVm vm₁).calling g' mk (Value.ref b :: As).toArray, t, U', L, hT, X', hL, e1, e2, hq, st⟩
  · dsimp only [Pt.U, Pt.locs, Pt.cells, Pt.slots] at X' e1 e2 h1 h2 h3 st hcl
    subst h1; subst h2; subst h3
    exact Or.inr ⟨q, (T.setVm vm₁).calling g' mk (Value.ref b :: As).toArray, t, U', L, E, ce, hT, X', hL, e1, e2, hq, hce, hcv, vx_cls hW₁ hcl, st⟩
theorem vx_runSX {hh : List (Nat × Nat × Nat × Nat)} (S : CallFix p m c cc nL s args Ts own) (hM : vx_Met l y ws rm Pc Qc XC mc ms free) (cw : vx_CSW R s args own index y bytes maxL ret hh ws rm mc ms n) (hp : PreS s H Pc As)
    (hg : g.method = m) (hn : As.length = n) (hsize : g.locals.size = nL) (hstack : g.stack = As.reverse ++ rest) (hW : 2 * g.monitorRoom + (rest.map fun v => v.category).sum ≤ 8) (hdg : decode cc g.pc = .ok (.invokestatic index, 3)) (hf : cells + mc ≤ R.cells ∧ slots + ms ≤ R.slots) :
    vx_Run p l e R s m args below meth c H locs cells slots mc ms g rest (Qc As.toArray) XC free := by
  obtain ⟨⟨hrc, hrs, hfr, hlo, hws, hcw⟩, hcode, hini, hy, hlen, hl, hstt⟩ := cw
  have hK : vx_Back l R p e below s args y 3 8 (PreOf R mc ms Pc) (PostOf Qc mc ms free) (vx_Post XC mc ms free) := vx_backW (hh := hh) (bytes := bytes) (maxL := maxL) (ret := ret) hM hp.1 hrc hrs hfr hlo hws hcw (fun a' U hW => word_at hW (Or.inl (by first | rfl | simp [Cond.onTables, Cond.keeps, Cond.steady])) hini)
  obtain ⟨hx, hb, hml, ho, -⟩ := S
  intro T hT X
  rcases vx_callSX X hx (hh := hh) (bytes := bytes) (maxL := maxL) (ret := ret) ho hl hstt hini hcode hy hK hg (hsize.trans hml.symm) (argsL := As) (rest := rest) (fun sig h => hn.trans (hlen sig h)) hstack hW (by rw [hb]; exact hdg)
    (fun vm₁ hW₁ => ⟨hf.1, hf.2, hp.2 (T.setVm vm₁) hT hW₁⟩) with ⟨v, vm₁, ⟨U', l2, c2, s2⟩, hW₁, X', ⟨g', mk, t, L, e1, e2, hq, h1, hL, h2, h3⟩, st⟩ | ⟨q, vm₁, ⟨U', l2, c2, s2⟩, hW₁, X', ⟨g', mk, t, L, E, ce, e1, e2, hq, hce, hcv, hcl, h1, hL, h2, h3⟩, st⟩
  · dsimp only [Pt.U, Pt.locs, Pt.cells, Pt.slots] at X' e1 e2 h1 h2 h3 st
    subst h1; subst h2; subst h3
    exact Or.inl ⟨v, (T.setVm vm₁).calling g' mk As.toArray, t, U', L, hT, X', hL, e1, e2, hq, st⟩
  · dsimp only [Pt.U, Pt.locs, Pt.cells, Pt.slots] at X' e1 e2 h1 h2 h3 st hcl
    subst h1; subst h2; subst h3
    exact Or.inr ⟨q, (T.setVm vm₁).calling g' mk As.toArray, t, U', L, E, ce, hT, X', hL, e1, e2, hq, hce, hcv, vx_cls hW₁ hcl, st⟩
end
end VXH
theorem vx_ofWH {l : Launch} {y : MethodName} {ws ws' : List Cond} {rm : Room} {Pc : Array Value → State → Prop} {Qc : Array Value → State → Outcome → State → Prop} {XC : String → State → State → Prop} {mc ms : Nat} {free : Addr → Prop} {cc : ByteArray} {maxL : Nat} {ret : Option FieldType} {hh : List (Nat × Nat × Nat × Nat)}
    (hy : plainName y.cls = true) (hw : ws = Cond.codeWith y cc maxL ret hh :: ws')
    (body : ∀ p e s m args below meth c s₁, BodyLoose p l y (headSpec ws rm) cc maxL ret e s m args below meth c s₁ → c.maxLocals = maxL → Pc args s →
      W p l e (headSpec ws rm).room s m args below meth c s.heap [] 0 0 (vx_MQ below Qc XC args s mc ms free) (entryFrame m args maxL)) : vx_Met l y ws rm Pc Qc XC mc ms free := by
  refine MetFree.of_bodyS (code := cc) (maxLocals := maxL) (ret := ret) hy ?_ ?_
  · intro args s m h hn
    obtain ⟨m9, meth, c, hn9, h1, h2, h3, h4, -, h5, h6, -⟩ := Cond.codeWith_spec (atoms_spec (ws := ws) h _ (by rw [hw]; exact List.mem_cons_self))
    cases hn.symm.trans hn9
    exact ⟨meth, c, h1, h2, h3, h4, h5, h6⟩
  · intro p e s m args below meth c s₁ B hml hP _
    have hh0 : s₁.heap = s.heap := by rw [B.state]; rfl
    obtain ⟨t, a1, o, b1, b2, b3⟩ := body p e s m args below meth c s₁ B hml hP s₁ hh0 (Stand.of_body B)
    exact ⟨t, o, a1, b1, b2, b3⟩
/-! ===== END ===== -/
end
section
abbrev R_K : String := "CostSteps$KeyLists"
def T_K : u_T := fun k => match k with
  | 0 => ("CostSteps$KeyLists", "keys", "[J", true)
  | _ => ("CostSteps$KeyLists", "sizes", "[I", true)
def t_K : Nat → FieldType := fun k => match k with
  | 0 => .array .long
  | _ => .array .int
theorem nm_K : ∀ a, a < 2 → ∀ b, b < 2 → a ≠ b → (T_K a).2.1 ≠ (T_K b).2.1 := by decide +kernel
theorem to_K : ∀ k, k < 2 → parseFieldDescriptor (T_K k).2.2.1 = some (t_K k) := by decide +kernel
abbrev R_Q : String := "CostSteps$Quote"
def T_Q : u_T := fun k => match k with
  | 0 => ("CostSteps$Quote", "costs", "[J", true)
  | 1 => ("CostSteps$Quote", "pieces", "[I", true)
  | 2 => ("CostSteps$Quote", "makers", "[I", true)
  | 3 => ("CostSteps$Quote", "parts", "[I", true)
  | _ => ("CostSteps$Quote", "rowCount", "I", false)
def t_Q : Nat → FieldType := fun k => match k with
  | 0 => .array .long
  | 1 => .array .int
  | 2 => .array .int
  | 3 => .array .int
  | _ => .int
theorem nm_Q : ∀ a, a < 5 → ∀ b, b < 5 → a ≠ b → (T_Q a).2.1 ≠ (T_Q b).2.1 := by decide +kernel
theorem to_Q : ∀ k, k < 5 → parseFieldDescriptor (T_Q k).2.2.1 = some (t_Q k) := by decide +kernel
abbrev R_Ra : String := "CostSteps$Rates"
def T_Ra : u_T := fun k => match k with
  | 0 => ("CostSteps$Rates", "days", "LCostSteps$KeyLists;", true)
  | 1 => ("CostSteps$Rates", "aboves", "[J", true)
  | 2 => ("CostSteps$Rates", "belows", "[J", true)
  | 3 => ("CostSteps$Rates", "aboveNow", "[J", true)
  | _ => ("CostSteps$Rates", "belowNow", "[J", true)
def t_Ra : Nat → FieldType := fun k => match k with
  | 0 => .object "CostSteps$KeyLists"
  | 1 => .array .long
  | 2 => .array .long
  | 3 => .array .long
  | _ => .array .long
theorem nm_Ra : ∀ a, a < 5 → ∀ b, b < 5 → a ≠ b → (T_Ra a).2.1 ≠ (T_Ra b).2.1 := by decide +kernel
theorem to_Ra : ∀ k, k < 5 → parseFieldDescriptor (T_Ra k).2.2.1 = some (t_Ra k) := by decide +kernel
abbrev R_St : String := "CostSteps$Steps"
def T_St : u_T := fun k => match k with
  | 0 => ("CostSteps$Steps", "froms", "LCostSteps$KeyLists;", true)
  | _ => ("CostSteps$Steps", "cents", "[J", true)
def t_St : Nat → FieldType := fun k => match k with
  | 0 => .object "CostSteps$KeyLists"
  | _ => .array .long
theorem nm_St : ∀ a, a < 2 → ∀ b, b < 2 → a ≠ b → (T_St a).2.1 ≠ (T_St b).2.1 := by decide +kernel
theorem to_St : ∀ k, k < 2 → parseFieldDescriptor (T_St k).2.2.1 = some (t_St k) := by decide +kernel
abbrev R_Y : String := "CostSteps$Yields"
def T_Y : u_T := fun k => match k with
  | 0 => ("CostSteps$Yields", "aboves", "[J", true)
  | 1 => ("CostSteps$Yields", "belows", "[J", true)
  | _ => ("CostSteps$Yields", "count", "I", false)
def t_Y : Nat → FieldType := fun k => match k with
  | 0 => .array .long
  | 1 => .array .long
  | _ => .int
theorem nm_Y : ∀ a, a < 3 → ∀ b, b < 3 → a ≠ b → (T_Y a).2.1 ≠ (T_Y b).2.1 := by decide +kernel
theorem to_Y : ∀ k, k < 3 → parseFieldDescriptor (T_Y k).2.2.1 = some (t_Y k) := by decide +kernel
abbrev R_C : String := "CostSteps"
def T_C : u_T := fun k => match k with
  | 0 => ("CostSteps", "usedOnBoard", "[J", true)
  | 1 => ("CostSteps", "inStock", "[J", true)
  | 2 => ("CostSteps", "alternates", "[I", true)
  | 3 => ("CostSteps", "assemblyCents", "[J", true)
  | 4 => ("CostSteps", "placedOnBoard", "[J", true)
  | 5 => ("CostSteps", "steps", "LCostSteps$Steps;", true)
  | 6 => ("CostSteps", "rates", "LCostSteps$Rates;", true)
  | 7 => ("CostSteps", "yields", "LCostSteps$Yields;", true)
  | 8 => ("CostSteps", "partCount", "I", false)
  | 9 => ("CostSteps", "toolingCents", "J", false)
  | 10 => ("CostSteps", "draft", "LCostSteps$Quote;", false)
  | 11 => ("CostSteps", "latest", "LCostSteps$Quote;", false)
  | _ => ("CostSteps", "before", "LCostSteps$Quote;", false)
def t_C : Nat → FieldType := fun k => match k with
  | 0 => .array .long
  | 1 => .array .long
  | 2 => .array .int
  | 3 => .array .long
  | 4 => .array .long
  | 5 => .object "CostSteps$Steps"
  | 6 => .object "CostSteps$Rates"
  | 7 => .object "CostSteps$Yields"
  | 8 => .int
  | 9 => .long
  | 10 => .object "CostSteps$Quote"
  | 11 => .object "CostSteps$Quote"
  | _ => .object "CostSteps$Quote"
theorem nm_C : ∀ a, a < 13 → ∀ b, b < 13 → a ≠ b → (T_C a).2.1 ≠ (T_C b).2.1 := by decide +kernel
theorem to_C : ∀ k, k < 13 → parseFieldDescriptor (T_C k).2.2.1 = some (t_C k) := by decide +kernel
abbrev R_M : String := "CostStepsModel"
def T_M : u_T := fun k => match k with
  | 0 => ("CostStepsModel", "thrown", "I", false)
  | 1 => ("CostStepsModel", "parts", "I", false)
  | 2 => ("CostStepsModel", "stepCount", "[I", true)
  | 3 => ("CostStepsModel", "froms", "[J", true)
  | 4 => ("CostStepsModel", "cents", "[J", true)
  | 5 => ("CostStepsModel", "uses", "[J", true)
  | 6 => ("CostStepsModel", "stocks", "[J", true)
  | 7 => ("CostStepsModel", "alternates", "[I", true)
  | 8 => ("CostStepsModel", "assemblies", "[J", true)
  | 9 => ("CostStepsModel", "placings", "[J", true)
  | 10 => ("CostStepsModel", "yields", "I", false)
  | 11 => ("CostStepsModel", "yieldAbove", "[J", true)
  | 12 => ("CostStepsModel", "yieldBelow", "[J", true)
  | 13 => ("CostStepsModel", "dayCount", "[I", true)
  | 14 => ("CostStepsModel", "days", "[J", true)
  | 15 => ("CostStepsModel", "rateAbove", "[J", true)
  | 16 => ("CostStepsModel", "rateBelow", "[J", true)
  | 17 => ("CostStepsModel", "tools", "J", false)
  | 18 => ("CostStepsModel", "can", "Z", false)
  | 19 => ("CostStepsModel", "sum", "J", false)
  | 20 => ("CostStepsModel", "costs", "[J", true)
  | 21 => ("CostStepsModel", "pieces", "[J", true)
  | 22 => ("CostStepsModel", "maker", "[I", true)
  | 23 => ("CostStepsModel", "partOf", "[I", true)
  | 24 => ("CostStepsModel", "ran", "Z", false)
  | 25 => ("CostStepsModel", "keptRows", "I", false)
  | 26 => ("CostStepsModel", "keptCosts", "[J", true)
  | 27 => ("CostStepsModel", "keptPieces", "[J", true)
  | 28 => ("CostStepsModel", "keptMaker", "[I", true)
  | 29 => ("CostStepsModel", "keptPart", "[I", true)
  | _ => ("CostStepsModel", "oldCosts", "[J", true)
def t_M : Nat → FieldType := fun k => match k with
  | 0 => .int
  | 1 => .int
  | 2 => .array .int
  | 3 => .array .long
  | 4 => .array .long
  | 5 => .array .long
  | 6 => .array .long
  | 7 => .array .int
  | 8 => .array .long
  | 9 => .array .long
  | 10 => .int
  | 11 => .array .long
  | 12 => .array .long
  | 13 => .array .int
  | 14 => .array .long
  | 15 => .array .long
  | 16 => .array .long
  | 17 => .long
  | 18 => .boolean
  | 19 => .long
  | 20 => .array .long
  | 21 => .array .long
  | 22 => .array .int
  | 23 => .array .int
  | 24 => .boolean
  | 25 => .int
  | 26 => .array .long
  | 27 => .array .long
  | 28 => .array .int
  | 29 => .array .int
  | _ => .array .long
theorem nm_M : ∀ a, a < 31 → ∀ b, b < 31 → a ≠ b → (T_M a).2.1 ≠ (T_M b).2.1 := by decide +kernel
theorem to_M : ∀ k, k < 31 → parseFieldDescriptor (T_M k).2.2.1 = some (t_M k) := by decide +kernel
abbrev R_L : String := "CostStepsLaw"
abbrev R_JI : String := "java/lang/Integer"
abbrev vwCl : List vw_C := [(R_K, T_K, 2), (R_Q, T_Q, 5), (R_Ra, T_Ra, 5), (R_St, T_St, 2), (R_Y, T_Y, 3), (R_C, T_C, 13), (R_M, T_M, 31)]
abbrev c_K_init : ByteArray := prog_2_method_1_code
def y_K_init : MethodName := ⟨R_K, "<init>", "(I)V"⟩
abbrev c_K_firstSlot : ByteArray := prog_2_method_2_code
def y_K_firstSlot : MethodName := ⟨R_K, "firstSlot", "(I)I"⟩
abbrev c_K_endSlot : ByteArray := prog_2_method_3_code
def y_K_endSlot : MethodName := ⟨R_K, "endSlot", "(I)I"⟩
abbrev c_K_slotFor : ByteArray := prog_2_method_4_code
def y_K_slotFor : MethodName := ⟨R_K, "slotFor", "(IJ)I"⟩
abbrev c_Q_init : ByteArray := prog_3_method_1_code
def y_Q_init : MethodName := ⟨R_Q, "<init>", "()V"⟩
abbrev c_Q_begin : ByteArray := prog_3_method_2_code
def y_Q_begin : MethodName := ⟨R_Q, "begin", "(I)V"⟩
abbrev c_Q_clearRow : ByteArray := prog_3_method_3_code
def y_Q_clearRow : MethodName := ⟨R_Q, "clearRow", "(I)V"⟩
abbrev c_Q_isBought : ByteArray := prog_3_method_4_code
def y_Q_isBought : MethodName := ⟨R_Q, "isBought", "(I)Z"⟩
abbrev c_Q_consider : ByteArray := prog_3_method_5_code
def y_Q_consider : MethodName := ⟨R_Q, "consider", "(IJIII)V"⟩
abbrev c_Q_isBetter : ByteArray := prog_3_method_6_code
def y_Q_isBetter : MethodName := ⟨R_Q, "isBetter", "(IJIII)Z"⟩
abbrev c_Q_sum : ByteArray := prog_3_method_7_code
def y_Q_sum : MethodName := ⟨R_Q, "sum", "()J"⟩
abbrev c_Q_makersBoughtOf : ByteArray := prog_3_method_8_code
def y_Q_makersBoughtOf : MethodName := ⟨R_Q, "makersBoughtOf", "()I"⟩
abbrev c_Ra_init : ByteArray := prog_4_method_1_code
def y_Ra_init : MethodName := ⟨R_Ra, "<init>", "()V"⟩
abbrev c_Ra_tell : ByteArray := prog_4_method_2_code
def y_Ra_tell : MethodName := ⟨R_Ra, "tell", "(IJJJ)Z"⟩
abbrev c_Ra_turnTo : ByteArray := prog_4_method_3_code
def y_Ra_turnTo : MethodName := ⟨R_Ra, "turnTo", "(J)V"⟩
abbrev c_Ra_latestSlot : ByteArray := prog_4_method_4_code
def y_Ra_latestSlot : MethodName := ⟨R_Ra, "latestSlot", "(IJ)I"⟩
abbrev c_Ra_exchange : ByteArray := prog_4_method_5_code
def y_Ra_exchange : MethodName := ⟨R_Ra, "exchange", "(IJ)J"⟩
abbrev c_St_init : ByteArray := prog_5_method_1_code
def y_St_init : MethodName := ⟨R_St, "<init>", "()V"⟩
abbrev c_St_firstSlot : ByteArray := prog_5_method_2_code
def y_St_firstSlot : MethodName := ⟨R_St, "firstSlot", "(II)I"⟩
abbrev c_St_endSlot : ByteArray := prog_5_method_3_code
def y_St_endSlot : MethodName := ⟨R_St, "endSlot", "(II)I"⟩
abbrev c_St_fromAt : ByteArray := prog_5_method_4_code
def y_St_fromAt : MethodName := ⟨R_St, "fromAt", "(I)J"⟩
abbrev c_St_tell : ByteArray := prog_5_method_5_code
def y_St_tell : MethodName := ⟨R_St, "tell", "(IIJJ)Z"⟩
abbrev c_Y_init : ByteArray := prog_6_method_1_code
def y_Y_init : MethodName := ⟨R_Y, "<init>", "()V"⟩
abbrev c_Y_add : ByteArray := prog_6_method_2_code
def y_Y_add : MethodName := ⟨R_Y, "add", "(JJ)Z"⟩
abbrev c_Y_startedFor : ByteArray := prog_6_method_3_code
def y_Y_startedFor : MethodName := ⟨R_Y, "startedFor", "(J)J"⟩
abbrev c_C_init : ByteArray := prog_1_method_1_code
def y_C_init : MethodName := ⟨R_C, "<init>", "()V"⟩
abbrev c_C_part : ByteArray := prog_1_method_2_code
def y_C_part : MethodName := ⟨R_C, "part", "()I"⟩
abbrev c_C_price : ByteArray := prog_1_method_3_code
def y_C_price : MethodName := ⟨R_C, "price", "(IIJJ)Z"⟩
abbrev c_C_uses : ByteArray := prog_1_method_4_code
def y_C_uses : MethodName := ⟨R_C, "uses", "(IJ)Z"⟩
abbrev c_C_board : ByteArray := prog_1_method_5_code
def y_C_board : MethodName := ⟨R_C, "board", "(IJJ)Z"⟩
abbrev c_C_assembly : ByteArray := prog_1_method_6_code
def y_C_assembly : MethodName := ⟨R_C, "assembly", "(IJ)Z"⟩
abbrev c_C_placed : ByteArray := prog_1_method_7_code
def y_C_placed : MethodName := ⟨R_C, "placed", "(IJ)Z"⟩
abbrev c_C_yieldOf : ByteArray := prog_1_method_8_code
def y_C_yieldOf : MethodName := ⟨R_C, "yieldOf", "(JJ)Z"⟩
abbrev c_C_currency : ByteArray := prog_1_method_9_code
def y_C_currency : MethodName := ⟨R_C, "currency", "(IJJJ)Z"⟩
abbrev c_C_tooling : ByteArray := prog_1_method_10_code
def y_C_tooling : MethodName := ⟨R_C, "tooling", "(J)Z"⟩
abbrev c_C_stock : ByteArray := prog_1_method_11_code
def y_C_stock : MethodName := ⟨R_C, "stock", "(IJ)Z"⟩
abbrev c_C_total : ByteArray := prog_1_method_12_code
def y_C_total : MethodName := ⟨R_C, "total", "(JIJ)J"⟩
abbrev c_C_best : ByteArray := prog_1_method_13_code
def y_C_best : MethodName := ⟨R_C, "best", "(JJ)I"⟩
abbrev c_C_each : ByteArray := prog_1_method_14_code
def y_C_each : MethodName := ⟨R_C, "each", "(JIJI)J"⟩
abbrev c_C_suppliers : ByteArray := prog_1_method_15_code
def y_C_suppliers : MethodName := ⟨R_C, "suppliers", "(JI)I"⟩
abbrev c_C_alternate : ByteArray := prog_1_method_16_code
def y_C_alternate : MethodName := ⟨R_C, "alternate", "(II)Z"⟩
abbrev c_C_changed : ByteArray := prog_1_method_17_code
def y_C_changed : MethodName := ⟨R_C, "changed", "(I)I"⟩
abbrev c_C_row : ByteArray := prog_1_method_18_code
def y_C_row : MethodName := ⟨R_C, "row", "(II)I"⟩
abbrev c_C_needIndex : ByteArray := prog_1_method_19_code
def y_C_needIndex : MethodName := ⟨R_C, "needIndex", "(II)V"⟩
abbrev c_C_needNumber : ByteArray := prog_1_method_20_code
def y_C_needNumber : MethodName := ⟨R_C, "needNumber", "(JJJ)V"⟩
abbrev c_C_needStep : ByteArray := prog_1_method_21_code
def y_C_needStep : MethodName := ⟨R_C, "needStep", "(JJ)V"⟩
abbrev c_C_needRatio : ByteArray := prog_1_method_22_code
def y_C_needRatio : MethodName := ⟨R_C, "needRatio", "(JJ)V"⟩
abbrev c_C_tellNumber : ByteArray := prog_1_method_23_code
def y_C_tellNumber : MethodName := ⟨R_C, "tellNumber", "([JIJ)Z"⟩
abbrev c_C_divideUp : ByteArray := prog_1_method_24_code
def y_C_divideUp : MethodName := ⟨R_C, "divideUp", "(JJ)J"⟩
abbrev c_C_mayStandIn : ByteArray := prog_1_method_25_code
def y_C_mayStandIn : MethodName := ⟨R_C, "mayStandIn", "(II)Z"⟩
abbrev c_C_draw : ByteArray := prog_1_method_26_code
def y_C_draw : MethodName := ⟨R_C, "draw", "(JIJ)Z"⟩
abbrev c_C_drawAllButBoards : ByteArray := prog_1_method_27_code
def y_C_drawAllButBoards : MethodName := ⟨R_C, "drawAllButBoards", "(JJ)Z"⟩
abbrev c_C_drawBoards : ByteArray := prog_1_method_28_code
def y_C_drawBoards : MethodName := ⟨R_C, "drawBoards", "(JI)Z"⟩
abbrev c_C_drawPart : ByteArray := prog_1_method_29_code
def y_C_drawPart : MethodName := ⟨R_C, "drawPart", "(IJ)Z"⟩
abbrev c_C_offerSteps : ByteArray := prog_1_method_30_code
def y_C_offerSteps : MethodName := ⟨R_C, "offerSteps", "(IJII)V"⟩
abbrev c_C_assemblyCost : ByteArray := prog_1_method_31_code
def y_C_assemblyCost : MethodName := ⟨R_C, "assemblyCost", "(J)J"⟩
abbrev c_C_keepDraft : ByteArray := prog_1_method_32_code
def y_C_keepDraft : MethodName := ⟨R_C, "keepDraft", "()V"⟩
abbrev c_M_init : ByteArray := prog_8_method_1_code
def y_M_init : MethodName := ⟨R_M, "<init>", "()V"⟩
abbrev c_M_thrown : ByteArray := prog_8_method_2_code
def y_M_thrown : MethodName := ⟨R_M, "thrown", "()I"⟩
abbrev c_M_isPart : ByteArray := prog_8_method_3_code
def y_M_isPart : MethodName := ⟨R_M, "isPart", "(I)Z"⟩
abbrev c_M_isMaker : ByteArray := prog_8_method_4_code
def y_M_isMaker : MethodName := ⟨R_M, "isMaker", "(I)Z"⟩
abbrev c_M_within : ByteArray := prog_8_method_5_code
def y_M_within : MethodName := ⟨R_M, "within", "(JJJ)Z"⟩
abbrev c_M_part : ByteArray := prog_8_method_6_code
def y_M_part : MethodName := ⟨R_M, "part", "()I"⟩
abbrev c_M_tellStep : ByteArray := prog_8_method_7_code
def y_M_tellStep : MethodName := ⟨R_M, "tellStep", "(IJJ)Z"⟩
abbrev c_M_price : ByteArray := prog_8_method_8_code
def y_M_price : MethodName := ⟨R_M, "price", "(IIJJ)Z"⟩
abbrev c_M_board : ByteArray := prog_8_method_9_code
def y_M_board : MethodName := ⟨R_M, "board", "(IJJ)Z"⟩
abbrev c_M_uses : ByteArray := prog_8_method_10_code
def y_M_uses : MethodName := ⟨R_M, "uses", "(IJ)Z"⟩
abbrev c_M_stock : ByteArray := prog_8_method_11_code
def y_M_stock : MethodName := ⟨R_M, "stock", "(IJ)Z"⟩
abbrev c_M_alternate : ByteArray := prog_8_method_12_code
def y_M_alternate : MethodName := ⟨R_M, "alternate", "(II)Z"⟩
abbrev c_M_isSort : ByteArray := prog_8_method_13_code
def y_M_isSort : MethodName := ⟨R_M, "isSort", "(I)Z"⟩
abbrev c_M_assembly : ByteArray := prog_8_method_14_code
def y_M_assembly : MethodName := ⟨R_M, "assembly", "(IJ)Z"⟩
abbrev c_M_placed : ByteArray := prog_8_method_15_code
def y_M_placed : MethodName := ⟨R_M, "placed", "(IJ)Z"⟩
abbrev c_M_yieldOf : ByteArray := prog_8_method_16_code
def y_M_yieldOf : MethodName := ⟨R_M, "yieldOf", "(JJ)Z"⟩
abbrev c_M_currency : ByteArray := prog_8_method_17_code
def y_M_currency : MethodName := ⟨R_M, "currency", "(IJJJ)Z"⟩
abbrev c_M_tooling : ByteArray := prog_8_method_18_code
def y_M_tooling : MethodName := ⟨R_M, "tooling", "(J)Z"⟩
abbrev c_M_up : ByteArray := prog_8_method_19_code
def y_M_up : MethodName := ⟨R_M, "up", "(JJ)J"⟩
abbrev c_M_rateOf : ByteArray := prog_8_method_20_code
def y_M_rateOf : MethodName := ⟨R_M, "rateOf", "(IJ)I"⟩
abbrev c_M_offer : ByteArray := prog_8_method_21_code
def y_M_offer : MethodName := ⟨R_M, "offer", "(IIIJJ)V"⟩
abbrev c_M_started : ByteArray := prog_8_method_22_code
def y_M_started : MethodName := ⟨R_M, "started", "(J)J"⟩
abbrev c_M_reckon : ByteArray := prog_8_method_23_code
def y_M_reckon : MethodName := ⟨R_M, "reckon", "(JIJ)V"⟩
abbrev c_M_buyPart : ByteArray := prog_8_method_24_code
def y_M_buyPart : MethodName := ⟨R_M, "buyPart", "(IJJ)V"⟩
abbrev c_M_isQuantity : ByteArray := prog_8_method_25_code
def y_M_isQuantity : MethodName := ⟨R_M, "isQuantity", "(J)Z"⟩
abbrev c_M_refusal : ByteArray := prog_8_method_26_code
def y_M_refusal : MethodName := ⟨R_M, "refusal", "(JI)I"⟩
abbrev c_M_total : ByteArray := prog_8_method_27_code
def y_M_total : MethodName := ⟨R_M, "total", "(JIJ)J"⟩
abbrev c_M_makersNow : ByteArray := prog_8_method_28_code
def y_M_makersNow : MethodName := ⟨R_M, "makersNow", "()I"⟩
abbrev c_M_best : ByteArray := prog_8_method_29_code
def y_M_best : MethodName := ⟨R_M, "best", "(JJ)I"⟩
abbrev c_M_each : ByteArray := prog_8_method_30_code
def y_M_each : MethodName := ⟨R_M, "each", "(JIJI)J"⟩
abbrev c_M_suppliers : ByteArray := prog_8_method_31_code
def y_M_suppliers : MethodName := ⟨R_M, "suppliers", "(JI)I"⟩
abbrev c_M_changed : ByteArray := prog_8_method_32_code
def y_M_changed : MethodName := ⟨R_M, "changed", "(I)I"⟩
abbrev c_M_row : ByteArray := prog_8_method_33_code
def y_M_row : MethodName := ⟨R_M, "row", "(II)I"⟩
abbrev c_L_price : ByteArray := method_3_code
def y_L_price : MethodName := ⟨R_L, "price", "(LCostSteps;IIJJ[J)I"⟩
abbrev c_L_uses : ByteArray := method_4_code
def y_L_uses : MethodName := ⟨R_L, "uses", "(LCostSteps;IJ[J)I"⟩
abbrev c_L_board : ByteArray := method_5_code
def y_L_board : MethodName := ⟨R_L, "board", "(LCostSteps;IJJ[J)I"⟩
abbrev c_L_assembly : ByteArray := method_6_code
def y_L_assembly : MethodName := ⟨R_L, "assembly", "(LCostSteps;IJ[J)I"⟩
abbrev c_L_placed : ByteArray := method_7_code
def y_L_placed : MethodName := ⟨R_L, "placed", "(LCostSteps;IJ[J)I"⟩
abbrev c_L_yieldOf : ByteArray := method_8_code
def y_L_yieldOf : MethodName := ⟨R_L, "yieldOf", "(LCostSteps;JJ[J)I"⟩
abbrev c_L_currency : ByteArray := method_9_code
def y_L_currency : MethodName := ⟨R_L, "currency", "(LCostSteps;IJJJ[J)I"⟩
abbrev c_L_tooling : ByteArray := method_10_code
def y_L_tooling : MethodName := ⟨R_L, "tooling", "(LCostSteps;J[J)I"⟩
abbrev c_L_stock : ByteArray := method_11_code
def y_L_stock : MethodName := ⟨R_L, "stock", "(LCostSteps;IJ[J)I"⟩
abbrev c_L_total : ByteArray := method_12_code
def y_L_total : MethodName := ⟨R_L, "total", "(LCostSteps;JIJ[J)I"⟩
abbrev c_L_best : ByteArray := method_13_code
def y_L_best : MethodName := ⟨R_L, "best", "(LCostSteps;JJ[J)I"⟩
abbrev c_L_each : ByteArray := method_14_code
def y_L_each : MethodName := ⟨R_L, "each", "(LCostSteps;JIJI[J)I"⟩
abbrev c_L_suppliers : ByteArray := method_15_code
def y_L_suppliers : MethodName := ⟨R_L, "suppliers", "(LCostSteps;JI[J)I"⟩
abbrev c_L_alternate : ByteArray := method_16_code
def y_L_alternate : MethodName := ⟨R_L, "alternate", "(LCostSteps;II[J)I"⟩
abbrev c_L_row : ByteArray := method_17_code
def y_L_row : MethodName := ⟨R_L, "row", "(LCostSteps;II[J)I"⟩
abbrev c_JI_bitCount : ByteArray := prog_12_method_49_code
def y_JI_bitCount : MethodName := ⟨R_JI, "bitCount", "(I)I"⟩
def WALL : List Cond := lw_tbl.filter goodWord
def isN : Cond → Bool
  | .methodLinkNest _ _ _ _ => true
  | .fieldLinkNest _ _ _ _ _ _ => true
  | .declares _ => true
  | .castable _ _ => true
  | _ => false
def NALL : List Cond := tables_1.filter isN
theorem mw {w : Cond} (i : Nat) (h : tables_1[i]? = some w) (g : goodWord w = true) : w ∈ WALL := List.mem_filter.mpr ⟨List.mem_append_right _ (List.mem_of_getElem? h), g⟩
theorem mws {w : Cond} (i : Nat) (h : (k2_sels lw_privs)[i]? = some w) (g : goodWord w = true) : w ∈ WALL := List.mem_filter.mpr ⟨List.mem_append_left _ (List.mem_of_getElem? h), g⟩
theorem mn {w : Cond} (i : Nat) (h : tables_1[i]? = some w) (g : isN w = true) : w ∈ NALL := List.mem_filter.mpr ⟨List.mem_of_getElem? h, g⟩
theorem wz_L : Cond.initialized R_L ∈ WALL := mw 0 (by decide +kernel) (by decide +kernel)
theorem wz_C : Cond.initialized R_C ∈ WALL := mw 1 (by decide +kernel) (by decide +kernel)
theorem wz_St : Cond.initialized R_St ∈ WALL := mw 2 (by decide +kernel) (by decide +kernel)
theorem wz_K : Cond.initialized R_K ∈ WALL := mw 3 (by decide +kernel) (by decide +kernel)
theorem wz_Math : Cond.initialized "java/lang/Math" ∈ WALL := mw 4 (by decide +kernel) (by decide +kernel)
theorem wz_Ra : Cond.initialized R_Ra ∈ WALL := mw 5 (by decide +kernel) (by decide +kernel)
theorem wz_Y : Cond.initialized R_Y ∈ WALL := mw 6 (by decide +kernel) (by decide +kernel)
theorem wz_Q : Cond.initialized R_Q ∈ WALL := mw 7 (by decide +kernel) (by decide +kernel)
theorem wz_M : Cond.initialized R_M ∈ WALL := mw 8 (by decide +kernel) (by decide +kernel)
theorem wz_Throwable : Cond.initialized "java/lang/Throwable" ∈ WALL := mw 9 (by decide +kernel) (by decide +kernel)
theorem wz_Exception : Cond.initialized "java/lang/Exception" ∈ WALL := mw 10 (by decide +kernel) (by decide +kernel)
theorem wz_RuntimeException : Cond.initialized "java/lang/RuntimeException" ∈ WALL := mw 11 (by decide +kernel) (by decide +kernel)
theorem wz_IndexOutOfBoundsException : Cond.initialized "java/lang/IndexOutOfBoundsException" ∈ WALL := mw 12 (by decide +kernel) (by decide +kernel)
theorem wz_IllegalArgumentException : Cond.initialized "java/lang/IllegalArgumentException" ∈ WALL := mw 13 (by decide +kernel) (by decide +kernel)
theorem wz_JI : Cond.initialized R_JI ∈ WALL := mw 14 (by decide +kernel) (by decide +kernel)
theorem wk_L_8 : Cond.classLink R_L 8 R_C ∈ WALL := mw 15 (by decide +kernel) (by decide +kernel)
theorem wt_C : Cond.instantiable R_C 13 ∈ WALL := mw 16 (by decide +kernel) (by decide +kernel)
theorem wm_L_70 : Cond.methodLink R_L 70 y_C_init ∈ WALL := mw 17 (by decide +kernel) (by decide +kernel)
theorem wi_C_init : Cond.instanceMethod y_C_init ∈ WALL := mw 18 (by decide +kernel) (by decide +kernel)
theorem wc_C_init : Cond.code y_C_init c_C_init 1 none ∈ WALL := mw 19 (by decide +kernel) (by decide +kernel)
theorem wm_C_5 : Cond.methodLink R_C 5 objectInit ∈ WALL := mw 20 (by decide +kernel) (by decide +kernel)
theorem wi_objInit : Cond.instanceMethod objectInit ∈ WALL := mw 21 (by decide +kernel) (by decide +kernel)
theorem wc_objInit : Cond.code objectInit ⟨#[0xb1]⟩ 1 none ∈ WALL := mw 22 (by decide +kernel) (by decide +kernel)
theorem wk_C_28 : Cond.classLink R_C 28 R_St ∈ WALL := mw 23 (by decide +kernel) (by decide +kernel)
theorem wt_St : Cond.instantiable R_St 2 ∈ WALL := mw 24 (by decide +kernel) (by decide +kernel)
theorem nl_C_30 : Cond.methodLinkNest R_C 30 y_St_init R_C ∈ NALL := mn 25 (by decide +kernel) (by decide +kernel)
theorem wi_St_init : Cond.instanceMethod y_St_init ∈ WALL := mw 26 (by decide +kernel) (by decide +kernel)
theorem wc_St_init : Cond.code y_St_init c_St_init 1 none ∈ WALL := mw 27 (by decide +kernel) (by decide +kernel)
theorem wm_St_3 : Cond.methodLink R_St 3 objectInit ∈ WALL := mw 28 (by decide +kernel) (by decide +kernel)
theorem wk_St_9 : Cond.classLink R_St 9 R_K ∈ WALL := mw 29 (by decide +kernel) (by decide +kernel)
theorem wt_K : Cond.instantiable R_K 2 ∈ WALL := mw 30 (by decide +kernel) (by decide +kernel)
theorem nl_St_11 : Cond.methodLinkNest R_St 11 y_K_init R_C ∈ NALL := mn 31 (by decide +kernel) (by decide +kernel)
theorem wi_K_init : Cond.instanceMethod y_K_init ∈ WALL := mw 32 (by decide +kernel) (by decide +kernel)
theorem wc_K_init : Cond.code y_K_init c_K_init 3 none ∈ WALL := mw 33 (by decide +kernel) (by decide +kernel)
theorem wm_K_3 : Cond.methodLink R_K 3 objectInit ∈ WALL := mw 34 (by decide +kernel) (by decide +kernel)
theorem wm_K_9 : Cond.methodLink R_K 9 Lib.Math.max.name ∈ WALL := mw 35 (by decide +kernel) (by decide +kernel)
theorem ws_maxI : Cond.static Lib.Math.max.name ∈ WALL := mw 36 (by decide +kernel) (by decide +kernel)
theorem wc_maxI : Cond.code Lib.Math.max.name Lib.Math.max.code 2 (some .int) ∈ WALL := mw 37 (by decide +kernel) (by decide +kernel)
theorem wf_K_15 : Cond.fieldLink R_K 15 (T_K 0).1 (T_K 0).2.1 (T_K 0).2.2.1 ∈ WALL := mw 38 (by decide +kernel) (by decide +kernel)
theorem nf_St_31 : Cond.fieldLinkNest R_St 31 (T_K 0).1 (T_K 0).2.1 (T_K 0).2.2.1 R_C ∈ NALL := mn 39 (by decide +kernel) (by decide +kernel)
theorem nf_Ra_51 : Cond.fieldLinkNest R_Ra 51 (T_K 0).1 (T_K 0).2.1 (T_K 0).2.2.1 R_C ∈ NALL := mn 40 (by decide +kernel) (by decide +kernel)
theorem wf_K_21 : Cond.fieldLink R_K 21 (T_K 1).1 (T_K 1).2.1 (T_K 1).2.2.1 ∈ WALL := mw 41 (by decide +kernel) (by decide +kernel)
theorem wa_long : Cond.arrayClass .long ∈ WALL := mw 47 (by decide +kernel) (by decide +kernel)
theorem wa_int : Cond.arrayClass .int ∈ WALL := mw 48 (by decide +kernel) (by decide +kernel)
theorem wf_St_14 : Cond.fieldLink R_St 14 (T_St 0).1 (T_St 0).2.1 (T_St 0).2.2.1 ∈ WALL := mw 49 (by decide +kernel) (by decide +kernel)
theorem wf_St_20 : Cond.fieldLink R_St 20 (T_St 1).1 (T_St 1).2.1 (T_St 1).2.2.1 ∈ WALL := mw 50 (by decide +kernel) (by decide +kernel)
theorem nf_C_212 : Cond.fieldLinkNest R_C 212 (T_St 1).1 (T_St 1).2.1 (T_St 1).2.2.1 R_C ∈ NALL := mn 51 (by decide +kernel) (by decide +kernel)
theorem wk_C_35 : Cond.classLink R_C 35 R_Ra ∈ WALL := mw 57 (by decide +kernel) (by decide +kernel)
theorem wt_Ra : Cond.instantiable R_Ra 5 ∈ WALL := mw 58 (by decide +kernel) (by decide +kernel)
theorem nl_C_37 : Cond.methodLinkNest R_C 37 y_Ra_init R_C ∈ NALL := mn 59 (by decide +kernel) (by decide +kernel)
theorem wi_Ra_init : Cond.instanceMethod y_Ra_init ∈ WALL := mw 60 (by decide +kernel) (by decide +kernel)
theorem wc_Ra_init : Cond.code y_Ra_init c_Ra_init 1 none ∈ WALL := mw 61 (by decide +kernel) (by decide +kernel)
theorem wm_Ra_3 : Cond.methodLink R_Ra 3 objectInit ∈ WALL := mw 62 (by decide +kernel) (by decide +kernel)
theorem wk_Ra_9 : Cond.classLink R_Ra 9 R_K ∈ WALL := mw 63 (by decide +kernel) (by decide +kernel)
theorem nl_Ra_11 : Cond.methodLinkNest R_Ra 11 y_K_init R_C ∈ NALL := mn 64 (by decide +kernel) (by decide +kernel)
theorem wf_Ra_14 : Cond.fieldLink R_Ra 14 (T_Ra 0).1 (T_Ra 0).2.1 (T_Ra 0).2.2.1 ∈ WALL := mw 65 (by decide +kernel) (by decide +kernel)
theorem wf_Ra_20 : Cond.fieldLink R_Ra 20 (T_Ra 1).1 (T_Ra 1).2.1 (T_Ra 1).2.2.1 ∈ WALL := mw 66 (by decide +kernel) (by decide +kernel)
theorem wf_Ra_24 : Cond.fieldLink R_Ra 24 (T_Ra 2).1 (T_Ra 2).2.1 (T_Ra 2).2.2.1 ∈ WALL := mw 67 (by decide +kernel) (by decide +kernel)
theorem wf_Ra_27 : Cond.fieldLink R_Ra 27 (T_Ra 3).1 (T_Ra 3).2.1 (T_Ra 3).2.2.1 ∈ WALL := mw 68 (by decide +kernel) (by decide +kernel)
theorem wf_Ra_30 : Cond.fieldLink R_Ra 30 (T_Ra 4).1 (T_Ra 4).2.1 (T_Ra 4).2.2.1 ∈ WALL := mw 69 (by decide +kernel) (by decide +kernel)
theorem wk_C_42 : Cond.classLink R_C 42 R_Y ∈ WALL := mw 81 (by decide +kernel) (by decide +kernel)
theorem wt_Y : Cond.instantiable R_Y 3 ∈ WALL := mw 82 (by decide +kernel) (by decide +kernel)
theorem nl_C_44 : Cond.methodLinkNest R_C 44 y_Y_init R_C ∈ NALL := mn 83 (by decide +kernel) (by decide +kernel)
theorem wi_Y_init : Cond.instanceMethod y_Y_init ∈ WALL := mw 84 (by decide +kernel) (by decide +kernel)
theorem wc_Y_init : Cond.code y_Y_init c_Y_init 1 none ∈ WALL := mw 85 (by decide +kernel) (by decide +kernel)
theorem wm_Y_3 : Cond.methodLink R_Y 3 objectInit ∈ WALL := mw 86 (by decide +kernel) (by decide +kernel)
theorem wf_Y_9 : Cond.fieldLink R_Y 9 (T_Y 0).1 (T_Y 0).2.1 (T_Y 0).2.2.1 ∈ WALL := mw 87 (by decide +kernel) (by decide +kernel)
theorem wf_Y_15 : Cond.fieldLink R_Y 15 (T_Y 1).1 (T_Y 1).2.1 (T_Y 1).2.2.1 ∈ WALL := mw 88 (by decide +kernel) (by decide +kernel)
theorem wf_Y_18 : Cond.fieldLink R_Y 18 (T_Y 2).1 (T_Y 2).2.1 (T_Y 2).2.2.1 ∈ WALL := mw 89 (by decide +kernel) (by decide +kernel)
theorem wk_C_57 : Cond.classLink R_C 57 R_Q ∈ WALL := mw 97 (by decide +kernel) (by decide +kernel)
theorem wt_Q : Cond.instantiable R_Q 5 ∈ WALL := mw 98 (by decide +kernel) (by decide +kernel)
theorem nl_C_59 : Cond.methodLinkNest R_C 59 y_Q_init R_C ∈ NALL := mn 99 (by decide +kernel) (by decide +kernel)
theorem wi_Q_init : Cond.instanceMethod y_Q_init ∈ WALL := mw 100 (by decide +kernel) (by decide +kernel)
theorem wc_Q_init : Cond.code y_Q_init c_Q_init 1 none ∈ WALL := mw 101 (by decide +kernel) (by decide +kernel)
theorem wm_Q_3 : Cond.methodLink R_Q 3 objectInit ∈ WALL := mw 102 (by decide +kernel) (by decide +kernel)
theorem wf_Q_9 : Cond.fieldLink R_Q 9 (T_Q 0).1 (T_Q 0).2.1 (T_Q 0).2.2.1 ∈ WALL := mw 103 (by decide +kernel) (by decide +kernel)
theorem nf_C_143 : Cond.fieldLinkNest R_C 143 (T_Q 0).1 (T_Q 0).2.1 (T_Q 0).2.2.1 R_C ∈ NALL := mn 104 (by decide +kernel) (by decide +kernel)
theorem wf_Q_15 : Cond.fieldLink R_Q 15 (T_Q 1).1 (T_Q 1).2.1 (T_Q 1).2.2.1 ∈ WALL := mw 105 (by decide +kernel) (by decide +kernel)
theorem nf_C_146 : Cond.fieldLinkNest R_C 146 (T_Q 1).1 (T_Q 1).2.1 (T_Q 1).2.2.1 R_C ∈ NALL := mn 106 (by decide +kernel) (by decide +kernel)
theorem wf_Q_19 : Cond.fieldLink R_Q 19 (T_Q 2).1 (T_Q 2).2.1 (T_Q 2).2.2.1 ∈ WALL := mw 107 (by decide +kernel) (by decide +kernel)
theorem nf_C_149 : Cond.fieldLinkNest R_C 149 (T_Q 2).1 (T_Q 2).2.1 (T_Q 2).2.2.1 R_C ∈ NALL := mn 108 (by decide +kernel) (by decide +kernel)
theorem wf_Q_22 : Cond.fieldLink R_Q 22 (T_Q 3).1 (T_Q 3).2.1 (T_Q 3).2.2.1 ∈ WALL := mw 109 (by decide +kernel) (by decide +kernel)
theorem nf_C_152 : Cond.fieldLinkNest R_C 152 (T_Q 3).1 (T_Q 3).2.1 (T_Q 3).2.2.1 R_C ∈ NALL := mn 110 (by decide +kernel) (by decide +kernel)
theorem wf_Q_25 : Cond.fieldLink R_Q 25 (T_Q 4).1 (T_Q 4).2.1 (T_Q 4).2.2.1 ∈ WALL := mw 111 (by decide +kernel) (by decide +kernel)
theorem nf_C_140 : Cond.fieldLinkNest R_C 140 (T_Q 4).1 (T_Q 4).2.1 (T_Q 4).2.2.1 R_C ∈ NALL := mn 112 (by decide +kernel) (by decide +kernel)
theorem wf_C_11 : Cond.fieldLink R_C 11 (T_C 0).1 (T_C 0).2.1 (T_C 0).2.2.1 ∈ WALL := mw 124 (by decide +kernel) (by decide +kernel)
theorem wf_C_15 : Cond.fieldLink R_C 15 (T_C 1).1 (T_C 1).2.1 (T_C 1).2.2.1 ∈ WALL := mw 125 (by decide +kernel) (by decide +kernel)
theorem wf_C_18 : Cond.fieldLink R_C 18 (T_C 2).1 (T_C 2).2.1 (T_C 2).2.2.1 ∈ WALL := mw 126 (by decide +kernel) (by decide +kernel)
theorem wf_C_22 : Cond.fieldLink R_C 22 (T_C 3).1 (T_C 3).2.1 (T_C 3).2.2.1 ∈ WALL := mw 127 (by decide +kernel) (by decide +kernel)
theorem wf_C_25 : Cond.fieldLink R_C 25 (T_C 4).1 (T_C 4).2.1 (T_C 4).2.2.1 ∈ WALL := mw 128 (by decide +kernel) (by decide +kernel)
theorem wf_C_31 : Cond.fieldLink R_C 31 (T_C 5).1 (T_C 5).2.1 (T_C 5).2.2.1 ∈ WALL := mw 129 (by decide +kernel) (by decide +kernel)
theorem wf_C_38 : Cond.fieldLink R_C 38 (T_C 6).1 (T_C 6).2.1 (T_C 6).2.2.1 ∈ WALL := mw 130 (by decide +kernel) (by decide +kernel)
theorem wf_C_45 : Cond.fieldLink R_C 45 (T_C 7).1 (T_C 7).2.1 (T_C 7).2.2.1 ∈ WALL := mw 131 (by decide +kernel) (by decide +kernel)
theorem wf_C_49 : Cond.fieldLink R_C 49 (T_C 8).1 (T_C 8).2.1 (T_C 8).2.2.1 ∈ WALL := mw 132 (by decide +kernel) (by decide +kernel)
theorem wf_C_53 : Cond.fieldLink R_C 53 (T_C 9).1 (T_C 9).2.1 (T_C 9).2.2.1 ∈ WALL := mw 133 (by decide +kernel) (by decide +kernel)
theorem wf_C_60 : Cond.fieldLink R_C 60 (T_C 10).1 (T_C 10).2.1 (T_C 10).2.2.1 ∈ WALL := mw 134 (by decide +kernel) (by decide +kernel)
theorem wf_C_64 : Cond.fieldLink R_C 64 (T_C 11).1 (T_C 11).2.1 (T_C 11).2.2.1 ∈ WALL := mw 135 (by decide +kernel) (by decide +kernel)
theorem wf_C_67 : Cond.fieldLink R_C 67 (T_C 12).1 (T_C 12).2.1 (T_C 12).2.2.1 ∈ WALL := mw 136 (by decide +kernel) (by decide +kernel)
theorem wm_L_74 : Cond.methodLink R_L 74 y_C_part ∈ WALL := mw 164 (by decide +kernel) (by decide +kernel)
theorem wi_C_part : Cond.instanceMethod y_C_part ∈ WALL := mw 165 (by decide +kernel) (by decide +kernel)
theorem wl_C_part : Cond.selects R_C y_C_part y_C_part ∈ WALL := mw 166 (by decide +kernel) (by decide +kernel)
theorem wc_C_part : Cond.code y_C_part c_C_part 2 (some .int) ∈ WALL := mw 167 (by decide +kernel) (by decide +kernel)
theorem wm_L_138 : Cond.methodLink R_L 138 y_C_changed ∈ WALL := mw 168 (by decide +kernel) (by decide +kernel)
theorem wi_C_changed : Cond.instanceMethod y_C_changed ∈ WALL := mw 169 (by decide +kernel) (by decide +kernel)
theorem wl_C_changed : Cond.selects R_C y_C_changed y_C_changed ∈ WALL := mw 170 (by decide +kernel) (by decide +kernel)
theorem wc_C_changed : Cond.code y_C_changed c_C_changed 4 (some .int) ∈ WALL := mw 171 (by decide +kernel) (by decide +kernel)
theorem wm_L_81 : Cond.methodLink R_L 81 y_L_price ∈ WALL := mw 172 (by decide +kernel) (by decide +kernel)
theorem ws_L_price : Cond.static y_L_price ∈ WALL := mw 173 (by decide +kernel) (by decide +kernel)
theorem wc_L_price : Cond.codeWith y_L_price c_L_price 9 (some .int) [(0, 21, 24, 13), (0, 21, 28, 15)] ∈ WALL := mw 174 (by decide +kernel) (by decide +kernel)
theorem wk_L_13 : Cond.classLink R_L 13 "java/lang/IndexOutOfBoundsException" ∈ WALL := mw 175 (by decide +kernel) (by decide +kernel)
theorem wk_L_15 : Cond.classLink R_L 15 "java/lang/IllegalArgumentException" ∈ WALL := mw 176 (by decide +kernel) (by decide +kernel)
theorem wm_L_7 : Cond.methodLink R_L 7 y_C_price ∈ WALL := mw 177 (by decide +kernel) (by decide +kernel)
theorem wi_C_price : Cond.instanceMethod y_C_price ∈ WALL := mw 178 (by decide +kernel) (by decide +kernel)
theorem wl_C_price : Cond.selects R_C y_C_price y_C_price ∈ WALL := mw 179 (by decide +kernel) (by decide +kernel)
theorem wc_C_price : Cond.code y_C_price c_C_price 7 (some .boolean) ∈ WALL := mw 180 (by decide +kernel) (by decide +kernel)
theorem wm_C_70 : Cond.methodLink R_C 70 y_C_needIndex ∈ WALL := mw 181 (by decide +kernel) (by decide +kernel)
theorem ws_C_needIndex : Cond.static y_C_needIndex ∈ WALL := mw 182 (by decide +kernel) (by decide +kernel)
theorem wc_C_needIndex : Cond.code y_C_needIndex c_C_needIndex 2 none ∈ WALL := mw 183 (by decide +kernel) (by decide +kernel)
theorem wk_C_155 : Cond.classLink R_C 155 "java/lang/IndexOutOfBoundsException" ∈ WALL := mw 184 (by decide +kernel) (by decide +kernel)
theorem wm_C_74 : Cond.methodLink R_C 74 y_C_needStep ∈ WALL := mw 251 (by decide +kernel) (by decide +kernel)
theorem ws_C_needStep : Cond.static y_C_needStep ∈ WALL := mw 252 (by decide +kernel) (by decide +kernel)
theorem wc_C_needStep : Cond.code y_C_needStep c_C_needStep 4 none ∈ WALL := mw 253 (by decide +kernel) (by decide +kernel)
theorem wv_C_104 : Cond.constantLong R_C 104 1000000000 ∈ WALL := mw 254 (by decide +kernel) (by decide +kernel)
theorem wm_C_84 : Cond.methodLink R_C 84 y_C_needNumber ∈ WALL := mw 255 (by decide +kernel) (by decide +kernel)
theorem ws_C_needNumber : Cond.static y_C_needNumber ∈ WALL := mw 256 (by decide +kernel) (by decide +kernel)
theorem wc_C_needNumber : Cond.code y_C_needNumber c_C_needNumber 6 none ∈ WALL := mw 257 (by decide +kernel) (by decide +kernel)
theorem wk_C_162 : Cond.classLink R_C 162 "java/lang/IllegalArgumentException" ∈ WALL := mw 258 (by decide +kernel) (by decide +kernel)
theorem wv_C_167 : Cond.constantLong R_C 167 100000 ∈ WALL := mw 274 (by decide +kernel) (by decide +kernel)
theorem nl_C_78 : Cond.methodLinkNest R_C 78 y_St_tell R_C ∈ NALL := mn 275 (by decide +kernel) (by decide +kernel)
theorem wi_St_tell : Cond.instanceMethod y_St_tell ∈ WALL := mw 277 (by decide +kernel) (by decide +kernel)
theorem wc_St_tell : Cond.code y_St_tell c_St_tell 8 (some .boolean) ∈ WALL := mw 278 (by decide +kernel) (by decide +kernel)
theorem nl_St_34 : Cond.methodLinkNest R_St 34 y_K_slotFor R_C ∈ NALL := mn 279 (by decide +kernel) (by decide +kernel)
theorem wi_K_slotFor : Cond.instanceMethod y_K_slotFor ∈ WALL := mw 281 (by decide +kernel) (by decide +kernel)
theorem wc_K_slotFor : Cond.code y_K_slotFor c_K_slotFor 6 (some .int) ∈ WALL := mw 282 (by decide +kernel) (by decide +kernel)
theorem wm_K_25 : Cond.methodLink R_K 25 y_K_endSlot ∈ WALL := mw 283 (by decide +kernel) (by decide +kernel)
theorem wi_K_endSlot : Cond.instanceMethod y_K_endSlot ∈ WALL := mw 285 (by decide +kernel) (by decide +kernel)
theorem wc_K_endSlot : Cond.code y_K_endSlot c_K_endSlot 2 (some .int) ∈ WALL := mw 286 (by decide +kernel) (by decide +kernel)
theorem wm_K_29 : Cond.methodLink R_K 29 y_K_firstSlot ∈ WALL := mw 287 (by decide +kernel) (by decide +kernel)
theorem wi_K_firstSlot : Cond.instanceMethod y_K_firstSlot ∈ WALL := mw 289 (by decide +kernel) (by decide +kernel)
theorem wc_K_firstSlot : Cond.code y_K_firstSlot c_K_firstSlot 2 (some .int) ∈ WALL := mw 290 (by decide +kernel) (by decide +kernel)
theorem nl_St_38 : Cond.methodLinkNest R_St 38 y_C_tellNumber R_C ∈ NALL := mn 291 (by decide +kernel) (by decide +kernel)
theorem ws_C_tellNumber : Cond.static y_C_tellNumber ∈ WALL := mw 292 (by decide +kernel) (by decide +kernel)
theorem wc_C_tellNumber : Cond.code y_C_tellNumber c_C_tellNumber 5 (some .boolean) ∈ WALL := mw 293 (by decide +kernel) (by decide +kernel)
theorem wm_L_90 : Cond.methodLink R_L 90 y_L_uses ∈ WALL := mw 294 (by decide +kernel) (by decide +kernel)
theorem ws_L_uses : Cond.static y_L_uses ∈ WALL := mw 295 (by decide +kernel) (by decide +kernel)
theorem wc_L_uses : Cond.codeWith y_L_uses c_L_uses 6 (some .int) [(0, 18, 21, 13), (0, 18, 25, 15)] ∈ WALL := mw 296 (by decide +kernel) (by decide +kernel)
theorem wm_L_17 : Cond.methodLink R_L 17 y_C_uses ∈ WALL := mw 297 (by decide +kernel) (by decide +kernel)
theorem wi_C_uses : Cond.instanceMethod y_C_uses ∈ WALL := mw 298 (by decide +kernel) (by decide +kernel)
theorem wl_C_uses : Cond.selects R_C y_C_uses y_C_uses ∈ WALL := mw 299 (by decide +kernel) (by decide +kernel)
theorem wc_C_uses : Cond.code y_C_uses c_C_uses 4 (some .boolean) ∈ WALL := mw 300 (by decide +kernel) (by decide +kernel)
theorem wv_C_82 : Cond.constantLong R_C 82 1000 ∈ WALL := mw 301 (by decide +kernel) (by decide +kernel)
theorem wm_C_88 : Cond.methodLink R_C 88 y_C_tellNumber ∈ WALL := mw 302 (by decide +kernel) (by decide +kernel)
theorem wm_L_94 : Cond.methodLink R_L 94 y_L_board ∈ WALL := mw 303 (by decide +kernel) (by decide +kernel)
theorem ws_L_board : Cond.static y_L_board ∈ WALL := mw 304 (by decide +kernel) (by decide +kernel)
theorem wc_L_board : Cond.codeWith y_L_board c_L_board 8 (some .int) [(0, 20, 23, 13), (0, 20, 27, 15)] ∈ WALL := mw 305 (by decide +kernel) (by decide +kernel)
theorem wm_L_21 : Cond.methodLink R_L 21 y_C_board ∈ WALL := mw 306 (by decide +kernel) (by decide +kernel)
theorem wi_C_board : Cond.instanceMethod y_C_board ∈ WALL := mw 307 (by decide +kernel) (by decide +kernel)
theorem wl_C_board : Cond.selects R_C y_C_board y_C_board ∈ WALL := mw 308 (by decide +kernel) (by decide +kernel)
theorem wc_C_board : Cond.code y_C_board c_C_board 6 (some .boolean) ∈ WALL := mw 309 (by decide +kernel) (by decide +kernel)
theorem wm_L_98 : Cond.methodLink R_L 98 y_L_assembly ∈ WALL := mw 310 (by decide +kernel) (by decide +kernel)
theorem ws_L_assembly : Cond.static y_L_assembly ∈ WALL := mw 311 (by decide +kernel) (by decide +kernel)
theorem wc_L_assembly : Cond.codeWith y_L_assembly c_L_assembly 6 (some .int) [(0, 18, 21, 13), (0, 18, 25, 15)] ∈ WALL := mw 312 (by decide +kernel) (by decide +kernel)
theorem wm_L_25 : Cond.methodLink R_L 25 y_C_assembly ∈ WALL := mw 313 (by decide +kernel) (by decide +kernel)
theorem wi_C_assembly : Cond.instanceMethod y_C_assembly ∈ WALL := mw 314 (by decide +kernel) (by decide +kernel)
theorem wl_C_assembly : Cond.selects R_C y_C_assembly y_C_assembly ∈ WALL := mw 315 (by decide +kernel) (by decide +kernel)
theorem wc_C_assembly : Cond.code y_C_assembly c_C_assembly 4 (some .boolean) ∈ WALL := mw 316 (by decide +kernel) (by decide +kernel)
theorem wv_C_92 : Cond.constantLong R_C 92 1000000 ∈ WALL := mw 317 (by decide +kernel) (by decide +kernel)
theorem wm_L_101 : Cond.methodLink R_L 101 y_L_placed ∈ WALL := mw 318 (by decide +kernel) (by decide +kernel)
theorem ws_L_placed : Cond.static y_L_placed ∈ WALL := mw 319 (by decide +kernel) (by decide +kernel)
theorem wc_L_placed : Cond.codeWith y_L_placed c_L_placed 6 (some .int) [(0, 18, 21, 13), (0, 18, 25, 15)] ∈ WALL := mw 320 (by decide +kernel) (by decide +kernel)
theorem wm_L_28 : Cond.methodLink R_L 28 y_C_placed ∈ WALL := mw 321 (by decide +kernel) (by decide +kernel)
theorem wi_C_placed : Cond.instanceMethod y_C_placed ∈ WALL := mw 322 (by decide +kernel) (by decide +kernel)
theorem wl_C_placed : Cond.selects R_C y_C_placed y_C_placed ∈ WALL := mw 323 (by decide +kernel) (by decide +kernel)
theorem wc_C_placed : Cond.code y_C_placed c_C_placed 4 (some .boolean) ∈ WALL := mw 324 (by decide +kernel) (by decide +kernel)
theorem wm_L_104 : Cond.methodLink R_L 104 y_L_yieldOf ∈ WALL := mw 325 (by decide +kernel) (by decide +kernel)
theorem ws_L_yieldOf : Cond.static y_L_yieldOf ∈ WALL := mw 326 (by decide +kernel) (by decide +kernel)
theorem wc_L_yieldOf : Cond.codeWith y_L_yieldOf c_L_yieldOf 7 (some .int) [(0, 18, 21, 15)] ∈ WALL := mw 327 (by decide +kernel) (by decide +kernel)
theorem wm_L_31 : Cond.methodLink R_L 31 y_C_yieldOf ∈ WALL := mw 328 (by decide +kernel) (by decide +kernel)
theorem wi_C_yieldOf : Cond.instanceMethod y_C_yieldOf ∈ WALL := mw 329 (by decide +kernel) (by decide +kernel)
theorem wl_C_yieldOf : Cond.selects R_C y_C_yieldOf y_C_yieldOf ∈ WALL := mw 330 (by decide +kernel) (by decide +kernel)
theorem wc_C_yieldOf : Cond.code y_C_yieldOf c_C_yieldOf 5 (some .boolean) ∈ WALL := mw 331 (by decide +kernel) (by decide +kernel)
theorem wm_C_94 : Cond.methodLink R_C 94 y_C_needRatio ∈ WALL := mw 332 (by decide +kernel) (by decide +kernel)
theorem ws_C_needRatio : Cond.static y_C_needRatio ∈ WALL := mw 333 (by decide +kernel) (by decide +kernel)
theorem wc_C_needRatio : Cond.code y_C_needRatio c_C_needRatio 4 none ∈ WALL := mw 334 (by decide +kernel) (by decide +kernel)
theorem nl_C_97 : Cond.methodLinkNest R_C 97 y_Y_add R_C ∈ NALL := mn 335 (by decide +kernel) (by decide +kernel)
theorem wi_Y_add : Cond.instanceMethod y_Y_add ∈ WALL := mw 337 (by decide +kernel) (by decide +kernel)
theorem wc_Y_add : Cond.code y_Y_add c_Y_add 5 (some .boolean) ∈ WALL := mw 338 (by decide +kernel) (by decide +kernel)
theorem wm_L_108 : Cond.methodLink R_L 108 y_L_currency ∈ WALL := mw 339 (by decide +kernel) (by decide +kernel)
theorem ws_L_currency : Cond.static y_L_currency ∈ WALL := mw 340 (by decide +kernel) (by decide +kernel)
theorem wc_L_currency : Cond.codeWith y_L_currency c_L_currency 10 (some .int) [(0, 22, 25, 13), (0, 22, 29, 15)] ∈ WALL := mw 341 (by decide +kernel) (by decide +kernel)
theorem wm_L_35 : Cond.methodLink R_L 35 y_C_currency ∈ WALL := mw 342 (by decide +kernel) (by decide +kernel)
theorem wi_C_currency : Cond.instanceMethod y_C_currency ∈ WALL := mw 343 (by decide +kernel) (by decide +kernel)
theorem wl_C_currency : Cond.selects R_C y_C_currency y_C_currency ∈ WALL := mw 344 (by decide +kernel) (by decide +kernel)
theorem wc_C_currency : Cond.code y_C_currency c_C_currency 8 (some .boolean) ∈ WALL := mw 345 (by decide +kernel) (by decide +kernel)
theorem nl_C_101 : Cond.methodLinkNest R_C 101 y_Ra_tell R_C ∈ NALL := mn 346 (by decide +kernel) (by decide +kernel)
theorem wi_Ra_tell : Cond.instanceMethod y_Ra_tell ∈ WALL := mw 348 (by decide +kernel) (by decide +kernel)
theorem wc_Ra_tell : Cond.code y_Ra_tell c_Ra_tell 11 (some .boolean) ∈ WALL := mw 349 (by decide +kernel) (by decide +kernel)
theorem nl_Ra_33 : Cond.methodLinkNest R_Ra 33 y_K_slotFor R_C ∈ NALL := mn 350 (by decide +kernel) (by decide +kernel)
theorem nl_Ra_37 : Cond.methodLinkNest R_Ra 37 y_C_tellNumber R_C ∈ NALL := mn 351 (by decide +kernel) (by decide +kernel)
theorem wm_L_112 : Cond.methodLink R_L 112 y_L_tooling ∈ WALL := mw 352 (by decide +kernel) (by decide +kernel)
theorem ws_L_tooling : Cond.static y_L_tooling ∈ WALL := mw 353 (by decide +kernel) (by decide +kernel)
theorem wc_L_tooling : Cond.codeWith y_L_tooling c_L_tooling 5 (some .int) [(0, 16, 19, 15)] ∈ WALL := mw 354 (by decide +kernel) (by decide +kernel)
theorem wm_L_39 : Cond.methodLink R_L 39 y_C_tooling ∈ WALL := mw 355 (by decide +kernel) (by decide +kernel)
theorem wi_C_tooling : Cond.instanceMethod y_C_tooling ∈ WALL := mw 356 (by decide +kernel) (by decide +kernel)
theorem wl_C_tooling : Cond.selects R_C y_C_tooling y_C_tooling ∈ WALL := mw 357 (by decide +kernel) (by decide +kernel)
theorem wc_C_tooling : Cond.code y_C_tooling c_C_tooling 4 (some .boolean) ∈ WALL := mw 358 (by decide +kernel) (by decide +kernel)
theorem wm_L_116 : Cond.methodLink R_L 116 y_L_stock ∈ WALL := mw 359 (by decide +kernel) (by decide +kernel)
theorem ws_L_stock : Cond.static y_L_stock ∈ WALL := mw 360 (by decide +kernel) (by decide +kernel)
theorem wc_L_stock : Cond.codeWith y_L_stock c_L_stock 6 (some .int) [(0, 18, 21, 13), (0, 18, 25, 15)] ∈ WALL := mw 361 (by decide +kernel) (by decide +kernel)
theorem wm_L_43 : Cond.methodLink R_L 43 y_C_stock ∈ WALL := mw 362 (by decide +kernel) (by decide +kernel)
theorem wi_C_stock : Cond.instanceMethod y_C_stock ∈ WALL := mw 363 (by decide +kernel) (by decide +kernel)
theorem wl_C_stock : Cond.selects R_C y_C_stock y_C_stock ∈ WALL := mw 364 (by decide +kernel) (by decide +kernel)
theorem wc_C_stock : Cond.code y_C_stock c_C_stock 4 (some .boolean) ∈ WALL := mw 365 (by decide +kernel) (by decide +kernel)
theorem wm_L_119 : Cond.methodLink R_L 119 y_L_total ∈ WALL := mw 366 (by decide +kernel) (by decide +kernel)
theorem ws_L_total : Cond.static y_L_total ∈ WALL := mw 367 (by decide +kernel) (by decide +kernel)
theorem wc_L_total : Cond.codeWith y_L_total c_L_total 8 (some .int) [(0, 12, 15, 13), (0, 12, 19, 15)] ∈ WALL := mw 368 (by decide +kernel) (by decide +kernel)
theorem wm_L_46 : Cond.methodLink R_L 46 y_C_total ∈ WALL := mw 369 (by decide +kernel) (by decide +kernel)
theorem wi_C_total : Cond.instanceMethod y_C_total ∈ WALL := mw 370 (by decide +kernel) (by decide +kernel)
theorem wl_C_total : Cond.selects R_C y_C_total y_C_total ∈ WALL := mw 371 (by decide +kernel) (by decide +kernel)
theorem wc_C_total : Cond.code y_C_total c_C_total 6 (some .long) ∈ WALL := mw 372 (by decide +kernel) (by decide +kernel)
theorem wm_C_106 : Cond.methodLink R_C 106 y_C_draw ∈ WALL := mw 373 (by decide +kernel) (by decide +kernel)
theorem wi_C_draw : Cond.instanceMethod y_C_draw ∈ WALL := mw 375 (by decide +kernel) (by decide +kernel)
theorem wc_C_draw : Cond.code y_C_draw c_C_draw 8 (some .boolean) ∈ WALL := mw 376 (by decide +kernel) (by decide +kernel)
theorem nl_C_119 : Cond.methodLinkNest R_C 119 y_Y_startedFor R_C ∈ NALL := mn 377 (by decide +kernel) (by decide +kernel)
theorem wi_Y_startedFor : Cond.instanceMethod y_Y_startedFor ∈ WALL := mw 379 (by decide +kernel) (by decide +kernel)
theorem wc_Y_startedFor : Cond.code y_Y_startedFor c_Y_startedFor 6 (some .long) ∈ WALL := mw 380 (by decide +kernel) (by decide +kernel)
theorem wv_Y_22 : Cond.constantLong R_Y 22 1000000000 ∈ WALL := mw 381 (by decide +kernel) (by decide +kernel)
theorem nl_Y_24 : Cond.methodLinkNest R_Y 24 y_C_divideUp R_C ∈ NALL := mn 382 (by decide +kernel) (by decide +kernel)
theorem ws_C_divideUp : Cond.static y_C_divideUp ∈ WALL := mw 383 (by decide +kernel) (by decide +kernel)
theorem wc_C_divideUp : Cond.code y_C_divideUp c_C_divideUp 4 (some .long) ∈ WALL := mw 384 (by decide +kernel) (by decide +kernel)
theorem wm_C_123 : Cond.methodLink R_C 123 y_C_drawAllButBoards ∈ WALL := mw 385 (by decide +kernel) (by decide +kernel)
theorem wi_C_drawAllButBoards : Cond.instanceMethod y_C_drawAllButBoards ∈ WALL := mw 387 (by decide +kernel) (by decide +kernel)
theorem wc_C_drawAllButBoards : Cond.code y_C_drawAllButBoards c_C_drawAllButBoards 6 (some .boolean) ∈ WALL := mw 388 (by decide +kernel) (by decide +kernel)
theorem nl_C_169 : Cond.methodLinkNest R_C 169 y_Q_begin R_C ∈ NALL := mn 389 (by decide +kernel) (by decide +kernel)
theorem wi_Q_begin : Cond.instanceMethod y_Q_begin ∈ WALL := mw 391 (by decide +kernel) (by decide +kernel)
theorem wc_Q_begin : Cond.code y_Q_begin c_Q_begin 3 none ∈ WALL := mw 392 (by decide +kernel) (by decide +kernel)
theorem wm_Q_29 : Cond.methodLink R_Q 29 y_Q_clearRow ∈ WALL := mw 393 (by decide +kernel) (by decide +kernel)
theorem wi_Q_clearRow : Cond.instanceMethod y_Q_clearRow ∈ WALL := mw 395 (by decide +kernel) (by decide +kernel)
theorem wc_Q_clearRow : Cond.code y_Q_clearRow c_Q_clearRow 2 none ∈ WALL := mw 396 (by decide +kernel) (by decide +kernel)
theorem nl_C_173 : Cond.methodLinkNest R_C 173 y_Ra_turnTo R_C ∈ NALL := mn 397 (by decide +kernel) (by decide +kernel)
theorem wi_Ra_turnTo : Cond.instanceMethod y_Ra_turnTo ∈ WALL := mw 399 (by decide +kernel) (by decide +kernel)
theorem wc_Ra_turnTo : Cond.code y_Ra_turnTo c_Ra_turnTo 5 none ∈ WALL := mw 400 (by decide +kernel) (by decide +kernel)
theorem wm_Ra_41 : Cond.methodLink R_Ra 41 y_Ra_latestSlot ∈ WALL := mw 401 (by decide +kernel) (by decide +kernel)
theorem wi_Ra_latestSlot : Cond.instanceMethod y_Ra_latestSlot ∈ WALL := mw 403 (by decide +kernel) (by decide +kernel)
theorem wc_Ra_latestSlot : Cond.code y_Ra_latestSlot c_Ra_latestSlot 9 (some .int) ∈ WALL := mw 404 (by decide +kernel) (by decide +kernel)
theorem nl_Ra_44 : Cond.methodLinkNest R_Ra 44 y_K_endSlot R_C ∈ NALL := mn 405 (by decide +kernel) (by decide +kernel)
theorem nl_Ra_48 : Cond.methodLinkNest R_Ra 48 y_K_firstSlot R_C ∈ NALL := mn 406 (by decide +kernel) (by decide +kernel)
theorem wm_C_177 : Cond.methodLink R_C 177 y_C_assemblyCost ∈ WALL := mw 407 (by decide +kernel) (by decide +kernel)
theorem wi_C_assemblyCost : Cond.instanceMethod y_C_assemblyCost ∈ WALL := mw 409 (by decide +kernel) (by decide +kernel)
theorem wc_C_assemblyCost : Cond.code y_C_assemblyCost c_C_assemblyCost 6 (some .long) ∈ WALL := mw 410 (by decide +kernel) (by decide +kernel)
theorem wm_C_223 : Cond.methodLink R_C 223 y_C_divideUp ∈ WALL := mw 411 (by decide +kernel) (by decide +kernel)
theorem wm_C_180 : Cond.methodLink R_C 180 y_C_drawPart ∈ WALL := mw 412 (by decide +kernel) (by decide +kernel)
theorem wi_C_drawPart : Cond.instanceMethod y_C_drawPart ∈ WALL := mw 414 (by decide +kernel) (by decide +kernel)
theorem wc_C_drawPart : Cond.code y_C_drawPart c_C_drawPart 9 (some .boolean) ∈ WALL := mw 415 (by decide +kernel) (by decide +kernel)
theorem wm_C_136 : Cond.methodLink R_C 136 y_C_mayStandIn ∈ WALL := mw 416 (by decide +kernel) (by decide +kernel)
theorem wi_C_mayStandIn : Cond.instanceMethod y_C_mayStandIn ∈ WALL := mw 418 (by decide +kernel) (by decide +kernel)
theorem wc_C_mayStandIn : Cond.code y_C_mayStandIn c_C_mayStandIn 3 (some .boolean) ∈ WALL := mw 419 (by decide +kernel) (by decide +kernel)
theorem wm_C_187 : Cond.methodLink R_C 187 y_C_offerSteps ∈ WALL := mw 420 (by decide +kernel) (by decide +kernel)
theorem wi_C_offerSteps : Cond.instanceMethod y_C_offerSteps ∈ WALL := mw 422 (by decide +kernel) (by decide +kernel)
theorem wc_C_offerSteps : Cond.code y_C_offerSteps c_C_offerSteps 13 none ∈ WALL := mw 423 (by decide +kernel) (by decide +kernel)
theorem nl_C_195 : Cond.methodLinkNest R_C 195 y_St_endSlot R_C ∈ NALL := mn 424 (by decide +kernel) (by decide +kernel)
theorem wi_St_endSlot : Cond.instanceMethod y_St_endSlot ∈ WALL := mw 426 (by decide +kernel) (by decide +kernel)
theorem wc_St_endSlot : Cond.code y_St_endSlot c_St_endSlot 3 (some .int) ∈ WALL := mw 427 (by decide +kernel) (by decide +kernel)
theorem nl_St_28 : Cond.methodLinkNest R_St 28 y_K_endSlot R_C ∈ NALL := mn 428 (by decide +kernel) (by decide +kernel)
theorem nl_C_199 : Cond.methodLinkNest R_C 199 y_St_firstSlot R_C ∈ NALL := mn 429 (by decide +kernel) (by decide +kernel)
theorem wi_St_firstSlot : Cond.instanceMethod y_St_firstSlot ∈ WALL := mw 431 (by decide +kernel) (by decide +kernel)
theorem wc_St_firstSlot : Cond.code y_St_firstSlot c_St_firstSlot 3 (some .int) ∈ WALL := mw 432 (by decide +kernel) (by decide +kernel)
theorem nl_St_24 : Cond.methodLinkNest R_St 24 y_K_firstSlot R_C ∈ NALL := mn 433 (by decide +kernel) (by decide +kernel)
theorem nl_C_202 : Cond.methodLinkNest R_C 202 y_St_fromAt R_C ∈ NALL := mn 434 (by decide +kernel) (by decide +kernel)
theorem wi_St_fromAt : Cond.instanceMethod y_St_fromAt ∈ WALL := mw 436 (by decide +kernel) (by decide +kernel)
theorem wc_St_fromAt : Cond.code y_St_fromAt c_St_fromAt 2 (some .long) ∈ WALL := mw 437 (by decide +kernel) (by decide +kernel)
theorem wm_C_206 : Cond.methodLink R_C 206 Lib.MathLoose.max_long.x ∈ WALL := mw 438 (by decide +kernel) (by decide +kernel)
theorem ws_maxJ : Cond.static Lib.MathLoose.max_long.x ∈ WALL := mw 439 (by decide +kernel) (by decide +kernel)
theorem wc_maxJ : Cond.code Lib.MathLoose.max_long.x Lib.MathLoose.max_long.code 4 (some .long) ∈ WALL := mw 440 (by decide +kernel) (by decide +kernel)
theorem nl_C_215 : Cond.methodLinkNest R_C 215 y_Ra_exchange R_C ∈ NALL := mn 441 (by decide +kernel) (by decide +kernel)
theorem wi_Ra_exchange : Cond.instanceMethod y_Ra_exchange ∈ WALL := mw 443 (by decide +kernel) (by decide +kernel)
theorem wc_Ra_exchange : Cond.code y_Ra_exchange c_Ra_exchange 4 (some .long) ∈ WALL := mw 444 (by decide +kernel) (by decide +kernel)
theorem nl_Ra_54 : Cond.methodLinkNest R_Ra 54 y_C_divideUp R_C ∈ NALL := mn 445 (by decide +kernel) (by decide +kernel)
theorem nl_C_219 : Cond.methodLinkNest R_C 219 y_Q_consider R_C ∈ NALL := mn 446 (by decide +kernel) (by decide +kernel)
theorem wi_Q_consider : Cond.instanceMethod y_Q_consider ∈ WALL := mw 448 (by decide +kernel) (by decide +kernel)
theorem wc_Q_consider : Cond.code y_Q_consider c_Q_consider 7 none ∈ WALL := mw 449 (by decide +kernel) (by decide +kernel)
theorem wm_Q_33 : Cond.methodLink R_Q 33 y_Q_isBought ∈ WALL := mw 450 (by decide +kernel) (by decide +kernel)
theorem wi_Q_isBought : Cond.instanceMethod y_Q_isBought ∈ WALL := mw 452 (by decide +kernel) (by decide +kernel)
theorem wc_Q_isBought : Cond.code y_Q_isBought c_Q_isBought 2 (some .boolean) ∈ WALL := mw 453 (by decide +kernel) (by decide +kernel)
theorem wm_Q_37 : Cond.methodLink R_Q 37 y_Q_isBetter ∈ WALL := mw 454 (by decide +kernel) (by decide +kernel)
theorem wi_Q_isBetter : Cond.instanceMethod y_Q_isBetter ∈ WALL := mw 456 (by decide +kernel) (by decide +kernel)
theorem wc_Q_isBetter : Cond.code y_Q_isBetter c_Q_isBetter 7 (some .boolean) ∈ WALL := mw 457 (by decide +kernel) (by decide +kernel)
theorem nl_C_191 : Cond.methodLinkNest R_C 191 y_Q_isBought R_C ∈ NALL := mn 458 (by decide +kernel) (by decide +kernel)
theorem wm_C_126 : Cond.methodLink R_C 126 y_C_drawBoards ∈ WALL := mw 459 (by decide +kernel) (by decide +kernel)
theorem wi_C_drawBoards : Cond.instanceMethod y_C_drawBoards ∈ WALL := mw 461 (by decide +kernel) (by decide +kernel)
theorem wc_C_drawBoards : Cond.code y_C_drawBoards c_C_drawBoards 4 (some .boolean) ∈ WALL := mw 462 (by decide +kernel) (by decide +kernel)
theorem nl_C_184 : Cond.methodLinkNest R_C 184 y_Q_clearRow R_C ∈ NALL := mn 463 (by decide +kernel) (by decide +kernel)
theorem wv_C_110 : Cond.constantLong R_C 110 (-1) ∈ WALL := mw 464 (by decide +kernel) (by decide +kernel)
theorem wm_C_112 : Cond.methodLink R_C 112 y_C_keepDraft ∈ WALL := mw 465 (by decide +kernel) (by decide +kernel)
theorem wi_C_keepDraft : Cond.instanceMethod y_C_keepDraft ∈ WALL := mw 467 (by decide +kernel) (by decide +kernel)
theorem wc_C_keepDraft : Cond.code y_C_keepDraft c_C_keepDraft 2 none ∈ WALL := mw 468 (by decide +kernel) (by decide +kernel)
theorem nl_C_115 : Cond.methodLinkNest R_C 115 y_Q_sum R_C ∈ NALL := mn 469 (by decide +kernel) (by decide +kernel)
theorem wi_Q_sum : Cond.instanceMethod y_Q_sum ∈ WALL := mw 471 (by decide +kernel) (by decide +kernel)
theorem wc_Q_sum : Cond.code y_Q_sum c_Q_sum 4 (some .long) ∈ WALL := mw 472 (by decide +kernel) (by decide +kernel)
theorem wm_L_123 : Cond.methodLink R_L 123 y_L_best ∈ WALL := mw 473 (by decide +kernel) (by decide +kernel)
theorem ws_L_best : Cond.static y_L_best ∈ WALL := mw 474 (by decide +kernel) (by decide +kernel)
theorem wc_L_best : Cond.codeWith y_L_best c_L_best 7 (some .int) [(0, 11, 14, 15)] ∈ WALL := mw 475 (by decide +kernel) (by decide +kernel)
theorem wm_L_50 : Cond.methodLink R_L 50 y_C_best ∈ WALL := mw 476 (by decide +kernel) (by decide +kernel)
theorem wi_C_best : Cond.instanceMethod y_C_best ∈ WALL := mw 477 (by decide +kernel) (by decide +kernel)
theorem wl_C_best : Cond.selects R_C y_C_best y_C_best ∈ WALL := mw 478 (by decide +kernel) (by decide +kernel)
theorem wc_C_best : Cond.code y_C_best c_C_best 16 (some .int) ∈ WALL := mw 479 (by decide +kernel) (by decide +kernel)
theorem nl_C_130 : Cond.methodLinkNest R_C 130 y_Q_makersBoughtOf R_C ∈ NALL := mn 480 (by decide +kernel) (by decide +kernel)
theorem wi_Q_makersBoughtOf : Cond.instanceMethod y_Q_makersBoughtOf ∈ WALL := mw 482 (by decide +kernel) (by decide +kernel)
theorem wc_Q_makersBoughtOf : Cond.code y_Q_makersBoughtOf c_Q_makersBoughtOf 3 (some .int) ∈ WALL := mw 483 (by decide +kernel) (by decide +kernel)
theorem wm_Q_41 : Cond.methodLink R_Q 41 y_JI_bitCount ∈ WALL := mw 484 (by decide +kernel) (by decide +kernel)
theorem ws_JI_bitCount : Cond.static y_JI_bitCount ∈ WALL := mw 485 (by decide +kernel) (by decide +kernel)
theorem wc_JI_bitCount : Cond.code y_JI_bitCount c_JI_bitCount 1 (some .int) ∈ WALL := mw 486 (by decide +kernel) (by decide +kernel)
theorem wv_JI_265 : Cond.constant R_JI 265 1431655765 ∈ WALL := mw 487 (by decide +kernel) (by decide +kernel)
theorem wv_JI_266 : Cond.constant R_JI 266 858993459 ∈ WALL := mw 488 (by decide +kernel) (by decide +kernel)
theorem wv_JI_267 : Cond.constant R_JI 267 252645135 ∈ WALL := mw 489 (by decide +kernel) (by decide +kernel)
theorem wm_L_126 : Cond.methodLink R_L 126 y_L_each ∈ WALL := mw 490 (by decide +kernel) (by decide +kernel)
theorem ws_L_each : Cond.static y_L_each ∈ WALL := mw 491 (by decide +kernel) (by decide +kernel)
theorem wc_L_each : Cond.codeWith y_L_each c_L_each 9 (some .int) [(0, 14, 17, 13), (0, 14, 21, 15)] ∈ WALL := mw 492 (by decide +kernel) (by decide +kernel)
theorem wm_L_54 : Cond.methodLink R_L 54 y_C_each ∈ WALL := mw 493 (by decide +kernel) (by decide +kernel)
theorem wi_C_each : Cond.instanceMethod y_C_each ∈ WALL := mw 494 (by decide +kernel) (by decide +kernel)
theorem wl_C_each : Cond.selects R_C y_C_each y_C_each ∈ WALL := mw 495 (by decide +kernel) (by decide +kernel)
theorem wc_C_each : Cond.code y_C_each c_C_each 7 (some .long) ∈ WALL := mw 496 (by decide +kernel) (by decide +kernel)
theorem wm_L_130 : Cond.methodLink R_L 130 y_L_suppliers ∈ WALL := mw 497 (by decide +kernel) (by decide +kernel)
theorem ws_L_suppliers : Cond.static y_L_suppliers ∈ WALL := mw 498 (by decide +kernel) (by decide +kernel)
theorem wc_L_suppliers : Cond.codeWith y_L_suppliers c_L_suppliers 6 (some .int) [(0, 11, 14, 13), (0, 11, 18, 15)] ∈ WALL := mw 499 (by decide +kernel) (by decide +kernel)
theorem wm_L_58 : Cond.methodLink R_L 58 y_C_suppliers ∈ WALL := mw 500 (by decide +kernel) (by decide +kernel)
theorem wi_C_suppliers : Cond.instanceMethod y_C_suppliers ∈ WALL := mw 501 (by decide +kernel) (by decide +kernel)
theorem wl_C_suppliers : Cond.selects R_C y_C_suppliers y_C_suppliers ∈ WALL := mw 502 (by decide +kernel) (by decide +kernel)
theorem wc_C_suppliers : Cond.code y_C_suppliers c_C_suppliers 4 (some .int) ∈ WALL := mw 503 (by decide +kernel) (by decide +kernel)
theorem wv_C_134 : Cond.constantLong R_C 134 9223372036854775807 ∈ WALL := mw 504 (by decide +kernel) (by decide +kernel)
theorem wm_L_134 : Cond.methodLink R_L 134 y_L_alternate ∈ WALL := mw 505 (by decide +kernel) (by decide +kernel)
theorem ws_L_alternate : Cond.static y_L_alternate ∈ WALL := mw 506 (by decide +kernel) (by decide +kernel)
theorem wc_L_alternate : Cond.codeWith y_L_alternate c_L_alternate 5 (some .int) [(0, 17, 20, 13)] ∈ WALL := mw 507 (by decide +kernel) (by decide +kernel)
theorem wm_L_62 : Cond.methodLink R_L 62 y_C_alternate ∈ WALL := mw 508 (by decide +kernel) (by decide +kernel)
theorem wi_C_alternate : Cond.instanceMethod y_C_alternate ∈ WALL := mw 509 (by decide +kernel) (by decide +kernel)
theorem wl_C_alternate : Cond.selects R_C y_C_alternate y_C_alternate ∈ WALL := mw 510 (by decide +kernel) (by decide +kernel)
theorem wc_C_alternate : Cond.code y_C_alternate c_C_alternate 3 (some .boolean) ∈ WALL := mw 511 (by decide +kernel) (by decide +kernel)
theorem wm_L_143 : Cond.methodLink R_L 143 y_L_row ∈ WALL := mw 512 (by decide +kernel) (by decide +kernel)
theorem ws_L_row : Cond.static y_L_row ∈ WALL := mw 513 (by decide +kernel) (by decide +kernel)
theorem wc_L_row : Cond.codeWith y_L_row c_L_row 5 (some .int) [(0, 10, 13, 13)] ∈ WALL := mw 514 (by decide +kernel) (by decide +kernel)
theorem wm_L_66 : Cond.methodLink R_L 66 y_C_row ∈ WALL := mw 515 (by decide +kernel) (by decide +kernel)
theorem wi_C_row : Cond.instanceMethod y_C_row ∈ WALL := mw 516 (by decide +kernel) (by decide +kernel)
theorem wl_C_row : Cond.selects R_C y_C_row y_C_row ∈ WALL := mw 517 (by decide +kernel) (by decide +kernel)
theorem wc_C_row : Cond.code y_C_row c_C_row 3 (some .int) ∈ WALL := mw 518 (by decide +kernel) (by decide +kernel)
theorem wk_L_71 : Cond.classLink R_L 71 R_M ∈ WALL := mw 519 (by decide +kernel) (by decide +kernel)
theorem wt_M : Cond.instantiable R_M 31 ∈ WALL := mw 520 (by decide +kernel) (by decide +kernel)
theorem wm_L_73 : Cond.methodLink R_L 73 y_M_init ∈ WALL := mw 521 (by decide +kernel) (by decide +kernel)
theorem wi_M_init : Cond.instanceMethod y_M_init ∈ WALL := mw 522 (by decide +kernel) (by decide +kernel)
theorem wc_M_init : Cond.code y_M_init c_M_init 1 none ∈ WALL := mw 523 (by decide +kernel) (by decide +kernel)
theorem wm_M_1 : Cond.methodLink R_M 1 objectInit ∈ WALL := mw 524 (by decide +kernel) (by decide +kernel)
theorem wf_M_80 : Cond.fieldLink R_M 80 (T_M 0).1 (T_M 0).2.1 (T_M 0).2.2.1 ∈ WALL := mw 525 (by decide +kernel) (by decide +kernel)
theorem wf_M_84 : Cond.fieldLink R_M 84 (T_M 1).1 (T_M 1).2.1 (T_M 1).2.2.1 ∈ WALL := mw 526 (by decide +kernel) (by decide +kernel)
theorem wf_M_7 : Cond.fieldLink R_M 7 (T_M 2).1 (T_M 2).2.1 (T_M 2).2.2.1 ∈ WALL := mw 527 (by decide +kernel) (by decide +kernel)
theorem wf_M_13 : Cond.fieldLink R_M 13 (T_M 3).1 (T_M 3).2.1 (T_M 3).2.2.1 ∈ WALL := mw 528 (by decide +kernel) (by decide +kernel)
theorem wf_M_17 : Cond.fieldLink R_M 17 (T_M 4).1 (T_M 4).2.1 (T_M 4).2.2.1 ∈ WALL := mw 529 (by decide +kernel) (by decide +kernel)
theorem wf_M_20 : Cond.fieldLink R_M 20 (T_M 5).1 (T_M 5).2.1 (T_M 5).2.2.1 ∈ WALL := mw 530 (by decide +kernel) (by decide +kernel)
theorem wf_M_23 : Cond.fieldLink R_M 23 (T_M 6).1 (T_M 6).2.1 (T_M 6).2.2.1 ∈ WALL := mw 531 (by decide +kernel) (by decide +kernel)
theorem wf_M_26 : Cond.fieldLink R_M 26 (T_M 7).1 (T_M 7).2.1 (T_M 7).2.2.1 ∈ WALL := mw 532 (by decide +kernel) (by decide +kernel)
theorem wf_M_29 : Cond.fieldLink R_M 29 (T_M 8).1 (T_M 8).2.1 (T_M 8).2.2.1 ∈ WALL := mw 533 (by decide +kernel) (by decide +kernel)
theorem wf_M_32 : Cond.fieldLink R_M 32 (T_M 9).1 (T_M 9).2.1 (T_M 9).2.2.1 ∈ WALL := mw 534 (by decide +kernel) (by decide +kernel)
theorem wf_M_113 : Cond.fieldLink R_M 113 (T_M 10).1 (T_M 10).2.1 (T_M 10).2.2.1 ∈ WALL := mw 535 (by decide +kernel) (by decide +kernel)
theorem wf_M_35 : Cond.fieldLink R_M 35 (T_M 11).1 (T_M 11).2.1 (T_M 11).2.2.1 ∈ WALL := mw 536 (by decide +kernel) (by decide +kernel)
theorem wf_M_38 : Cond.fieldLink R_M 38 (T_M 12).1 (T_M 12).2.1 (T_M 12).2.2.1 ∈ WALL := mw 537 (by decide +kernel) (by decide +kernel)
theorem wf_M_41 : Cond.fieldLink R_M 41 (T_M 13).1 (T_M 13).2.1 (T_M 13).2.2.1 ∈ WALL := mw 538 (by decide +kernel) (by decide +kernel)
theorem wf_M_44 : Cond.fieldLink R_M 44 (T_M 14).1 (T_M 14).2.1 (T_M 14).2.2.1 ∈ WALL := mw 539 (by decide +kernel) (by decide +kernel)
theorem wf_M_47 : Cond.fieldLink R_M 47 (T_M 15).1 (T_M 15).2.1 (T_M 15).2.2.1 ∈ WALL := mw 540 (by decide +kernel) (by decide +kernel)
theorem wf_M_50 : Cond.fieldLink R_M 50 (T_M 16).1 (T_M 16).2.1 (T_M 16).2.2.1 ∈ WALL := mw 541 (by decide +kernel) (by decide +kernel)
theorem wf_M_116 : Cond.fieldLink R_M 116 (T_M 17).1 (T_M 17).2.1 (T_M 17).2.2.1 ∈ WALL := mw 542 (by decide +kernel) (by decide +kernel)
theorem wf_M_132 : Cond.fieldLink R_M 132 (T_M 18).1 (T_M 18).2.1 (T_M 18).2.2.1 ∈ WALL := mw 543 (by decide +kernel) (by decide +kernel)
theorem wf_M_144 : Cond.fieldLink R_M 144 (T_M 19).1 (T_M 19).2.1 (T_M 19).2.2.1 ∈ WALL := mw 544 (by decide +kernel) (by decide +kernel)
theorem wf_M_53 : Cond.fieldLink R_M 53 (T_M 20).1 (T_M 20).2.1 (T_M 20).2.2.1 ∈ WALL := mw 545 (by decide +kernel) (by decide +kernel)
theorem wf_M_56 : Cond.fieldLink R_M 56 (T_M 21).1 (T_M 21).2.1 (T_M 21).2.2.1 ∈ WALL := mw 546 (by decide +kernel) (by decide +kernel)
theorem wf_M_59 : Cond.fieldLink R_M 59 (T_M 22).1 (T_M 22).2.1 (T_M 22).2.2.1 ∈ WALL := mw 547 (by decide +kernel) (by decide +kernel)
theorem wf_M_62 : Cond.fieldLink R_M 62 (T_M 23).1 (T_M 23).2.1 (T_M 23).2.2.1 ∈ WALL := mw 548 (by decide +kernel) (by decide +kernel)
theorem wf_M_161 : Cond.fieldLink R_M 161 (T_M 24).1 (T_M 24).2.1 (T_M 24).2.2.1 ∈ WALL := mw 549 (by decide +kernel) (by decide +kernel)
theorem wf_M_164 : Cond.fieldLink R_M 164 (T_M 25).1 (T_M 25).2.1 (T_M 25).2.2.1 ∈ WALL := mw 550 (by decide +kernel) (by decide +kernel)
theorem wf_M_65 : Cond.fieldLink R_M 65 (T_M 26).1 (T_M 26).2.1 (T_M 26).2.2.1 ∈ WALL := mw 551 (by decide +kernel) (by decide +kernel)
theorem wf_M_68 : Cond.fieldLink R_M 68 (T_M 27).1 (T_M 27).2.1 (T_M 27).2.2.1 ∈ WALL := mw 552 (by decide +kernel) (by decide +kernel)
theorem wf_M_71 : Cond.fieldLink R_M 71 (T_M 28).1 (T_M 28).2.1 (T_M 28).2.2.1 ∈ WALL := mw 553 (by decide +kernel) (by decide +kernel)
theorem wf_M_74 : Cond.fieldLink R_M 74 (T_M 29).1 (T_M 29).2.1 (T_M 29).2.2.1 ∈ WALL := mw 554 (by decide +kernel) (by decide +kernel)
theorem wf_M_77 : Cond.fieldLink R_M 77 (T_M 30).1 (T_M 30).2.1 (T_M 30).2.2.1 ∈ WALL := mw 555 (by decide +kernel) (by decide +kernel)
theorem wm_L_87 : Cond.methodLink R_L 87 y_M_thrown ∈ WALL := mw 619 (by decide +kernel) (by decide +kernel)
theorem wi_M_thrown : Cond.instanceMethod y_M_thrown ∈ WALL := mw 620 (by decide +kernel) (by decide +kernel)
theorem wl_M_thrown : Cond.selects R_M y_M_thrown y_M_thrown ∈ WALL := mw 621 (by decide +kernel) (by decide +kernel)
theorem wc_M_thrown : Cond.code y_M_thrown c_M_thrown 1 (some .int) ∈ WALL := mw 622 (by decide +kernel) (by decide +kernel)
theorem wm_L_78 : Cond.methodLink R_L 78 y_M_part ∈ WALL := mw 623 (by decide +kernel) (by decide +kernel)
theorem wi_M_part : Cond.instanceMethod y_M_part ∈ WALL := mw 624 (by decide +kernel) (by decide +kernel)
theorem wl_M_part : Cond.selects R_M y_M_part y_M_part ∈ WALL := mw 625 (by decide +kernel) (by decide +kernel)
theorem wc_M_part : Cond.code y_M_part c_M_part 1 (some .int) ∈ WALL := mw 626 (by decide +kernel) (by decide +kernel)
theorem wm_L_86 : Cond.methodLink R_L 86 y_M_price ∈ WALL := mw 627 (by decide +kernel) (by decide +kernel)
theorem wi_M_price : Cond.instanceMethod y_M_price ∈ WALL := mw 628 (by decide +kernel) (by decide +kernel)
theorem wl_M_price : Cond.selects R_M y_M_price y_M_price ∈ WALL := mw 629 (by decide +kernel) (by decide +kernel)
theorem wc_M_price : Cond.code y_M_price c_M_price 8 (some .boolean) ∈ WALL := mw 630 (by decide +kernel) (by decide +kernel)
theorem wv_M_87 : Cond.constantLong R_M 87 1000000000 ∈ WALL := mw 631 (by decide +kernel) (by decide +kernel)
theorem wm_M_89 : Cond.methodLink R_M 89 y_M_within ∈ WALL := mw 632 (by decide +kernel) (by decide +kernel)
theorem ws_M_within : Cond.static y_M_within ∈ WALL := mw 633 (by decide +kernel) (by decide +kernel)
theorem wc_M_within : Cond.code y_M_within c_M_within 6 (some .boolean) ∈ WALL := mw 634 (by decide +kernel) (by decide +kernel)
theorem wv_M_93 : Cond.constantLong R_M 93 100000 ∈ WALL := mw 635 (by decide +kernel) (by decide +kernel)
theorem wm_M_95 : Cond.methodLink R_M 95 y_M_isPart ∈ WALL := mw 636 (by decide +kernel) (by decide +kernel)
theorem wi_M_isPart : Cond.instanceMethod y_M_isPart ∈ WALL := mw 638 (by decide +kernel) (by decide +kernel)
theorem wc_M_isPart : Cond.code y_M_isPart c_M_isPart 2 (some .boolean) ∈ WALL := mw 639 (by decide +kernel) (by decide +kernel)
theorem wm_M_99 : Cond.methodLink R_M 99 y_M_isMaker ∈ WALL := mw 640 (by decide +kernel) (by decide +kernel)
theorem ws_M_isMaker : Cond.static y_M_isMaker ∈ WALL := mw 641 (by decide +kernel) (by decide +kernel)
theorem wc_M_isMaker : Cond.code y_M_isMaker c_M_isMaker 1 (some .boolean) ∈ WALL := mw 642 (by decide +kernel) (by decide +kernel)
theorem wm_M_102 : Cond.methodLink R_M 102 y_M_tellStep ∈ WALL := mw 643 (by decide +kernel) (by decide +kernel)
theorem wi_M_tellStep : Cond.instanceMethod y_M_tellStep ∈ WALL := mw 645 (by decide +kernel) (by decide +kernel)
theorem wc_M_tellStep : Cond.code y_M_tellStep c_M_tellStep 8 (some .boolean) ∈ WALL := mw 646 (by decide +kernel) (by decide +kernel)
theorem wm_L_97 : Cond.methodLink R_L 97 y_M_board ∈ WALL := mw 647 (by decide +kernel) (by decide +kernel)
theorem wi_M_board : Cond.instanceMethod y_M_board ∈ WALL := mw 648 (by decide +kernel) (by decide +kernel)
theorem wl_M_board : Cond.selects R_M y_M_board y_M_board ∈ WALL := mw 649 (by decide +kernel) (by decide +kernel)
theorem wc_M_board : Cond.code y_M_board c_M_board 7 (some .boolean) ∈ WALL := mw 650 (by decide +kernel) (by decide +kernel)
theorem wm_L_93 : Cond.methodLink R_L 93 y_M_uses ∈ WALL := mw 651 (by decide +kernel) (by decide +kernel)
theorem wi_M_uses : Cond.instanceMethod y_M_uses ∈ WALL := mw 652 (by decide +kernel) (by decide +kernel)
theorem wl_M_uses : Cond.selects R_M y_M_uses y_M_uses ∈ WALL := mw 653 (by decide +kernel) (by decide +kernel)
theorem wc_M_uses : Cond.code y_M_uses c_M_uses 4 (some .boolean) ∈ WALL := mw 654 (by decide +kernel) (by decide +kernel)
theorem wv_M_106 : Cond.constantLong R_M 106 1000 ∈ WALL := mw 655 (by decide +kernel) (by decide +kernel)
theorem wm_L_118 : Cond.methodLink R_L 118 y_M_stock ∈ WALL := mw 656 (by decide +kernel) (by decide +kernel)
theorem wi_M_stock : Cond.instanceMethod y_M_stock ∈ WALL := mw 657 (by decide +kernel) (by decide +kernel)
theorem wl_M_stock : Cond.selects R_M y_M_stock y_M_stock ∈ WALL := mw 658 (by decide +kernel) (by decide +kernel)
theorem wc_M_stock : Cond.code y_M_stock c_M_stock 4 (some .boolean) ∈ WALL := mw 659 (by decide +kernel) (by decide +kernel)
theorem wm_L_137 : Cond.methodLink R_L 137 y_M_alternate ∈ WALL := mw 660 (by decide +kernel) (by decide +kernel)
theorem wi_M_alternate : Cond.instanceMethod y_M_alternate ∈ WALL := mw 661 (by decide +kernel) (by decide +kernel)
theorem wl_M_alternate : Cond.selects R_M y_M_alternate y_M_alternate ∈ WALL := mw 662 (by decide +kernel) (by decide +kernel)
theorem wc_M_alternate : Cond.code y_M_alternate c_M_alternate 3 (some .boolean) ∈ WALL := mw 663 (by decide +kernel) (by decide +kernel)
theorem wm_L_100 : Cond.methodLink R_L 100 y_M_assembly ∈ WALL := mw 664 (by decide +kernel) (by decide +kernel)
theorem wi_M_assembly : Cond.instanceMethod y_M_assembly ∈ WALL := mw 665 (by decide +kernel) (by decide +kernel)
theorem wl_M_assembly : Cond.selects R_M y_M_assembly y_M_assembly ∈ WALL := mw 666 (by decide +kernel) (by decide +kernel)
theorem wc_M_assembly : Cond.code y_M_assembly c_M_assembly 4 (some .boolean) ∈ WALL := mw 667 (by decide +kernel) (by decide +kernel)
theorem wm_M_108 : Cond.methodLink R_M 108 y_M_isSort ∈ WALL := mw 668 (by decide +kernel) (by decide +kernel)
theorem ws_M_isSort : Cond.static y_M_isSort ∈ WALL := mw 669 (by decide +kernel) (by decide +kernel)
theorem wc_M_isSort : Cond.code y_M_isSort c_M_isSort 1 (some .boolean) ∈ WALL := mw 670 (by decide +kernel) (by decide +kernel)
theorem wv_M_111 : Cond.constantLong R_M 111 1000000 ∈ WALL := mw 671 (by decide +kernel) (by decide +kernel)
theorem wm_L_103 : Cond.methodLink R_L 103 y_M_placed ∈ WALL := mw 672 (by decide +kernel) (by decide +kernel)
theorem wi_M_placed : Cond.instanceMethod y_M_placed ∈ WALL := mw 673 (by decide +kernel) (by decide +kernel)
theorem wl_M_placed : Cond.selects R_M y_M_placed y_M_placed ∈ WALL := mw 674 (by decide +kernel) (by decide +kernel)
theorem wc_M_placed : Cond.code y_M_placed c_M_placed 4 (some .boolean) ∈ WALL := mw 675 (by decide +kernel) (by decide +kernel)
theorem wm_L_107 : Cond.methodLink R_L 107 y_M_yieldOf ∈ WALL := mw 676 (by decide +kernel) (by decide +kernel)
theorem wi_M_yieldOf : Cond.instanceMethod y_M_yieldOf ∈ WALL := mw 677 (by decide +kernel) (by decide +kernel)
theorem wl_M_yieldOf : Cond.selects R_M y_M_yieldOf y_M_yieldOf ∈ WALL := mw 678 (by decide +kernel) (by decide +kernel)
theorem wc_M_yieldOf : Cond.code y_M_yieldOf c_M_yieldOf 5 (some .boolean) ∈ WALL := mw 679 (by decide +kernel) (by decide +kernel)
theorem wm_L_111 : Cond.methodLink R_L 111 y_M_currency ∈ WALL := mw 680 (by decide +kernel) (by decide +kernel)
theorem wi_M_currency : Cond.instanceMethod y_M_currency ∈ WALL := mw 681 (by decide +kernel) (by decide +kernel)
theorem wl_M_currency : Cond.selects R_M y_M_currency y_M_currency ∈ WALL := mw 682 (by decide +kernel) (by decide +kernel)
theorem wc_M_currency : Cond.code y_M_currency c_M_currency 11 (some .boolean) ∈ WALL := mw 683 (by decide +kernel) (by decide +kernel)
theorem wm_L_115 : Cond.methodLink R_L 115 y_M_tooling ∈ WALL := mw 684 (by decide +kernel) (by decide +kernel)
theorem wi_M_tooling : Cond.instanceMethod y_M_tooling ∈ WALL := mw 685 (by decide +kernel) (by decide +kernel)
theorem wl_M_tooling : Cond.selects R_M y_M_tooling y_M_tooling ∈ WALL := mw 686 (by decide +kernel) (by decide +kernel)
theorem wc_M_tooling : Cond.code y_M_tooling c_M_tooling 3 (some .boolean) ∈ WALL := mw 687 (by decide +kernel) (by decide +kernel)
theorem wm_L_122 : Cond.methodLink R_L 122 y_M_total ∈ WALL := mw 688 (by decide +kernel) (by decide +kernel)
theorem wi_M_total : Cond.instanceMethod y_M_total ∈ WALL := mw 689 (by decide +kernel) (by decide +kernel)
theorem wl_M_total : Cond.selects R_M y_M_total y_M_total ∈ WALL := mw 690 (by decide +kernel) (by decide +kernel)
theorem wc_M_total : Cond.code y_M_total c_M_total 7 (some .long) ∈ WALL := mw 691 (by decide +kernel) (by decide +kernel)
theorem wm_M_151 : Cond.methodLink R_M 151 y_M_refusal ∈ WALL := mw 692 (by decide +kernel) (by decide +kernel)
theorem wi_M_refusal : Cond.instanceMethod y_M_refusal ∈ WALL := mw 694 (by decide +kernel) (by decide +kernel)
theorem wc_M_refusal : Cond.code y_M_refusal c_M_refusal 4 (some .int) ∈ WALL := mw 695 (by decide +kernel) (by decide +kernel)
theorem wm_M_147 : Cond.methodLink R_M 147 y_M_isQuantity ∈ WALL := mw 696 (by decide +kernel) (by decide +kernel)
theorem ws_M_isQuantity : Cond.static y_M_isQuantity ∈ WALL := mw 697 (by decide +kernel) (by decide +kernel)
theorem wc_M_isQuantity : Cond.code y_M_isQuantity c_M_isQuantity 2 (some .boolean) ∈ WALL := mw 698 (by decide +kernel) (by decide +kernel)
theorem wm_M_155 : Cond.methodLink R_M 155 y_M_reckon ∈ WALL := mw 699 (by decide +kernel) (by decide +kernel)
theorem wi_M_reckon : Cond.instanceMethod y_M_reckon ∈ WALL := mw 701 (by decide +kernel) (by decide +kernel)
theorem wc_M_reckon : Cond.code y_M_reckon c_M_reckon 9 none ∈ WALL := mw 702 (by decide +kernel) (by decide +kernel)
theorem wm_M_128 : Cond.methodLink R_M 128 y_M_started ∈ WALL := mw 703 (by decide +kernel) (by decide +kernel)
theorem wi_M_started : Cond.instanceMethod y_M_started ∈ WALL := mw 705 (by decide +kernel) (by decide +kernel)
theorem wc_M_started : Cond.code y_M_started c_M_started 6 (some .long) ∈ WALL := mw 706 (by decide +kernel) (by decide +kernel)
theorem wm_M_124 : Cond.methodLink R_M 124 y_M_up ∈ WALL := mw 707 (by decide +kernel) (by decide +kernel)
theorem ws_M_up : Cond.static y_M_up ∈ WALL := mw 708 (by decide +kernel) (by decide +kernel)
theorem wc_M_up : Cond.code y_M_up c_M_up 4 (some .long) ∈ WALL := mw 709 (by decide +kernel) (by decide +kernel)
theorem wm_M_136 : Cond.methodLink R_M 136 y_M_offer ∈ WALL := mw 710 (by decide +kernel) (by decide +kernel)
theorem wi_M_offer : Cond.instanceMethod y_M_offer ∈ WALL := mw 712 (by decide +kernel) (by decide +kernel)
theorem wc_M_offer : Cond.code y_M_offer c_M_offer 16 none ∈ WALL := mw 713 (by decide +kernel) (by decide +kernel)
theorem wm_M_120 : Cond.methodLink R_M 120 y_M_rateOf ∈ WALL := mw 714 (by decide +kernel) (by decide +kernel)
theorem wi_M_rateOf : Cond.instanceMethod y_M_rateOf ∈ WALL := mw 716 (by decide +kernel) (by decide +kernel)
theorem wc_M_rateOf : Cond.code y_M_rateOf c_M_rateOf 6 (some .int) ∈ WALL := mw 717 (by decide +kernel) (by decide +kernel)
theorem wm_M_140 : Cond.methodLink R_M 140 y_M_buyPart ∈ WALL := mw 718 (by decide +kernel) (by decide +kernel)
theorem wi_M_buyPart : Cond.instanceMethod y_M_buyPart ∈ WALL := mw 720 (by decide +kernel) (by decide +kernel)
theorem wc_M_buyPart : Cond.code y_M_buyPart c_M_buyPart 10 none ∈ WALL := mw 721 (by decide +kernel) (by decide +kernel)
theorem wv_M_159 : Cond.constantLong R_M 159 (-1) ∈ WALL := mw 722 (by decide +kernel) (by decide +kernel)
theorem wm_L_125 : Cond.methodLink R_L 125 y_M_best ∈ WALL := mw 723 (by decide +kernel) (by decide +kernel)
theorem wi_M_best : Cond.instanceMethod y_M_best ∈ WALL := mw 724 (by decide +kernel) (by decide +kernel)
theorem wl_M_best : Cond.selects R_M y_M_best y_M_best ∈ WALL := mw 725 (by decide +kernel) (by decide +kernel)
theorem wc_M_best : Cond.code y_M_best c_M_best 11 (some .int) ∈ WALL := mw 726 (by decide +kernel) (by decide +kernel)
theorem wm_M_167 : Cond.methodLink R_M 167 y_M_makersNow ∈ WALL := mw 727 (by decide +kernel) (by decide +kernel)
theorem wi_M_makersNow : Cond.instanceMethod y_M_makersNow ∈ WALL := mw 729 (by decide +kernel) (by decide +kernel)
theorem wc_M_makersNow : Cond.code y_M_makersNow c_M_makersNow 3 (some .int) ∈ WALL := mw 730 (by decide +kernel) (by decide +kernel)
theorem wm_L_129 : Cond.methodLink R_L 129 y_M_each ∈ WALL := mw 731 (by decide +kernel) (by decide +kernel)
theorem wi_M_each : Cond.instanceMethod y_M_each ∈ WALL := mw 732 (by decide +kernel) (by decide +kernel)
theorem wl_M_each : Cond.selects R_M y_M_each y_M_each ∈ WALL := mw 733 (by decide +kernel) (by decide +kernel)
theorem wc_M_each : Cond.code y_M_each c_M_each 8 (some .long) ∈ WALL := mw 734 (by decide +kernel) (by decide +kernel)
theorem wm_L_133 : Cond.methodLink R_L 133 y_M_suppliers ∈ WALL := mw 735 (by decide +kernel) (by decide +kernel)
theorem wi_M_suppliers : Cond.instanceMethod y_M_suppliers ∈ WALL := mw 736 (by decide +kernel) (by decide +kernel)
theorem wl_M_suppliers : Cond.selects R_M y_M_suppliers y_M_suppliers ∈ WALL := mw 737 (by decide +kernel) (by decide +kernel)
theorem wc_M_suppliers : Cond.code y_M_suppliers c_M_suppliers 4 (some .int) ∈ WALL := mw 738 (by decide +kernel) (by decide +kernel)
theorem wv_M_171 : Cond.constantLong R_M 171 9223372036854775807 ∈ WALL := mw 739 (by decide +kernel) (by decide +kernel)
theorem wm_L_142 : Cond.methodLink R_L 142 y_M_changed ∈ WALL := mw 740 (by decide +kernel) (by decide +kernel)
theorem wi_M_changed : Cond.instanceMethod y_M_changed ∈ WALL := mw 741 (by decide +kernel) (by decide +kernel)
theorem wl_M_changed : Cond.selects R_M y_M_changed y_M_changed ∈ WALL := mw 742 (by decide +kernel) (by decide +kernel)
theorem wc_M_changed : Cond.code y_M_changed c_M_changed 4 (some .int) ∈ WALL := mw 743 (by decide +kernel) (by decide +kernel)
theorem wm_L_145 : Cond.methodLink R_L 145 y_M_row ∈ WALL := mw 744 (by decide +kernel) (by decide +kernel)
theorem wi_M_row : Cond.instanceMethod y_M_row ∈ WALL := mw 745 (by decide +kernel) (by decide +kernel)
theorem wl_M_row : Cond.selects R_M y_M_row y_M_row ∈ WALL := mw 746 (by decide +kernel) (by decide +kernel)
theorem wc_M_row : Cond.code y_M_row c_M_row 3 (some .int) ∈ WALL := mw 747 (by decide +kernel) (by decide +kernel)
theorem wv_L_79 : Cond.constantLong R_L 79 4294967295 ∈ WALL := mw 748 (by decide +kernel) (by decide +kernel)
theorem wl_St_tell : Cond.selects R_St y_St_tell y_St_tell ∈ WALL := mws 1 (by decide +kernel) (by decide +kernel)
theorem wl_K_slotFor : Cond.selects R_K y_K_slotFor y_K_slotFor ∈ WALL := mws 2 (by decide +kernel) (by decide +kernel)
theorem wl_K_endSlot : Cond.selects R_K y_K_endSlot y_K_endSlot ∈ WALL := mws 3 (by decide +kernel) (by decide +kernel)
theorem wl_K_firstSlot : Cond.selects R_K y_K_firstSlot y_K_firstSlot ∈ WALL := mws 4 (by decide +kernel) (by decide +kernel)
theorem wl_Y_add : Cond.selects R_Y y_Y_add y_Y_add ∈ WALL := mws 5 (by decide +kernel) (by decide +kernel)
theorem wl_Ra_tell : Cond.selects R_Ra y_Ra_tell y_Ra_tell ∈ WALL := mws 6 (by decide +kernel) (by decide +kernel)
theorem wl_C_draw : Cond.selects R_C y_C_draw y_C_draw ∈ WALL := mws 7 (by decide +kernel) (by decide +kernel)
theorem wl_Y_startedFor : Cond.selects R_Y y_Y_startedFor y_Y_startedFor ∈ WALL := mws 8 (by decide +kernel) (by decide +kernel)
theorem wl_C_drawAllButBoards : Cond.selects R_C y_C_drawAllButBoards y_C_drawAllButBoards ∈ WALL := mws 9 (by decide +kernel) (by decide +kernel)
theorem wl_Q_begin : Cond.selects R_Q y_Q_begin y_Q_begin ∈ WALL := mws 10 (by decide +kernel) (by decide +kernel)
theorem wl_Q_clearRow : Cond.selects R_Q y_Q_clearRow y_Q_clearRow ∈ WALL := mws 11 (by decide +kernel) (by decide +kernel)
theorem wl_Ra_turnTo : Cond.selects R_Ra y_Ra_turnTo y_Ra_turnTo ∈ WALL := mws 12 (by decide +kernel) (by decide +kernel)
theorem wl_Ra_latestSlot : Cond.selects R_Ra y_Ra_latestSlot y_Ra_latestSlot ∈ WALL := mws 13 (by decide +kernel) (by decide +kernel)
theorem wl_C_assemblyCost : Cond.selects R_C y_C_assemblyCost y_C_assemblyCost ∈ WALL := mws 14 (by decide +kernel) (by decide +kernel)
theorem wl_C_drawPart : Cond.selects R_C y_C_drawPart y_C_drawPart ∈ WALL := mws 15 (by decide +kernel) (by decide +kernel)
theorem wl_C_mayStandIn : Cond.selects R_C y_C_mayStandIn y_C_mayStandIn ∈ WALL := mws 16 (by decide +kernel) (by decide +kernel)
theorem wl_C_offerSteps : Cond.selects R_C y_C_offerSteps y_C_offerSteps ∈ WALL := mws 17 (by decide +kernel) (by decide +kernel)
theorem wl_St_endSlot : Cond.selects R_St y_St_endSlot y_St_endSlot ∈ WALL := mws 18 (by decide +kernel) (by decide +kernel)
theorem wl_St_firstSlot : Cond.selects R_St y_St_firstSlot y_St_firstSlot ∈ WALL := mws 19 (by decide +kernel) (by decide +kernel)
theorem wl_St_fromAt : Cond.selects R_St y_St_fromAt y_St_fromAt ∈ WALL := mws 20 (by decide +kernel) (by decide +kernel)
theorem wl_Ra_exchange : Cond.selects R_Ra y_Ra_exchange y_Ra_exchange ∈ WALL := mws 21 (by decide +kernel) (by decide +kernel)
theorem wl_Q_consider : Cond.selects R_Q y_Q_consider y_Q_consider ∈ WALL := mws 22 (by decide +kernel) (by decide +kernel)
theorem wl_Q_isBought : Cond.selects R_Q y_Q_isBought y_Q_isBought ∈ WALL := mws 23 (by decide +kernel) (by decide +kernel)
theorem wl_Q_isBetter : Cond.selects R_Q y_Q_isBetter y_Q_isBetter ∈ WALL := mws 24 (by decide +kernel) (by decide +kernel)
theorem wl_C_drawBoards : Cond.selects R_C y_C_drawBoards y_C_drawBoards ∈ WALL := mws 25 (by decide +kernel) (by decide +kernel)
theorem wl_C_keepDraft : Cond.selects R_C y_C_keepDraft y_C_keepDraft ∈ WALL := mws 26 (by decide +kernel) (by decide +kernel)
theorem wl_Q_sum : Cond.selects R_Q y_Q_sum y_Q_sum ∈ WALL := mws 27 (by decide +kernel) (by decide +kernel)
theorem wl_Q_makersBoughtOf : Cond.selects R_Q y_Q_makersBoughtOf y_Q_makersBoughtOf ∈ WALL := mws 28 (by decide +kernel) (by decide +kernel)
theorem wl_M_isPart : Cond.selects R_M y_M_isPart y_M_isPart ∈ WALL := mws 29 (by decide +kernel) (by decide +kernel)
theorem wl_M_tellStep : Cond.selects R_M y_M_tellStep y_M_tellStep ∈ WALL := mws 30 (by decide +kernel) (by decide +kernel)
theorem wl_M_refusal : Cond.selects R_M y_M_refusal y_M_refusal ∈ WALL := mws 31 (by decide +kernel) (by decide +kernel)
theorem wl_M_reckon : Cond.selects R_M y_M_reckon y_M_reckon ∈ WALL := mws 32 (by decide +kernel) (by decide +kernel)
theorem wl_M_started : Cond.selects R_M y_M_started y_M_started ∈ WALL := mws 33 (by decide +kernel) (by decide +kernel)
theorem wl_M_offer : Cond.selects R_M y_M_offer y_M_offer ∈ WALL := mws 34 (by decide +kernel) (by decide +kernel)
theorem wl_M_rateOf : Cond.selects R_M y_M_rateOf y_M_rateOf ∈ WALL := mws 35 (by decide +kernel) (by decide +kernel)
theorem wl_M_buyPart : Cond.selects R_M y_M_buyPart y_M_buyPart ∈ WALL := mws 36 (by decide +kernel) (by decide +kernel)
theorem wl_M_makersNow : Cond.selects R_M y_M_makersNow y_M_makersNow ∈ WALL := mws 37 (by decide +kernel) (by decide +kernel)
theorem in_K : ∀ w ∈ u_ws R_K T_K 2, w ∈ WALL := by decide +kernel
theorem in_Q : ∀ w ∈ u_ws R_Q T_Q 5, w ∈ WALL := by decide +kernel
theorem in_Ra : ∀ w ∈ u_ws R_Ra T_Ra 5, w ∈ WALL := by decide +kernel
theorem in_St : ∀ w ∈ u_ws R_St T_St 2, w ∈ WALL := by decide +kernel
theorem in_Y : ∀ w ∈ u_ws R_Y T_Y 3, w ∈ WALL := by decide +kernel
theorem in_C : ∀ w ∈ u_ws R_C T_C 13, w ∈ WALL := by decide +kernel
theorem in_M : ∀ w ∈ u_ws R_M T_M 31, w ∈ WALL := by decide +kernel
end
