section
-- ===== PART A: goes FIRST, ahead of the names: the tables' words, and 'selects' of the private methods out of them =====
/-- a private method of a class that the tables say can be made, by its rows of tables_1 -/
def lw_okq (q : MethodName × Nat) : Prop := (q.1.cls ≠ "java/lang/invoke/MethodHandle" ∧ q.1.cls ≠ "java/lang/invoke/VarHandle") ∧ Cond.instantiable q.1.cls q.2 ∈ tables_1 ∧ Cond.privateMethod q.1 ∈ tables_1 ∧ Cond.instanceMethod q.1 ∈ tables_1
theorem lw_p0 : lw_okq (⟨"NosePost", "faulted", "(I)I"⟩, 13) := ⟨⟨by decide +kernel, by decide +kernel⟩, List.mem_of_getElem? (i := 11) (by decide +kernel), List.mem_of_getElem? (i := 166) (by decide +kernel), List.mem_of_getElem? (i := 167) (by decide +kernel)⟩
theorem lw_p1 : lw_okq (⟨"NosePost", "isPerson", "(I)Z"⟩, 13) := ⟨⟨by decide +kernel, by decide +kernel⟩, List.mem_of_getElem? (i := 11) (by decide +kernel), List.mem_of_getElem? (i := 190) (by decide +kernel), List.mem_of_getElem? (i := 191) (by decide +kernel)⟩
theorem lw_p2 : lw_okq (⟨"NosePost", "hasNoMoor", "()Z"⟩, 13) := ⟨⟨by decide +kernel, by decide +kernel⟩, List.mem_of_getElem? (i := 11) (by decide +kernel), List.mem_of_getElem? (i := 224) (by decide +kernel), List.mem_of_getElem? (i := 225) (by decide +kernel)⟩
theorem lw_p3 : lw_okq (⟨"NosePost", "becomes", "([IIII)I"⟩, 13) := ⟨⟨by decide +kernel, by decide +kernel⟩, List.mem_of_getElem? (i := 11) (by decide +kernel), List.mem_of_getElem? (i := 236) (by decide +kernel), List.mem_of_getElem? (i := 237) (by decide +kernel)⟩
theorem lw_p4 : lw_okq (⟨"NosePost", "refusalOfPairs", "([III)I"⟩, 13) := ⟨⟨by decide +kernel, by decide +kernel⟩, List.mem_of_getElem? (i := 11) (by decide +kernel), List.mem_of_getElem? (i := 275) (by decide +kernel), List.mem_of_getElem? (i := 276) (by decide +kernel)⟩
theorem lw_p5 : lw_okq (⟨"NosePost", "play", "([III)V"⟩, 13) := ⟨⟨by decide +kernel, by decide +kernel⟩, List.mem_of_getElem? (i := 11) (by decide +kernel), List.mem_of_getElem? (i := 279) (by decide +kernel), List.mem_of_getElem? (i := 280) (by decide +kernel)⟩
theorem lw_p6 : lw_okq (⟨"NosePost", "ofRound", "(I)I"⟩, 13) := ⟨⟨by decide +kernel, by decide +kernel⟩, List.mem_of_getElem? (i := 11) (by decide +kernel), List.mem_of_getElem? (i := 299) (by decide +kernel), List.mem_of_getElem? (i := 300) (by decide +kernel)⟩
theorem lw_p7 : lw_okq (⟨"NosePost", "findBestOrder", "()I"⟩, 13) := ⟨⟨by decide +kernel, by decide +kernel⟩, List.mem_of_getElem? (i := 11) (by decide +kernel), List.mem_of_getElem? (i := 316) (by decide +kernel), List.mem_of_getElem? (i := 317) (by decide +kernel)⟩
theorem lw_p8 : lw_okq (⟨"NosePost", "comingInTriedOrder", "()I"⟩, 13) := ⟨⟨by decide +kernel, by decide +kernel⟩, List.mem_of_getElem? (i := 11) (by decide +kernel), List.mem_of_getElem? (i := 320) (by decide +kernel), List.mem_of_getElem? (i := 321) (by decide +kernel)⟩
theorem lw_p9 : lw_okq (⟨"NosePost", "bySuchReadings", "([III)I"⟩, 13) := ⟨⟨by decide +kernel, by decide +kernel⟩, List.mem_of_getElem? (i := 11) (by decide +kernel), List.mem_of_getElem? (i := 351) (by decide +kernel), List.mem_of_getElem? (i := 352) (by decide +kernel)⟩
theorem lw_p10 : lw_okq (⟨"NosePost", "readingsHoldInDraft", "()Z"⟩, 13) := ⟨⟨by decide +kernel, by decide +kernel⟩, List.mem_of_getElem? (i := 11) (by decide +kernel), List.mem_of_getElem? (i := 355) (by decide +kernel), List.mem_of_getElem? (i := 356) (by decide +kernel)⟩
theorem lw_p11 : lw_okq (⟨"NosePost", "smellsByWhichItComes", "(I)I"⟩, 13) := ⟨⟨by decide +kernel, by decide +kernel⟩, List.mem_of_getElem? (i := 11) (by decide +kernel), List.mem_of_getElem? (i := 372) (by decide +kernel), List.mem_of_getElem? (i := 373) (by decide +kernel)⟩
theorem lw_p12 : lw_okq (⟨"NosePost", "toldByReeking", "(I)I"⟩, 13) := ⟨⟨by decide +kernel, by decide +kernel⟩, List.mem_of_getElem? (i := 11) (by decide +kernel), List.mem_of_getElem? (i := 412) (by decide +kernel), List.mem_of_getElem? (i := 413) (by decide +kernel)⟩
theorem lw_p13 : lw_okq (⟨"NosePost", "begins", "(I)V"⟩, 13) := ⟨⟨by decide +kernel, by decide +kernel⟩, List.mem_of_getElem? (i := 11) (by decide +kernel), List.mem_of_getElem? (i := 416) (by decide +kernel), List.mem_of_getElem? (i := 417) (by decide +kernel)⟩
theorem lw_p14 : lw_okq (⟨"NosePost", "toldByRank", "(I)I"⟩, 13) := ⟨⟨by decide +kernel, by decide +kernel⟩, List.mem_of_getElem? (i := 11) (by decide +kernel), List.mem_of_getElem? (i := 420) (by decide +kernel), List.mem_of_getElem? (i := 421) (by decide +kernel)⟩
theorem lw_p15 : lw_okq (⟨"NosePost", "toldByPlain", "(I)I"⟩, 13) := ⟨⟨by decide +kernel, by decide +kernel⟩, List.mem_of_getElem? (i := 11) (by decide +kernel), List.mem_of_getElem? (i := 424) (by decide +kernel), List.mem_of_getElem? (i := 425) (by decide +kernel)⟩
def lw_privs_1 : List (MethodName × Nat) := [(⟨"NosePost", "faulted", "(I)I"⟩, 13), (⟨"NosePost", "isPerson", "(I)Z"⟩, 13), (⟨"NosePost", "hasNoMoor", "()Z"⟩, 13), (⟨"NosePost", "becomes", "([IIII)I"⟩, 13), (⟨"NosePost", "refusalOfPairs", "([III)I"⟩, 13), (⟨"NosePost", "play", "([III)V"⟩, 13), (⟨"NosePost", "ofRound", "(I)I"⟩, 13), (⟨"NosePost", "findBestOrder", "()I"⟩, 13), (⟨"NosePost", "comingInTriedOrder", "()I"⟩, 13), (⟨"NosePost", "bySuchReadings", "([III)I"⟩, 13), (⟨"NosePost", "readingsHoldInDraft", "()Z"⟩, 13), (⟨"NosePost", "smellsByWhichItComes", "(I)I"⟩, 13), (⟨"NosePost", "toldByReeking", "(I)I"⟩, 13), (⟨"NosePost", "begins", "(I)V"⟩, 13), (⟨"NosePost", "toldByRank", "(I)I"⟩, 13), (⟨"NosePost", "toldByPlain", "(I)I"⟩, 13)]
theorem lw_r1 : ∀ q ∈ lw_privs_1, lw_okq q := List.forall_mem_cons.mpr ⟨lw_p0, List.forall_mem_cons.mpr ⟨lw_p1, List.forall_mem_cons.mpr ⟨lw_p2, List.forall_mem_cons.mpr ⟨lw_p3, List.forall_mem_cons.mpr ⟨lw_p4, List.forall_mem_cons.mpr ⟨lw_p5, List.forall_mem_cons.mpr ⟨lw_p6, List.forall_mem_cons.mpr ⟨lw_p7, List.forall_mem_cons.mpr ⟨lw_p8, List.forall_mem_cons.mpr ⟨lw_p9, List.forall_mem_cons.mpr ⟨lw_p10, List.forall_mem_cons.mpr ⟨lw_p11, List.forall_mem_cons.mpr ⟨lw_p12, List.forall_mem_cons.mpr ⟨lw_p13, List.forall_mem_cons.mpr ⟨lw_p14, List.forall_mem_cons.mpr ⟨lw_p15, fun _ h => absurd h List.not_mem_nil⟩⟩⟩⟩⟩⟩⟩⟩⟩⟩⟩⟩⟩⟩⟩⟩
theorem lw_p16 : lw_okq (⟨"NosePostModel", "refused", "(I)I"⟩, 31) := ⟨⟨by decide +kernel, by decide +kernel⟩, List.mem_of_getElem? (i := 448) (by decide +kernel), List.mem_of_getElem? (i := 559) (by decide +kernel), List.mem_of_getElem? (i := 560) (by decide +kernel)⟩
theorem lw_p17 : lw_okq (⟨"NosePostModel", "cellsBarred", "(IIIJ)I"⟩, 31) := ⟨⟨by decide +kernel, by decide +kernel⟩, List.mem_of_getElem? (i := 448) (by decide +kernel), List.mem_of_getElem? (i := 564) (by decide +kernel), List.mem_of_getElem? (i := 565) (by decide +kernel)⟩
theorem lw_p18 : lw_okq (⟨"NosePostModel", "failed", "(I)I"⟩, 31) := ⟨⟨by decide +kernel, by decide +kernel⟩, List.mem_of_getElem? (i := 448) (by decide +kernel), List.mem_of_getElem? (i := 568) (by decide +kernel), List.mem_of_getElem? (i := 569) (by decide +kernel)⟩
theorem lw_p19 : lw_okq (⟨"NosePostModel", "readsMoor", "(II)Z"⟩, 31) := ⟨⟨by decide +kernel, by decide +kernel⟩, List.mem_of_getElem? (i := 448) (by decide +kernel), List.mem_of_getElem? (i := 575) (by decide +kernel), List.mem_of_getElem? (i := 576) (by decide +kernel)⟩
theorem lw_p20 : lw_okq (⟨"NosePostModel", "codeAt", "(II)I"⟩, 31) := ⟨⟨by decide +kernel, by decide +kernel⟩, List.mem_of_getElem? (i := 448) (by decide +kernel), List.mem_of_getElem? (i := 579) (by decide +kernel), List.mem_of_getElem? (i := 580) (by decide +kernel)⟩
theorem lw_p21 : lw_okq (⟨"NosePostModel", "figure", "(IIII)I"⟩, 31) := ⟨⟨by decide +kernel, by decide +kernel⟩, List.mem_of_getElem? (i := 448) (by decide +kernel), List.mem_of_getElem? (i := 583) (by decide +kernel), List.mem_of_getElem? (i := 584) (by decide +kernel)⟩
theorem lw_p22 : lw_okq (⟨"NosePostModel", "readsPerson", "(II)Z"⟩, 31) := ⟨⟨by decide +kernel, by decide +kernel⟩, List.mem_of_getElem? (i := 448) (by decide +kernel), List.mem_of_getElem? (i := 587) (by decide +kernel), List.mem_of_getElem? (i := 588) (by decide +kernel)⟩
theorem lw_p23 : lw_okq (⟨"NosePostModel", "noPerson", "(I)Z"⟩, 31) := ⟨⟨by decide +kernel, by decide +kernel⟩, List.mem_of_getElem? (i := 448) (by decide +kernel), List.mem_of_getElem? (i := 595) (by decide +kernel), List.mem_of_getElem? (i := 596) (by decide +kernel)⟩
theorem lw_p24 : lw_okq (⟨"NosePostModel", "scentOf", "(I)I"⟩, 31) := ⟨⟨by decide +kernel, by decide +kernel⟩, List.mem_of_getElem? (i := 448) (by decide +kernel), List.mem_of_getElem? (i := 599) (by decide +kernel), List.mem_of_getElem? (i := 600) (by decide +kernel)⟩
theorem lw_p25 : lw_okq (⟨"NosePostModel", "isSmelt", "(I)Z"⟩, 31) := ⟨⟨by decide +kernel, by decide +kernel⟩, List.mem_of_getElem? (i := 448) (by decide +kernel), List.mem_of_getElem? (i := 606) (by decide +kernel), List.mem_of_getElem? (i := 607) (by decide +kernel)⟩
theorem lw_p26 : lw_okq (⟨"NosePostModel", "wayTo", "(I)I"⟩, 31) := ⟨⟨by decide +kernel, by decide +kernel⟩, List.mem_of_getElem? (i := 448) (by decide +kernel), List.mem_of_getElem? (i := 610) (by decide +kernel), List.mem_of_getElem? (i := 611) (by decide +kernel)⟩
theorem lw_p27 : lw_okq (⟨"NosePostModel", "goesTo", "(I)I"⟩, 31) := ⟨⟨by decide +kernel, by decide +kernel⟩, List.mem_of_getElem? (i := 448) (by decide +kernel), List.mem_of_getElem? (i := 617) (by decide +kernel), List.mem_of_getElem? (i := 618) (by decide +kernel)⟩
theorem lw_p28 : lw_okq (⟨"NosePostModel", "sent", "(I)I"⟩, 31) := ⟨⟨by decide +kernel, by decide +kernel⟩, List.mem_of_getElem? (i := 448) (by decide +kernel), List.mem_of_getElem? (i := 643) (by decide +kernel), List.mem_of_getElem? (i := 644) (by decide +kernel)⟩
theorem lw_p29 : lw_okq (⟨"NosePostModel", "pairsBarred", "(II)I"⟩, 31) := ⟨⟨by decide +kernel, by decide +kernel⟩, List.mem_of_getElem? (i := 448) (by decide +kernel), List.mem_of_getElem? (i := 658) (by decide +kernel), List.mem_of_getElem? (i := 659) (by decide +kernel)⟩
theorem lw_p30 : lw_okq (⟨"NosePostModel", "keepAll", "()V"⟩, 31) := ⟨⟨by decide +kernel, by decide +kernel⟩, List.mem_of_getElem? (i := 448) (by decide +kernel), List.mem_of_getElem? (i := 664) (by decide +kernel), List.mem_of_getElem? (i := 665) (by decide +kernel)⟩
theorem lw_p31 : lw_okq (⟨"NosePostModel", "roundBy", "(III)I"⟩, 31) := ⟨⟨by decide +kernel, by decide +kernel⟩, List.mem_of_getElem? (i := 448) (by decide +kernel), List.mem_of_getElem? (i := 668) (by decide +kernel), List.mem_of_getElem? (i := 669) (by decide +kernel)⟩
def lw_privs_2 : List (MethodName × Nat) := [(⟨"NosePostModel", "refused", "(I)I"⟩, 31), (⟨"NosePostModel", "cellsBarred", "(IIIJ)I"⟩, 31), (⟨"NosePostModel", "failed", "(I)I"⟩, 31), (⟨"NosePostModel", "readsMoor", "(II)Z"⟩, 31), (⟨"NosePostModel", "codeAt", "(II)I"⟩, 31), (⟨"NosePostModel", "figure", "(IIII)I"⟩, 31), (⟨"NosePostModel", "readsPerson", "(II)Z"⟩, 31), (⟨"NosePostModel", "noPerson", "(I)Z"⟩, 31), (⟨"NosePostModel", "scentOf", "(I)I"⟩, 31), (⟨"NosePostModel", "isSmelt", "(I)Z"⟩, 31), (⟨"NosePostModel", "wayTo", "(I)I"⟩, 31), (⟨"NosePostModel", "goesTo", "(I)I"⟩, 31), (⟨"NosePostModel", "sent", "(I)I"⟩, 31), (⟨"NosePostModel", "pairsBarred", "(II)I"⟩, 31), (⟨"NosePostModel", "keepAll", "()V"⟩, 31), (⟨"NosePostModel", "roundBy", "(III)I"⟩, 31)]
theorem lw_r2 : ∀ q ∈ lw_privs_2, lw_okq q := List.forall_mem_cons.mpr ⟨lw_p16, List.forall_mem_cons.mpr ⟨lw_p17, List.forall_mem_cons.mpr ⟨lw_p18, List.forall_mem_cons.mpr ⟨lw_p19, List.forall_mem_cons.mpr ⟨lw_p20, List.forall_mem_cons.mpr ⟨lw_p21, List.forall_mem_cons.mpr ⟨lw_p22, List.forall_mem_cons.mpr ⟨lw_p23, List.forall_mem_cons.mpr ⟨lw_p24, List.forall_mem_cons.mpr ⟨lw_p25, List.forall_mem_cons.mpr ⟨lw_p26, List.forall_mem_cons.mpr ⟨lw_p27, List.forall_mem_cons.mpr ⟨lw_p28, List.forall_mem_cons.mpr ⟨lw_p29, List.forall_mem_cons.mpr ⟨lw_p30, List.forall_mem_cons.mpr ⟨lw_p31, fun _ h => absurd h List.not_mem_nil⟩⟩⟩⟩⟩⟩⟩⟩⟩⟩⟩⟩⟩⟩⟩⟩
theorem lw_p32 : lw_okq (⟨"NosePostModel", "bringBack", "()V"⟩, 31) := ⟨⟨by decide +kernel, by decide +kernel⟩, List.mem_of_getElem? (i := 448) (by decide +kernel), List.mem_of_getElem? (i := 672) (by decide +kernel), List.mem_of_getElem? (i := 673) (by decide +kernel)⟩
theorem lw_p33 : lw_okq (⟨"NosePostModel", "comeNow", "()I"⟩, 31) := ⟨⟨by decide +kernel, by decide +kernel⟩, List.mem_of_getElem? (i := 448) (by decide +kernel), List.mem_of_getElem? (i := 684) (by decide +kernel), List.mem_of_getElem? (i := 685) (by decide +kernel)⟩
theorem lw_p34 : lw_okq (⟨"NosePostModel", "bestOrder", "()I"⟩, 31) := ⟨⟨by decide +kernel, by decide +kernel⟩, List.mem_of_getElem? (i := 448) (by decide +kernel), List.mem_of_getElem? (i := 694) (by decide +kernel), List.mem_of_getElem? (i := 695) (by decide +kernel)⟩
theorem lw_p35 : lw_okq (⟨"NosePostModel", "comeInOrder", "()I"⟩, 31) := ⟨⟨by decide +kernel, by decide +kernel⟩, List.mem_of_getElem? (i := 448) (by decide +kernel), List.mem_of_getElem? (i := 698) (by decide +kernel), List.mem_of_getElem? (i := 699) (by decide +kernel)⟩
theorem lw_p36 : lw_okq (⟨"NosePostModel", "nextOrder", "()Z"⟩, 31) := ⟨⟨by decide +kernel, by decide +kernel⟩, List.mem_of_getElem? (i := 448) (by decide +kernel), List.mem_of_getElem? (i := 702) (by decide +kernel), List.mem_of_getElem? (i := 703) (by decide +kernel)⟩
theorem lw_p37 : lw_okq (⟨"NosePostModel", "exchange", "(II)V"⟩, 31) := ⟨⟨by decide +kernel, by decide +kernel⟩, List.mem_of_getElem? (i := 448) (by decide +kernel), List.mem_of_getElem? (i := 706) (by decide +kernel), List.mem_of_getElem? (i := 707) (by decide +kernel)⟩
theorem lw_p38 : lw_okq (⟨"NosePostModel", "spreads", "(I)V"⟩, 31) := ⟨⟨by decide +kernel, by decide +kernel⟩, List.mem_of_getElem? (i := 448) (by decide +kernel), List.mem_of_getElem? (i := 714) (by decide +kernel), List.mem_of_getElem? (i := 715) (by decide +kernel)⟩
theorem lw_p39 : lw_okq (⟨"NosePostModel", "asMet", "(I)V"⟩, 31) := ⟨⟨by decide +kernel, by decide +kernel⟩, List.mem_of_getElem? (i := 448) (by decide +kernel), List.mem_of_getElem? (i := 718) (by decide +kernel), List.mem_of_getElem? (i := 719) (by decide +kernel)⟩
theorem lw_p40 : lw_okq (⟨"NosePostModel", "areSo", "()Z"⟩, 31) := ⟨⟨by decide +kernel, by decide +kernel⟩, List.mem_of_getElem? (i := 448) (by decide +kernel), List.mem_of_getElem? (i := 737) (by decide +kernel), List.mem_of_getElem? (i := 738) (by decide +kernel)⟩
theorem lw_p41 : lw_okq (⟨"NosePostModel", "noCell", "(II)I"⟩, 31) := ⟨⟨by decide +kernel, by decide +kernel⟩, List.mem_of_getElem? (i := 448) (by decide +kernel), List.mem_of_getElem? (i := 772) (by decide +kernel), List.mem_of_getElem? (i := 773) (by decide +kernel)⟩
theorem lw_p42 : lw_okq (⟨"NosePostModel", "failedLong", "(I)J"⟩, 31) := ⟨⟨by decide +kernel, by decide +kernel⟩, List.mem_of_getElem? (i := 448) (by decide +kernel), List.mem_of_getElem? (i := 780) (by decide +kernel), List.mem_of_getElem? (i := 781) (by decide +kernel)⟩
theorem lw_p43 : lw_okq (⟨"NosePostModel", "traced", "(I)V"⟩, 31) := ⟨⟨by decide +kernel, by decide +kernel⟩, List.mem_of_getElem? (i := 448) (by decide +kernel), List.mem_of_getElem? (i := 792) (by decide +kernel), List.mem_of_getElem? (i := 793) (by decide +kernel)⟩
def lw_privs_3 : List (MethodName × Nat) := [(⟨"NosePostModel", "bringBack", "()V"⟩, 31), (⟨"NosePostModel", "comeNow", "()I"⟩, 31), (⟨"NosePostModel", "bestOrder", "()I"⟩, 31), (⟨"NosePostModel", "comeInOrder", "()I"⟩, 31), (⟨"NosePostModel", "nextOrder", "()Z"⟩, 31), (⟨"NosePostModel", "exchange", "(II)V"⟩, 31), (⟨"NosePostModel", "spreads", "(I)V"⟩, 31), (⟨"NosePostModel", "asMet", "(I)V"⟩, 31), (⟨"NosePostModel", "areSo", "()Z"⟩, 31), (⟨"NosePostModel", "noCell", "(II)I"⟩, 31), (⟨"NosePostModel", "failedLong", "(I)J"⟩, 31), (⟨"NosePostModel", "traced", "(I)V"⟩, 31)]
theorem lw_r3 : ∀ q ∈ lw_privs_3, lw_okq q := List.forall_mem_cons.mpr ⟨lw_p32, List.forall_mem_cons.mpr ⟨lw_p33, List.forall_mem_cons.mpr ⟨lw_p34, List.forall_mem_cons.mpr ⟨lw_p35, List.forall_mem_cons.mpr ⟨lw_p36, List.forall_mem_cons.mpr ⟨lw_p37, List.forall_mem_cons.mpr ⟨lw_p38, List.forall_mem_cons.mpr ⟨lw_p39, List.forall_mem_cons.mpr ⟨lw_p40, List.forall_mem_cons.mpr ⟨lw_p41, List.forall_mem_cons.mpr ⟨lw_p42, List.forall_mem_cons.mpr ⟨lw_p43, fun _ h => absurd h List.not_mem_nil⟩⟩⟩⟩⟩⟩⟩⟩⟩⟩⟩⟩
def lw_privs : List (MethodName × Nat) := lw_privs_1 ++ (lw_privs_2 ++ (lw_privs_3))
def lw_tbl : List Cond := k2_sels lw_privs ++ tables_1
theorem lw_privs_ok : ∀ q ∈ lw_privs, lw_okq q := by
  show ∀ q ∈ lw_privs_1 ++ (lw_privs_2 ++ (lw_privs_3)), lw_okq q
  exact List.forall_mem_append.mpr ⟨lw_r1, List.forall_mem_append.mpr ⟨lw_r2, lw_r3⟩⟩
end
section
/-! ===== BEGIN printed: names, fields, word lists, decode rows ===== -/
def RX0 : String := "NosePost$Moor"
def TX0 : u_T := fun k => match k with
  | 0 => ("NosePost$Moor", "post", "I", false)
  | 1 => ("NosePost$Moor", "lax", "I", false)
  | 2 => ("NosePost$Moor", "people", "I", false)
  | 3 => ("NosePost$Moor", "kind", "[I", true)
  | 4 => ("NosePost$Moor", "smell", "[I", true)
  | 5 => ("NosePost$Moor", "was", "[I", true)
  | _ => ("NosePost$Moor", "place", "[I", true)
def tyX0 : Nat → FieldType := fun k => match k with
  | 0 => .int
  | 1 => .int
  | 2 => .int
  | 3 => .array .int
  | 4 => .array .int
  | 5 => .array .int
  | _ => .array .int
abbrev wsX00 : List Cond := u_ws RX0 TX0 7
theorem nmX0 : ∀ a, a < 7 → ∀ b, b < 7 → a ≠ b → (TX0 a).2.1 ≠ (TX0 b).2.1 := by decide +kernel
theorem tyX0_ok : ∀ k, k < 7 → parseFieldDescriptor (TX0 k).2.2.1 = some (tyX0 k) := by decide +kernel
abbrev cX0_init : ByteArray := prog_2_method_1_code
def yX0_init : MethodName := ⟨RX0, "<init>", "()V"⟩
abbrev cX0_become : ByteArray := prog_2_method_2_code
def yX0_become : MethodName := ⟨RX0, "become", "(LNosePost$Moor;)V"⟩
abbrev cX0_scentOf : ByteArray := prog_2_method_3_code
def yX0_scentOf : MethodName := ⟨RX0, "scentOf", "(I)I"⟩
abbrev cX0_distanceOf : ByteArray := prog_2_method_4_code
def yX0_distanceOf : MethodName := ⟨RX0, "distanceOf", "(I)I"⟩
abbrev cX0_isSmelt : ByteArray := prog_2_method_5_code
def yX0_isSmelt : MethodName := ⟨RX0, "isSmelt", "(I)Z"⟩
abbrev cX0_goesTo : ByteArray := prog_2_method_6_code
def yX0_goesTo : MethodName := ⟨RX0, "goesTo", "(I)I"⟩
abbrev cX0_deliver : ByteArray := prog_2_method_7_code
def yX0_deliver : MethodName := ⟨RX0, "deliver", "(I)I"⟩
abbrev cX0_whoseCome : ByteArray := prog_2_method_8_code
def yX0_whoseCome : MethodName := ⟨RX0, "whoseCome", "()I"⟩
abbrev cX0_whoGetOne : ByteArray := prog_2_method_9_code
def yX0_whoGetOne : MethodName := ⟨RX0, "whoGetOne", "()I"⟩
def RX1 : String := "NosePost$Sheet"
def TX1 : u_T := fun k => match k with
  | 0 => ("NosePost$Sheet", "hasRow", "Z", false)
  | 1 => ("NosePost$Sheet", "lane", "I", false)
  | 2 => ("NosePost$Sheet", "length", "I", false)
  | _ => ("NosePost$Sheet", "cells", "[I", true)
def tyX1 : Nat → FieldType := fun k => match k with
  | 0 => .boolean
  | 1 => .int
  | 2 => .int
  | _ => .array .int
abbrev wsX10 : List Cond := u_ws RX1 TX1 4
theorem nmX1 : ∀ a, a < 4 → ∀ b, b < 4 → a ≠ b → (TX1 a).2.1 ≠ (TX1 b).2.1 := by decide +kernel
theorem tyX1_ok : ∀ k, k < 4 → parseFieldDescriptor (TX1 k).2.2.1 = some (tyX1 k) := by decide +kernel
abbrev cX1_init : ByteArray := prog_3_method_1_code
def yX1_init : MethodName := ⟨RX1, "<init>", "()V"⟩
abbrev cX1_begin : ByteArray := prog_3_method_2_code
def yX1_begin : MethodName := ⟨RX1, "begin", "(II)V"⟩
abbrev cX1_faultAs : ByteArray := prog_3_method_3_code
def yX1_faultAs : MethodName := ⟨RX1, "faultAs", "(I)I"⟩
abbrev cX1_hasCell : ByteArray := prog_3_method_4_code
def yX1_hasCell : MethodName := ⟨RX1, "hasCell", "(I)Z"⟩
abbrev cX1_spans : ByteArray := prog_3_method_5_code
def yX1_spans : MethodName := ⟨RX1, "spans", "(II)Z"⟩
abbrev cX1_write : ByteArray := prog_3_method_6_code
def yX1_write : MethodName := ⟨RX1, "write", "(II)V"⟩
def RX2 : String := "NosePost$Tally"
def TX2 : u_T := fun k => match k with
  | 0 => ("NosePost$Tally", "came", "I", false)
  | 1 => ("NosePost$Tally", "firstWrong", "I", false)
  | 2 => ("NosePost$Tally", "getters", "I", false)
  | _ => ("NosePost$Tally", "home", "I", false)
def tyX2 : Nat → FieldType := fun k => match k with
  | 0 => .int
  | 1 => .int
  | 2 => .int
  | _ => .int
abbrev wsX20 : List Cond := u_ws RX2 TX2 4
theorem nmX2 : ∀ a, a < 4 → ∀ b, b < 4 → a ≠ b → (TX2 a).2.1 ≠ (TX2 b).2.1 := by decide +kernel
theorem tyX2_ok : ∀ k, k < 4 → parseFieldDescriptor (TX2 k).2.2.1 = some (tyX2 k) := by decide +kernel
abbrev cX2_init : ByteArray := prog_4_method_1_code
def yX2_init : MethodName := ⟨RX2, "<init>", "()V"⟩
abbrev cX2_clear : ByteArray := prog_4_method_2_code
def yX2_clear : MethodName := ⟨RX2, "clear", "()V"⟩
abbrev cX2_add : ByteArray := prog_4_method_3_code
def yX2_add : MethodName := ⟨RX2, "add", "(III)V"⟩
def RX3 : String := "NosePost$Text"
def TX3 : u_T := fun k => match k with
  | _ => ("", "", "", false)
def tyX3 : Nat → FieldType := fun k => match k with
  | _ => .int
abbrev wsX30 : List Cond := u_ws RX3 TX3 0
theorem nmX3 : ∀ a, a < 0 → ∀ b, b < 0 → a ≠ b → (TX3 a).2.1 ≠ (TX3 b).2.1 := by decide +kernel
theorem tyX3_ok : ∀ k, k < 0 → parseFieldDescriptor (TX3 k).2.2.1 = some (tyX3 k) := by decide +kernel
abbrev cX3_firstFault : ByteArray := prog_5_method_2_code
def yX3_firstFault : MethodName := ⟨RX3, "firstFault", "([III)I"⟩
abbrev cX3_goesOnWith : ByteArray := prog_5_method_3_code
def yX3_goesOnWith : MethodName := ⟨RX3, "goesOnWith", "(II)Z"⟩
abbrev cX3_isDigitBelow : ByteArray := prog_5_method_4_code
def yX3_isDigitBelow : MethodName := ⟨RX3, "isDigitBelow", "(II)Z"⟩
abbrev cX3_fill : ByteArray := prog_5_method_5_code
def yX3_fill : MethodName := ⟨RX3, "fill", "(LNosePost$Moor;[III)V"⟩
abbrev cX3_kindOf : ByteArray := prog_5_method_6_code
def yX3_kindOf : MethodName := ⟨RX3, "kindOf", "(I)I"⟩
def RX4 : String := "NosePost"
def TX4 : u_T := fun k => match k with
  | 0 => ("NosePost", "now", "LNosePost$Moor;", true)
  | 1 => ("NosePost", "draft", "LNosePost$Moor;", true)
  | 2 => ("NosePost", "sheets", "[LNosePost$Sheet;", true)
  | 3 => ("NosePost", "tally", "LNosePost$Tally;", true)
  | 4 => ("NosePost", "readingFor", "[I", true)
  | 5 => ("NosePost", "readingTo", "[I", true)
  | 6 => ("NosePost", "goesAtFirst", "[I", true)
  | 7 => ("NosePost", "tried", "[I", true)
  | 8 => ("NosePost", "best", "[I", true)
  | 9 => ("NosePost", "readings", "I", false)
  | 10 => ("NosePost", "letters", "I", false)
  | 11 => ("NosePost", "traced", "I", false)
  | _ => ("NosePost", "lastFault", "I", false)
def tyX4 : Nat → FieldType := fun k => match k with
  | 0 => .object "NosePost$Moor"
  | 1 => .object "NosePost$Moor"
  | 2 => .array (.object "NosePost$Sheet")
  | 3 => .object "NosePost$Tally"
  | 4 => .array .int
  | 5 => .array .int
  | 6 => .array .int
  | 7 => .array .int
  | 8 => .array .int
  | 9 => .int
  | 10 => .int
  | 11 => .int
  | _ => .int
abbrev wsX40 : List Cond := u_ws RX4 TX4 13
theorem nmX4 : ∀ a, a < 13 → ∀ b, b < 13 → a ≠ b → (TX4 a).2.1 ≠ (TX4 b).2.1 := by decide +kernel
theorem tyX4_ok : ∀ k, k < 13 → parseFieldDescriptor (TX4 k).2.2.1 = some (tyX4 k) := by decide +kernel
abbrev cX4_init : ByteArray := prog_1_method_1_code
def yX4_init : MethodName := ⟨RX4, "<init>", "()V"⟩
abbrev cX4_moor : ByteArray := prog_1_method_2_code
def yX4_moor : MethodName := ⟨RX4, "moor", "(IIII)I"⟩
abbrev cX4_ofPerson : ByteArray := prog_1_method_3_code
def yX4_ofPerson : MethodName := ⟨RX4, "ofPerson", "(II)I"⟩
abbrev cX4_post : ByteArray := prog_1_method_4_code
def yX4_post : MethodName := ⟨RX4, "post", "(I)I"⟩
abbrev cX4_lax : ByteArray := prog_1_method_5_code
def yX4_lax : MethodName := ⟨RX4, "lax", "(I)I"⟩
abbrev cX4_bathe : ByteArray := prog_1_method_6_code
def yX4_bathe : MethodName := ⟨RX4, "bathe", "(II)I"⟩
abbrev cX4_moves : ByteArray := prog_1_method_7_code
def yX4_moves : MethodName := ⟨RX4, "moves", "(II)I"⟩
abbrev cX4_send : ByteArray := prog_1_method_8_code
def yX4_send : MethodName := ⟨RX4, "send", "(I)I"⟩
abbrev cX4_comes : ByteArray := prog_1_method_9_code
def yX4_comes : MethodName := ⟨RX4, "comes", "(I)I"⟩
abbrev cX4_round : ByteArray := prog_1_method_10_code
def yX4_round : MethodName := ⟨RX4, "round", "(IIIII)I"⟩
abbrev cX4_strict : ByteArray := prog_1_method_11_code
def yX4_strict : MethodName := ⟨RX4, "strict", "(I)I"⟩
abbrev cX4_site : ByteArray := prog_1_method_12_code
def yX4_site : MethodName := ⟨RX4, "site", "(I)I"⟩
abbrev cX4_order : ByteArray := prog_1_method_13_code
def yX4_order : MethodName := ⟨RX4, "order", "(I)I"⟩
abbrev cX4_ahead : ByteArray := prog_1_method_14_code
def yX4_ahead : MethodName := ⟨RX4, "ahead", "(I)I"⟩
abbrev cX4_reading : ByteArray := prog_1_method_15_code
def yX4_reading : MethodName := ⟨RX4, "reading", "(II)I"⟩
abbrev cX4_back : ByteArray := prog_1_method_16_code
def yX4_back : MethodName := ⟨RX4, "back", "(I)I"⟩
abbrev cX4_smells : ByteArray := prog_1_method_17_code
def yX4_smells : MethodName := ⟨RX4, "smells", "(I)I"⟩
abbrev cX4_pasts : ByteArray := prog_1_method_18_code
def yX4_pasts : MethodName := ⟨RX4, "pasts", "(I)I"⟩
abbrev cX4_kinds : ByteArray := prog_1_method_19_code
def yX4_kinds : MethodName := ⟨RX4, "kinds", "(I)I"⟩
abbrev cX4_odds : ByteArray := prog_1_method_20_code
def yX4_odds : MethodName := ⟨RX4, "odds", "(II)J"⟩
abbrev cX4_sheet : ByteArray := prog_1_method_21_code
def yX4_sheet : MethodName := ⟨RX4, "sheet", "(III)I"⟩
abbrev cX4_lose : ByteArray := prog_1_method_22_code
def yX4_lose : MethodName := ⟨RX4, "lose", "(I)I"⟩
abbrev cX4_put : ByteArray := prog_1_method_23_code
def yX4_put : MethodName := ⟨RX4, "put", "(III)I"⟩
abbrev cX4_cell : ByteArray := prog_1_method_24_code
def yX4_cell : MethodName := ⟨RX4, "cell", "(III)J"⟩
abbrev cX4_copy : ByteArray := prog_1_method_25_code
def yX4_copy : MethodName := ⟨RX4, "copy", "(IIIII)I"⟩
abbrev cX4_tell : ByteArray := prog_1_method_26_code
def yX4_tell : MethodName := ⟨RX4, "tell", "(I)I"⟩
abbrev cX4_whistle : ByteArray := prog_1_method_27_code
def yX4_whistle : MethodName := ⟨RX4, "whistle", "(I)I"⟩
abbrev cX4_as : ByteArray := prog_1_method_28_code
def yX4_as : MethodName := ⟨RX4, "as", "(II)I"⟩
abbrev cX4_trace : ByteArray := prog_1_method_29_code
def yX4_trace : MethodName := ⟨RX4, "trace", "()I"⟩
abbrev cX4_fault : ByteArray := prog_1_method_30_code
def yX4_fault : MethodName := ⟨RX4, "fault", "()I"⟩
abbrev cX4_many : ByteArray := prog_1_method_31_code
def yX4_many : MethodName := ⟨RX4, "many", "(I)I"⟩
abbrev cX4_isBelow : ByteArray := prog_1_method_32_code
def yX4_isBelow : MethodName := ⟨RX4, "isBelow", "(II)Z"⟩
abbrev cX4_isSheet : ByteArray := prog_1_method_33_code
def yX4_isSheet : MethodName := ⟨RX4, "isSheet", "(I)Z"⟩
abbrev cX4_contains : ByteArray := prog_1_method_34_code
def yX4_contains : MethodName := ⟨RX4, "contains", "(II)Z"⟩
abbrev cX4_withOne : ByteArray := prog_1_method_35_code
def yX4_withOne : MethodName := ⟨RX4, "withOne", "(II)I"⟩
abbrev cX4_isPerson : ByteArray := prog_1_method_36_code
def yX4_isPerson : MethodName := ⟨RX4, "isPerson", "(I)Z"⟩
abbrev cX4_hasNoMoor : ByteArray := prog_1_method_37_code
def yX4_hasNoMoor : MethodName := ⟨RX4, "hasNoMoor", "()Z"⟩
abbrev cX4_faulted : ByteArray := prog_1_method_38_code
def yX4_faulted : MethodName := ⟨RX4, "faulted", "(I)I"⟩
abbrev cX4_becomes : ByteArray := prog_1_method_39_code
def yX4_becomes : MethodName := ⟨RX4, "becomes", "([IIII)I"⟩
abbrev cX4_isOfRound : ByteArray := prog_1_method_40_code
def yX4_isOfRound : MethodName := ⟨RX4, "isOfRound", "(I)Z"⟩
abbrev cX4_refusalOfPairs : ByteArray := prog_1_method_41_code
def yX4_refusalOfPairs : MethodName := ⟨RX4, "refusalOfPairs", "([III)I"⟩
abbrev cX4_play : ByteArray := prog_1_method_42_code
def yX4_play : MethodName := ⟨RX4, "play", "([III)V"⟩
abbrev cX4_ofRound : ByteArray := prog_1_method_43_code
def yX4_ofRound : MethodName := ⟨RX4, "ofRound", "(I)I"⟩
abbrev cX4_findBestOrder : ByteArray := prog_1_method_44_code
def yX4_findBestOrder : MethodName := ⟨RX4, "findBestOrder", "()I"⟩
abbrev cX4_comingInTriedOrder : ByteArray := prog_1_method_45_code
def yX4_comingInTriedOrder : MethodName := ⟨RX4, "comingInTriedOrder", "()I"⟩
abbrev cX4_stepToNextRow : ByteArray := prog_1_method_46_code
def yX4_stepToNextRow : MethodName := ⟨RX4, "stepToNextRow", "([II)Z"⟩
abbrev cX4_swap : ByteArray := prog_1_method_47_code
def yX4_swap : MethodName := ⟨RX4, "swap", "([III)V"⟩
abbrev cX4_bySuchReadings : ByteArray := prog_1_method_48_code
def yX4_bySuchReadings : MethodName := ⟨RX4, "bySuchReadings", "([III)I"⟩
abbrev cX4_readingsHoldInDraft : ByteArray := prog_1_method_49_code
def yX4_readingsHoldInDraft : MethodName := ⟨RX4, "readingsHoldInDraft", "()Z"⟩
abbrev cX4_smellsByWhichItComes : ByteArray := prog_1_method_50_code
def yX4_smellsByWhichItComes : MethodName := ⟨RX4, "smellsByWhichItComes", "(I)I"⟩
abbrev cX4_begins : ByteArray := prog_1_method_51_code
def yX4_begins : MethodName := ⟨RX4, "begins", "(I)V"⟩
abbrev cX4_toldByPlain : ByteArray := prog_1_method_52_code
def yX4_toldByPlain : MethodName := ⟨RX4, "toldByPlain", "(I)I"⟩
abbrev cX4_toldByRank : ByteArray := prog_1_method_53_code
def yX4_toldByRank : MethodName := ⟨RX4, "toldByRank", "(I)I"⟩
abbrev cX4_toldByReeking : ByteArray := prog_1_method_54_code
def yX4_toldByReeking : MethodName := ⟨RX4, "toldByReeking", "(I)I"⟩
def RX5 : String := "NosePostModel"
def TX5 : u_T := fun k => match k with
  | 0 => ("NosePostModel", "fault", "I", false)
  | 1 => ("NosePostModel", "people", "I", false)
  | 2 => ("NosePostModel", "postAt", "I", false)
  | 3 => ("NosePostModel", "laxNow", "I", false)
  | 4 => ("NosePostModel", "letters", "I", false)
  | 5 => ("NosePostModel", "kindOf", "[I", true)
  | 6 => ("NosePostModel", "smellOf", "[I", true)
  | 7 => ("NosePostModel", "wasOf", "[I", true)
  | 8 => ("NosePostModel", "placeOf", "[I", true)
  | 9 => ("NosePostModel", "readAt", "I", false)
  | 10 => ("NosePostModel", "readPeople", "I", false)
  | 11 => ("NosePostModel", "readKind", "[I", true)
  | 12 => ("NosePostModel", "readSmell", "[I", true)
  | 13 => ("NosePostModel", "readWas", "[I", true)
  | 14 => ("NosePostModel", "readPlace", "[I", true)
  | 15 => ("NosePostModel", "readPost", "I", false)
  | 16 => ("NosePostModel", "readLax", "I", false)
  | 17 => ("NosePostModel", "smellKept", "[I", true)
  | 18 => ("NosePostModel", "wasKept", "[I", true)
  | 19 => ("NosePostModel", "placeKept", "[I", true)
  | 20 => ("NosePostModel", "orderNow", "[I", true)
  | 21 => ("NosePostModel", "orderBest", "[I", true)
  | 22 => ("NosePostModel", "metBehind", "[I", true)
  | 23 => ("NosePostModel", "readings", "I", false)
  | 24 => ("NosePostModel", "readingOf", "[I", true)
  | 25 => ("NosePostModel", "readingTo", "[I", true)
  | 26 => ("NosePostModel", "sheetSize", "[I", true)
  | 27 => ("NosePostModel", "sheetLane", "[I", true)
  | 28 => ("NosePostModel", "sheet", "[I", true)
  | 29 => ("NosePostModel", "hands", "[I", true)
  | _ => ("NosePostModel", "traceNow", "I", false)
def tyX5 : Nat → FieldType := fun k => match k with
  | 0 => .int
  | 1 => .int
  | 2 => .int
  | 3 => .int
  | 4 => .int
  | 5 => .array .int
  | 6 => .array .int
  | 7 => .array .int
  | 8 => .array .int
  | 9 => .int
  | 10 => .int
  | 11 => .array .int
  | 12 => .array .int
  | 13 => .array .int
  | 14 => .array .int
  | 15 => .int
  | 16 => .int
  | 17 => .array .int
  | 18 => .array .int
  | 19 => .array .int
  | 20 => .array .int
  | 21 => .array .int
  | 22 => .array .int
  | 23 => .int
  | 24 => .array .int
  | 25 => .array .int
  | 26 => .array .int
  | 27 => .array .int
  | 28 => .array .int
  | 29 => .array .int
  | _ => .int
abbrev wsX50 : List Cond := u_ws RX5 TX5 31
theorem nmX5 : ∀ a, a < 31 → ∀ b, b < 31 → a ≠ b → (TX5 a).2.1 ≠ (TX5 b).2.1 := by decide +kernel
theorem tyX5_ok : ∀ k, k < 31 → parseFieldDescriptor (TX5 k).2.2.1 = some (tyX5 k) := by decide +kernel
abbrev cX5_init : ByteArray := prog_7_method_1_code
def yX5_init : MethodName := ⟨RX5, "<init>", "()V"⟩
abbrev cX5_in : ByteArray := prog_7_method_2_code
def yX5_in : MethodName := ⟨RX5, "in", "(JJJ)Z"⟩
abbrev cX5_lost : ByteArray := prog_7_method_3_code
def yX5_lost : MethodName := ⟨RX5, "lost", "()J"⟩
abbrev cX5_isIn : ByteArray := prog_7_method_4_code
def yX5_isIn : MethodName := ⟨RX5, "isIn", "(II)Z"⟩
abbrev cX5_bits : ByteArray := prog_7_method_5_code
def yX5_bits : MethodName := ⟨RX5, "bits", "(I)I"⟩
abbrev cX5_apart : ByteArray := prog_7_method_6_code
def yX5_apart : MethodName := ⟨RX5, "apart", "(II)I"⟩
abbrev cX5_share : ByteArray := prog_7_method_7_code
def yX5_share : MethodName := ⟨RX5, "share", "(JJI)J"⟩
abbrev cX5_refused : ByteArray := prog_7_method_8_code
def yX5_refused : MethodName := ⟨RX5, "refused", "(I)I"⟩
abbrev cX5_failed : ByteArray := prog_7_method_9_code
def yX5_failed : MethodName := ⟨RX5, "failed", "(I)I"⟩
abbrev cX5_failedLong : ByteArray := prog_7_method_10_code
def yX5_failedLong : MethodName := ⟨RX5, "failedLong", "(I)J"⟩
abbrev cX5_noPerson : ByteArray := prog_7_method_11_code
def yX5_noPerson : MethodName := ⟨RX5, "noPerson", "(I)Z"⟩
abbrev cX5_codeAt : ByteArray := prog_7_method_12_code
def yX5_codeAt : MethodName := ⟨RX5, "codeAt", "(II)I"⟩
abbrev cX5_figure : ByteArray := prog_7_method_13_code
def yX5_figure : MethodName := ⟨RX5, "figure", "(IIII)I"⟩
abbrev cX5_readsPerson : ByteArray := prog_7_method_14_code
def yX5_readsPerson : MethodName := ⟨RX5, "readsPerson", "(II)Z"⟩
abbrev cX5_readsMoor : ByteArray := prog_7_method_15_code
def yX5_readsMoor : MethodName := ⟨RX5, "readsMoor", "(II)Z"⟩
abbrev cX5_cellsBarred : ByteArray := prog_7_method_16_code
def yX5_cellsBarred : MethodName := ⟨RX5, "cellsBarred", "(IIIJ)I"⟩
abbrev cX5_moor : ByteArray := prog_7_method_17_code
def yX5_moor : MethodName := ⟨RX5, "moor", "(IIII)I"⟩
abbrev cX5_scentOf : ByteArray := prog_7_method_18_code
def yX5_scentOf : MethodName := ⟨RX5, "scentOf", "(I)I"⟩
abbrev cX5_wayTo : ByteArray := prog_7_method_19_code
def yX5_wayTo : MethodName := ⟨RX5, "wayTo", "(I)I"⟩
abbrev cX5_isSmelt : ByteArray := prog_7_method_20_code
def yX5_isSmelt : MethodName := ⟨RX5, "isSmelt", "(I)Z"⟩
abbrev cX5_goesTo : ByteArray := prog_7_method_21_code
def yX5_goesTo : MethodName := ⟨RX5, "goesTo", "(I)I"⟩
abbrev cX5_ofPerson : ByteArray := prog_7_method_22_code
def yX5_ofPerson : MethodName := ⟨RX5, "ofPerson", "(II)I"⟩
abbrev cX5_post : ByteArray := prog_7_method_23_code
def yX5_post : MethodName := ⟨RX5, "post", "(I)I"⟩
abbrev cX5_lax : ByteArray := prog_7_method_24_code
def yX5_lax : MethodName := ⟨RX5, "lax", "(I)I"⟩
abbrev cX5_bathe : ByteArray := prog_7_method_25_code
def yX5_bathe : MethodName := ⟨RX5, "bathe", "(II)I"⟩
abbrev cX5_moves : ByteArray := prog_7_method_26_code
def yX5_moves : MethodName := ⟨RX5, "moves", "(II)I"⟩
abbrev cX5_sent : ByteArray := prog_7_method_27_code
def yX5_sent : MethodName := ⟨RX5, "sent", "(I)I"⟩
abbrev cX5_send : ByteArray := prog_7_method_28_code
def yX5_send : MethodName := ⟨RX5, "send", "(I)I"⟩
abbrev cX5_comes : ByteArray := prog_7_method_29_code
def yX5_comes : MethodName := ⟨RX5, "comes", "(I)I"⟩
abbrev cX5_keepAll : ByteArray := prog_7_method_30_code
def yX5_keepAll : MethodName := ⟨RX5, "keepAll", "()V"⟩
abbrev cX5_bringBack : ByteArray := prog_7_method_31_code
def yX5_bringBack : MethodName := ⟨RX5, "bringBack", "()V"⟩
abbrev cX5_pairsBarred : ByteArray := prog_7_method_32_code
def yX5_pairsBarred : MethodName := ⟨RX5, "pairsBarred", "(II)I"⟩
abbrev cX5_roundBy : ByteArray := prog_7_method_33_code
def yX5_roundBy : MethodName := ⟨RX5, "roundBy", "(III)I"⟩
abbrev cX5_round : ByteArray := prog_7_method_34_code
def yX5_round : MethodName := ⟨RX5, "round", "(IIIII)I"⟩
abbrev cX5_strict : ByteArray := prog_7_method_35_code
def yX5_strict : MethodName := ⟨RX5, "strict", "(I)I"⟩
abbrev cX5_comeNow : ByteArray := prog_7_method_36_code
def yX5_comeNow : MethodName := ⟨RX5, "comeNow", "()I"⟩
abbrev cX5_site : ByteArray := prog_7_method_37_code
def yX5_site : MethodName := ⟨RX5, "site", "(I)I"⟩
abbrev cX5_exchange : ByteArray := prog_7_method_38_code
def yX5_exchange : MethodName := ⟨RX5, "exchange", "(II)V"⟩
abbrev cX5_nextOrder : ByteArray := prog_7_method_39_code
def yX5_nextOrder : MethodName := ⟨RX5, "nextOrder", "()Z"⟩
abbrev cX5_comeInOrder : ByteArray := prog_7_method_40_code
def yX5_comeInOrder : MethodName := ⟨RX5, "comeInOrder", "()I"⟩
abbrev cX5_bestOrder : ByteArray := prog_7_method_41_code
def yX5_bestOrder : MethodName := ⟨RX5, "bestOrder", "()I"⟩
abbrev cX5_order : ByteArray := prog_7_method_42_code
def yX5_order : MethodName := ⟨RX5, "order", "(I)I"⟩
abbrev cX5_asMet : ByteArray := prog_7_method_43_code
def yX5_asMet : MethodName := ⟨RX5, "asMet", "(I)V"⟩
abbrev cX5_spreads : ByteArray := prog_7_method_44_code
def yX5_spreads : MethodName := ⟨RX5, "spreads", "(I)V"⟩
abbrev cX5_ahead : ByteArray := prog_7_method_45_code
def yX5_ahead : MethodName := ⟨RX5, "ahead", "(I)I"⟩
abbrev cX5_reading : ByteArray := prog_7_method_46_code
def yX5_reading : MethodName := ⟨RX5, "reading", "(II)I"⟩
abbrev cX5_back : ByteArray := prog_7_method_47_code
def yX5_back : MethodName := ⟨RX5, "back", "(I)I"⟩
abbrev cX5_areSo : ByteArray := prog_7_method_48_code
def yX5_areSo : MethodName := ⟨RX5, "areSo", "()Z"⟩
abbrev cX5_smells : ByteArray := prog_7_method_49_code
def yX5_smells : MethodName := ⟨RX5, "smells", "(I)I"⟩
abbrev cX5_pasts : ByteArray := prog_7_method_50_code
def yX5_pasts : MethodName := ⟨RX5, "pasts", "(I)I"⟩
abbrev cX5_kinds : ByteArray := prog_7_method_51_code
def yX5_kinds : MethodName := ⟨RX5, "kinds", "(I)I"⟩
abbrev cX5_odds : ByteArray := prog_7_method_52_code
def yX5_odds : MethodName := ⟨RX5, "odds", "(II)J"⟩
abbrev cX5_noSheet : ByteArray := prog_7_method_53_code
def yX5_noSheet : MethodName := ⟨RX5, "noSheet", "(I)Z"⟩
abbrev cX5_sheet : ByteArray := prog_7_method_54_code
def yX5_sheet : MethodName := ⟨RX5, "sheet", "(III)I"⟩
abbrev cX5_lose : ByteArray := prog_7_method_55_code
def yX5_lose : MethodName := ⟨RX5, "lose", "(I)I"⟩
abbrev cX5_noCell : ByteArray := prog_7_method_56_code
def yX5_noCell : MethodName := ⟨RX5, "noCell", "(II)I"⟩
abbrev cX5_put : ByteArray := prog_7_method_57_code
def yX5_put : MethodName := ⟨RX5, "put", "(III)I"⟩
abbrev cX5_cell : ByteArray := prog_7_method_58_code
def yX5_cell : MethodName := ⟨RX5, "cell", "(III)J"⟩
abbrev cX5_isBeyond : ByteArray := prog_7_method_59_code
def yX5_isBeyond : MethodName := ⟨RX5, "isBeyond", "(IJI)Z"⟩
abbrev cX5_copy : ByteArray := prog_7_method_60_code
def yX5_copy : MethodName := ⟨RX5, "copy", "(IIIII)I"⟩
abbrev cX5_traced : ByteArray := prog_7_method_61_code
def yX5_traced : MethodName := ⟨RX5, "traced", "(I)V"⟩
abbrev cX5_tell : ByteArray := prog_7_method_62_code
def yX5_tell : MethodName := ⟨RX5, "tell", "(I)I"⟩
abbrev cX5_whistle : ByteArray := prog_7_method_63_code
def yX5_whistle : MethodName := ⟨RX5, "whistle", "(I)I"⟩
abbrev cX5_as : ByteArray := prog_7_method_64_code
def yX5_as : MethodName := ⟨RX5, "as", "(II)I"⟩
abbrev cX5_trace : ByteArray := prog_7_method_65_code
def yX5_trace : MethodName := ⟨RX5, "trace", "()I"⟩
abbrev cX5_fault : ByteArray := prog_7_method_66_code
def yX5_fault : MethodName := ⟨RX5, "fault", "()I"⟩
abbrev cX5_many : ByteArray := prog_7_method_67_code
def yX5_many : MethodName := ⟨RX5, "many", "(I)I"⟩
def RJ6 : String := "java/lang/Integer"
def TJ6 : u_T := fun k => match k with
  | _ => ("", "", "", false)
def tyJ6 : Nat → FieldType := fun k => match k with
  | _ => .int
abbrev wsJ60 : List Cond := u_ws RJ6 TJ6 0
theorem nmJ6 : ∀ a, a < 0 → ∀ b, b < 0 → a ≠ b → (TJ6 a).2.1 ≠ (TJ6 b).2.1 := by decide +kernel
theorem tyJ6_ok : ∀ k, k < 0 → parseFieldDescriptor (TJ6 k).2.2.1 = some (tyJ6 k) := by decide +kernel
abbrev cJ6_bitCount_0f7a4 : ByteArray := prog_8_method_49_code
def yJ6_bitCount_0f7a4 : MethodName := ⟨RJ6, "bitCount", "(I)I"⟩
def RJ9 : String := "java/lang/Math"
def TJ9 : u_T := fun k => match k with
  | _ => ("", "", "", false)
def tyJ9 : Nat → FieldType := fun k => match k with
  | _ => .int
abbrev wsJ90 : List Cond := u_ws RJ9 TJ9 0
theorem nmJ9 : ∀ a, a < 0 → ∀ b, b < 0 → a ≠ b → (TJ9 a).2.1 ≠ (TJ9 b).2.1 := by decide +kernel
theorem tyJ9_ok : ∀ k, k < 0 → parseFieldDescriptor (TJ9 k).2.2.1 = some (tyJ9 k) := by decide +kernel
abbrev cJ9_abs_0f7a4 : ByteArray := prog_9_method_59_code
def yJ9_abs_0f7a4 : MethodName := ⟨RJ9, "abs", "(I)I"⟩
def RJ10 : String := "java/lang/System"
def TJ10 : u_T := fun k => match k with
  | _ => ("", "", "", false)
def tyJ10 : Nat → FieldType := fun k => match k with
  | _ => .int
abbrev wsJ100 : List Cond := u_ws RJ10 TJ10 0
theorem nmJ10 : ∀ a, a < 0 → ∀ b, b < 0 → a ≠ b → (TJ10 a).2.1 ≠ (TJ10 b).2.1 := by decide +kernel
theorem tyJ10_ok : ∀ k, k < 0 → parseFieldDescriptor (TJ10 k).2.2.1 = some (tyJ10 k) := by decide +kernel
def RL : String := "NosePostLaw"
abbrev cL_law : ByteArray := code
def yL_law : MethodName := ⟨RL, "law", "([I)Z"⟩
abbrev vwCl : List vw_C := [(RX0, TX0, 7), (RX1, TX1, 4), (RX2, TX2, 4), (RX4, TX4, 13), (RX5, TX5, 31)]
end
section
/-! the words of the tables that are kept by a warm state, by their places -/
def kBIG : List Cond := lw_tbl.filter goodWord
theorem kBIG_in {w : Cond} (h : w ∈ kBIG) : w ∈ lw_tbl := (List.mem_filter.mp h).1
theorem kBIG_good {w : Cond} (h : w ∈ kBIG) : goodWord w = true := (List.mem_filter.mp h).2
theorem kT0 {w : Cond} (h : w ∈ k2_sels lw_privs) (g : goodWord w = true) : w ∈ kBIG := List.mem_filter.mpr ⟨List.mem_append_left _ h, g⟩
theorem kT1 {w : Cond} (h : w ∈ tables_1_1) (g : goodWord w = true) : w ∈ kBIG := List.mem_filter.mpr ⟨List.mem_append_right _ (List.mem_append_left _ h), g⟩
theorem kT2 {w : Cond} (h : w ∈ tables_1_2) (g : goodWord w = true) : w ∈ kBIG := List.mem_filter.mpr ⟨List.mem_append_right _ (List.mem_append_right _ (List.mem_append_left _ h)), g⟩
theorem kT3 {w : Cond} (h : w ∈ tables_1_3) (g : goodWord w = true) : w ∈ kBIG := List.mem_filter.mpr ⟨List.mem_append_right _ (List.mem_append_right _ (List.mem_append_right _ (List.mem_append_left _ h))), g⟩
theorem kT4 {w : Cond} (h : w ∈ tables_1_4) (g : goodWord w = true) : w ∈ kBIG := List.mem_filter.mpr ⟨List.mem_append_right _ (List.mem_append_right _ (List.mem_append_right _ (List.mem_append_right _ h))), g⟩
theorem q0_0 : Cond.selects RX4 yX4_faulted yX4_faulted ∈ kBIG := kT0 (List.mem_of_getElem? (i := 0) rfl) rfl
theorem q0_1 : Cond.selects RX4 yX4_isPerson yX4_isPerson ∈ kBIG := kT0 (List.mem_of_getElem? (i := 1) rfl) rfl
theorem q0_2 : Cond.selects RX4 yX4_hasNoMoor yX4_hasNoMoor ∈ kBIG := kT0 (List.mem_of_getElem? (i := 2) rfl) rfl
theorem q0_3 : Cond.selects RX4 yX4_becomes yX4_becomes ∈ kBIG := kT0 (List.mem_of_getElem? (i := 3) rfl) rfl
theorem q0_4 : Cond.selects RX4 yX4_refusalOfPairs yX4_refusalOfPairs ∈ kBIG := kT0 (List.mem_of_getElem? (i := 4) rfl) rfl
theorem q0_5 : Cond.selects RX4 yX4_play yX4_play ∈ kBIG := kT0 (List.mem_of_getElem? (i := 5) rfl) rfl
theorem q0_6 : Cond.selects RX4 yX4_ofRound yX4_ofRound ∈ kBIG := kT0 (List.mem_of_getElem? (i := 6) rfl) rfl
theorem q0_7 : Cond.selects RX4 yX4_findBestOrder yX4_findBestOrder ∈ kBIG := kT0 (List.mem_of_getElem? (i := 7) rfl) rfl
theorem q0_8 : Cond.selects RX4 yX4_comingInTriedOrder yX4_comingInTriedOrder ∈ kBIG := kT0 (List.mem_of_getElem? (i := 8) rfl) rfl
theorem q0_9 : Cond.selects RX4 yX4_bySuchReadings yX4_bySuchReadings ∈ kBIG := kT0 (List.mem_of_getElem? (i := 9) rfl) rfl
theorem q0_10 : Cond.selects RX4 yX4_readingsHoldInDraft yX4_readingsHoldInDraft ∈ kBIG := kT0 (List.mem_of_getElem? (i := 10) rfl) rfl
theorem q0_11 : Cond.selects RX4 yX4_smellsByWhichItComes yX4_smellsByWhichItComes ∈ kBIG := kT0 (List.mem_of_getElem? (i := 11) rfl) rfl
theorem q0_12 : Cond.selects RX4 yX4_toldByReeking yX4_toldByReeking ∈ kBIG := kT0 (List.mem_of_getElem? (i := 12) rfl) rfl
theorem q0_13 : Cond.selects RX4 yX4_begins yX4_begins ∈ kBIG := kT0 (List.mem_of_getElem? (i := 13) rfl) rfl
theorem q0_14 : Cond.selects RX4 yX4_toldByRank yX4_toldByRank ∈ kBIG := kT0 (List.mem_of_getElem? (i := 14) rfl) rfl
theorem q0_15 : Cond.selects RX4 yX4_toldByPlain yX4_toldByPlain ∈ kBIG := kT0 (List.mem_of_getElem? (i := 15) rfl) rfl
theorem q0_16 : Cond.selects RX5 yX5_refused yX5_refused ∈ kBIG := kT0 (List.mem_of_getElem? (i := 16) rfl) rfl
theorem q0_17 : Cond.selects RX5 yX5_cellsBarred yX5_cellsBarred ∈ kBIG := kT0 (List.mem_of_getElem? (i := 17) rfl) rfl
theorem q0_18 : Cond.selects RX5 yX5_failed yX5_failed ∈ kBIG := kT0 (List.mem_of_getElem? (i := 18) rfl) rfl
theorem q0_19 : Cond.selects RX5 yX5_readsMoor yX5_readsMoor ∈ kBIG := kT0 (List.mem_of_getElem? (i := 19) rfl) rfl
theorem q0_20 : Cond.selects RX5 yX5_codeAt yX5_codeAt ∈ kBIG := kT0 (List.mem_of_getElem? (i := 20) rfl) rfl
theorem q0_21 : Cond.selects RX5 yX5_figure yX5_figure ∈ kBIG := kT0 (List.mem_of_getElem? (i := 21) rfl) rfl
theorem q0_22 : Cond.selects RX5 yX5_readsPerson yX5_readsPerson ∈ kBIG := kT0 (List.mem_of_getElem? (i := 22) rfl) rfl
theorem q0_23 : Cond.selects RX5 yX5_noPerson yX5_noPerson ∈ kBIG := kT0 (List.mem_of_getElem? (i := 23) rfl) rfl
theorem q0_24 : Cond.selects RX5 yX5_scentOf yX5_scentOf ∈ kBIG := kT0 (List.mem_of_getElem? (i := 24) rfl) rfl
theorem q0_25 : Cond.selects RX5 yX5_isSmelt yX5_isSmelt ∈ kBIG := kT0 (List.mem_of_getElem? (i := 25) rfl) rfl
theorem q0_26 : Cond.selects RX5 yX5_wayTo yX5_wayTo ∈ kBIG := kT0 (List.mem_of_getElem? (i := 26) rfl) rfl
theorem q0_27 : Cond.selects RX5 yX5_goesTo yX5_goesTo ∈ kBIG := kT0 (List.mem_of_getElem? (i := 27) rfl) rfl
theorem q0_28 : Cond.selects RX5 yX5_sent yX5_sent ∈ kBIG := kT0 (List.mem_of_getElem? (i := 28) rfl) rfl
theorem q0_29 : Cond.selects RX5 yX5_pairsBarred yX5_pairsBarred ∈ kBIG := kT0 (List.mem_of_getElem? (i := 29) rfl) rfl
theorem q0_30 : Cond.selects RX5 yX5_keepAll yX5_keepAll ∈ kBIG := kT0 (List.mem_of_getElem? (i := 30) rfl) rfl
theorem q0_31 : Cond.selects RX5 yX5_roundBy yX5_roundBy ∈ kBIG := kT0 (List.mem_of_getElem? (i := 31) rfl) rfl
theorem q0_32 : Cond.selects RX5 yX5_bringBack yX5_bringBack ∈ kBIG := kT0 (List.mem_of_getElem? (i := 32) rfl) rfl
theorem q0_33 : Cond.selects RX5 yX5_comeNow yX5_comeNow ∈ kBIG := kT0 (List.mem_of_getElem? (i := 33) rfl) rfl
theorem q0_34 : Cond.selects RX5 yX5_bestOrder yX5_bestOrder ∈ kBIG := kT0 (List.mem_of_getElem? (i := 34) rfl) rfl
theorem q0_35 : Cond.selects RX5 yX5_comeInOrder yX5_comeInOrder ∈ kBIG := kT0 (List.mem_of_getElem? (i := 35) rfl) rfl
theorem q0_36 : Cond.selects RX5 yX5_nextOrder yX5_nextOrder ∈ kBIG := kT0 (List.mem_of_getElem? (i := 36) rfl) rfl
theorem q0_37 : Cond.selects RX5 yX5_exchange yX5_exchange ∈ kBIG := kT0 (List.mem_of_getElem? (i := 37) rfl) rfl
theorem q0_38 : Cond.selects RX5 yX5_spreads yX5_spreads ∈ kBIG := kT0 (List.mem_of_getElem? (i := 38) rfl) rfl
theorem q0_39 : Cond.selects RX5 yX5_asMet yX5_asMet ∈ kBIG := kT0 (List.mem_of_getElem? (i := 39) rfl) rfl
theorem q0_40 : Cond.selects RX5 yX5_areSo yX5_areSo ∈ kBIG := kT0 (List.mem_of_getElem? (i := 40) rfl) rfl
theorem q0_41 : Cond.selects RX5 yX5_noCell yX5_noCell ∈ kBIG := kT0 (List.mem_of_getElem? (i := 41) rfl) rfl
theorem q0_42 : Cond.selects RX5 yX5_failedLong yX5_failedLong ∈ kBIG := kT0 (List.mem_of_getElem? (i := 42) rfl) rfl
theorem q0_43 : Cond.selects RX5 yX5_traced yX5_traced ∈ kBIG := kT0 (List.mem_of_getElem? (i := 43) rfl) rfl
theorem q1_0 : Cond.initialized RL ∈ kBIG := kT1 (List.mem_of_getElem? (i := 0) rfl) rfl
theorem q1_1 : Cond.initialized RX4 ∈ kBIG := kT1 (List.mem_of_getElem? (i := 1) rfl) rfl
theorem q1_2 : Cond.initialized RX0 ∈ kBIG := kT1 (List.mem_of_getElem? (i := 2) rfl) rfl
theorem q1_3 : Cond.initialized RX1 ∈ kBIG := kT1 (List.mem_of_getElem? (i := 3) rfl) rfl
theorem q1_4 : Cond.initialized RX2 ∈ kBIG := kT1 (List.mem_of_getElem? (i := 4) rfl) rfl
theorem q1_5 : Cond.initialized RX5 ∈ kBIG := kT1 (List.mem_of_getElem? (i := 5) rfl) rfl
theorem q1_6 : Cond.initialized RX3 ∈ kBIG := kT1 (List.mem_of_getElem? (i := 6) rfl) rfl
theorem q1_7 : Cond.initialized RJ6 ∈ kBIG := kT1 (List.mem_of_getElem? (i := 7) rfl) rfl
theorem q1_8 : Cond.initialized RJ9 ∈ kBIG := kT1 (List.mem_of_getElem? (i := 8) rfl) rfl
theorem q1_9 : Cond.initialized RJ10 ∈ kBIG := kT1 (List.mem_of_getElem? (i := 9) rfl) rfl
theorem q1_10 : Cond.classLink RL 7 "NosePost" ∈ kBIG := kT1 (List.mem_of_getElem? (i := 10) rfl) rfl
theorem q1_11 : Cond.instantiable RX4 13 ∈ kBIG := kT1 (List.mem_of_getElem? (i := 11) rfl) rfl
theorem q1_12 : Cond.methodLink RL 9 yX4_init ∈ kBIG := kT1 (List.mem_of_getElem? (i := 12) rfl) rfl
theorem q1_13 : Cond.instanceMethod yX4_init ∈ kBIG := kT1 (List.mem_of_getElem? (i := 13) rfl) rfl
theorem q1_14 : Cond.code yX4_init cX4_init 2 none ∈ kBIG := kT1 (List.mem_of_getElem? (i := 14) rfl) rfl
theorem q1_15 : Cond.methodLink RX4 3 ⟨"java/lang/Object", "<init>", "()V"⟩ ∈ kBIG := kT1 (List.mem_of_getElem? (i := 15) rfl) rfl
theorem q1_16 : Cond.instanceMethod ⟨"java/lang/Object", "<init>", "()V"⟩ ∈ kBIG := kT1 (List.mem_of_getElem? (i := 16) rfl) rfl
theorem q1_17 : Cond.code ⟨"java/lang/Object", "<init>", "()V"⟩ object_method_1_code 1 none ∈ kBIG := kT1 (List.mem_of_getElem? (i := 17) rfl) rfl
theorem q1_18 : Cond.classLink RX4 9 "NosePost$Moor" ∈ kBIG := kT1 (List.mem_of_getElem? (i := 18) rfl) rfl
theorem q1_19 : Cond.instantiable RX0 7 ∈ kBIG := kT1 (List.mem_of_getElem? (i := 19) rfl) rfl
theorem q1_20 : Cond.methodLink RX4 11 yX0_init ∈ kBIG := kT1 (List.mem_of_getElem? (i := 20) rfl) rfl
theorem q1_21 : Cond.instanceMethod yX0_init ∈ kBIG := kT1 (List.mem_of_getElem? (i := 21) rfl) rfl
theorem q1_22 : Cond.code yX0_init cX0_init 1 none ∈ kBIG := kT1 (List.mem_of_getElem? (i := 22) rfl) rfl
theorem q1_23 : Cond.methodLink RX0 3 ⟨"java/lang/Object", "<init>", "()V"⟩ ∈ kBIG := kT1 (List.mem_of_getElem? (i := 23) rfl) rfl
theorem q1_24 : Cond.fieldLink RX0 24 "NosePost$Moor" "post" "I" ∈ kBIG := kT1 (List.mem_of_getElem? (i := 24) rfl) rfl
theorem q1_25 : Cond.fieldLink RX4 123 "NosePost$Moor" "post" "I" ∈ kBIG := kT1 (List.mem_of_getElem? (i := 25) rfl) rfl
theorem q1_26 : Cond.fieldLink RX3 21 "NosePost$Moor" "post" "I" ∈ kBIG := kT1 (List.mem_of_getElem? (i := 26) rfl) rfl
theorem q1_27 : Cond.fieldLink RX0 28 "NosePost$Moor" "lax" "I" ∈ kBIG := kT1 (List.mem_of_getElem? (i := 27) rfl) rfl
theorem q1_28 : Cond.fieldLink RX3 27 "NosePost$Moor" "lax" "I" ∈ kBIG := kT1 (List.mem_of_getElem? (i := 28) rfl) rfl
theorem q1_29 : Cond.fieldLink RX4 126 "NosePost$Moor" "lax" "I" ∈ kBIG := kT1 (List.mem_of_getElem? (i := 29) rfl) rfl
theorem q1_30 : Cond.fieldLink RX0 31 "NosePost$Moor" "people" "I" ∈ kBIG := kT1 (List.mem_of_getElem? (i := 30) rfl) rfl
theorem q1_31 : Cond.fieldLink RX4 92 "NosePost$Moor" "people" "I" ∈ kBIG := kT1 (List.mem_of_getElem? (i := 31) rfl) rfl
theorem q1_32 : Cond.fieldLink RX3 30 "NosePost$Moor" "people" "I" ∈ kBIG := kT1 (List.mem_of_getElem? (i := 32) rfl) rfl
theorem q1_33 : Cond.fieldLink RX0 9 "NosePost$Moor" "kind" "[I" ∈ kBIG := kT1 (List.mem_of_getElem? (i := 33) rfl) rfl
theorem q1_34 : Cond.fieldLink RX4 98 "NosePost$Moor" "kind" "[I" ∈ kBIG := kT1 (List.mem_of_getElem? (i := 34) rfl) rfl
theorem q1_35 : Cond.fieldLink RX3 33 "NosePost$Moor" "kind" "[I" ∈ kBIG := kT1 (List.mem_of_getElem? (i := 35) rfl) rfl
theorem q1_36 : Cond.fieldLink RX0 15 "NosePost$Moor" "smell" "[I" ∈ kBIG := kT1 (List.mem_of_getElem? (i := 36) rfl) rfl
theorem q1_37 : Cond.fieldLink RX4 101 "NosePost$Moor" "smell" "[I" ∈ kBIG := kT1 (List.mem_of_getElem? (i := 37) rfl) rfl
theorem q1_38 : Cond.fieldLink RX3 41 "NosePost$Moor" "smell" "[I" ∈ kBIG := kT1 (List.mem_of_getElem? (i := 38) rfl) rfl
theorem q1_39 : Cond.fieldLink RX0 18 "NosePost$Moor" "was" "[I" ∈ kBIG := kT1 (List.mem_of_getElem? (i := 39) rfl) rfl
theorem q1_40 : Cond.fieldLink RX4 104 "NosePost$Moor" "was" "[I" ∈ kBIG := kT1 (List.mem_of_getElem? (i := 40) rfl) rfl
theorem q1_41 : Cond.fieldLink RX3 44 "NosePost$Moor" "was" "[I" ∈ kBIG := kT1 (List.mem_of_getElem? (i := 41) rfl) rfl
theorem q1_42 : Cond.fieldLink RX0 21 "NosePost$Moor" "place" "[I" ∈ kBIG := kT1 (List.mem_of_getElem? (i := 42) rfl) rfl
theorem q1_43 : Cond.fieldLink RX4 107 "NosePost$Moor" "place" "[I" ∈ kBIG := kT1 (List.mem_of_getElem? (i := 43) rfl) rfl
theorem q1_44 : Cond.fieldLink RX3 47 "NosePost$Moor" "place" "[I" ∈ kBIG := kT1 (List.mem_of_getElem? (i := 44) rfl) rfl
theorem q1_45 : Cond.lays RX0 "NosePost$Moor" "post" "I" ∈ kBIG := kT1 (List.mem_of_getElem? (i := 45) rfl) rfl
theorem q1_47 : Cond.lays RX0 "NosePost$Moor" "lax" "I" ∈ kBIG := kT1 (List.mem_of_getElem? (i := 47) rfl) rfl
theorem q1_49 : Cond.lays RX0 "NosePost$Moor" "people" "I" ∈ kBIG := kT1 (List.mem_of_getElem? (i := 49) rfl) rfl
theorem q1_51 : Cond.laysFinal RX0 "NosePost$Moor" "kind" "[I" ∈ kBIG := kT1 (List.mem_of_getElem? (i := 51) rfl) rfl
theorem q1_53 : Cond.laysFinal RX0 "NosePost$Moor" "smell" "[I" ∈ kBIG := kT1 (List.mem_of_getElem? (i := 53) rfl) rfl
theorem q1_55 : Cond.laysFinal RX0 "NosePost$Moor" "was" "[I" ∈ kBIG := kT1 (List.mem_of_getElem? (i := 55) rfl) rfl
theorem q1_57 : Cond.laysFinal RX0 "NosePost$Moor" "place" "[I" ∈ kBIG := kT1 (List.mem_of_getElem? (i := 57) rfl) rfl
theorem q1_60 : Cond.arrayClass .int ∈ kBIG := kT1 (List.mem_of_getElem? (i := 60) rfl) rfl
theorem q1_61 : Cond.classLink RX4 21 "NosePost$Sheet" ∈ kBIG := kT1 (List.mem_of_getElem? (i := 61) rfl) rfl
theorem q1_63 : Cond.instantiable RX1 4 ∈ kBIG := kT1 (List.mem_of_getElem? (i := 63) rfl) rfl
theorem q1_64 : Cond.methodLink RX4 27 yX1_init ∈ kBIG := kT1 (List.mem_of_getElem? (i := 64) rfl) rfl
theorem q1_65 : Cond.instanceMethod yX1_init ∈ kBIG := kT1 (List.mem_of_getElem? (i := 65) rfl) rfl
theorem q1_66 : Cond.code yX1_init cX1_init 1 none ∈ kBIG := kT1 (List.mem_of_getElem? (i := 66) rfl) rfl
theorem q1_67 : Cond.methodLink RX1 3 ⟨"java/lang/Object", "<init>", "()V"⟩ ∈ kBIG := kT1 (List.mem_of_getElem? (i := 67) rfl) rfl
theorem q1_68 : Cond.fieldLink RX1 15 "NosePost$Sheet" "hasRow" "Z" ∈ kBIG := kT1 (List.mem_of_getElem? (i := 68) rfl) rfl
theorem q1_69 : Cond.fieldLink RX4 183 "NosePost$Sheet" "hasRow" "Z" ∈ kBIG := kT1 (List.mem_of_getElem? (i := 69) rfl) rfl
theorem q1_70 : Cond.fieldLink RX1 19 "NosePost$Sheet" "lane" "I" ∈ kBIG := kT1 (List.mem_of_getElem? (i := 70) rfl) rfl
theorem q1_71 : Cond.fieldLink RX4 193 "NosePost$Sheet" "lane" "I" ∈ kBIG := kT1 (List.mem_of_getElem? (i := 71) rfl) rfl
theorem q1_72 : Cond.fieldLink RX1 23 "NosePost$Sheet" "length" "I" ∈ kBIG := kT1 (List.mem_of_getElem? (i := 72) rfl) rfl
theorem q1_73 : Cond.fieldLink RX1 9 "NosePost$Sheet" "cells" "[I" ∈ kBIG := kT1 (List.mem_of_getElem? (i := 73) rfl) rfl
theorem q1_74 : Cond.fieldLink RX4 73 "NosePost$Sheet" "cells" "[I" ∈ kBIG := kT1 (List.mem_of_getElem? (i := 74) rfl) rfl
theorem q1_75 : Cond.lays RX1 "NosePost$Sheet" "hasRow" "Z" ∈ kBIG := kT1 (List.mem_of_getElem? (i := 75) rfl) rfl
theorem q1_77 : Cond.lays RX1 "NosePost$Sheet" "lane" "I" ∈ kBIG := kT1 (List.mem_of_getElem? (i := 77) rfl) rfl
theorem q1_79 : Cond.lays RX1 "NosePost$Sheet" "length" "I" ∈ kBIG := kT1 (List.mem_of_getElem? (i := 79) rfl) rfl
theorem q1_81 : Cond.laysFinal RX1 "NosePost$Sheet" "cells" "[I" ∈ kBIG := kT1 (List.mem_of_getElem? (i := 81) rfl) rfl
theorem q1_84 : Cond.classLink RX4 28 "NosePost$Tally" ∈ kBIG := kT1 (List.mem_of_getElem? (i := 84) rfl) rfl
theorem q1_85 : Cond.instantiable RX2 4 ∈ kBIG := kT1 (List.mem_of_getElem? (i := 85) rfl) rfl
theorem q1_87 : Cond.instanceMethod yX2_init ∈ kBIG := kT1 (List.mem_of_getElem? (i := 87) rfl) rfl
theorem q1_88 : Cond.code yX2_init cX2_init 1 none ∈ kBIG := kT1 (List.mem_of_getElem? (i := 88) rfl) rfl
theorem q1_89 : Cond.methodLink RX2 3 ⟨"java/lang/Object", "<init>", "()V"⟩ ∈ kBIG := kT1 (List.mem_of_getElem? (i := 89) rfl) rfl
theorem q1_90 : Cond.fieldLink RX2 9 "NosePost$Tally" "came" "I" ∈ kBIG := kT1 (List.mem_of_getElem? (i := 90) rfl) rfl
theorem q1_91 : Cond.fieldLink RX4 225 "NosePost$Tally" "came" "I" ∈ kBIG := kT1 (List.mem_of_getElem? (i := 91) rfl) rfl
theorem q1_92 : Cond.fieldLink RX2 15 "NosePost$Tally" "firstWrong" "I" ∈ kBIG := kT1 (List.mem_of_getElem? (i := 92) rfl) rfl
theorem q1_93 : Cond.fieldLink RX4 228 "NosePost$Tally" "firstWrong" "I" ∈ kBIG := kT1 (List.mem_of_getElem? (i := 93) rfl) rfl
theorem q1_94 : Cond.fieldLink RX2 18 "NosePost$Tally" "getters" "I" ∈ kBIG := kT1 (List.mem_of_getElem? (i := 94) rfl) rfl
theorem q1_95 : Cond.fieldLink RX4 231 "NosePost$Tally" "getters" "I" ∈ kBIG := kT1 (List.mem_of_getElem? (i := 95) rfl) rfl
theorem q1_96 : Cond.fieldLink RX2 21 "NosePost$Tally" "home" "I" ∈ kBIG := kT1 (List.mem_of_getElem? (i := 96) rfl) rfl
theorem q1_97 : Cond.fieldLink RX4 234 "NosePost$Tally" "home" "I" ∈ kBIG := kT1 (List.mem_of_getElem? (i := 97) rfl) rfl
theorem q1_98 : Cond.lays RX2 "NosePost$Tally" "came" "I" ∈ kBIG := kT1 (List.mem_of_getElem? (i := 98) rfl) rfl
theorem q1_100 : Cond.lays RX2 "NosePost$Tally" "firstWrong" "I" ∈ kBIG := kT1 (List.mem_of_getElem? (i := 100) rfl) rfl
theorem q1_102 : Cond.lays RX2 "NosePost$Tally" "getters" "I" ∈ kBIG := kT1 (List.mem_of_getElem? (i := 102) rfl) rfl
theorem q1_104 : Cond.lays RX2 "NosePost$Tally" "home" "I" ∈ kBIG := kT1 (List.mem_of_getElem? (i := 104) rfl) rfl
theorem q1_107 : Cond.fieldLink RX4 12 "NosePost" "now" "LNosePost$Moor;" ∈ kBIG := kT1 (List.mem_of_getElem? (i := 107) rfl) rfl
theorem q1_108 : Cond.fieldLink RX4 18 "NosePost" "draft" "LNosePost$Moor;" ∈ kBIG := kT1 (List.mem_of_getElem? (i := 108) rfl) rfl
theorem q1_109 : Cond.fieldLink RX4 23 "NosePost" "sheets" "[LNosePost$Sheet;" ∈ kBIG := kT1 (List.mem_of_getElem? (i := 109) rfl) rfl
theorem q1_110 : Cond.fieldLink RX4 31 "NosePost" "tally" "LNosePost$Tally;" ∈ kBIG := kT1 (List.mem_of_getElem? (i := 110) rfl) rfl
theorem q1_111 : Cond.fieldLink RX4 35 "NosePost" "readingFor" "[I" ∈ kBIG := kT1 (List.mem_of_getElem? (i := 111) rfl) rfl
theorem q1_112 : Cond.fieldLink RX4 39 "NosePost" "readingTo" "[I" ∈ kBIG := kT1 (List.mem_of_getElem? (i := 112) rfl) rfl
theorem q1_113 : Cond.fieldLink RX4 42 "NosePost" "goesAtFirst" "[I" ∈ kBIG := kT1 (List.mem_of_getElem? (i := 113) rfl) rfl
theorem q1_114 : Cond.fieldLink RX4 45 "NosePost" "tried" "[I" ∈ kBIG := kT1 (List.mem_of_getElem? (i := 114) rfl) rfl
theorem q1_115 : Cond.fieldLink RX4 48 "NosePost" "best" "[I" ∈ kBIG := kT1 (List.mem_of_getElem? (i := 115) rfl) rfl
theorem q1_116 : Cond.fieldLink RX4 86 "NosePost" "readings" "I" ∈ kBIG := kT1 (List.mem_of_getElem? (i := 116) rfl) rfl
theorem q1_117 : Cond.fieldLink RX4 89 "NosePost" "letters" "I" ∈ kBIG := kT1 (List.mem_of_getElem? (i := 117) rfl) rfl
theorem q1_118 : Cond.fieldLink RX4 215 "NosePost" "traced" "I" ∈ kBIG := kT1 (List.mem_of_getElem? (i := 118) rfl) rfl
theorem q1_119 : Cond.fieldLink RX4 51 "NosePost" "lastFault" "I" ∈ kBIG := kT1 (List.mem_of_getElem? (i := 119) rfl) rfl
theorem q1_120 : Cond.laysFinal RX4 "NosePost" "now" "LNosePost$Moor;" ∈ kBIG := kT1 (List.mem_of_getElem? (i := 120) rfl) rfl
theorem q1_122 : Cond.laysFinal RX4 "NosePost" "draft" "LNosePost$Moor;" ∈ kBIG := kT1 (List.mem_of_getElem? (i := 122) rfl) rfl
theorem q1_124 : Cond.laysFinal RX4 "NosePost" "sheets" "[LNosePost$Sheet;" ∈ kBIG := kT1 (List.mem_of_getElem? (i := 124) rfl) rfl
theorem q1_126 : Cond.laysFinal RX4 "NosePost" "tally" "LNosePost$Tally;" ∈ kBIG := kT1 (List.mem_of_getElem? (i := 126) rfl) rfl
theorem q1_128 : Cond.laysFinal RX4 "NosePost" "readingFor" "[I" ∈ kBIG := kT1 (List.mem_of_getElem? (i := 128) rfl) rfl
theorem q1_130 : Cond.laysFinal RX4 "NosePost" "readingTo" "[I" ∈ kBIG := kT1 (List.mem_of_getElem? (i := 130) rfl) rfl
theorem q1_132 : Cond.laysFinal RX4 "NosePost" "goesAtFirst" "[I" ∈ kBIG := kT1 (List.mem_of_getElem? (i := 132) rfl) rfl
theorem q1_134 : Cond.laysFinal RX4 "NosePost" "tried" "[I" ∈ kBIG := kT1 (List.mem_of_getElem? (i := 134) rfl) rfl
theorem q1_136 : Cond.laysFinal RX4 "NosePost" "best" "[I" ∈ kBIG := kT1 (List.mem_of_getElem? (i := 136) rfl) rfl
theorem q1_138 : Cond.lays RX4 "NosePost" "readings" "I" ∈ kBIG := kT1 (List.mem_of_getElem? (i := 138) rfl) rfl
theorem q1_140 : Cond.lays RX4 "NosePost" "letters" "I" ∈ kBIG := kT1 (List.mem_of_getElem? (i := 140) rfl) rfl
theorem q1_142 : Cond.lays RX4 "NosePost" "traced" "I" ∈ kBIG := kT1 (List.mem_of_getElem? (i := 142) rfl) rfl
theorem q1_144 : Cond.lays RX4 "NosePost" "lastFault" "I" ∈ kBIG := kT1 (List.mem_of_getElem? (i := 144) rfl) rfl
theorem q1_147 : Cond.methodLink RL 13 yX4_moor ∈ kBIG := kT1 (List.mem_of_getElem? (i := 147) rfl) rfl
theorem q1_148 : Cond.instanceMethod yX4_moor ∈ kBIG := kT1 (List.mem_of_getElem? (i := 148) rfl) rfl
theorem q1_149 : Cond.selects RX4 yX4_moor yX4_moor ∈ kBIG := kT1 (List.mem_of_getElem? (i := 149) rfl) rfl
theorem q1_150 : Cond.code yX4_moor cX4_moor 8 (some .int) ∈ kBIG := kT1 (List.mem_of_getElem? (i := 150) rfl) rfl
theorem q1_151 : Cond.methodLink RX4 55 yX4_isSheet ∈ kBIG := kT1 (List.mem_of_getElem? (i := 151) rfl) rfl
theorem q1_152 : Cond.static yX4_isSheet ∈ kBIG := kT1 (List.mem_of_getElem? (i := 152) rfl) rfl
theorem q1_153 : Cond.code yX4_isSheet cX4_isSheet 1 (some .boolean) ∈ kBIG := kT1 (List.mem_of_getElem? (i := 153) rfl) rfl
theorem q1_154 : Cond.methodLink RX4 59 yX4_isBelow ∈ kBIG := kT1 (List.mem_of_getElem? (i := 154) rfl) rfl
theorem q1_155 : Cond.static yX4_isBelow ∈ kBIG := kT1 (List.mem_of_getElem? (i := 155) rfl) rfl
theorem q1_156 : Cond.code yX4_isBelow cX4_isBelow 2 (some .boolean) ∈ kBIG := kT1 (List.mem_of_getElem? (i := 156) rfl) rfl
theorem q1_157 : Cond.methodLink RX4 63 yX1_faultAs ∈ kBIG := kT1 (List.mem_of_getElem? (i := 157) rfl) rfl
theorem q1_158 : Cond.instanceMethod yX1_faultAs ∈ kBIG := kT1 (List.mem_of_getElem? (i := 158) rfl) rfl
theorem q1_159 : Cond.selects RX1 yX1_faultAs yX1_faultAs ∈ kBIG := kT1 (List.mem_of_getElem? (i := 159) rfl) rfl
theorem q1_160 : Cond.code yX1_faultAs cX1_faultAs 2 (some .int) ∈ kBIG := kT1 (List.mem_of_getElem? (i := 160) rfl) rfl
theorem q1_161 : Cond.methodLink RX4 67 yX1_spans ∈ kBIG := kT1 (List.mem_of_getElem? (i := 161) rfl) rfl
theorem q1_162 : Cond.instanceMethod yX1_spans ∈ kBIG := kT1 (List.mem_of_getElem? (i := 162) rfl) rfl
theorem q1_163 : Cond.selects RX1 yX1_spans yX1_spans ∈ kBIG := kT1 (List.mem_of_getElem? (i := 163) rfl) rfl
theorem q1_164 : Cond.code yX1_spans cX1_spans 3 (some .boolean) ∈ kBIG := kT1 (List.mem_of_getElem? (i := 164) rfl) rfl
theorem q1_165 : Cond.methodLink RX4 70 yX4_faulted ∈ kBIG := kT1 (List.mem_of_getElem? (i := 165) rfl) rfl
theorem q1_167 : Cond.instanceMethod yX4_faulted ∈ kBIG := kT1 (List.mem_of_getElem? (i := 167) rfl) rfl
theorem q1_168 : Cond.code yX4_faulted cX4_faulted 2 (some .int) ∈ kBIG := kT1 (List.mem_of_getElem? (i := 168) rfl) rfl
theorem q1_169 : Cond.methodLink RX4 76 yX3_firstFault ∈ kBIG := kT1 (List.mem_of_getElem? (i := 169) rfl) rfl
theorem q1_170 : Cond.static yX3_firstFault ∈ kBIG := kT1 (List.mem_of_getElem? (i := 170) rfl) rfl
theorem q1_171 : Cond.code yX3_firstFault cX3_firstFault 4 (some .int) ∈ kBIG := kT1 (List.mem_of_getElem? (i := 171) rfl) rfl
theorem q1_172 : Cond.methodLink RX3 11 yX3_goesOnWith ∈ kBIG := kT1 (List.mem_of_getElem? (i := 172) rfl) rfl
theorem q1_173 : Cond.static yX3_goesOnWith ∈ kBIG := kT1 (List.mem_of_getElem? (i := 173) rfl) rfl
theorem q1_174 : Cond.code yX3_goesOnWith cX3_goesOnWith 2 (some .boolean) ∈ kBIG := kT1 (List.mem_of_getElem? (i := 174) rfl) rfl
theorem q1_175 : Cond.methodLink RX3 15 yX3_isDigitBelow ∈ kBIG := kT1 (List.mem_of_getElem? (i := 175) rfl) rfl
theorem q1_176 : Cond.static yX3_isDigitBelow ∈ kBIG := kT1 (List.mem_of_getElem? (i := 176) rfl) rfl
theorem q1_177 : Cond.code yX3_isDigitBelow cX3_isDigitBelow 2 (some .boolean) ∈ kBIG := kT1 (List.mem_of_getElem? (i := 177) rfl) rfl
theorem q1_179 : Cond.methodLink RX4 82 yX3_fill ∈ kBIG := kT1 (List.mem_of_getElem? (i := 179) rfl) rfl
theorem q1_180 : Cond.static yX3_fill ∈ kBIG := kT1 (List.mem_of_getElem? (i := 180) rfl) rfl
theorem q1_181 : Cond.code yX3_fill cX3_fill 6 none ∈ kBIG := kT1 (List.mem_of_getElem? (i := 181) rfl) rfl
theorem q1_182 : Cond.methodLink RX3 37 yX3_kindOf ∈ kBIG := kT1 (List.mem_of_getElem? (i := 182) rfl) rfl
theorem q1_183 : Cond.static yX3_kindOf ∈ kBIG := kT1 (List.mem_of_getElem? (i := 183) rfl) rfl
theorem q1_184 : Cond.code yX3_kindOf cX3_kindOf 1 (some .int) ∈ kBIG := kT1 (List.mem_of_getElem? (i := 184) rfl) rfl
theorem q1_185 : Cond.methodLink RL 18 yX4_ofPerson ∈ kBIG := kT1 (List.mem_of_getElem? (i := 185) rfl) rfl
theorem q1_186 : Cond.instanceMethod yX4_ofPerson ∈ kBIG := kT1 (List.mem_of_getElem? (i := 186) rfl) rfl
theorem q1_187 : Cond.selects RX4 yX4_ofPerson yX4_ofPerson ∈ kBIG := kT1 (List.mem_of_getElem? (i := 187) rfl) rfl
theorem q1_188 : Cond.code yX4_ofPerson cX4_ofPerson 3 (some .int) ∈ kBIG := kT1 (List.mem_of_getElem? (i := 188) rfl) rfl
theorem q1_189 : Cond.methodLink RX4 95 yX4_isPerson ∈ kBIG := kT1 (List.mem_of_getElem? (i := 189) rfl) rfl
theorem q1_191 : Cond.instanceMethod yX4_isPerson ∈ kBIG := kT1 (List.mem_of_getElem? (i := 191) rfl) rfl
theorem q1_192 : Cond.code yX4_isPerson cX4_isPerson 2 (some .boolean) ∈ kBIG := kT1 (List.mem_of_getElem? (i := 192) rfl) rfl
theorem q1_193 : Cond.methodLink RX4 110 yX0_scentOf ∈ kBIG := kT1 (List.mem_of_getElem? (i := 193) rfl) rfl
theorem q1_194 : Cond.instanceMethod yX0_scentOf ∈ kBIG := kT1 (List.mem_of_getElem? (i := 194) rfl) rfl
theorem q1_195 : Cond.selects RX0 yX0_scentOf yX0_scentOf ∈ kBIG := kT1 (List.mem_of_getElem? (i := 195) rfl) rfl
theorem q1_196 : Cond.code yX0_scentOf cX0_scentOf 3 (some .int) ∈ kBIG := kT1 (List.mem_of_getElem? (i := 196) rfl) rfl
theorem q1_197 : Cond.methodLink RX0 40 yJ6_bitCount_0f7a4 ∈ kBIG := kT1 (List.mem_of_getElem? (i := 197) rfl) rfl
theorem q1_198 : Cond.static yJ6_bitCount_0f7a4 ∈ kBIG := kT1 (List.mem_of_getElem? (i := 198) rfl) rfl
theorem q1_199 : Cond.code yJ6_bitCount_0f7a4 cJ6_bitCount_0f7a4 1 (some .int) ∈ kBIG := kT1 (List.mem_of_getElem? (i := 199) rfl) rfl
theorem q1_200 : Cond.constant RJ6 265 (1431655765) ∈ kBIG := kT1 (List.mem_of_getElem? (i := 200) rfl) rfl
theorem q1_201 : Cond.constant RJ6 266 (858993459) ∈ kBIG := kT1 (List.mem_of_getElem? (i := 201) rfl) rfl
theorem q1_202 : Cond.constant RJ6 267 (252645135) ∈ kBIG := kT1 (List.mem_of_getElem? (i := 202) rfl) rfl
theorem q1_203 : Cond.methodLink RX4 113 yX0_isSmelt ∈ kBIG := kT1 (List.mem_of_getElem? (i := 203) rfl) rfl
theorem q1_204 : Cond.instanceMethod yX0_isSmelt ∈ kBIG := kT1 (List.mem_of_getElem? (i := 204) rfl) rfl
theorem q1_205 : Cond.selects RX0 yX0_isSmelt yX0_isSmelt ∈ kBIG := kT1 (List.mem_of_getElem? (i := 205) rfl) rfl
theorem q1_206 : Cond.code yX0_isSmelt cX0_isSmelt 2 (some .boolean) ∈ kBIG := kT1 (List.mem_of_getElem? (i := 206) rfl) rfl
theorem q1_207 : Cond.methodLink RX0 51 yX0_distanceOf ∈ kBIG := kT1 (List.mem_of_getElem? (i := 207) rfl) rfl
theorem q1_208 : Cond.instanceMethod yX0_distanceOf ∈ kBIG := kT1 (List.mem_of_getElem? (i := 208) rfl) rfl
theorem q1_209 : Cond.selects RX0 yX0_distanceOf yX0_distanceOf ∈ kBIG := kT1 (List.mem_of_getElem? (i := 209) rfl) rfl
theorem q1_210 : Cond.code yX0_distanceOf cX0_distanceOf 2 (some .int) ∈ kBIG := kT1 (List.mem_of_getElem? (i := 210) rfl) rfl
theorem q1_211 : Cond.methodLink RX0 46 yJ9_abs_0f7a4 ∈ kBIG := kT1 (List.mem_of_getElem? (i := 211) rfl) rfl
theorem q1_212 : Cond.static yJ9_abs_0f7a4 ∈ kBIG := kT1 (List.mem_of_getElem? (i := 212) rfl) rfl
theorem q1_213 : Cond.code yJ9_abs_0f7a4 cJ9_abs_0f7a4 1 (some .int) ∈ kBIG := kT1 (List.mem_of_getElem? (i := 213) rfl) rfl
theorem q1_214 : Cond.methodLink RX0 54 yX0_scentOf ∈ kBIG := kT1 (List.mem_of_getElem? (i := 214) rfl) rfl
theorem q1_215 : Cond.methodLink RX4 116 yX0_goesTo ∈ kBIG := kT1 (List.mem_of_getElem? (i := 215) rfl) rfl
theorem q1_216 : Cond.instanceMethod yX0_goesTo ∈ kBIG := kT1 (List.mem_of_getElem? (i := 216) rfl) rfl
theorem q1_217 : Cond.selects RX0 yX0_goesTo yX0_goesTo ∈ kBIG := kT1 (List.mem_of_getElem? (i := 217) rfl) rfl
theorem q1_218 : Cond.code yX0_goesTo cX0_goesTo 8 (some .int) ∈ kBIG := kT1 (List.mem_of_getElem? (i := 218) rfl) rfl
theorem q1_219 : Cond.methodLink RL 23 yX4_post ∈ kBIG := kT1 (List.mem_of_getElem? (i := 219) rfl) rfl
theorem q1_220 : Cond.instanceMethod yX4_post ∈ kBIG := kT1 (List.mem_of_getElem? (i := 220) rfl) rfl
theorem q1_221 : Cond.selects RX4 yX4_post yX4_post ∈ kBIG := kT1 (List.mem_of_getElem? (i := 221) rfl) rfl
theorem q1_222 : Cond.code yX4_post cX4_post 3 (some .int) ∈ kBIG := kT1 (List.mem_of_getElem? (i := 222) rfl) rfl
theorem q1_223 : Cond.methodLink RX4 119 yX4_hasNoMoor ∈ kBIG := kT1 (List.mem_of_getElem? (i := 223) rfl) rfl
theorem q1_225 : Cond.instanceMethod yX4_hasNoMoor ∈ kBIG := kT1 (List.mem_of_getElem? (i := 225) rfl) rfl
theorem q1_226 : Cond.code yX4_hasNoMoor cX4_hasNoMoor 1 (some .boolean) ∈ kBIG := kT1 (List.mem_of_getElem? (i := 226) rfl) rfl
theorem q1_227 : Cond.methodLink RL 28 yX4_lax ∈ kBIG := kT1 (List.mem_of_getElem? (i := 227) rfl) rfl
theorem q1_228 : Cond.instanceMethod yX4_lax ∈ kBIG := kT1 (List.mem_of_getElem? (i := 228) rfl) rfl
theorem q1_229 : Cond.selects RX4 yX4_lax yX4_lax ∈ kBIG := kT1 (List.mem_of_getElem? (i := 229) rfl) rfl
theorem q1_230 : Cond.code yX4_lax cX4_lax 3 (some .int) ∈ kBIG := kT1 (List.mem_of_getElem? (i := 230) rfl) rfl
theorem q1_231 : Cond.methodLink RL 32 yX4_bathe ∈ kBIG := kT1 (List.mem_of_getElem? (i := 231) rfl) rfl
theorem q1_232 : Cond.instanceMethod yX4_bathe ∈ kBIG := kT1 (List.mem_of_getElem? (i := 232) rfl) rfl
theorem q1_233 : Cond.selects RX4 yX4_bathe yX4_bathe ∈ kBIG := kT1 (List.mem_of_getElem? (i := 233) rfl) rfl
theorem q1_234 : Cond.code yX4_bathe cX4_bathe 3 (some .int) ∈ kBIG := kT1 (List.mem_of_getElem? (i := 234) rfl) rfl
theorem q1_235 : Cond.methodLink RX4 129 yX4_becomes ∈ kBIG := kT1 (List.mem_of_getElem? (i := 235) rfl) rfl
theorem q1_237 : Cond.instanceMethod yX4_becomes ∈ kBIG := kT1 (List.mem_of_getElem? (i := 237) rfl) rfl
theorem q1_238 : Cond.code yX4_becomes cX4_becomes 6 (some .int) ∈ kBIG := kT1 (List.mem_of_getElem? (i := 238) rfl) rfl
theorem q1_239 : Cond.methodLink RL 36 yX4_moves ∈ kBIG := kT1 (List.mem_of_getElem? (i := 239) rfl) rfl
theorem q2_0 : Cond.instanceMethod yX4_moves ∈ kBIG := kT2 (List.mem_of_getElem? (i := 0) rfl) rfl
theorem q2_1 : Cond.selects RX4 yX4_moves yX4_moves ∈ kBIG := kT2 (List.mem_of_getElem? (i := 1) rfl) rfl
theorem q2_2 : Cond.code yX4_moves cX4_moves 3 (some .int) ∈ kBIG := kT2 (List.mem_of_getElem? (i := 2) rfl) rfl
theorem q2_3 : Cond.methodLink RL 40 yX4_send ∈ kBIG := kT2 (List.mem_of_getElem? (i := 3) rfl) rfl
theorem q2_4 : Cond.instanceMethod yX4_send ∈ kBIG := kT2 (List.mem_of_getElem? (i := 4) rfl) rfl
theorem q2_5 : Cond.selects RX4 yX4_send yX4_send ∈ kBIG := kT2 (List.mem_of_getElem? (i := 5) rfl) rfl
theorem q2_6 : Cond.code yX4_send cX4_send 2 (some .int) ∈ kBIG := kT2 (List.mem_of_getElem? (i := 6) rfl) rfl
theorem q2_7 : Cond.methodLink RX4 133 yX0_deliver ∈ kBIG := kT2 (List.mem_of_getElem? (i := 7) rfl) rfl
theorem q2_8 : Cond.instanceMethod yX0_deliver ∈ kBIG := kT2 (List.mem_of_getElem? (i := 8) rfl) rfl
theorem q2_9 : Cond.selects RX0 yX0_deliver yX0_deliver ∈ kBIG := kT2 (List.mem_of_getElem? (i := 9) rfl) rfl
theorem q2_10 : Cond.code yX0_deliver cX0_deliver 3 (some .int) ∈ kBIG := kT2 (List.mem_of_getElem? (i := 10) rfl) rfl
theorem q2_11 : Cond.methodLink RX0 57 yX0_goesTo ∈ kBIG := kT2 (List.mem_of_getElem? (i := 11) rfl) rfl
theorem q2_12 : Cond.methodLink RL 44 yX4_comes ∈ kBIG := kT2 (List.mem_of_getElem? (i := 12) rfl) rfl
theorem q2_13 : Cond.instanceMethod yX4_comes ∈ kBIG := kT2 (List.mem_of_getElem? (i := 13) rfl) rfl
theorem q2_14 : Cond.selects RX4 yX4_comes yX4_comes ∈ kBIG := kT2 (List.mem_of_getElem? (i := 14) rfl) rfl
theorem q2_15 : Cond.code yX4_comes cX4_comes 2 (some .int) ∈ kBIG := kT2 (List.mem_of_getElem? (i := 15) rfl) rfl
theorem q2_16 : Cond.methodLink RX4 136 yX0_whoseCome ∈ kBIG := kT2 (List.mem_of_getElem? (i := 16) rfl) rfl
theorem q2_17 : Cond.instanceMethod yX0_whoseCome ∈ kBIG := kT2 (List.mem_of_getElem? (i := 17) rfl) rfl
theorem q2_18 : Cond.selects RX0 yX0_whoseCome yX0_whoseCome ∈ kBIG := kT2 (List.mem_of_getElem? (i := 18) rfl) rfl
theorem q2_19 : Cond.code yX0_whoseCome cX0_whoseCome 3 (some .int) ∈ kBIG := kT2 (List.mem_of_getElem? (i := 19) rfl) rfl
theorem q2_20 : Cond.methodLink RX4 140 yX0_whoGetOne ∈ kBIG := kT2 (List.mem_of_getElem? (i := 20) rfl) rfl
theorem q2_21 : Cond.instanceMethod yX0_whoGetOne ∈ kBIG := kT2 (List.mem_of_getElem? (i := 21) rfl) rfl
theorem q2_22 : Cond.selects RX0 yX0_whoGetOne yX0_whoGetOne ∈ kBIG := kT2 (List.mem_of_getElem? (i := 22) rfl) rfl
theorem q2_23 : Cond.code yX0_whoGetOne cX0_whoGetOne 3 (some .int) ∈ kBIG := kT2 (List.mem_of_getElem? (i := 23) rfl) rfl
theorem q2_25 : Cond.static yX4_withOne ∈ kBIG := kT2 (List.mem_of_getElem? (i := 25) rfl) rfl
theorem q2_26 : Cond.code yX4_withOne cX4_withOne 2 (some .int) ∈ kBIG := kT2 (List.mem_of_getElem? (i := 26) rfl) rfl
theorem q2_27 : Cond.methodLink RL 48 yX4_round ∈ kBIG := kT2 (List.mem_of_getElem? (i := 27) rfl) rfl
theorem q2_28 : Cond.instanceMethod yX4_round ∈ kBIG := kT2 (List.mem_of_getElem? (i := 28) rfl) rfl
theorem q2_29 : Cond.selects RX4 yX4_round yX4_round ∈ kBIG := kT2 (List.mem_of_getElem? (i := 29) rfl) rfl
theorem q2_30 : Cond.code yX4_round cX4_round 9 (some .int) ∈ kBIG := kT2 (List.mem_of_getElem? (i := 30) rfl) rfl
theorem q2_31 : Cond.methodLink RX4 143 yX4_isOfRound ∈ kBIG := kT2 (List.mem_of_getElem? (i := 31) rfl) rfl
theorem q2_32 : Cond.static yX4_isOfRound ∈ kBIG := kT2 (List.mem_of_getElem? (i := 32) rfl) rfl
theorem q2_33 : Cond.code yX4_isOfRound cX4_isOfRound 1 (some .boolean) ∈ kBIG := kT2 (List.mem_of_getElem? (i := 33) rfl) rfl
theorem q2_34 : Cond.methodLink RX4 146 yX4_refusalOfPairs ∈ kBIG := kT2 (List.mem_of_getElem? (i := 34) rfl) rfl
theorem q2_36 : Cond.instanceMethod yX4_refusalOfPairs ∈ kBIG := kT2 (List.mem_of_getElem? (i := 36) rfl) rfl
theorem q2_37 : Cond.code yX4_refusalOfPairs cX4_refusalOfPairs 6 (some .int) ∈ kBIG := kT2 (List.mem_of_getElem? (i := 37) rfl) rfl
theorem q2_38 : Cond.methodLink RX4 149 yX4_play ∈ kBIG := kT2 (List.mem_of_getElem? (i := 38) rfl) rfl
theorem q2_40 : Cond.instanceMethod yX4_play ∈ kBIG := kT2 (List.mem_of_getElem? (i := 40) rfl) rfl
theorem q2_41 : Cond.code yX4_play cX4_play 7 none ∈ kBIG := kT2 (List.mem_of_getElem? (i := 41) rfl) rfl
theorem q2_42 : Cond.methodLink RX4 156 yX0_become ∈ kBIG := kT2 (List.mem_of_getElem? (i := 42) rfl) rfl
theorem q2_43 : Cond.instanceMethod yX0_become ∈ kBIG := kT2 (List.mem_of_getElem? (i := 43) rfl) rfl
theorem q2_44 : Cond.selects RX0 yX0_become yX0_become ∈ kBIG := kT2 (List.mem_of_getElem? (i := 44) rfl) rfl
theorem q2_45 : Cond.code yX0_become cX0_become 2 none ∈ kBIG := kT2 (List.mem_of_getElem? (i := 45) rfl) rfl
theorem q2_46 : Cond.methodLink RX0 34 ⟨"java/lang/System", "arraycopy", "(Ljava/lang/Object;ILjava/lang/Object;II)V"⟩ ∈ kBIG := kT2 (List.mem_of_getElem? (i := 46) rfl) rfl
theorem q2_47 : Cond.static ⟨"java/lang/System", "arraycopy", "(Ljava/lang/Object;ILjava/lang/Object;II)V"⟩ ∈ kBIG := kT2 (List.mem_of_getElem? (i := 47) rfl) rfl
theorem q2_48 : Cond.native ⟨"java/lang/System", "arraycopy", "(Ljava/lang/Object;ILjava/lang/Object;II)V"⟩ ∈ kBIG := kT2 (List.mem_of_getElem? (i := 48) rfl) rfl
theorem q2_49 : Cond.methodLink RX4 218 yX2_clear ∈ kBIG := kT2 (List.mem_of_getElem? (i := 49) rfl) rfl
theorem q2_50 : Cond.instanceMethod yX2_clear ∈ kBIG := kT2 (List.mem_of_getElem? (i := 50) rfl) rfl
theorem q2_51 : Cond.selects RX2 yX2_clear yX2_clear ∈ kBIG := kT2 (List.mem_of_getElem? (i := 51) rfl) rfl
theorem q2_52 : Cond.code yX2_clear cX2_clear 1 none ∈ kBIG := kT2 (List.mem_of_getElem? (i := 52) rfl) rfl
theorem q2_53 : Cond.methodLink RX4 221 yX2_add ∈ kBIG := kT2 (List.mem_of_getElem? (i := 53) rfl) rfl
theorem q2_54 : Cond.instanceMethod yX2_add ∈ kBIG := kT2 (List.mem_of_getElem? (i := 54) rfl) rfl
theorem q2_55 : Cond.selects RX2 yX2_add yX2_add ∈ kBIG := kT2 (List.mem_of_getElem? (i := 55) rfl) rfl
theorem q2_56 : Cond.code yX2_add cX2_add 4 none ∈ kBIG := kT2 (List.mem_of_getElem? (i := 56) rfl) rfl
theorem q2_58 : Cond.methodLink RX4 153 yX4_ofRound ∈ kBIG := kT2 (List.mem_of_getElem? (i := 58) rfl) rfl
theorem q2_60 : Cond.instanceMethod yX4_ofRound ∈ kBIG := kT2 (List.mem_of_getElem? (i := 60) rfl) rfl
theorem q2_61 : Cond.code yX4_ofRound cX4_ofRound 2 (some .int) ∈ kBIG := kT2 (List.mem_of_getElem? (i := 61) rfl) rfl
theorem q2_62 : Cond.methodLink RL 53 yX4_strict ∈ kBIG := kT2 (List.mem_of_getElem? (i := 62) rfl) rfl
theorem q2_63 : Cond.instanceMethod yX4_strict ∈ kBIG := kT2 (List.mem_of_getElem? (i := 63) rfl) rfl
theorem q2_64 : Cond.selects RX4 yX4_strict yX4_strict ∈ kBIG := kT2 (List.mem_of_getElem? (i := 64) rfl) rfl
theorem q2_65 : Cond.code yX4_strict cX4_strict 3 (some .int) ∈ kBIG := kT2 (List.mem_of_getElem? (i := 65) rfl) rfl
theorem q2_66 : Cond.methodLink RL 57 yX4_site ∈ kBIG := kT2 (List.mem_of_getElem? (i := 66) rfl) rfl
theorem q2_67 : Cond.instanceMethod yX4_site ∈ kBIG := kT2 (List.mem_of_getElem? (i := 67) rfl) rfl
theorem q2_68 : Cond.selects RX4 yX4_site yX4_site ∈ kBIG := kT2 (List.mem_of_getElem? (i := 68) rfl) rfl
theorem q2_69 : Cond.code yX4_site cX4_site 6 (some .int) ∈ kBIG := kT2 (List.mem_of_getElem? (i := 69) rfl) rfl
theorem q2_70 : Cond.methodLink RX4 160 yJ6_bitCount_0f7a4 ∈ kBIG := kT2 (List.mem_of_getElem? (i := 70) rfl) rfl
theorem q2_71 : Cond.methodLink RL 61 yX4_order ∈ kBIG := kT2 (List.mem_of_getElem? (i := 71) rfl) rfl
theorem q2_72 : Cond.instanceMethod yX4_order ∈ kBIG := kT2 (List.mem_of_getElem? (i := 72) rfl) rfl
theorem q2_73 : Cond.selects RX4 yX4_order yX4_order ∈ kBIG := kT2 (List.mem_of_getElem? (i := 73) rfl) rfl
theorem q2_74 : Cond.code yX4_order cX4_order 3 (some .int) ∈ kBIG := kT2 (List.mem_of_getElem? (i := 74) rfl) rfl
theorem q2_75 : Cond.methodLink RX4 165 yX4_findBestOrder ∈ kBIG := kT2 (List.mem_of_getElem? (i := 75) rfl) rfl
theorem q2_77 : Cond.instanceMethod yX4_findBestOrder ∈ kBIG := kT2 (List.mem_of_getElem? (i := 77) rfl) rfl
theorem q2_78 : Cond.code yX4_findBestOrder cX4_findBestOrder 4 (some .int) ∈ kBIG := kT2 (List.mem_of_getElem? (i := 78) rfl) rfl
theorem q2_79 : Cond.methodLink RX4 237 yX4_comingInTriedOrder ∈ kBIG := kT2 (List.mem_of_getElem? (i := 79) rfl) rfl
theorem q2_81 : Cond.instanceMethod yX4_comingInTriedOrder ∈ kBIG := kT2 (List.mem_of_getElem? (i := 81) rfl) rfl
theorem q2_82 : Cond.code yX4_comingInTriedOrder cX4_comingInTriedOrder 6 (some .int) ∈ kBIG := kT2 (List.mem_of_getElem? (i := 82) rfl) rfl
theorem q2_83 : Cond.methodLink RX4 168 yX4_contains ∈ kBIG := kT2 (List.mem_of_getElem? (i := 83) rfl) rfl
theorem q2_84 : Cond.static yX4_contains ∈ kBIG := kT2 (List.mem_of_getElem? (i := 84) rfl) rfl
theorem q2_85 : Cond.code yX4_contains cX4_contains 2 (some .boolean) ∈ kBIG := kT2 (List.mem_of_getElem? (i := 85) rfl) rfl
theorem q2_86 : Cond.methodLink RX4 244 yX4_withOne ∈ kBIG := kT2 (List.mem_of_getElem? (i := 86) rfl) rfl
theorem q2_87 : Cond.methodLink RX4 196 ⟨"java/lang/System", "arraycopy", "(Ljava/lang/Object;ILjava/lang/Object;II)V"⟩ ∈ kBIG := kT2 (List.mem_of_getElem? (i := 87) rfl) rfl
theorem q2_88 : Cond.methodLink RX4 240 yX4_stepToNextRow ∈ kBIG := kT2 (List.mem_of_getElem? (i := 88) rfl) rfl
theorem q2_89 : Cond.static yX4_stepToNextRow ∈ kBIG := kT2 (List.mem_of_getElem? (i := 89) rfl) rfl
theorem q2_90 : Cond.code yX4_stepToNextRow cX4_stepToNextRow 6 (some .boolean) ∈ kBIG := kT2 (List.mem_of_getElem? (i := 90) rfl) rfl
theorem q2_91 : Cond.methodLink RX4 248 yX4_swap ∈ kBIG := kT2 (List.mem_of_getElem? (i := 91) rfl) rfl
theorem q2_92 : Cond.static yX4_swap ∈ kBIG := kT2 (List.mem_of_getElem? (i := 92) rfl) rfl
theorem q2_93 : Cond.code yX4_swap cX4_swap 4 none ∈ kBIG := kT2 (List.mem_of_getElem? (i := 93) rfl) rfl
theorem q2_94 : Cond.methodLink RL 65 yX4_ahead ∈ kBIG := kT2 (List.mem_of_getElem? (i := 94) rfl) rfl
theorem q2_95 : Cond.instanceMethod yX4_ahead ∈ kBIG := kT2 (List.mem_of_getElem? (i := 95) rfl) rfl
theorem q2_96 : Cond.selects RX4 yX4_ahead yX4_ahead ∈ kBIG := kT2 (List.mem_of_getElem? (i := 96) rfl) rfl
theorem q2_97 : Cond.code yX4_ahead cX4_ahead 2 (some .int) ∈ kBIG := kT2 (List.mem_of_getElem? (i := 97) rfl) rfl
theorem q2_98 : Cond.methodLink RL 69 yX4_reading ∈ kBIG := kT2 (List.mem_of_getElem? (i := 98) rfl) rfl
theorem q2_99 : Cond.instanceMethod yX4_reading ∈ kBIG := kT2 (List.mem_of_getElem? (i := 99) rfl) rfl
theorem q2_100 : Cond.selects RX4 yX4_reading yX4_reading ∈ kBIG := kT2 (List.mem_of_getElem? (i := 100) rfl) rfl
theorem q2_101 : Cond.code yX4_reading cX4_reading 3 (some .int) ∈ kBIG := kT2 (List.mem_of_getElem? (i := 101) rfl) rfl
theorem q2_102 : Cond.methodLink RL 73 yX4_back ∈ kBIG := kT2 (List.mem_of_getElem? (i := 102) rfl) rfl
theorem q2_103 : Cond.instanceMethod yX4_back ∈ kBIG := kT2 (List.mem_of_getElem? (i := 103) rfl) rfl
theorem q2_104 : Cond.selects RX4 yX4_back yX4_back ∈ kBIG := kT2 (List.mem_of_getElem? (i := 104) rfl) rfl
theorem q2_105 : Cond.code yX4_back cX4_back 2 (some .int) ∈ kBIG := kT2 (List.mem_of_getElem? (i := 105) rfl) rfl
theorem q2_106 : Cond.methodLink RL 77 yX4_smells ∈ kBIG := kT2 (List.mem_of_getElem? (i := 106) rfl) rfl
theorem q2_107 : Cond.instanceMethod yX4_smells ∈ kBIG := kT2 (List.mem_of_getElem? (i := 107) rfl) rfl
theorem q2_108 : Cond.selects RX4 yX4_smells yX4_smells ∈ kBIG := kT2 (List.mem_of_getElem? (i := 108) rfl) rfl
theorem q2_109 : Cond.code yX4_smells cX4_smells 2 (some .int) ∈ kBIG := kT2 (List.mem_of_getElem? (i := 109) rfl) rfl
theorem q2_110 : Cond.methodLink RX4 171 yX4_bySuchReadings ∈ kBIG := kT2 (List.mem_of_getElem? (i := 110) rfl) rfl
theorem q2_112 : Cond.instanceMethod yX4_bySuchReadings ∈ kBIG := kT2 (List.mem_of_getElem? (i := 112) rfl) rfl
theorem q2_113 : Cond.code yX4_bySuchReadings cX4_bySuchReadings 6 (some .int) ∈ kBIG := kT2 (List.mem_of_getElem? (i := 113) rfl) rfl
theorem q2_114 : Cond.methodLink RX4 251 yX4_readingsHoldInDraft ∈ kBIG := kT2 (List.mem_of_getElem? (i := 114) rfl) rfl
theorem q2_116 : Cond.instanceMethod yX4_readingsHoldInDraft ∈ kBIG := kT2 (List.mem_of_getElem? (i := 116) rfl) rfl
theorem q2_117 : Cond.code yX4_readingsHoldInDraft cX4_readingsHoldInDraft 2 (some .boolean) ∈ kBIG := kT2 (List.mem_of_getElem? (i := 117) rfl) rfl
theorem q2_118 : Cond.methodLink RL 81 yX4_pasts ∈ kBIG := kT2 (List.mem_of_getElem? (i := 118) rfl) rfl
theorem q2_119 : Cond.instanceMethod yX4_pasts ∈ kBIG := kT2 (List.mem_of_getElem? (i := 119) rfl) rfl
theorem q2_120 : Cond.selects RX4 yX4_pasts yX4_pasts ∈ kBIG := kT2 (List.mem_of_getElem? (i := 120) rfl) rfl
theorem q2_121 : Cond.code yX4_pasts cX4_pasts 2 (some .int) ∈ kBIG := kT2 (List.mem_of_getElem? (i := 121) rfl) rfl
theorem q2_122 : Cond.methodLink RL 85 yX4_kinds ∈ kBIG := kT2 (List.mem_of_getElem? (i := 122) rfl) rfl
theorem q2_123 : Cond.instanceMethod yX4_kinds ∈ kBIG := kT2 (List.mem_of_getElem? (i := 123) rfl) rfl
theorem q2_124 : Cond.selects RX4 yX4_kinds yX4_kinds ∈ kBIG := kT2 (List.mem_of_getElem? (i := 124) rfl) rfl
theorem q2_125 : Cond.code yX4_kinds cX4_kinds 2 (some .int) ∈ kBIG := kT2 (List.mem_of_getElem? (i := 125) rfl) rfl
theorem q2_126 : Cond.methodLink RL 89 yX4_odds ∈ kBIG := kT2 (List.mem_of_getElem? (i := 126) rfl) rfl
theorem q2_127 : Cond.instanceMethod yX4_odds ∈ kBIG := kT2 (List.mem_of_getElem? (i := 127) rfl) rfl
theorem q2_128 : Cond.selects RX4 yX4_odds yX4_odds ∈ kBIG := kT2 (List.mem_of_getElem? (i := 128) rfl) rfl
theorem q2_129 : Cond.code yX4_odds cX4_odds 5 (some .long) ∈ kBIG := kT2 (List.mem_of_getElem? (i := 129) rfl) rfl
theorem q2_130 : Cond.constantLong RX4 174 (-9223372036854775808) ∈ kBIG := kT2 (List.mem_of_getElem? (i := 130) rfl) rfl
theorem q2_131 : Cond.methodLink RX4 176 yX4_smellsByWhichItComes ∈ kBIG := kT2 (List.mem_of_getElem? (i := 131) rfl) rfl
theorem q2_133 : Cond.instanceMethod yX4_smellsByWhichItComes ∈ kBIG := kT2 (List.mem_of_getElem? (i := 133) rfl) rfl
theorem q2_134 : Cond.code yX4_smellsByWhichItComes cX4_smellsByWhichItComes 4 (some .int) ∈ kBIG := kT2 (List.mem_of_getElem? (i := 134) rfl) rfl
theorem q2_135 : Cond.methodLink RL 94 yX4_sheet ∈ kBIG := kT2 (List.mem_of_getElem? (i := 135) rfl) rfl
theorem q2_136 : Cond.instanceMethod yX4_sheet ∈ kBIG := kT2 (List.mem_of_getElem? (i := 136) rfl) rfl
theorem q2_137 : Cond.selects RX4 yX4_sheet yX4_sheet ∈ kBIG := kT2 (List.mem_of_getElem? (i := 137) rfl) rfl
theorem q2_138 : Cond.code yX4_sheet cX4_sheet 4 (some .int) ∈ kBIG := kT2 (List.mem_of_getElem? (i := 138) rfl) rfl
theorem q2_139 : Cond.methodLink RX4 179 yX1_begin ∈ kBIG := kT2 (List.mem_of_getElem? (i := 139) rfl) rfl
theorem q2_140 : Cond.instanceMethod yX1_begin ∈ kBIG := kT2 (List.mem_of_getElem? (i := 140) rfl) rfl
theorem q2_141 : Cond.selects RX1 yX1_begin yX1_begin ∈ kBIG := kT2 (List.mem_of_getElem? (i := 141) rfl) rfl
theorem q2_142 : Cond.code yX1_begin cX1_begin 4 none ∈ kBIG := kT2 (List.mem_of_getElem? (i := 142) rfl) rfl
theorem q2_143 : Cond.methodLink RL 99 yX4_lose ∈ kBIG := kT2 (List.mem_of_getElem? (i := 143) rfl) rfl
theorem q2_144 : Cond.instanceMethod yX4_lose ∈ kBIG := kT2 (List.mem_of_getElem? (i := 144) rfl) rfl
theorem q2_145 : Cond.selects RX4 yX4_lose yX4_lose ∈ kBIG := kT2 (List.mem_of_getElem? (i := 145) rfl) rfl
theorem q2_146 : Cond.code yX4_lose cX4_lose 3 (some .int) ∈ kBIG := kT2 (List.mem_of_getElem? (i := 146) rfl) rfl
theorem q2_147 : Cond.methodLink RL 103 yX4_put ∈ kBIG := kT2 (List.mem_of_getElem? (i := 147) rfl) rfl
theorem q2_148 : Cond.instanceMethod yX4_put ∈ kBIG := kT2 (List.mem_of_getElem? (i := 148) rfl) rfl
theorem q2_149 : Cond.selects RX4 yX4_put yX4_put ∈ kBIG := kT2 (List.mem_of_getElem? (i := 149) rfl) rfl
theorem q2_150 : Cond.code yX4_put cX4_put 5 (some .int) ∈ kBIG := kT2 (List.mem_of_getElem? (i := 150) rfl) rfl
theorem q2_151 : Cond.methodLink RX4 187 yX1_hasCell ∈ kBIG := kT2 (List.mem_of_getElem? (i := 151) rfl) rfl
theorem q2_152 : Cond.instanceMethod yX1_hasCell ∈ kBIG := kT2 (List.mem_of_getElem? (i := 152) rfl) rfl
theorem q2_153 : Cond.selects RX1 yX1_hasCell yX1_hasCell ∈ kBIG := kT2 (List.mem_of_getElem? (i := 153) rfl) rfl
theorem q2_154 : Cond.code yX1_hasCell cX1_hasCell 2 (some .boolean) ∈ kBIG := kT2 (List.mem_of_getElem? (i := 154) rfl) rfl
theorem q2_155 : Cond.methodLink RX4 190 yX1_write ∈ kBIG := kT2 (List.mem_of_getElem? (i := 155) rfl) rfl
theorem q2_156 : Cond.instanceMethod yX1_write ∈ kBIG := kT2 (List.mem_of_getElem? (i := 156) rfl) rfl
theorem q2_157 : Cond.selects RX1 yX1_write yX1_write ∈ kBIG := kT2 (List.mem_of_getElem? (i := 157) rfl) rfl
theorem q2_158 : Cond.code yX1_write cX1_write 3 none ∈ kBIG := kT2 (List.mem_of_getElem? (i := 158) rfl) rfl
theorem q2_159 : Cond.methodLink RL 107 yX4_cell ∈ kBIG := kT2 (List.mem_of_getElem? (i := 159) rfl) rfl
theorem q2_160 : Cond.instanceMethod yX4_cell ∈ kBIG := kT2 (List.mem_of_getElem? (i := 160) rfl) rfl
theorem q2_161 : Cond.selects RX4 yX4_cell yX4_cell ∈ kBIG := kT2 (List.mem_of_getElem? (i := 161) rfl) rfl
theorem q2_162 : Cond.code yX4_cell cX4_cell 5 (some .long) ∈ kBIG := kT2 (List.mem_of_getElem? (i := 162) rfl) rfl
theorem q2_163 : Cond.methodLink RL 112 yX4_copy ∈ kBIG := kT2 (List.mem_of_getElem? (i := 163) rfl) rfl
theorem q2_164 : Cond.instanceMethod yX4_copy ∈ kBIG := kT2 (List.mem_of_getElem? (i := 164) rfl) rfl
theorem q2_165 : Cond.selects RX4 yX4_copy yX4_copy ∈ kBIG := kT2 (List.mem_of_getElem? (i := 165) rfl) rfl
theorem q2_166 : Cond.code yX4_copy cX4_copy 8 (some .int) ∈ kBIG := kT2 (List.mem_of_getElem? (i := 166) rfl) rfl
theorem q2_167 : Cond.methodLink RL 116 yX4_tell ∈ kBIG := kT2 (List.mem_of_getElem? (i := 167) rfl) rfl
theorem q2_168 : Cond.instanceMethod yX4_tell ∈ kBIG := kT2 (List.mem_of_getElem? (i := 168) rfl) rfl
theorem q2_169 : Cond.selects RX4 yX4_tell yX4_tell ∈ kBIG := kT2 (List.mem_of_getElem? (i := 169) rfl) rfl
theorem q2_170 : Cond.code yX4_tell cX4_tell 2 (some .int) ∈ kBIG := kT2 (List.mem_of_getElem? (i := 170) rfl) rfl
theorem q2_171 : Cond.methodLink RX4 202 yX4_toldByReeking ∈ kBIG := kT2 (List.mem_of_getElem? (i := 171) rfl) rfl
theorem q2_173 : Cond.instanceMethod yX4_toldByReeking ∈ kBIG := kT2 (List.mem_of_getElem? (i := 173) rfl) rfl
theorem q2_174 : Cond.code yX4_toldByReeking cX4_toldByReeking 3 (some .int) ∈ kBIG := kT2 (List.mem_of_getElem? (i := 174) rfl) rfl
theorem q2_175 : Cond.methodLink RX4 211 yX4_begins ∈ kBIG := kT2 (List.mem_of_getElem? (i := 175) rfl) rfl
theorem q2_177 : Cond.instanceMethod yX4_begins ∈ kBIG := kT2 (List.mem_of_getElem? (i := 177) rfl) rfl
theorem q2_178 : Cond.code yX4_begins cX4_begins 2 none ∈ kBIG := kT2 (List.mem_of_getElem? (i := 178) rfl) rfl
theorem q2_179 : Cond.methodLink RX4 205 yX4_toldByRank ∈ kBIG := kT2 (List.mem_of_getElem? (i := 179) rfl) rfl
theorem q2_181 : Cond.instanceMethod yX4_toldByRank ∈ kBIG := kT2 (List.mem_of_getElem? (i := 181) rfl) rfl
theorem q2_182 : Cond.code yX4_toldByRank cX4_toldByRank 2 (some .int) ∈ kBIG := kT2 (List.mem_of_getElem? (i := 182) rfl) rfl
theorem q2_183 : Cond.methodLink RX4 208 yX4_toldByPlain ∈ kBIG := kT2 (List.mem_of_getElem? (i := 183) rfl) rfl
theorem q2_185 : Cond.instanceMethod yX4_toldByPlain ∈ kBIG := kT2 (List.mem_of_getElem? (i := 185) rfl) rfl
theorem q2_186 : Cond.code yX4_toldByPlain cX4_toldByPlain 2 (some .int) ∈ kBIG := kT2 (List.mem_of_getElem? (i := 186) rfl) rfl
theorem q2_187 : Cond.methodLink RL 120 yX4_whistle ∈ kBIG := kT2 (List.mem_of_getElem? (i := 187) rfl) rfl
theorem q2_188 : Cond.instanceMethod yX4_whistle ∈ kBIG := kT2 (List.mem_of_getElem? (i := 188) rfl) rfl
theorem q2_189 : Cond.selects RX4 yX4_whistle yX4_whistle ∈ kBIG := kT2 (List.mem_of_getElem? (i := 189) rfl) rfl
theorem q2_190 : Cond.code yX4_whistle cX4_whistle 2 (some .int) ∈ kBIG := kT2 (List.mem_of_getElem? (i := 190) rfl) rfl
theorem q2_191 : Cond.methodLink RL 124 yX4_as ∈ kBIG := kT2 (List.mem_of_getElem? (i := 191) rfl) rfl
theorem q2_192 : Cond.instanceMethod yX4_as ∈ kBIG := kT2 (List.mem_of_getElem? (i := 192) rfl) rfl
theorem q2_193 : Cond.selects RX4 yX4_as yX4_as ∈ kBIG := kT2 (List.mem_of_getElem? (i := 193) rfl) rfl
theorem q2_194 : Cond.code yX4_as cX4_as 3 (some .int) ∈ kBIG := kT2 (List.mem_of_getElem? (i := 194) rfl) rfl
theorem q2_195 : Cond.methodLink RL 128 yX4_trace ∈ kBIG := kT2 (List.mem_of_getElem? (i := 195) rfl) rfl
theorem q2_196 : Cond.instanceMethod yX4_trace ∈ kBIG := kT2 (List.mem_of_getElem? (i := 196) rfl) rfl
theorem q2_197 : Cond.selects RX4 yX4_trace yX4_trace ∈ kBIG := kT2 (List.mem_of_getElem? (i := 197) rfl) rfl
theorem q2_198 : Cond.code yX4_trace cX4_trace 1 (some .int) ∈ kBIG := kT2 (List.mem_of_getElem? (i := 198) rfl) rfl
theorem q2_199 : Cond.methodLink RL 133 yX4_fault ∈ kBIG := kT2 (List.mem_of_getElem? (i := 199) rfl) rfl
theorem q2_200 : Cond.instanceMethod yX4_fault ∈ kBIG := kT2 (List.mem_of_getElem? (i := 200) rfl) rfl
theorem q2_201 : Cond.selects RX4 yX4_fault yX4_fault ∈ kBIG := kT2 (List.mem_of_getElem? (i := 201) rfl) rfl
theorem q2_202 : Cond.code yX4_fault cX4_fault 1 (some .int) ∈ kBIG := kT2 (List.mem_of_getElem? (i := 202) rfl) rfl
theorem q2_203 : Cond.methodLink RL 137 yX4_many ∈ kBIG := kT2 (List.mem_of_getElem? (i := 203) rfl) rfl
theorem q2_204 : Cond.instanceMethod yX4_many ∈ kBIG := kT2 (List.mem_of_getElem? (i := 204) rfl) rfl
theorem q2_205 : Cond.selects RX4 yX4_many yX4_many ∈ kBIG := kT2 (List.mem_of_getElem? (i := 205) rfl) rfl
theorem q2_206 : Cond.code yX4_many cX4_many 2 (some .int) ∈ kBIG := kT2 (List.mem_of_getElem? (i := 206) rfl) rfl
theorem q2_207 : Cond.classLink RL 10 "NosePostModel" ∈ kBIG := kT2 (List.mem_of_getElem? (i := 207) rfl) rfl
theorem q2_208 : Cond.instantiable RX5 31 ∈ kBIG := kT2 (List.mem_of_getElem? (i := 208) rfl) rfl
theorem q2_209 : Cond.methodLink RL 12 yX5_init ∈ kBIG := kT2 (List.mem_of_getElem? (i := 209) rfl) rfl
theorem q2_210 : Cond.instanceMethod yX5_init ∈ kBIG := kT2 (List.mem_of_getElem? (i := 210) rfl) rfl
theorem q2_211 : Cond.code yX5_init cX5_init 2 none ∈ kBIG := kT2 (List.mem_of_getElem? (i := 211) rfl) rfl
theorem q2_212 : Cond.methodLink RX5 1 ⟨"java/lang/Object", "<init>", "()V"⟩ ∈ kBIG := kT2 (List.mem_of_getElem? (i := 212) rfl) rfl
theorem q2_213 : Cond.fieldLink RX5 72 "NosePostModel" "fault" "I" ∈ kBIG := kT2 (List.mem_of_getElem? (i := 213) rfl) rfl
theorem q2_214 : Cond.fieldLink RX5 80 "NosePostModel" "people" "I" ∈ kBIG := kT2 (List.mem_of_getElem? (i := 214) rfl) rfl
theorem q2_215 : Cond.fieldLink RX5 135 "NosePostModel" "postAt" "I" ∈ kBIG := kT2 (List.mem_of_getElem? (i := 215) rfl) rfl
theorem q2_216 : Cond.fieldLink RX5 138 "NosePostModel" "laxNow" "I" ∈ kBIG := kT2 (List.mem_of_getElem? (i := 216) rfl) rfl
theorem q2_217 : Cond.fieldLink RX5 141 "NosePostModel" "letters" "I" ∈ kBIG := kT2 (List.mem_of_getElem? (i := 217) rfl) rfl
theorem q2_218 : Cond.fieldLink RX5 7 "NosePostModel" "kindOf" "[I" ∈ kBIG := kT2 (List.mem_of_getElem? (i := 218) rfl) rfl
theorem q2_219 : Cond.fieldLink RX5 13 "NosePostModel" "smellOf" "[I" ∈ kBIG := kT2 (List.mem_of_getElem? (i := 219) rfl) rfl
theorem q2_220 : Cond.fieldLink RX5 16 "NosePostModel" "wasOf" "[I" ∈ kBIG := kT2 (List.mem_of_getElem? (i := 220) rfl) rfl
theorem q2_221 : Cond.fieldLink RX5 19 "NosePostModel" "placeOf" "[I" ∈ kBIG := kT2 (List.mem_of_getElem? (i := 221) rfl) rfl
theorem q2_222 : Cond.fieldLink RX5 87 "NosePostModel" "readAt" "I" ∈ kBIG := kT2 (List.mem_of_getElem? (i := 222) rfl) rfl
theorem q2_223 : Cond.fieldLink RX5 94 "NosePostModel" "readPeople" "I" ∈ kBIG := kT2 (List.mem_of_getElem? (i := 223) rfl) rfl
theorem q2_224 : Cond.fieldLink RX5 22 "NosePostModel" "readKind" "[I" ∈ kBIG := kT2 (List.mem_of_getElem? (i := 224) rfl) rfl
theorem q2_225 : Cond.fieldLink RX5 25 "NosePostModel" "readSmell" "[I" ∈ kBIG := kT2 (List.mem_of_getElem? (i := 225) rfl) rfl
theorem q2_226 : Cond.fieldLink RX5 28 "NosePostModel" "readWas" "[I" ∈ kBIG := kT2 (List.mem_of_getElem? (i := 226) rfl) rfl
theorem q2_227 : Cond.fieldLink RX5 31 "NosePostModel" "readPlace" "[I" ∈ kBIG := kT2 (List.mem_of_getElem? (i := 227) rfl) rfl
theorem q2_228 : Cond.fieldLink RX5 101 "NosePostModel" "readPost" "I" ∈ kBIG := kT2 (List.mem_of_getElem? (i := 228) rfl) rfl
theorem q2_229 : Cond.fieldLink RX5 104 "NosePostModel" "readLax" "I" ∈ kBIG := kT2 (List.mem_of_getElem? (i := 229) rfl) rfl
theorem q2_230 : Cond.fieldLink RX5 34 "NosePostModel" "smellKept" "[I" ∈ kBIG := kT2 (List.mem_of_getElem? (i := 230) rfl) rfl
theorem q2_231 : Cond.fieldLink RX5 37 "NosePostModel" "wasKept" "[I" ∈ kBIG := kT2 (List.mem_of_getElem? (i := 231) rfl) rfl
theorem q2_232 : Cond.fieldLink RX5 40 "NosePostModel" "placeKept" "[I" ∈ kBIG := kT2 (List.mem_of_getElem? (i := 232) rfl) rfl
theorem q2_233 : Cond.fieldLink RX5 43 "NosePostModel" "orderNow" "[I" ∈ kBIG := kT2 (List.mem_of_getElem? (i := 233) rfl) rfl
theorem q2_234 : Cond.fieldLink RX5 46 "NosePostModel" "orderBest" "[I" ∈ kBIG := kT2 (List.mem_of_getElem? (i := 234) rfl) rfl
theorem q2_235 : Cond.fieldLink RX5 49 "NosePostModel" "metBehind" "[I" ∈ kBIG := kT2 (List.mem_of_getElem? (i := 235) rfl) rfl
theorem q2_236 : Cond.fieldLink RX5 144 "NosePostModel" "readings" "I" ∈ kBIG := kT2 (List.mem_of_getElem? (i := 236) rfl) rfl
theorem q2_237 : Cond.fieldLink RX5 52 "NosePostModel" "readingOf" "[I" ∈ kBIG := kT2 (List.mem_of_getElem? (i := 237) rfl) rfl
theorem q2_238 : Cond.fieldLink RX5 55 "NosePostModel" "readingTo" "[I" ∈ kBIG := kT2 (List.mem_of_getElem? (i := 238) rfl) rfl
theorem q2_239 : Cond.fieldLink RX5 58 "NosePostModel" "sheetSize" "[I" ∈ kBIG := kT2 (List.mem_of_getElem? (i := 239) rfl) rfl
theorem q3_0 : Cond.fieldLink RX5 61 "NosePostModel" "sheetLane" "[I" ∈ kBIG := kT3 (List.mem_of_getElem? (i := 0) rfl) rfl
theorem q3_1 : Cond.fieldLink RX5 64 "NosePostModel" "sheet" "[I" ∈ kBIG := kT3 (List.mem_of_getElem? (i := 1) rfl) rfl
theorem q3_2 : Cond.fieldLink RX5 67 "NosePostModel" "hands" "[I" ∈ kBIG := kT3 (List.mem_of_getElem? (i := 2) rfl) rfl
theorem q3_3 : Cond.fieldLink RX5 246 "NosePostModel" "traceNow" "I" ∈ kBIG := kT3 (List.mem_of_getElem? (i := 3) rfl) rfl
theorem q3_4 : Cond.lays RX5 "NosePostModel" "fault" "I" ∈ kBIG := kT3 (List.mem_of_getElem? (i := 4) rfl) rfl
theorem q3_6 : Cond.lays RX5 "NosePostModel" "people" "I" ∈ kBIG := kT3 (List.mem_of_getElem? (i := 6) rfl) rfl
theorem q3_8 : Cond.lays RX5 "NosePostModel" "postAt" "I" ∈ kBIG := kT3 (List.mem_of_getElem? (i := 8) rfl) rfl
theorem q3_10 : Cond.lays RX5 "NosePostModel" "laxNow" "I" ∈ kBIG := kT3 (List.mem_of_getElem? (i := 10) rfl) rfl
theorem q3_12 : Cond.lays RX5 "NosePostModel" "letters" "I" ∈ kBIG := kT3 (List.mem_of_getElem? (i := 12) rfl) rfl
theorem q3_14 : Cond.laysFinal RX5 "NosePostModel" "kindOf" "[I" ∈ kBIG := kT3 (List.mem_of_getElem? (i := 14) rfl) rfl
theorem q3_16 : Cond.laysFinal RX5 "NosePostModel" "smellOf" "[I" ∈ kBIG := kT3 (List.mem_of_getElem? (i := 16) rfl) rfl
theorem q3_18 : Cond.laysFinal RX5 "NosePostModel" "wasOf" "[I" ∈ kBIG := kT3 (List.mem_of_getElem? (i := 18) rfl) rfl
theorem q3_20 : Cond.laysFinal RX5 "NosePostModel" "placeOf" "[I" ∈ kBIG := kT3 (List.mem_of_getElem? (i := 20) rfl) rfl
theorem q3_22 : Cond.lays RX5 "NosePostModel" "readAt" "I" ∈ kBIG := kT3 (List.mem_of_getElem? (i := 22) rfl) rfl
theorem q3_24 : Cond.lays RX5 "NosePostModel" "readPeople" "I" ∈ kBIG := kT3 (List.mem_of_getElem? (i := 24) rfl) rfl
theorem q3_26 : Cond.laysFinal RX5 "NosePostModel" "readKind" "[I" ∈ kBIG := kT3 (List.mem_of_getElem? (i := 26) rfl) rfl
theorem q3_28 : Cond.laysFinal RX5 "NosePostModel" "readSmell" "[I" ∈ kBIG := kT3 (List.mem_of_getElem? (i := 28) rfl) rfl
theorem q3_30 : Cond.laysFinal RX5 "NosePostModel" "readWas" "[I" ∈ kBIG := kT3 (List.mem_of_getElem? (i := 30) rfl) rfl
theorem q3_32 : Cond.laysFinal RX5 "NosePostModel" "readPlace" "[I" ∈ kBIG := kT3 (List.mem_of_getElem? (i := 32) rfl) rfl
theorem q3_34 : Cond.lays RX5 "NosePostModel" "readPost" "I" ∈ kBIG := kT3 (List.mem_of_getElem? (i := 34) rfl) rfl
theorem q3_36 : Cond.lays RX5 "NosePostModel" "readLax" "I" ∈ kBIG := kT3 (List.mem_of_getElem? (i := 36) rfl) rfl
theorem q3_38 : Cond.laysFinal RX5 "NosePostModel" "smellKept" "[I" ∈ kBIG := kT3 (List.mem_of_getElem? (i := 38) rfl) rfl
theorem q3_40 : Cond.laysFinal RX5 "NosePostModel" "wasKept" "[I" ∈ kBIG := kT3 (List.mem_of_getElem? (i := 40) rfl) rfl
theorem q3_42 : Cond.laysFinal RX5 "NosePostModel" "placeKept" "[I" ∈ kBIG := kT3 (List.mem_of_getElem? (i := 42) rfl) rfl
theorem q3_44 : Cond.laysFinal RX5 "NosePostModel" "orderNow" "[I" ∈ kBIG := kT3 (List.mem_of_getElem? (i := 44) rfl) rfl
theorem q3_46 : Cond.laysFinal RX5 "NosePostModel" "orderBest" "[I" ∈ kBIG := kT3 (List.mem_of_getElem? (i := 46) rfl) rfl
theorem q3_48 : Cond.laysFinal RX5 "NosePostModel" "metBehind" "[I" ∈ kBIG := kT3 (List.mem_of_getElem? (i := 48) rfl) rfl
theorem q3_50 : Cond.lays RX5 "NosePostModel" "readings" "I" ∈ kBIG := kT3 (List.mem_of_getElem? (i := 50) rfl) rfl
theorem q3_52 : Cond.laysFinal RX5 "NosePostModel" "readingOf" "[I" ∈ kBIG := kT3 (List.mem_of_getElem? (i := 52) rfl) rfl
theorem q3_54 : Cond.laysFinal RX5 "NosePostModel" "readingTo" "[I" ∈ kBIG := kT3 (List.mem_of_getElem? (i := 54) rfl) rfl
theorem q3_56 : Cond.laysFinal RX5 "NosePostModel" "sheetSize" "[I" ∈ kBIG := kT3 (List.mem_of_getElem? (i := 56) rfl) rfl
theorem q3_58 : Cond.laysFinal RX5 "NosePostModel" "sheetLane" "[I" ∈ kBIG := kT3 (List.mem_of_getElem? (i := 58) rfl) rfl
theorem q3_60 : Cond.laysFinal RX5 "NosePostModel" "sheet" "[I" ∈ kBIG := kT3 (List.mem_of_getElem? (i := 60) rfl) rfl
theorem q3_62 : Cond.laysFinal RX5 "NosePostModel" "hands" "[I" ∈ kBIG := kT3 (List.mem_of_getElem? (i := 62) rfl) rfl
theorem q3_64 : Cond.lays RX5 "NosePostModel" "traceNow" "I" ∈ kBIG := kT3 (List.mem_of_getElem? (i := 64) rfl) rfl
theorem q3_67 : Cond.methodLink RL 17 yX5_moor ∈ kBIG := kT3 (List.mem_of_getElem? (i := 67) rfl) rfl
theorem q3_68 : Cond.instanceMethod yX5_moor ∈ kBIG := kT3 (List.mem_of_getElem? (i := 68) rfl) rfl
theorem q3_69 : Cond.selects RX5 yX5_moor yX5_moor ∈ kBIG := kT3 (List.mem_of_getElem? (i := 69) rfl) rfl
theorem q3_70 : Cond.code yX5_moor cX5_moor 7 (some .int) ∈ kBIG := kT3 (List.mem_of_getElem? (i := 70) rfl) rfl
theorem q3_71 : Cond.methodLink RX5 119 yX5_noSheet ∈ kBIG := kT3 (List.mem_of_getElem? (i := 71) rfl) rfl
theorem q3_72 : Cond.static yX5_noSheet ∈ kBIG := kT3 (List.mem_of_getElem? (i := 72) rfl) rfl
theorem q3_73 : Cond.code yX5_noSheet cX5_noSheet 1 (some .boolean) ∈ kBIG := kT3 (List.mem_of_getElem? (i := 73) rfl) rfl
theorem q3_74 : Cond.constantLong RX5 170 (3) ∈ kBIG := kT3 (List.mem_of_getElem? (i := 74) rfl) rfl
theorem q3_75 : Cond.methodLink RX5 83 yX5_in ∈ kBIG := kT3 (List.mem_of_getElem? (i := 75) rfl) rfl
theorem q3_76 : Cond.static yX5_in ∈ kBIG := kT3 (List.mem_of_getElem? (i := 76) rfl) rfl
theorem q3_77 : Cond.code yX5_in cX5_in 6 (some .boolean) ∈ kBIG := kT3 (List.mem_of_getElem? (i := 77) rfl) rfl
theorem q3_78 : Cond.methodLink RX5 123 yX5_refused ∈ kBIG := kT3 (List.mem_of_getElem? (i := 78) rfl) rfl
theorem q3_80 : Cond.instanceMethod yX5_refused ∈ kBIG := kT3 (List.mem_of_getElem? (i := 80) rfl) rfl
theorem q3_81 : Cond.code yX5_refused cX5_refused 2 (some .int) ∈ kBIG := kT3 (List.mem_of_getElem? (i := 81) rfl) rfl
theorem q3_82 : Cond.constantLong RX5 126 (2) ∈ kBIG := kT3 (List.mem_of_getElem? (i := 82) rfl) rfl
theorem q3_83 : Cond.methodLink RX5 128 yX5_cellsBarred ∈ kBIG := kT3 (List.mem_of_getElem? (i := 83) rfl) rfl
theorem q3_85 : Cond.instanceMethod yX5_cellsBarred ∈ kBIG := kT3 (List.mem_of_getElem? (i := 85) rfl) rfl
theorem q3_86 : Cond.code yX5_cellsBarred cX5_cellsBarred 6 (some .int) ∈ kBIG := kT3 (List.mem_of_getElem? (i := 86) rfl) rfl
theorem q3_87 : Cond.methodLink RX5 111 yX5_failed ∈ kBIG := kT3 (List.mem_of_getElem? (i := 87) rfl) rfl
theorem q3_89 : Cond.instanceMethod yX5_failed ∈ kBIG := kT3 (List.mem_of_getElem? (i := 89) rfl) rfl
theorem q3_90 : Cond.code yX5_failed cX5_failed 2 (some .int) ∈ kBIG := kT3 (List.mem_of_getElem? (i := 90) rfl) rfl
theorem q3_91 : Cond.methodLink RX5 115 yX5_isBeyond ∈ kBIG := kT3 (List.mem_of_getElem? (i := 91) rfl) rfl
theorem q3_92 : Cond.static yX5_isBeyond ∈ kBIG := kT3 (List.mem_of_getElem? (i := 92) rfl) rfl
theorem q3_93 : Cond.code yX5_isBeyond cX5_isBeyond 4 (some .boolean) ∈ kBIG := kT3 (List.mem_of_getElem? (i := 93) rfl) rfl
theorem q3_94 : Cond.methodLink RX5 132 yX5_readsMoor ∈ kBIG := kT3 (List.mem_of_getElem? (i := 94) rfl) rfl
theorem q3_96 : Cond.instanceMethod yX5_readsMoor ∈ kBIG := kT3 (List.mem_of_getElem? (i := 96) rfl) rfl
theorem q3_97 : Cond.code yX5_readsMoor cX5_readsMoor 4 (some .boolean) ∈ kBIG := kT3 (List.mem_of_getElem? (i := 97) rfl) rfl
theorem q3_98 : Cond.methodLink RX5 90 yX5_codeAt ∈ kBIG := kT3 (List.mem_of_getElem? (i := 98) rfl) rfl
theorem q3_100 : Cond.instanceMethod yX5_codeAt ∈ kBIG := kT3 (List.mem_of_getElem? (i := 100) rfl) rfl
theorem q3_101 : Cond.code yX5_codeAt cX5_codeAt 3 (some .int) ∈ kBIG := kT3 (List.mem_of_getElem? (i := 101) rfl) rfl
theorem q3_102 : Cond.methodLink RX5 97 yX5_figure ∈ kBIG := kT3 (List.mem_of_getElem? (i := 102) rfl) rfl
theorem q3_104 : Cond.instanceMethod yX5_figure ∈ kBIG := kT3 (List.mem_of_getElem? (i := 104) rfl) rfl
theorem q3_105 : Cond.code yX5_figure cX5_figure 7 (some .int) ∈ kBIG := kT3 (List.mem_of_getElem? (i := 105) rfl) rfl
theorem q3_106 : Cond.methodLink RX5 107 yX5_readsPerson ∈ kBIG := kT3 (List.mem_of_getElem? (i := 106) rfl) rfl
theorem q3_108 : Cond.instanceMethod yX5_readsPerson ∈ kBIG := kT3 (List.mem_of_getElem? (i := 108) rfl) rfl
theorem q3_109 : Cond.code yX5_readsPerson cX5_readsPerson 7 (some .boolean) ∈ kBIG := kT3 (List.mem_of_getElem? (i := 109) rfl) rfl
theorem q3_110 : Cond.methodLink RL 22 yX5_ofPerson ∈ kBIG := kT3 (List.mem_of_getElem? (i := 110) rfl) rfl
theorem q3_111 : Cond.instanceMethod yX5_ofPerson ∈ kBIG := kT3 (List.mem_of_getElem? (i := 111) rfl) rfl
theorem q3_112 : Cond.selects RX5 yX5_ofPerson yX5_ofPerson ∈ kBIG := kT3 (List.mem_of_getElem? (i := 112) rfl) rfl
theorem q3_113 : Cond.code yX5_ofPerson cX5_ofPerson 3 (some .int) ∈ kBIG := kT3 (List.mem_of_getElem? (i := 113) rfl) rfl
theorem q3_114 : Cond.methodLink RX5 162 yX5_noPerson ∈ kBIG := kT3 (List.mem_of_getElem? (i := 114) rfl) rfl
theorem q3_116 : Cond.instanceMethod yX5_noPerson ∈ kBIG := kT3 (List.mem_of_getElem? (i := 116) rfl) rfl
theorem q3_117 : Cond.code yX5_noPerson cX5_noPerson 2 (some .boolean) ∈ kBIG := kT3 (List.mem_of_getElem? (i := 117) rfl) rfl
theorem q3_118 : Cond.methodLink RX5 156 yX5_scentOf ∈ kBIG := kT3 (List.mem_of_getElem? (i := 118) rfl) rfl
theorem q3_120 : Cond.instanceMethod yX5_scentOf ∈ kBIG := kT3 (List.mem_of_getElem? (i := 120) rfl) rfl
theorem q3_121 : Cond.code yX5_scentOf cX5_scentOf 3 (some .int) ∈ kBIG := kT3 (List.mem_of_getElem? (i := 121) rfl) rfl
theorem q3_122 : Cond.methodLink RX5 147 yX5_bits ∈ kBIG := kT3 (List.mem_of_getElem? (i := 122) rfl) rfl
theorem q3_123 : Cond.static yX5_bits ∈ kBIG := kT3 (List.mem_of_getElem? (i := 123) rfl) rfl
theorem q3_124 : Cond.code yX5_bits cX5_bits 3 (some .int) ∈ kBIG := kT3 (List.mem_of_getElem? (i := 124) rfl) rfl
theorem q3_125 : Cond.methodLink RX5 159 yX5_isSmelt ∈ kBIG := kT3 (List.mem_of_getElem? (i := 125) rfl) rfl
theorem q3_127 : Cond.instanceMethod yX5_isSmelt ∈ kBIG := kT3 (List.mem_of_getElem? (i := 127) rfl) rfl
theorem q3_128 : Cond.code yX5_isSmelt cX5_isSmelt 2 (some .boolean) ∈ kBIG := kT3 (List.mem_of_getElem? (i := 128) rfl) rfl
theorem q3_129 : Cond.methodLink RX5 153 yX5_wayTo ∈ kBIG := kT3 (List.mem_of_getElem? (i := 129) rfl) rfl
theorem q3_131 : Cond.instanceMethod yX5_wayTo ∈ kBIG := kT3 (List.mem_of_getElem? (i := 131) rfl) rfl
theorem q3_132 : Cond.code yX5_wayTo cX5_wayTo 2 (some .int) ∈ kBIG := kT3 (List.mem_of_getElem? (i := 132) rfl) rfl
theorem q3_133 : Cond.methodLink RX5 150 yX5_apart ∈ kBIG := kT3 (List.mem_of_getElem? (i := 133) rfl) rfl
theorem q3_134 : Cond.static yX5_apart ∈ kBIG := kT3 (List.mem_of_getElem? (i := 134) rfl) rfl
theorem q3_135 : Cond.code yX5_apart cX5_apart 2 (some .int) ∈ kBIG := kT3 (List.mem_of_getElem? (i := 135) rfl) rfl
theorem q3_136 : Cond.methodLink RX5 165 yX5_goesTo ∈ kBIG := kT3 (List.mem_of_getElem? (i := 136) rfl) rfl
theorem q3_138 : Cond.instanceMethod yX5_goesTo ∈ kBIG := kT3 (List.mem_of_getElem? (i := 138) rfl) rfl
theorem q3_139 : Cond.code yX5_goesTo cX5_goesTo 7 (some .int) ∈ kBIG := kT3 (List.mem_of_getElem? (i := 139) rfl) rfl
theorem q3_140 : Cond.methodLink RL 27 yX5_post ∈ kBIG := kT3 (List.mem_of_getElem? (i := 140) rfl) rfl
theorem q3_141 : Cond.instanceMethod yX5_post ∈ kBIG := kT3 (List.mem_of_getElem? (i := 141) rfl) rfl
theorem q3_142 : Cond.selects RX5 yX5_post yX5_post ∈ kBIG := kT3 (List.mem_of_getElem? (i := 142) rfl) rfl
theorem q3_143 : Cond.code yX5_post cX5_post 3 (some .int) ∈ kBIG := kT3 (List.mem_of_getElem? (i := 143) rfl) rfl
theorem q3_144 : Cond.constantLong RX5 168 (9) ∈ kBIG := kT3 (List.mem_of_getElem? (i := 144) rfl) rfl
theorem q3_145 : Cond.methodLink RL 31 yX5_lax ∈ kBIG := kT3 (List.mem_of_getElem? (i := 145) rfl) rfl
theorem q3_146 : Cond.instanceMethod yX5_lax ∈ kBIG := kT3 (List.mem_of_getElem? (i := 146) rfl) rfl
theorem q3_147 : Cond.selects RX5 yX5_lax yX5_lax ∈ kBIG := kT3 (List.mem_of_getElem? (i := 147) rfl) rfl
theorem q3_148 : Cond.code yX5_lax cX5_lax 3 (some .int) ∈ kBIG := kT3 (List.mem_of_getElem? (i := 148) rfl) rfl
theorem q3_149 : Cond.methodLink RL 35 yX5_bathe ∈ kBIG := kT3 (List.mem_of_getElem? (i := 149) rfl) rfl
theorem q3_150 : Cond.instanceMethod yX5_bathe ∈ kBIG := kT3 (List.mem_of_getElem? (i := 150) rfl) rfl
theorem q3_151 : Cond.selects RX5 yX5_bathe yX5_bathe ∈ kBIG := kT3 (List.mem_of_getElem? (i := 151) rfl) rfl
theorem q3_152 : Cond.code yX5_bathe cX5_bathe 4 (some .int) ∈ kBIG := kT3 (List.mem_of_getElem? (i := 152) rfl) rfl
theorem q3_153 : Cond.constantLong RX5 172 (7) ∈ kBIG := kT3 (List.mem_of_getElem? (i := 153) rfl) rfl
theorem q3_154 : Cond.methodLink RL 39 yX5_moves ∈ kBIG := kT3 (List.mem_of_getElem? (i := 154) rfl) rfl
theorem q3_155 : Cond.instanceMethod yX5_moves ∈ kBIG := kT3 (List.mem_of_getElem? (i := 155) rfl) rfl
theorem q3_156 : Cond.selects RX5 yX5_moves yX5_moves ∈ kBIG := kT3 (List.mem_of_getElem? (i := 156) rfl) rfl
theorem q3_157 : Cond.code yX5_moves cX5_moves 4 (some .int) ∈ kBIG := kT3 (List.mem_of_getElem? (i := 157) rfl) rfl
theorem q3_158 : Cond.methodLink RL 43 yX5_send ∈ kBIG := kT3 (List.mem_of_getElem? (i := 158) rfl) rfl
theorem q3_159 : Cond.instanceMethod yX5_send ∈ kBIG := kT3 (List.mem_of_getElem? (i := 159) rfl) rfl
theorem q3_160 : Cond.selects RX5 yX5_send yX5_send ∈ kBIG := kT3 (List.mem_of_getElem? (i := 160) rfl) rfl
theorem q3_161 : Cond.code yX5_send cX5_send 2 (some .int) ∈ kBIG := kT3 (List.mem_of_getElem? (i := 161) rfl) rfl
theorem q3_162 : Cond.methodLink RX5 174 yX5_sent ∈ kBIG := kT3 (List.mem_of_getElem? (i := 162) rfl) rfl
theorem q3_164 : Cond.instanceMethod yX5_sent ∈ kBIG := kT3 (List.mem_of_getElem? (i := 164) rfl) rfl
theorem q3_165 : Cond.code yX5_sent cX5_sent 3 (some .int) ∈ kBIG := kT3 (List.mem_of_getElem? (i := 165) rfl) rfl
theorem q3_166 : Cond.methodLink RL 47 yX5_comes ∈ kBIG := kT3 (List.mem_of_getElem? (i := 166) rfl) rfl
theorem q3_167 : Cond.instanceMethod yX5_comes ∈ kBIG := kT3 (List.mem_of_getElem? (i := 167) rfl) rfl
theorem q3_168 : Cond.selects RX5 yX5_comes yX5_comes ∈ kBIG := kT3 (List.mem_of_getElem? (i := 168) rfl) rfl
theorem q3_169 : Cond.code yX5_comes cX5_comes 6 (some .int) ∈ kBIG := kT3 (List.mem_of_getElem? (i := 169) rfl) rfl
theorem q3_170 : Cond.methodLink RL 52 yX5_round ∈ kBIG := kT3 (List.mem_of_getElem? (i := 170) rfl) rfl
theorem q3_171 : Cond.instanceMethod yX5_round ∈ kBIG := kT3 (List.mem_of_getElem? (i := 171) rfl) rfl
theorem q3_172 : Cond.selects RX5 yX5_round yX5_round ∈ kBIG := kT3 (List.mem_of_getElem? (i := 172) rfl) rfl
theorem q3_173 : Cond.code yX5_round cX5_round 8 (some .int) ∈ kBIG := kT3 (List.mem_of_getElem? (i := 173) rfl) rfl
theorem q3_174 : Cond.constantLong RX5 183 (20) ∈ kBIG := kT3 (List.mem_of_getElem? (i := 174) rfl) rfl
theorem q3_175 : Cond.constantLong RX5 179 (10) ∈ kBIG := kT3 (List.mem_of_getElem? (i := 175) rfl) rfl
theorem q3_176 : Cond.constantLong RX5 185 (15) ∈ kBIG := kT3 (List.mem_of_getElem? (i := 176) rfl) rfl
theorem q3_177 : Cond.methodLink RX5 187 yX5_pairsBarred ∈ kBIG := kT3 (List.mem_of_getElem? (i := 177) rfl) rfl
theorem q3_179 : Cond.instanceMethod yX5_pairsBarred ∈ kBIG := kT3 (List.mem_of_getElem? (i := 179) rfl) rfl
theorem q3_180 : Cond.code yX5_pairsBarred cX5_pairsBarred 5 (some .int) ∈ kBIG := kT3 (List.mem_of_getElem? (i := 180) rfl) rfl
theorem q3_181 : Cond.constantLong RX5 177 (8) ∈ kBIG := kT3 (List.mem_of_getElem? (i := 181) rfl) rfl
theorem q3_182 : Cond.constantLong RX5 181 (19) ∈ kBIG := kT3 (List.mem_of_getElem? (i := 182) rfl) rfl
theorem q3_183 : Cond.methodLink RX5 190 yX5_keepAll ∈ kBIG := kT3 (List.mem_of_getElem? (i := 183) rfl) rfl
theorem q3_185 : Cond.instanceMethod yX5_keepAll ∈ kBIG := kT3 (List.mem_of_getElem? (i := 185) rfl) rfl
theorem q3_186 : Cond.code yX5_keepAll cX5_keepAll 2 none ∈ kBIG := kT3 (List.mem_of_getElem? (i := 186) rfl) rfl
theorem q3_187 : Cond.methodLink RX5 193 yX5_roundBy ∈ kBIG := kT3 (List.mem_of_getElem? (i := 187) rfl) rfl
theorem q3_189 : Cond.instanceMethod yX5_roundBy ∈ kBIG := kT3 (List.mem_of_getElem? (i := 189) rfl) rfl
theorem q3_190 : Cond.code yX5_roundBy cX5_roundBy 12 (some .int) ∈ kBIG := kT3 (List.mem_of_getElem? (i := 190) rfl) rfl
theorem q3_191 : Cond.methodLink RX5 197 yX5_bringBack ∈ kBIG := kT3 (List.mem_of_getElem? (i := 191) rfl) rfl
theorem q3_193 : Cond.instanceMethod yX5_bringBack ∈ kBIG := kT3 (List.mem_of_getElem? (i := 193) rfl) rfl
theorem q3_194 : Cond.code yX5_bringBack cX5_bringBack 2 none ∈ kBIG := kT3 (List.mem_of_getElem? (i := 194) rfl) rfl
theorem q3_195 : Cond.methodLink RL 56 yX5_strict ∈ kBIG := kT3 (List.mem_of_getElem? (i := 195) rfl) rfl
theorem q3_196 : Cond.instanceMethod yX5_strict ∈ kBIG := kT3 (List.mem_of_getElem? (i := 196) rfl) rfl
theorem q3_197 : Cond.selects RX5 yX5_strict yX5_strict ∈ kBIG := kT3 (List.mem_of_getElem? (i := 197) rfl) rfl
theorem q3_198 : Cond.code yX5_strict cX5_strict 5 (some .int) ∈ kBIG := kT3 (List.mem_of_getElem? (i := 198) rfl) rfl
theorem q3_199 : Cond.methodLink RL 60 yX5_site ∈ kBIG := kT3 (List.mem_of_getElem? (i := 199) rfl) rfl
theorem q3_200 : Cond.instanceMethod yX5_site ∈ kBIG := kT3 (List.mem_of_getElem? (i := 200) rfl) rfl
theorem q3_201 : Cond.selects RX5 yX5_site yX5_site ∈ kBIG := kT3 (List.mem_of_getElem? (i := 201) rfl) rfl
theorem q3_202 : Cond.code yX5_site cX5_site 7 (some .int) ∈ kBIG := kT3 (List.mem_of_getElem? (i := 202) rfl) rfl
theorem q3_203 : Cond.methodLink RX5 200 yX5_comeNow ∈ kBIG := kT3 (List.mem_of_getElem? (i := 203) rfl) rfl
theorem q3_205 : Cond.instanceMethod yX5_comeNow ∈ kBIG := kT3 (List.mem_of_getElem? (i := 205) rfl) rfl
theorem q3_206 : Cond.code yX5_comeNow cX5_comeNow 3 (some .int) ∈ kBIG := kT3 (List.mem_of_getElem? (i := 206) rfl) rfl
theorem q3_207 : Cond.methodLink RL 64 yX5_order ∈ kBIG := kT3 (List.mem_of_getElem? (i := 207) rfl) rfl
theorem q3_208 : Cond.instanceMethod yX5_order ∈ kBIG := kT3 (List.mem_of_getElem? (i := 208) rfl) rfl
theorem q3_209 : Cond.selects RX5 yX5_order yX5_order ∈ kBIG := kT3 (List.mem_of_getElem? (i := 209) rfl) rfl
theorem q3_210 : Cond.code yX5_order cX5_order 3 (some .int) ∈ kBIG := kT3 (List.mem_of_getElem? (i := 210) rfl) rfl
theorem q3_211 : Cond.constantLong RX5 215 (-1) ∈ kBIG := kT3 (List.mem_of_getElem? (i := 211) rfl) rfl
theorem q3_212 : Cond.constantLong RX5 217 (5) ∈ kBIG := kT3 (List.mem_of_getElem? (i := 212) rfl) rfl
theorem q3_213 : Cond.methodLink RX5 219 yX5_bestOrder ∈ kBIG := kT3 (List.mem_of_getElem? (i := 213) rfl) rfl
theorem q3_215 : Cond.instanceMethod yX5_bestOrder ∈ kBIG := kT3 (List.mem_of_getElem? (i := 215) rfl) rfl
theorem q3_216 : Cond.code yX5_bestOrder cX5_bestOrder 5 (some .int) ∈ kBIG := kT3 (List.mem_of_getElem? (i := 216) rfl) rfl
theorem q3_217 : Cond.methodLink RX5 208 yX5_comeInOrder ∈ kBIG := kT3 (List.mem_of_getElem? (i := 217) rfl) rfl
theorem q3_219 : Cond.instanceMethod yX5_comeInOrder ∈ kBIG := kT3 (List.mem_of_getElem? (i := 219) rfl) rfl
theorem q3_220 : Cond.code yX5_comeInOrder cX5_comeInOrder 3 (some .int) ∈ kBIG := kT3 (List.mem_of_getElem? (i := 220) rfl) rfl
theorem q3_221 : Cond.methodLink RX5 211 yX5_nextOrder ∈ kBIG := kT3 (List.mem_of_getElem? (i := 221) rfl) rfl
theorem q3_223 : Cond.instanceMethod yX5_nextOrder ∈ kBIG := kT3 (List.mem_of_getElem? (i := 223) rfl) rfl
theorem q3_224 : Cond.code yX5_nextOrder cX5_nextOrder 5 (some .boolean) ∈ kBIG := kT3 (List.mem_of_getElem? (i := 224) rfl) rfl
theorem q3_225 : Cond.methodLink RX5 204 yX5_exchange ∈ kBIG := kT3 (List.mem_of_getElem? (i := 225) rfl) rfl
theorem q3_227 : Cond.instanceMethod yX5_exchange ∈ kBIG := kT3 (List.mem_of_getElem? (i := 227) rfl) rfl
theorem q3_228 : Cond.code yX5_exchange cX5_exchange 4 none ∈ kBIG := kT3 (List.mem_of_getElem? (i := 228) rfl) rfl
theorem q3_229 : Cond.methodLink RL 68 yX5_ahead ∈ kBIG := kT3 (List.mem_of_getElem? (i := 229) rfl) rfl
theorem q3_230 : Cond.instanceMethod yX5_ahead ∈ kBIG := kT3 (List.mem_of_getElem? (i := 230) rfl) rfl
theorem q3_231 : Cond.selects RX5 yX5_ahead yX5_ahead ∈ kBIG := kT3 (List.mem_of_getElem? (i := 231) rfl) rfl
theorem q3_232 : Cond.code yX5_ahead cX5_ahead 5 (some .int) ∈ kBIG := kT3 (List.mem_of_getElem? (i := 232) rfl) rfl
theorem q3_233 : Cond.methodLink RX5 229 yX5_spreads ∈ kBIG := kT3 (List.mem_of_getElem? (i := 233) rfl) rfl
theorem q3_235 : Cond.instanceMethod yX5_spreads ∈ kBIG := kT3 (List.mem_of_getElem? (i := 235) rfl) rfl
theorem q3_236 : Cond.code yX5_spreads cX5_spreads 6 none ∈ kBIG := kT3 (List.mem_of_getElem? (i := 236) rfl) rfl
theorem q3_237 : Cond.methodLink RX5 225 yX5_asMet ∈ kBIG := kT3 (List.mem_of_getElem? (i := 237) rfl) rfl
theorem q3_239 : Cond.instanceMethod yX5_asMet ∈ kBIG := kT3 (List.mem_of_getElem? (i := 239) rfl) rfl
theorem q4_0 : Cond.code yX5_asMet cX5_asMet 3 none ∈ kBIG := kT4 (List.mem_of_getElem? (i := 0) rfl) rfl
theorem q4_1 : Cond.methodLink RX5 222 yX5_isIn ∈ kBIG := kT4 (List.mem_of_getElem? (i := 1) rfl) rfl
theorem q4_2 : Cond.static yX5_isIn ∈ kBIG := kT4 (List.mem_of_getElem? (i := 2) rfl) rfl
theorem q4_3 : Cond.code yX5_isIn cX5_isIn 2 (some .boolean) ∈ kBIG := kT4 (List.mem_of_getElem? (i := 3) rfl) rfl
theorem q4_4 : Cond.methodLink RL 72 yX5_reading ∈ kBIG := kT4 (List.mem_of_getElem? (i := 4) rfl) rfl
theorem q4_5 : Cond.instanceMethod yX5_reading ∈ kBIG := kT4 (List.mem_of_getElem? (i := 5) rfl) rfl
theorem q4_6 : Cond.selects RX5 yX5_reading yX5_reading ∈ kBIG := kT4 (List.mem_of_getElem? (i := 6) rfl) rfl
theorem q4_7 : Cond.code yX5_reading cX5_reading 3 (some .int) ∈ kBIG := kT4 (List.mem_of_getElem? (i := 7) rfl) rfl
theorem q4_8 : Cond.methodLink RL 76 yX5_back ∈ kBIG := kT4 (List.mem_of_getElem? (i := 8) rfl) rfl
theorem q4_9 : Cond.instanceMethod yX5_back ∈ kBIG := kT4 (List.mem_of_getElem? (i := 9) rfl) rfl
theorem q4_10 : Cond.selects RX5 yX5_back yX5_back ∈ kBIG := kT4 (List.mem_of_getElem? (i := 10) rfl) rfl
theorem q4_11 : Cond.code yX5_back cX5_back 2 (some .int) ∈ kBIG := kT4 (List.mem_of_getElem? (i := 11) rfl) rfl
theorem q4_12 : Cond.methodLink RL 80 yX5_smells ∈ kBIG := kT4 (List.mem_of_getElem? (i := 12) rfl) rfl
theorem q4_13 : Cond.instanceMethod yX5_smells ∈ kBIG := kT4 (List.mem_of_getElem? (i := 13) rfl) rfl
theorem q4_14 : Cond.selects RX5 yX5_smells yX5_smells ∈ kBIG := kT4 (List.mem_of_getElem? (i := 14) rfl) rfl
theorem q4_15 : Cond.code yX5_smells cX5_smells 5 (some .int) ∈ kBIG := kT4 (List.mem_of_getElem? (i := 15) rfl) rfl
theorem q4_16 : Cond.methodLink RX5 232 yX5_areSo ∈ kBIG := kT4 (List.mem_of_getElem? (i := 16) rfl) rfl
theorem q4_18 : Cond.instanceMethod yX5_areSo ∈ kBIG := kT4 (List.mem_of_getElem? (i := 18) rfl) rfl
theorem q4_19 : Cond.code yX5_areSo cX5_areSo 3 (some .boolean) ∈ kBIG := kT4 (List.mem_of_getElem? (i := 19) rfl) rfl
theorem q4_20 : Cond.methodLink RL 84 yX5_pasts ∈ kBIG := kT4 (List.mem_of_getElem? (i := 20) rfl) rfl
theorem q4_21 : Cond.instanceMethod yX5_pasts ∈ kBIG := kT4 (List.mem_of_getElem? (i := 21) rfl) rfl
theorem q4_22 : Cond.selects RX5 yX5_pasts yX5_pasts ∈ kBIG := kT4 (List.mem_of_getElem? (i := 22) rfl) rfl
theorem q4_23 : Cond.code yX5_pasts cX5_pasts 5 (some .int) ∈ kBIG := kT4 (List.mem_of_getElem? (i := 23) rfl) rfl
theorem q4_24 : Cond.methodLink RL 88 yX5_kinds ∈ kBIG := kT4 (List.mem_of_getElem? (i := 24) rfl) rfl
theorem q4_25 : Cond.instanceMethod yX5_kinds ∈ kBIG := kT4 (List.mem_of_getElem? (i := 25) rfl) rfl
theorem q4_26 : Cond.selects RX5 yX5_kinds yX5_kinds ∈ kBIG := kT4 (List.mem_of_getElem? (i := 26) rfl) rfl
theorem q4_27 : Cond.code yX5_kinds cX5_kinds 5 (some .int) ∈ kBIG := kT4 (List.mem_of_getElem? (i := 27) rfl) rfl
theorem q4_28 : Cond.methodLink RL 93 yX5_odds ∈ kBIG := kT4 (List.mem_of_getElem? (i := 28) rfl) rfl
theorem q4_29 : Cond.instanceMethod yX5_odds ∈ kBIG := kT4 (List.mem_of_getElem? (i := 29) rfl) rfl
theorem q4_30 : Cond.selects RX5 yX5_odds yX5_odds ∈ kBIG := kT4 (List.mem_of_getElem? (i := 30) rfl) rfl
theorem q4_31 : Cond.code yX5_odds cX5_odds 7 (some .long) ∈ kBIG := kT4 (List.mem_of_getElem? (i := 31) rfl) rfl
theorem q4_32 : Cond.methodLink RX5 76 yX5_lost ∈ kBIG := kT4 (List.mem_of_getElem? (i := 32) rfl) rfl
theorem q4_33 : Cond.static yX5_lost ∈ kBIG := kT4 (List.mem_of_getElem? (i := 33) rfl) rfl
theorem q4_34 : Cond.code yX5_lost cX5_lost 0 (some .long) ∈ kBIG := kT4 (List.mem_of_getElem? (i := 34) rfl) rfl
theorem q4_35 : Cond.constantLong RX5 70 (-9223372036854775808) ∈ kBIG := kT4 (List.mem_of_getElem? (i := 35) rfl) rfl
theorem q4_36 : Cond.methodLink RX5 235 yX5_share ∈ kBIG := kT4 (List.mem_of_getElem? (i := 36) rfl) rfl
theorem q4_37 : Cond.static yX5_share ∈ kBIG := kT4 (List.mem_of_getElem? (i := 37) rfl) rfl
theorem q4_38 : Cond.code yX5_share cX5_share 11 (some .long) ∈ kBIG := kT4 (List.mem_of_getElem? (i := 38) rfl) rfl
theorem q4_39 : Cond.methodLink RL 98 yX5_sheet ∈ kBIG := kT4 (List.mem_of_getElem? (i := 39) rfl) rfl
theorem q4_40 : Cond.instanceMethod yX5_sheet ∈ kBIG := kT4 (List.mem_of_getElem? (i := 40) rfl) rfl
theorem q4_41 : Cond.selects RX5 yX5_sheet yX5_sheet ∈ kBIG := kT4 (List.mem_of_getElem? (i := 41) rfl) rfl
theorem q4_42 : Cond.code yX5_sheet cX5_sheet 5 (some .int) ∈ kBIG := kT4 (List.mem_of_getElem? (i := 42) rfl) rfl
theorem q4_43 : Cond.methodLink RL 102 yX5_lose ∈ kBIG := kT4 (List.mem_of_getElem? (i := 43) rfl) rfl
theorem q4_44 : Cond.instanceMethod yX5_lose ∈ kBIG := kT4 (List.mem_of_getElem? (i := 44) rfl) rfl
theorem q4_45 : Cond.selects RX5 yX5_lose yX5_lose ∈ kBIG := kT4 (List.mem_of_getElem? (i := 45) rfl) rfl
theorem q4_46 : Cond.code yX5_lose cX5_lose 3 (some .int) ∈ kBIG := kT4 (List.mem_of_getElem? (i := 46) rfl) rfl
theorem q4_47 : Cond.methodLink RL 106 yX5_put ∈ kBIG := kT4 (List.mem_of_getElem? (i := 47) rfl) rfl
theorem q4_48 : Cond.instanceMethod yX5_put ∈ kBIG := kT4 (List.mem_of_getElem? (i := 48) rfl) rfl
theorem q4_49 : Cond.selects RX5 yX5_put yX5_put ∈ kBIG := kT4 (List.mem_of_getElem? (i := 49) rfl) rfl
theorem q4_50 : Cond.code yX5_put cX5_put 4 (some .int) ∈ kBIG := kT4 (List.mem_of_getElem? (i := 50) rfl) rfl
theorem q4_51 : Cond.methodLink RX5 239 yX5_noCell ∈ kBIG := kT4 (List.mem_of_getElem? (i := 51) rfl) rfl
theorem q4_53 : Cond.instanceMethod yX5_noCell ∈ kBIG := kT4 (List.mem_of_getElem? (i := 53) rfl) rfl
theorem q4_54 : Cond.code yX5_noCell cX5_noCell 3 (some .int) ∈ kBIG := kT4 (List.mem_of_getElem? (i := 54) rfl) rfl
theorem q4_55 : Cond.methodLink RL 111 yX5_cell ∈ kBIG := kT4 (List.mem_of_getElem? (i := 55) rfl) rfl
theorem q4_56 : Cond.instanceMethod yX5_cell ∈ kBIG := kT4 (List.mem_of_getElem? (i := 56) rfl) rfl
theorem q4_57 : Cond.selects RX5 yX5_cell yX5_cell ∈ kBIG := kT4 (List.mem_of_getElem? (i := 57) rfl) rfl
theorem q4_58 : Cond.code yX5_cell cX5_cell 4 (some .long) ∈ kBIG := kT4 (List.mem_of_getElem? (i := 58) rfl) rfl
theorem q4_59 : Cond.methodLink RX5 242 yX5_failedLong ∈ kBIG := kT4 (List.mem_of_getElem? (i := 59) rfl) rfl
theorem q4_61 : Cond.instanceMethod yX5_failedLong ∈ kBIG := kT4 (List.mem_of_getElem? (i := 61) rfl) rfl
theorem q4_62 : Cond.code yX5_failedLong cX5_failedLong 2 (some .long) ∈ kBIG := kT4 (List.mem_of_getElem? (i := 62) rfl) rfl
theorem q4_63 : Cond.methodLink RL 115 yX5_copy ∈ kBIG := kT4 (List.mem_of_getElem? (i := 63) rfl) rfl
theorem q4_64 : Cond.instanceMethod yX5_copy ∈ kBIG := kT4 (List.mem_of_getElem? (i := 64) rfl) rfl
theorem q4_65 : Cond.selects RX5 yX5_copy yX5_copy ∈ kBIG := kT4 (List.mem_of_getElem? (i := 65) rfl) rfl
theorem q4_66 : Cond.code yX5_copy cX5_copy 7 (some .int) ∈ kBIG := kT4 (List.mem_of_getElem? (i := 66) rfl) rfl
theorem q4_67 : Cond.methodLink RL 119 yX5_tell ∈ kBIG := kT4 (List.mem_of_getElem? (i := 67) rfl) rfl
theorem q4_68 : Cond.instanceMethod yX5_tell ∈ kBIG := kT4 (List.mem_of_getElem? (i := 68) rfl) rfl
theorem q4_69 : Cond.selects RX5 yX5_tell yX5_tell ∈ kBIG := kT4 (List.mem_of_getElem? (i := 69) rfl) rfl
theorem q4_70 : Cond.code yX5_tell cX5_tell 4 (some .int) ∈ kBIG := kT4 (List.mem_of_getElem? (i := 70) rfl) rfl
theorem q4_71 : Cond.methodLink RX5 249 yX5_traced ∈ kBIG := kT4 (List.mem_of_getElem? (i := 71) rfl) rfl
theorem q4_73 : Cond.instanceMethod yX5_traced ∈ kBIG := kT4 (List.mem_of_getElem? (i := 73) rfl) rfl
theorem q4_74 : Cond.code yX5_traced cX5_traced 2 none ∈ kBIG := kT4 (List.mem_of_getElem? (i := 74) rfl) rfl
theorem q4_75 : Cond.methodLink RL 123 yX5_whistle ∈ kBIG := kT4 (List.mem_of_getElem? (i := 75) rfl) rfl
theorem q4_76 : Cond.instanceMethod yX5_whistle ∈ kBIG := kT4 (List.mem_of_getElem? (i := 76) rfl) rfl
theorem q4_77 : Cond.selects RX5 yX5_whistle yX5_whistle ∈ kBIG := kT4 (List.mem_of_getElem? (i := 77) rfl) rfl
theorem q4_78 : Cond.code yX5_whistle cX5_whistle 2 (some .int) ∈ kBIG := kT4 (List.mem_of_getElem? (i := 78) rfl) rfl
theorem q4_79 : Cond.methodLink RL 127 yX5_as ∈ kBIG := kT4 (List.mem_of_getElem? (i := 79) rfl) rfl
theorem q4_80 : Cond.instanceMethod yX5_as ∈ kBIG := kT4 (List.mem_of_getElem? (i := 80) rfl) rfl
theorem q4_81 : Cond.selects RX5 yX5_as yX5_as ∈ kBIG := kT4 (List.mem_of_getElem? (i := 81) rfl) rfl
theorem q4_82 : Cond.code yX5_as cX5_as 3 (some .int) ∈ kBIG := kT4 (List.mem_of_getElem? (i := 82) rfl) rfl
theorem q4_83 : Cond.methodLink RL 132 yX5_trace ∈ kBIG := kT4 (List.mem_of_getElem? (i := 83) rfl) rfl
theorem q4_84 : Cond.instanceMethod yX5_trace ∈ kBIG := kT4 (List.mem_of_getElem? (i := 84) rfl) rfl
theorem q4_85 : Cond.selects RX5 yX5_trace yX5_trace ∈ kBIG := kT4 (List.mem_of_getElem? (i := 85) rfl) rfl
theorem q4_86 : Cond.code yX5_trace cX5_trace 1 (some .int) ∈ kBIG := kT4 (List.mem_of_getElem? (i := 86) rfl) rfl
theorem q4_87 : Cond.methodLink RL 136 yX5_fault ∈ kBIG := kT4 (List.mem_of_getElem? (i := 87) rfl) rfl
theorem q4_88 : Cond.instanceMethod yX5_fault ∈ kBIG := kT4 (List.mem_of_getElem? (i := 88) rfl) rfl
theorem q4_89 : Cond.selects RX5 yX5_fault yX5_fault ∈ kBIG := kT4 (List.mem_of_getElem? (i := 89) rfl) rfl
theorem q4_90 : Cond.code yX5_fault cX5_fault 1 (some .int) ∈ kBIG := kT4 (List.mem_of_getElem? (i := 90) rfl) rfl
theorem q4_91 : Cond.methodLink RL 140 yX5_many ∈ kBIG := kT4 (List.mem_of_getElem? (i := 91) rfl) rfl
theorem q4_92 : Cond.instanceMethod yX5_many ∈ kBIG := kT4 (List.mem_of_getElem? (i := 92) rfl) rfl
theorem q4_93 : Cond.selects RX5 yX5_many yX5_many ∈ kBIG := kT4 (List.mem_of_getElem? (i := 93) rfl) rfl
theorem q4_94 : Cond.code yX5_many cX5_many 2 (some .int) ∈ kBIG := kT4 (List.mem_of_getElem? (i := 94) rfl) rfl
theorem inX0 : ∀ w ∈ u_ws RX0 TX0 7, w ∈ kBIG := List.forall_mem_cons.mpr ⟨q1_45, List.forall_mem_cons.mpr ⟨q1_47, List.forall_mem_cons.mpr ⟨q1_49, List.forall_mem_cons.mpr ⟨q1_51, List.forall_mem_cons.mpr ⟨q1_53, List.forall_mem_cons.mpr ⟨q1_55, List.forall_mem_cons.mpr ⟨q1_57, fun _ h => absurd h List.not_mem_nil⟩⟩⟩⟩⟩⟩⟩
theorem inX1 : ∀ w ∈ u_ws RX1 TX1 4, w ∈ kBIG := List.forall_mem_cons.mpr ⟨q1_75, List.forall_mem_cons.mpr ⟨q1_77, List.forall_mem_cons.mpr ⟨q1_79, List.forall_mem_cons.mpr ⟨q1_81, fun _ h => absurd h List.not_mem_nil⟩⟩⟩⟩
theorem inX2 : ∀ w ∈ u_ws RX2 TX2 4, w ∈ kBIG := List.forall_mem_cons.mpr ⟨q1_98, List.forall_mem_cons.mpr ⟨q1_100, List.forall_mem_cons.mpr ⟨q1_102, List.forall_mem_cons.mpr ⟨q1_104, fun _ h => absurd h List.not_mem_nil⟩⟩⟩⟩
theorem inX4 : ∀ w ∈ u_ws RX4 TX4 13, w ∈ kBIG := List.forall_mem_cons.mpr ⟨q1_120, List.forall_mem_cons.mpr ⟨q1_122, List.forall_mem_cons.mpr ⟨q1_124, List.forall_mem_cons.mpr ⟨q1_126, List.forall_mem_cons.mpr ⟨q1_128, List.forall_mem_cons.mpr ⟨q1_130, List.forall_mem_cons.mpr ⟨q1_132, List.forall_mem_cons.mpr ⟨q1_134, List.forall_mem_cons.mpr ⟨q1_136, List.forall_mem_cons.mpr ⟨q1_138, List.forall_mem_cons.mpr ⟨q1_140, List.forall_mem_cons.mpr ⟨q1_142, List.forall_mem_cons.mpr ⟨q1_144, fun _ h => absurd h List.not_mem_nil⟩⟩⟩⟩⟩⟩⟩⟩⟩⟩⟩⟩⟩
theorem inX5 : ∀ w ∈ u_ws RX5 TX5 31, w ∈ kBIG := List.forall_mem_cons.mpr ⟨q3_4, List.forall_mem_cons.mpr ⟨q3_6, List.forall_mem_cons.mpr ⟨q3_8, List.forall_mem_cons.mpr ⟨q3_10, List.forall_mem_cons.mpr ⟨q3_12, List.forall_mem_cons.mpr ⟨q3_14, List.forall_mem_cons.mpr ⟨q3_16, List.forall_mem_cons.mpr ⟨q3_18, List.forall_mem_cons.mpr ⟨q3_20, List.forall_mem_cons.mpr ⟨q3_22, List.forall_mem_cons.mpr ⟨q3_24, List.forall_mem_cons.mpr ⟨q3_26, List.forall_mem_cons.mpr ⟨q3_28, List.forall_mem_cons.mpr ⟨q3_30, List.forall_mem_cons.mpr ⟨q3_32, List.forall_mem_cons.mpr ⟨q3_34, List.forall_mem_cons.mpr ⟨q3_36, List.forall_mem_cons.mpr ⟨q3_38, List.forall_mem_cons.mpr ⟨q3_40, List.forall_mem_cons.mpr ⟨q3_42, List.forall_mem_cons.mpr ⟨q3_44, List.forall_mem_cons.mpr ⟨q3_46, List.forall_mem_cons.mpr ⟨q3_48, List.forall_mem_cons.mpr ⟨q3_50, List.forall_mem_cons.mpr ⟨q3_52, List.forall_mem_cons.mpr ⟨q3_54, List.forall_mem_cons.mpr ⟨q3_56, List.forall_mem_cons.mpr ⟨q3_58, List.forall_mem_cons.mpr ⟨q3_60, List.forall_mem_cons.mpr ⟨q3_62, List.forall_mem_cons.mpr ⟨q3_64, fun _ h => absurd h List.not_mem_nil⟩⟩⟩⟩⟩⟩⟩⟩⟩⟩⟩⟩⟩⟩⟩⟩⟩⟩⟩⟩⟩⟩⟩⟩⟩⟩⟩⟩⟩⟩⟩
end
section
theorem dX0_init_0 : decode cX0_init 0 = .ok (.aload_n 0, 1) := by decide +kernel
theorem dX0_init_1 : decode cX0_init 1 = .ok (.invokespecial 3, 3) := by decide +kernel
theorem dX0_init_4 : decode cX0_init 4 = .ok (.aload_n 0, 1) := by decide +kernel
theorem dX0_init_5 : decode cX0_init 5 = .ok (.bipush 6, 2) := by decide +kernel
theorem dX0_init_7 : decode cX0_init 7 = .ok (.newarray .int, 2) := by decide +kernel
theorem dX0_init_9 : decode cX0_init 9 = .ok (.putfield 9, 3) := by decide +kernel
theorem dX0_init_12 : decode cX0_init 12 = .ok (.aload_n 0, 1) := by decide +kernel
theorem dX0_init_13 : decode cX0_init 13 = .ok (.bipush 6, 2) := by decide +kernel
theorem dX0_init_15 : decode cX0_init 15 = .ok (.newarray .int, 2) := by decide +kernel
theorem dX0_init_17 : decode cX0_init 17 = .ok (.putfield 15, 3) := by decide +kernel
theorem dX0_init_20 : decode cX0_init 20 = .ok (.aload_n 0, 1) := by decide +kernel
theorem dX0_init_21 : decode cX0_init 21 = .ok (.bipush 6, 2) := by decide +kernel
theorem dX0_init_23 : decode cX0_init 23 = .ok (.newarray .int, 2) := by decide +kernel
theorem dX0_init_25 : decode cX0_init 25 = .ok (.putfield 18, 3) := by decide +kernel
theorem dX0_init_28 : decode cX0_init 28 = .ok (.aload_n 0, 1) := by decide +kernel
theorem dX0_init_29 : decode cX0_init 29 = .ok (.bipush 6, 2) := by decide +kernel
theorem dX0_init_31 : decode cX0_init 31 = .ok (.newarray .int, 2) := by decide +kernel
theorem dX0_init_33 : decode cX0_init 33 = .ok (.putfield 21, 3) := by decide +kernel
theorem dX0_init_36 : decode cX0_init 36 = .ok (.return_, 1) := by decide +kernel
theorem dX0_become_0 : decode cX0_become 0 = .ok (.aload_n 0, 1) := by decide +kernel
theorem dX0_become_1 : decode cX0_become 1 = .ok (.aload_n 1, 1) := by decide +kernel
theorem dX0_become_2 : decode cX0_become 2 = .ok (.getfield 24, 3) := by decide +kernel
theorem dX0_become_5 : decode cX0_become 5 = .ok (.putfield 24, 3) := by decide +kernel
theorem dX0_become_8 : decode cX0_become 8 = .ok (.aload_n 0, 1) := by decide +kernel
theorem dX0_become_9 : decode cX0_become 9 = .ok (.aload_n 1, 1) := by decide +kernel
theorem dX0_become_10 : decode cX0_become 10 = .ok (.getfield 28, 3) := by decide +kernel
theorem dX0_become_13 : decode cX0_become 13 = .ok (.putfield 28, 3) := by decide +kernel
theorem dX0_become_16 : decode cX0_become 16 = .ok (.aload_n 0, 1) := by decide +kernel
theorem dX0_become_17 : decode cX0_become 17 = .ok (.aload_n 1, 1) := by decide +kernel
theorem dX0_become_18 : decode cX0_become 18 = .ok (.getfield 31, 3) := by decide +kernel
theorem dX0_become_21 : decode cX0_become 21 = .ok (.putfield 31, 3) := by decide +kernel
theorem dX0_become_24 : decode cX0_become 24 = .ok (.aload_n 1, 1) := by decide +kernel
theorem dX0_become_25 : decode cX0_become 25 = .ok (.getfield 9, 3) := by decide +kernel
theorem dX0_become_28 : decode cX0_become 28 = .ok (.iconst 0, 1) := by decide +kernel
theorem dX0_become_29 : decode cX0_become 29 = .ok (.aload_n 0, 1) := by decide +kernel
theorem dX0_become_30 : decode cX0_become 30 = .ok (.getfield 9, 3) := by decide +kernel
theorem dX0_become_33 : decode cX0_become 33 = .ok (.iconst 0, 1) := by decide +kernel
theorem dX0_become_34 : decode cX0_become 34 = .ok (.bipush 6, 2) := by decide +kernel
theorem dX0_become_36 : decode cX0_become 36 = .ok (.invokestatic 34, 3) := by decide +kernel
theorem dX0_become_39 : decode cX0_become 39 = .ok (.aload_n 1, 1) := by decide +kernel
theorem dX0_become_40 : decode cX0_become 40 = .ok (.getfield 15, 3) := by decide +kernel
theorem dX0_become_43 : decode cX0_become 43 = .ok (.iconst 0, 1) := by decide +kernel
theorem dX0_become_44 : decode cX0_become 44 = .ok (.aload_n 0, 1) := by decide +kernel
theorem dX0_become_45 : decode cX0_become 45 = .ok (.getfield 15, 3) := by decide +kernel
theorem dX0_become_48 : decode cX0_become 48 = .ok (.iconst 0, 1) := by decide +kernel
theorem dX0_become_49 : decode cX0_become 49 = .ok (.bipush 6, 2) := by decide +kernel
theorem dX0_become_51 : decode cX0_become 51 = .ok (.invokestatic 34, 3) := by decide +kernel
theorem dX0_become_54 : decode cX0_become 54 = .ok (.aload_n 1, 1) := by decide +kernel
theorem dX0_become_55 : decode cX0_become 55 = .ok (.getfield 18, 3) := by decide +kernel
theorem dX0_become_58 : decode cX0_become 58 = .ok (.iconst 0, 1) := by decide +kernel
theorem dX0_become_59 : decode cX0_become 59 = .ok (.aload_n 0, 1) := by decide +kernel
theorem dX0_become_60 : decode cX0_become 60 = .ok (.getfield 18, 3) := by decide +kernel
theorem dX0_become_63 : decode cX0_become 63 = .ok (.iconst 0, 1) := by decide +kernel
theorem dX0_become_64 : decode cX0_become 64 = .ok (.bipush 6, 2) := by decide +kernel
theorem dX0_become_66 : decode cX0_become 66 = .ok (.invokestatic 34, 3) := by decide +kernel
theorem dX0_become_69 : decode cX0_become 69 = .ok (.aload_n 1, 1) := by decide +kernel
theorem dX0_become_70 : decode cX0_become 70 = .ok (.getfield 21, 3) := by decide +kernel
theorem dX0_become_73 : decode cX0_become 73 = .ok (.iconst 0, 1) := by decide +kernel
theorem dX0_become_74 : decode cX0_become 74 = .ok (.aload_n 0, 1) := by decide +kernel
theorem dX0_become_75 : decode cX0_become 75 = .ok (.getfield 21, 3) := by decide +kernel
theorem dX0_become_78 : decode cX0_become 78 = .ok (.iconst 0, 1) := by decide +kernel
theorem dX0_become_79 : decode cX0_become 79 = .ok (.bipush 6, 2) := by decide +kernel
theorem dX0_become_81 : decode cX0_become 81 = .ok (.invokestatic 34, 3) := by decide +kernel
theorem dX0_become_84 : decode cX0_become 84 = .ok (.return_, 1) := by decide +kernel
theorem dX0_scentOf_0 : decode cX0_scentOf 0 = .ok (.aload_n 0, 1) := by decide +kernel
theorem dX0_scentOf_1 : decode cX0_scentOf 1 = .ok (.getfield 15, 3) := by decide +kernel
theorem dX0_scentOf_4 : decode cX0_scentOf 4 = .ok (.iload_n 1, 1) := by decide +kernel
theorem dX0_scentOf_5 : decode cX0_scentOf 5 = .ok (.iaload, 1) := by decide +kernel
theorem dX0_scentOf_6 : decode cX0_scentOf 6 = .ok (.invokestatic 40, 3) := by decide +kernel
theorem dX0_scentOf_9 : decode cX0_scentOf 9 = .ok (.istore_n 2, 1) := by decide +kernel
theorem dX0_scentOf_10 : decode cX0_scentOf 10 = .ok (.aload_n 0, 1) := by decide +kernel
theorem dX0_scentOf_11 : decode cX0_scentOf 11 = .ok (.getfield 9, 3) := by decide +kernel
theorem dX0_scentOf_14 : decode cX0_scentOf 14 = .ok (.iload_n 1, 1) := by decide +kernel
theorem dX0_scentOf_15 : decode cX0_scentOf 15 = .ok (.iaload, 1) := by decide +kernel
theorem dX0_scentOf_16 : decode cX0_scentOf 16 = .ok (.lookupswitch 38 #[(1, 34), (2, 28)], 28) := by decide +kernel
theorem dX0_scentOf_44 : decode cX0_scentOf 44 = .ok (.iconst 2, 1) := by decide +kernel
theorem dX0_scentOf_45 : decode cX0_scentOf 45 = .ok (.iload_n 2, 1) := by decide +kernel
theorem dX0_scentOf_46 : decode cX0_scentOf 46 = .ok (.iconst 1, 1) := by decide +kernel
theorem dX0_scentOf_47 : decode cX0_scentOf 47 = .ok (.iadd, 1) := by decide +kernel
theorem dX0_scentOf_48 : decode cX0_scentOf 48 = .ok (.imul, 1) := by decide +kernel
theorem dX0_scentOf_49 : decode cX0_scentOf 49 = .ok (.ireturn, 1) := by decide +kernel
theorem dX0_scentOf_50 : decode cX0_scentOf 50 = .ok (.iload_n 2, 1) := by decide +kernel
theorem dX0_scentOf_51 : decode cX0_scentOf 51 = .ok (.iconst 1, 1) := by decide +kernel
theorem dX0_scentOf_52 : decode cX0_scentOf 52 = .ok (.iadd, 1) := by decide +kernel
theorem dX0_scentOf_53 : decode cX0_scentOf 53 = .ok (.ireturn, 1) := by decide +kernel
theorem dX0_scentOf_54 : decode cX0_scentOf 54 = .ok (.iload_n 2, 1) := by decide +kernel
theorem dX0_scentOf_55 : decode cX0_scentOf 55 = .ok (.ireturn, 1) := by decide +kernel
theorem dX0_distanceOf_0 : decode cX0_distanceOf 0 = .ok (.aload_n 0, 1) := by decide +kernel
theorem dX0_distanceOf_1 : decode cX0_distanceOf 1 = .ok (.getfield 21, 3) := by decide +kernel
theorem dX0_distanceOf_4 : decode cX0_distanceOf 4 = .ok (.iload_n 1, 1) := by decide +kernel
theorem dX0_distanceOf_5 : decode cX0_distanceOf 5 = .ok (.iaload, 1) := by decide +kernel
theorem dX0_distanceOf_6 : decode cX0_distanceOf 6 = .ok (.aload_n 0, 1) := by decide +kernel
theorem dX0_distanceOf_7 : decode cX0_distanceOf 7 = .ok (.getfield 24, 3) := by decide +kernel
theorem dX0_distanceOf_10 : decode cX0_distanceOf 10 = .ok (.isub, 1) := by decide +kernel
theorem dX0_distanceOf_11 : decode cX0_distanceOf 11 = .ok (.invokestatic 46, 3) := by decide +kernel
theorem dX0_distanceOf_14 : decode cX0_distanceOf 14 = .ok (.ireturn, 1) := by decide +kernel
theorem dX0_isSmelt_0 : decode cX0_isSmelt 0 = .ok (.aload_n 0, 1) := by decide +kernel
theorem dX0_isSmelt_1 : decode cX0_isSmelt 1 = .ok (.iload_n 1, 1) := by decide +kernel
theorem dX0_isSmelt_2 : decode cX0_isSmelt 2 = .ok (.invokevirtual 51, 3) := by decide +kernel
theorem dX0_isSmelt_5 : decode cX0_isSmelt 5 = .ok (.aload_n 0, 1) := by decide +kernel
theorem dX0_isSmelt_6 : decode cX0_isSmelt 6 = .ok (.iload_n 1, 1) := by decide +kernel
theorem dX0_isSmelt_7 : decode cX0_isSmelt 7 = .ok (.invokevirtual 54, 3) := by decide +kernel
theorem dX0_isSmelt_10 : decode cX0_isSmelt 10 = .ok (.if_icmp .gt 7, 3) := by decide +kernel
theorem dX0_isSmelt_13 : decode cX0_isSmelt 13 = .ok (.iconst 1, 1) := by decide +kernel
theorem dX0_isSmelt_14 : decode cX0_isSmelt 14 = .ok (.goto 4, 3) := by decide +kernel
theorem dX0_isSmelt_17 : decode cX0_isSmelt 17 = .ok (.iconst 0, 1) := by decide +kernel
theorem dX0_isSmelt_18 : decode cX0_isSmelt 18 = .ok (.ireturn, 1) := by decide +kernel
theorem dX0_goesTo_0 : decode cX0_goesTo 0 = .ok (.bipush (-9), 2) := by decide +kernel
theorem dX0_goesTo_2 : decode cX0_goesTo 2 = .ok (.istore_n 2, 1) := by decide +kernel
theorem dX0_goesTo_3 : decode cX0_goesTo 3 = .ok (.iconst 0, 1) := by decide +kernel
theorem dX0_goesTo_4 : decode cX0_goesTo 4 = .ok (.istore_n 3, 1) := by decide +kernel
theorem dX0_goesTo_5 : decode cX0_goesTo 5 = .ok (.iconst 0, 1) := by decide +kernel
theorem dX0_goesTo_6 : decode cX0_goesTo 6 = .ok (.istore 4, 2) := by decide +kernel
theorem dX0_goesTo_8 : decode cX0_goesTo 8 = .ok (.iconst 0, 1) := by decide +kernel
theorem dX0_goesTo_9 : decode cX0_goesTo 9 = .ok (.istore 5, 2) := by decide +kernel
theorem dX0_goesTo_11 : decode cX0_goesTo 11 = .ok (.iload 5, 2) := by decide +kernel
theorem dX0_goesTo_13 : decode cX0_goesTo 13 = .ok (.aload_n 0, 1) := by decide +kernel
theorem dX0_goesTo_14 : decode cX0_goesTo 14 = .ok (.getfield 31, 3) := by decide +kernel
theorem dX0_goesTo_17 : decode cX0_goesTo 17 = .ok (.if_icmp .ge 94, 3) := by decide +kernel
theorem dX0_goesTo_20 : decode cX0_goesTo 20 = .ok (.aload_n 0, 1) := by decide +kernel
theorem dX0_goesTo_21 : decode cX0_goesTo 21 = .ok (.getfield 15, 3) := by decide +kernel
theorem dX0_goesTo_24 : decode cX0_goesTo 24 = .ok (.iload 5, 2) := by decide +kernel
theorem dX0_goesTo_26 : decode cX0_goesTo 26 = .ok (.iaload, 1) := by decide +kernel
theorem dX0_goesTo_27 : decode cX0_goesTo 27 = .ok (.aload_n 0, 1) := by decide +kernel
theorem dX0_goesTo_28 : decode cX0_goesTo 28 = .ok (.getfield 18, 3) := by decide +kernel
theorem dX0_goesTo_31 : decode cX0_goesTo 31 = .ok (.iload_n 1, 1) := by decide +kernel
theorem dX0_goesTo_32 : decode cX0_goesTo 32 = .ok (.iaload, 1) := by decide +kernel
theorem dX0_goesTo_33 : decode cX0_goesTo 33 = .ok (.ixor, 1) := by decide +kernel
theorem dX0_goesTo_34 : decode cX0_goesTo 34 = .ok (.invokestatic 40, 3) := by decide +kernel
theorem dX0_goesTo_37 : decode cX0_goesTo 37 = .ok (.istore 6, 2) := by decide +kernel
theorem dX0_goesTo_39 : decode cX0_goesTo 39 = .ok (.aload_n 0, 1) := by decide +kernel
theorem dX0_goesTo_40 : decode cX0_goesTo 40 = .ok (.iload 5, 2) := by decide +kernel
theorem dX0_goesTo_42 : decode cX0_goesTo 42 = .ok (.invokevirtual 51, 3) := by decide +kernel
theorem dX0_goesTo_45 : decode cX0_goesTo 45 = .ok (.istore 7, 2) := by decide +kernel
theorem dX0_goesTo_47 : decode cX0_goesTo 47 = .ok (.iload 6, 2) := by decide +kernel
theorem dX0_goesTo_49 : decode cX0_goesTo 49 = .ok (.aload_n 0, 1) := by decide +kernel
theorem dX0_goesTo_50 : decode cX0_goesTo 50 = .ok (.getfield 28, 3) := by decide +kernel
theorem dX0_goesTo_53 : decode cX0_goesTo 53 = .ok (.if_icmp .gt 52, 3) := by decide +kernel
theorem dX0_goesTo_56 : decode cX0_goesTo 56 = .ok (.iload 7, 2) := by decide +kernel
theorem dX0_goesTo_58 : decode cX0_goesTo 58 = .ok (.aload_n 0, 1) := by decide +kernel
theorem dX0_goesTo_59 : decode cX0_goesTo 59 = .ok (.iload 5, 2) := by decide +kernel
theorem dX0_goesTo_61 : decode cX0_goesTo 61 = .ok (.invokevirtual 54, 3) := by decide +kernel
theorem dX0_goesTo_64 : decode cX0_goesTo 64 = .ok (.if_icmp .le 6, 3) := by decide +kernel
theorem dX0_goesTo_67 : decode cX0_goesTo 67 = .ok (.goto 38, 3) := by decide +kernel
theorem dX0_goesTo_70 : decode cX0_goesTo 70 = .ok (.iload_n 2, 1) := by decide +kernel
theorem dX0_goesTo_71 : decode cX0_goesTo 71 = .ok (.bipush (-9), 2) := by decide +kernel
theorem dX0_goesTo_73 : decode cX0_goesTo 73 = .ok (.if_icmp .eq 22, 3) := by decide +kernel
theorem dX0_goesTo_76 : decode cX0_goesTo 76 = .ok (.iload 6, 2) := by decide +kernel
theorem dX0_goesTo_78 : decode cX0_goesTo 78 = .ok (.iload_n 3, 1) := by decide +kernel
theorem dX0_goesTo_79 : decode cX0_goesTo 79 = .ok (.if_icmp .lt 16, 3) := by decide +kernel
theorem dX0_goesTo_82 : decode cX0_goesTo 82 = .ok (.iload 6, 2) := by decide +kernel
theorem dX0_goesTo_84 : decode cX0_goesTo 84 = .ok (.iload_n 3, 1) := by decide +kernel
theorem dX0_goesTo_85 : decode cX0_goesTo 85 = .ok (.if_icmp .ne 20, 3) := by decide +kernel
theorem dX0_goesTo_88 : decode cX0_goesTo 88 = .ok (.iload 7, 2) := by decide +kernel
theorem dX0_goesTo_90 : decode cX0_goesTo 90 = .ok (.iload 4, 2) := by decide +kernel
theorem dX0_goesTo_92 : decode cX0_goesTo 92 = .ok (.if_icmp .ge 13, 3) := by decide +kernel
theorem dX0_goesTo_95 : decode cX0_goesTo 95 = .ok (.iload 5, 2) := by decide +kernel
theorem dX0_goesTo_97 : decode cX0_goesTo 97 = .ok (.istore_n 2, 1) := by decide +kernel
theorem dX0_goesTo_98 : decode cX0_goesTo 98 = .ok (.iload 6, 2) := by decide +kernel
theorem dX0_goesTo_100 : decode cX0_goesTo 100 = .ok (.istore_n 3, 1) := by decide +kernel
theorem dX0_goesTo_101 : decode cX0_goesTo 101 = .ok (.iload 7, 2) := by decide +kernel
theorem dX0_goesTo_103 : decode cX0_goesTo 103 = .ok (.istore 4, 2) := by decide +kernel
theorem dX0_goesTo_105 : decode cX0_goesTo 105 = .ok (.iinc 5 1, 3) := by decide +kernel
theorem dX0_goesTo_108 : decode cX0_goesTo 108 = .ok (.goto (-97), 3) := by decide +kernel
theorem dX0_goesTo_111 : decode cX0_goesTo 111 = .ok (.iload_n 2, 1) := by decide +kernel
theorem dX0_goesTo_112 : decode cX0_goesTo 112 = .ok (.ireturn, 1) := by decide +kernel
theorem dX0_deliver_0 : decode cX0_deliver 0 = .ok (.aload_n 0, 1) := by decide +kernel
theorem dX0_deliver_1 : decode cX0_deliver 1 = .ok (.iload_n 1, 1) := by decide +kernel
theorem dX0_deliver_2 : decode cX0_deliver 2 = .ok (.invokevirtual 57, 3) := by decide +kernel
theorem dX0_deliver_5 : decode cX0_deliver 5 = .ok (.istore_n 2, 1) := by decide +kernel
theorem dX0_deliver_6 : decode cX0_deliver 6 = .ok (.iload_n 2, 1) := by decide +kernel
theorem dX0_deliver_7 : decode cX0_deliver 7 = .ok (.bipush (-9), 2) := by decide +kernel
theorem dX0_deliver_9 : decode cX0_deliver 9 = .ok (.if_icmp .eq 15, 3) := by decide +kernel
theorem dX0_deliver_12 : decode cX0_deliver 12 = .ok (.aload_n 0, 1) := by decide +kernel
theorem dX0_deliver_13 : decode cX0_deliver 13 = .ok (.getfield 18, 3) := by decide +kernel
theorem dX0_deliver_16 : decode cX0_deliver 16 = .ok (.iload_n 2, 1) := by decide +kernel
theorem dX0_deliver_17 : decode cX0_deliver 17 = .ok (.aload_n 0, 1) := by decide +kernel
theorem dX0_deliver_18 : decode cX0_deliver 18 = .ok (.getfield 15, 3) := by decide +kernel
theorem dX0_deliver_21 : decode cX0_deliver 21 = .ok (.iload_n 2, 1) := by decide +kernel
theorem dX0_deliver_22 : decode cX0_deliver 22 = .ok (.iaload, 1) := by decide +kernel
theorem dX0_deliver_23 : decode cX0_deliver 23 = .ok (.iastore, 1) := by decide +kernel
theorem dX0_deliver_24 : decode cX0_deliver 24 = .ok (.iload_n 2, 1) := by decide +kernel
theorem dX0_deliver_25 : decode cX0_deliver 25 = .ok (.ireturn, 1) := by decide +kernel
theorem dX0_whoseCome_0 : decode cX0_whoseCome 0 = .ok (.iconst 0, 1) := by decide +kernel
theorem dX0_whoseCome_1 : decode cX0_whoseCome 1 = .ok (.istore_n 1, 1) := by decide +kernel
theorem dX0_whoseCome_2 : decode cX0_whoseCome 2 = .ok (.iconst 0, 1) := by decide +kernel
theorem dX0_whoseCome_3 : decode cX0_whoseCome 3 = .ok (.istore_n 2, 1) := by decide +kernel
theorem dX0_whoseCome_4 : decode cX0_whoseCome 4 = .ok (.iload_n 2, 1) := by decide +kernel
theorem dX0_whoseCome_5 : decode cX0_whoseCome 5 = .ok (.aload_n 0, 1) := by decide +kernel
theorem dX0_whoseCome_6 : decode cX0_whoseCome 6 = .ok (.getfield 31, 3) := by decide +kernel
theorem dX0_whoseCome_9 : decode cX0_whoseCome 9 = .ok (.if_icmp .ge 24, 3) := by decide +kernel
theorem dX0_whoseCome_12 : decode cX0_whoseCome 12 = .ok (.aload_n 0, 1) := by decide +kernel
theorem dX0_whoseCome_13 : decode cX0_whoseCome 13 = .ok (.iload_n 2, 1) := by decide +kernel
theorem dX0_whoseCome_14 : decode cX0_whoseCome 14 = .ok (.invokevirtual 57, 3) := by decide +kernel
theorem dX0_whoseCome_17 : decode cX0_whoseCome 17 = .ok (.iload_n 2, 1) := by decide +kernel
theorem dX0_whoseCome_18 : decode cX0_whoseCome 18 = .ok (.if_icmp .ne 9, 3) := by decide +kernel
theorem dX0_whoseCome_21 : decode cX0_whoseCome 21 = .ok (.iload_n 1, 1) := by decide +kernel
theorem dX0_whoseCome_22 : decode cX0_whoseCome 22 = .ok (.iconst 1, 1) := by decide +kernel
theorem dX0_whoseCome_23 : decode cX0_whoseCome 23 = .ok (.iload_n 2, 1) := by decide +kernel
theorem dX0_whoseCome_24 : decode cX0_whoseCome 24 = .ok (.ishl, 1) := by decide +kernel
theorem dX0_whoseCome_25 : decode cX0_whoseCome 25 = .ok (.ior, 1) := by decide +kernel
theorem dX0_whoseCome_26 : decode cX0_whoseCome 26 = .ok (.istore_n 1, 1) := by decide +kernel
theorem dX0_whoseCome_27 : decode cX0_whoseCome 27 = .ok (.iinc 2 1, 3) := by decide +kernel
theorem dX0_whoseCome_30 : decode cX0_whoseCome 30 = .ok (.goto (-26), 3) := by decide +kernel
theorem dX0_whoseCome_33 : decode cX0_whoseCome 33 = .ok (.iload_n 1, 1) := by decide +kernel
theorem dX0_whoseCome_34 : decode cX0_whoseCome 34 = .ok (.ireturn, 1) := by decide +kernel
theorem dX0_whoGetOne_0 : decode cX0_whoGetOne 0 = .ok (.iconst 0, 1) := by decide +kernel
theorem dX0_whoGetOne_1 : decode cX0_whoGetOne 1 = .ok (.istore_n 1, 1) := by decide +kernel
theorem dX0_whoGetOne_2 : decode cX0_whoGetOne 2 = .ok (.iconst 0, 1) := by decide +kernel
theorem dX0_whoGetOne_3 : decode cX0_whoGetOne 3 = .ok (.istore_n 2, 1) := by decide +kernel
theorem dX0_whoGetOne_4 : decode cX0_whoGetOne 4 = .ok (.iload_n 2, 1) := by decide +kernel
theorem dX0_whoGetOne_5 : decode cX0_whoGetOne 5 = .ok (.aload_n 0, 1) := by decide +kernel
theorem dX0_whoGetOne_6 : decode cX0_whoGetOne 6 = .ok (.getfield 31, 3) := by decide +kernel
theorem dX0_whoGetOne_9 : decode cX0_whoGetOne 9 = .ok (.if_icmp .ge 19, 3) := by decide +kernel
theorem dX0_whoGetOne_12 : decode cX0_whoGetOne 12 = .ok (.iload_n 1, 1) := by decide +kernel
theorem dX0_whoGetOne_13 : decode cX0_whoGetOne 13 = .ok (.aload_n 0, 1) := by decide +kernel
theorem dX0_whoGetOne_14 : decode cX0_whoGetOne 14 = .ok (.iload_n 2, 1) := by decide +kernel
theorem dX0_whoGetOne_15 : decode cX0_whoGetOne 15 = .ok (.invokevirtual 57, 3) := by decide +kernel
theorem dX0_whoGetOne_18 : decode cX0_whoGetOne 18 = .ok (.invokestatic 60, 3) := by decide +kernel
theorem dX0_whoGetOne_21 : decode cX0_whoGetOne 21 = .ok (.istore_n 1, 1) := by decide +kernel
theorem dX0_whoGetOne_22 : decode cX0_whoGetOne 22 = .ok (.iinc 2 1, 3) := by decide +kernel
theorem dX0_whoGetOne_25 : decode cX0_whoGetOne 25 = .ok (.goto (-21), 3) := by decide +kernel
theorem dX0_whoGetOne_28 : decode cX0_whoGetOne 28 = .ok (.iload_n 1, 1) := by decide +kernel
theorem dX0_whoGetOne_29 : decode cX0_whoGetOne 29 = .ok (.ireturn, 1) := by decide +kernel
theorem dX1_init_0 : decode cX1_init 0 = .ok (.aload_n 0, 1) := by decide +kernel
theorem dX1_init_1 : decode cX1_init 1 = .ok (.invokespecial 3, 3) := by decide +kernel
theorem dX1_init_4 : decode cX1_init 4 = .ok (.aload_n 0, 1) := by decide +kernel
theorem dX1_init_5 : decode cX1_init 5 = .ok (.bipush 60, 2) := by decide +kernel
theorem dX1_init_7 : decode cX1_init 7 = .ok (.newarray .int, 2) := by decide +kernel
theorem dX1_init_9 : decode cX1_init 9 = .ok (.putfield 9, 3) := by decide +kernel
theorem dX1_init_12 : decode cX1_init 12 = .ok (.return_, 1) := by decide +kernel
theorem dX1_begin_0 : decode cX1_begin 0 = .ok (.aload_n 0, 1) := by decide +kernel
theorem dX1_begin_1 : decode cX1_begin 1 = .ok (.iconst 1, 1) := by decide +kernel
theorem dX1_begin_2 : decode cX1_begin 2 = .ok (.putfield 15, 3) := by decide +kernel
theorem dX1_begin_5 : decode cX1_begin 5 = .ok (.aload_n 0, 1) := by decide +kernel
theorem dX1_begin_6 : decode cX1_begin 6 = .ok (.iload_n 1, 1) := by decide +kernel
theorem dX1_begin_7 : decode cX1_begin 7 = .ok (.putfield 19, 3) := by decide +kernel
theorem dX1_begin_10 : decode cX1_begin 10 = .ok (.aload_n 0, 1) := by decide +kernel
theorem dX1_begin_11 : decode cX1_begin 11 = .ok (.iload_n 2, 1) := by decide +kernel
theorem dX1_begin_12 : decode cX1_begin 12 = .ok (.putfield 23, 3) := by decide +kernel
theorem dX1_begin_15 : decode cX1_begin 15 = .ok (.iconst 0, 1) := by decide +kernel
theorem dX1_begin_16 : decode cX1_begin 16 = .ok (.istore_n 3, 1) := by decide +kernel
theorem dX1_begin_17 : decode cX1_begin 17 = .ok (.iload_n 3, 1) := by decide +kernel
theorem dX1_begin_18 : decode cX1_begin 18 = .ok (.bipush 60, 2) := by decide +kernel
theorem dX1_begin_20 : decode cX1_begin 20 = .ok (.if_icmp .ge 16, 3) := by decide +kernel
theorem dX1_begin_23 : decode cX1_begin 23 = .ok (.aload_n 0, 1) := by decide +kernel
theorem dX1_begin_24 : decode cX1_begin 24 = .ok (.getfield 9, 3) := by decide +kernel
theorem dX1_begin_27 : decode cX1_begin 27 = .ok (.iload_n 3, 1) := by decide +kernel
theorem dX1_begin_28 : decode cX1_begin 28 = .ok (.iconst 0, 1) := by decide +kernel
theorem dX1_begin_29 : decode cX1_begin 29 = .ok (.iastore, 1) := by decide +kernel
theorem dX1_begin_30 : decode cX1_begin 30 = .ok (.iinc 3 1, 3) := by decide +kernel
theorem dX1_begin_33 : decode cX1_begin 33 = .ok (.goto (-16), 3) := by decide +kernel
theorem dX1_begin_36 : decode cX1_begin 36 = .ok (.return_, 1) := by decide +kernel
theorem dX1_faultAs_0 : decode cX1_faultAs 0 = .ok (.aload_n 0, 1) := by decide +kernel
theorem dX1_faultAs_1 : decode cX1_faultAs 1 = .ok (.getfield 15, 3) := by decide +kernel
theorem dX1_faultAs_4 : decode cX1_faultAs 4 = .ok (.ifCond .ne 5, 3) := by decide +kernel
theorem dX1_faultAs_7 : decode cX1_faultAs 7 = .ok (.iconst 1, 1) := by decide +kernel
theorem dX1_faultAs_8 : decode cX1_faultAs 8 = .ok (.ireturn, 1) := by decide +kernel
theorem dX1_faultAs_9 : decode cX1_faultAs 9 = .ok (.aload_n 0, 1) := by decide +kernel
theorem dX1_faultAs_10 : decode cX1_faultAs 10 = .ok (.getfield 19, 3) := by decide +kernel
theorem dX1_faultAs_13 : decode cX1_faultAs 13 = .ok (.iload_n 1, 1) := by decide +kernel
theorem dX1_faultAs_14 : decode cX1_faultAs 14 = .ok (.if_icmp .ne 7, 3) := by decide +kernel
theorem dX1_faultAs_17 : decode cX1_faultAs 17 = .ok (.iconst 0, 1) := by decide +kernel
theorem dX1_faultAs_18 : decode cX1_faultAs 18 = .ok (.goto 4, 3) := by decide +kernel
theorem dX1_faultAs_21 : decode cX1_faultAs 21 = .ok (.iconst 2, 1) := by decide +kernel
theorem dX1_faultAs_22 : decode cX1_faultAs 22 = .ok (.ireturn, 1) := by decide +kernel
theorem dX1_hasCell_0 : decode cX1_hasCell 0 = .ok (.iload_n 1, 1) := by decide +kernel
theorem dX1_hasCell_1 : decode cX1_hasCell 1 = .ok (.ifCond .lt 15, 3) := by decide +kernel
theorem dX1_hasCell_4 : decode cX1_hasCell 4 = .ok (.iload_n 1, 1) := by decide +kernel
theorem dX1_hasCell_5 : decode cX1_hasCell 5 = .ok (.aload_n 0, 1) := by decide +kernel
theorem dX1_hasCell_6 : decode cX1_hasCell 6 = .ok (.getfield 23, 3) := by decide +kernel
theorem dX1_hasCell_9 : decode cX1_hasCell 9 = .ok (.if_icmp .ge 7, 3) := by decide +kernel
theorem dX1_hasCell_12 : decode cX1_hasCell 12 = .ok (.iconst 1, 1) := by decide +kernel
theorem dX1_hasCell_13 : decode cX1_hasCell 13 = .ok (.goto 4, 3) := by decide +kernel
theorem dX1_hasCell_16 : decode cX1_hasCell 16 = .ok (.iconst 0, 1) := by decide +kernel
theorem dX1_hasCell_17 : decode cX1_hasCell 17 = .ok (.ireturn, 1) := by decide +kernel
theorem dX1_spans_0 : decode cX1_spans 0 = .ok (.iload_n 1, 1) := by decide +kernel
theorem dX1_spans_1 : decode cX1_spans 1 = .ok (.ifCond .lt 29, 3) := by decide +kernel
theorem dX1_spans_4 : decode cX1_spans 4 = .ok (.iload_n 1, 1) := by decide +kernel
theorem dX1_spans_5 : decode cX1_spans 5 = .ok (.aload_n 0, 1) := by decide +kernel
theorem dX1_spans_6 : decode cX1_spans 6 = .ok (.getfield 23, 3) := by decide +kernel
theorem dX1_spans_9 : decode cX1_spans 9 = .ok (.if_icmp .gt 21, 3) := by decide +kernel
theorem dX1_spans_12 : decode cX1_spans 12 = .ok (.iload_n 2, 1) := by decide +kernel
theorem dX1_spans_13 : decode cX1_spans 13 = .ok (.ifCond .lt 17, 3) := by decide +kernel
theorem dX1_spans_16 : decode cX1_spans 16 = .ok (.iload_n 2, 1) := by decide +kernel
theorem dX1_spans_17 : decode cX1_spans 17 = .ok (.aload_n 0, 1) := by decide +kernel
theorem dX1_spans_18 : decode cX1_spans 18 = .ok (.getfield 23, 3) := by decide +kernel
theorem dX1_spans_21 : decode cX1_spans 21 = .ok (.iload_n 1, 1) := by decide +kernel
theorem dX1_spans_22 : decode cX1_spans 22 = .ok (.isub, 1) := by decide +kernel
theorem dX1_spans_23 : decode cX1_spans 23 = .ok (.if_icmp .gt 7, 3) := by decide +kernel
theorem dX1_spans_26 : decode cX1_spans 26 = .ok (.iconst 1, 1) := by decide +kernel
theorem dX1_spans_27 : decode cX1_spans 27 = .ok (.goto 4, 3) := by decide +kernel
theorem dX1_spans_30 : decode cX1_spans 30 = .ok (.iconst 0, 1) := by decide +kernel
theorem dX1_spans_31 : decode cX1_spans 31 = .ok (.ireturn, 1) := by decide +kernel
theorem dX1_write_0 : decode cX1_write 0 = .ok (.aload_n 0, 1) := by decide +kernel
theorem dX1_write_1 : decode cX1_write 1 = .ok (.getfield 19, 3) := by decide +kernel
theorem dX1_write_4 : decode cX1_write 4 = .ok (.ifCond .ne 14, 3) := by decide +kernel
theorem dX1_write_7 : decode cX1_write 7 = .ok (.aload_n 0, 1) := by decide +kernel
theorem dX1_write_8 : decode cX1_write 8 = .ok (.getfield 9, 3) := by decide +kernel
theorem dX1_write_11 : decode cX1_write 11 = .ok (.iload_n 1, 1) := by decide +kernel
theorem dX1_write_12 : decode cX1_write 12 = .ok (.iload_n 2, 1) := by decide +kernel
theorem dX1_write_13 : decode cX1_write 13 = .ok (.i2b, 1) := by decide +kernel
theorem dX1_write_14 : decode cX1_write 14 = .ok (.iastore, 1) := by decide +kernel
theorem dX1_write_15 : decode cX1_write 15 = .ok (.goto 29, 3) := by decide +kernel
theorem dX1_write_18 : decode cX1_write 18 = .ok (.aload_n 0, 1) := by decide +kernel
theorem dX1_write_19 : decode cX1_write 19 = .ok (.getfield 19, 3) := by decide +kernel
theorem dX1_write_22 : decode cX1_write 22 = .ok (.iconst 1, 1) := by decide +kernel
theorem dX1_write_23 : decode cX1_write 23 = .ok (.if_icmp .ne 14, 3) := by decide +kernel
theorem dX1_write_26 : decode cX1_write 26 = .ok (.aload_n 0, 1) := by decide +kernel
theorem dX1_write_27 : decode cX1_write 27 = .ok (.getfield 9, 3) := by decide +kernel
theorem dX1_write_30 : decode cX1_write 30 = .ok (.iload_n 1, 1) := by decide +kernel
theorem dX1_write_31 : decode cX1_write 31 = .ok (.iload_n 2, 1) := by decide +kernel
theorem dX1_write_32 : decode cX1_write 32 = .ok (.i2s, 1) := by decide +kernel
theorem dX1_write_33 : decode cX1_write 33 = .ok (.iastore, 1) := by decide +kernel
theorem dX1_write_34 : decode cX1_write 34 = .ok (.goto 10, 3) := by decide +kernel
theorem dX1_write_37 : decode cX1_write 37 = .ok (.aload_n 0, 1) := by decide +kernel
theorem dX1_write_38 : decode cX1_write 38 = .ok (.getfield 9, 3) := by decide +kernel
theorem dX1_write_41 : decode cX1_write 41 = .ok (.iload_n 1, 1) := by decide +kernel
theorem dX1_write_42 : decode cX1_write 42 = .ok (.iload_n 2, 1) := by decide +kernel
theorem dX1_write_43 : decode cX1_write 43 = .ok (.iastore, 1) := by decide +kernel
theorem dX1_write_44 : decode cX1_write 44 = .ok (.return_, 1) := by decide +kernel
theorem dX2_init_0 : decode cX2_init 0 = .ok (.aload_n 0, 1) := by decide +kernel
theorem dX2_init_1 : decode cX2_init 1 = .ok (.invokespecial 3, 3) := by decide +kernel
theorem dX2_init_4 : decode cX2_init 4 = .ok (.return_, 1) := by decide +kernel
theorem dX2_clear_0 : decode cX2_clear 0 = .ok (.aload_n 0, 1) := by decide +kernel
theorem dX2_clear_1 : decode cX2_clear 1 = .ok (.iconst 0, 1) := by decide +kernel
theorem dX2_clear_2 : decode cX2_clear 2 = .ok (.putfield 9, 3) := by decide +kernel
theorem dX2_clear_5 : decode cX2_clear 5 = .ok (.aload_n 0, 1) := by decide +kernel
theorem dX2_clear_6 : decode cX2_clear 6 = .ok (.bipush (-9), 2) := by decide +kernel
theorem dX2_clear_8 : decode cX2_clear 8 = .ok (.putfield 15, 3) := by decide +kernel
theorem dX2_clear_11 : decode cX2_clear 11 = .ok (.aload_n 0, 1) := by decide +kernel
theorem dX2_clear_12 : decode cX2_clear 12 = .ok (.iconst 0, 1) := by decide +kernel
theorem dX2_clear_13 : decode cX2_clear 13 = .ok (.putfield 18, 3) := by decide +kernel
theorem dX2_clear_16 : decode cX2_clear 16 = .ok (.aload_n 0, 1) := by decide +kernel
theorem dX2_clear_17 : decode cX2_clear 17 = .ok (.iconst 0, 1) := by decide +kernel
theorem dX2_clear_18 : decode cX2_clear 18 = .ok (.putfield 21, 3) := by decide +kernel
theorem dX2_clear_21 : decode cX2_clear 21 = .ok (.return_, 1) := by decide +kernel
theorem dX2_add_0 : decode cX2_add 0 = .ok (.iload_n 3, 1) := by decide +kernel
theorem dX2_add_1 : decode cX2_add 1 = .ok (.iload_n 2, 1) := by decide +kernel
theorem dX2_add_2 : decode cX2_add 2 = .ok (.if_icmp .ne 16, 3) := by decide +kernel
theorem dX2_add_5 : decode cX2_add 5 = .ok (.aload_n 0, 1) := by decide +kernel
theorem dX2_add_6 : decode cX2_add 6 = .ok (.dup, 1) := by decide +kernel
theorem dX2_add_7 : decode cX2_add 7 = .ok (.getfield 9, 3) := by decide +kernel
theorem dX2_add_10 : decode cX2_add 10 = .ok (.iconst 1, 1) := by decide +kernel
theorem dX2_add_11 : decode cX2_add 11 = .ok (.iadd, 1) := by decide +kernel
theorem dX2_add_12 : decode cX2_add 12 = .ok (.putfield 9, 3) := by decide +kernel
theorem dX2_add_15 : decode cX2_add 15 = .ok (.goto 17, 3) := by decide +kernel
theorem dX2_add_18 : decode cX2_add 18 = .ok (.aload_n 0, 1) := by decide +kernel
theorem dX2_add_19 : decode cX2_add 19 = .ok (.getfield 15, 3) := by decide +kernel
theorem dX2_add_22 : decode cX2_add 22 = .ok (.bipush (-9), 2) := by decide +kernel
theorem dX2_add_24 : decode cX2_add 24 = .ok (.if_icmp .ne 8, 3) := by decide +kernel
theorem dX2_add_27 : decode cX2_add 27 = .ok (.aload_n 0, 1) := by decide +kernel
theorem dX2_add_28 : decode cX2_add 28 = .ok (.iload_n 1, 1) := by decide +kernel
theorem dX2_add_29 : decode cX2_add 29 = .ok (.putfield 15, 3) := by decide +kernel
theorem dX2_add_32 : decode cX2_add 32 = .ok (.iload_n 3, 1) := by decide +kernel
theorem dX2_add_33 : decode cX2_add 33 = .ok (.bipush (-9), 2) := by decide +kernel
theorem dX2_add_35 : decode cX2_add 35 = .ok (.if_icmp .ne 13, 3) := by decide +kernel
theorem dX2_add_38 : decode cX2_add 38 = .ok (.aload_n 0, 1) := by decide +kernel
theorem dX2_add_39 : decode cX2_add 39 = .ok (.dup, 1) := by decide +kernel
theorem dX2_add_40 : decode cX2_add 40 = .ok (.getfield 21, 3) := by decide +kernel
theorem dX2_add_43 : decode cX2_add 43 = .ok (.iconst 1, 1) := by decide +kernel
theorem dX2_add_44 : decode cX2_add 44 = .ok (.iadd, 1) := by decide +kernel
theorem dX2_add_45 : decode cX2_add 45 = .ok (.putfield 21, 3) := by decide +kernel
theorem dX2_add_48 : decode cX2_add 48 = .ok (.aload_n 0, 1) := by decide +kernel
theorem dX2_add_49 : decode cX2_add 49 = .ok (.aload_n 0, 1) := by decide +kernel
theorem dX2_add_50 : decode cX2_add 50 = .ok (.getfield 18, 3) := by decide +kernel
theorem dX2_add_53 : decode cX2_add 53 = .ok (.iload_n 3, 1) := by decide +kernel
theorem dX2_add_54 : decode cX2_add 54 = .ok (.invokestatic 24, 3) := by decide +kernel
theorem dX2_add_57 : decode cX2_add 57 = .ok (.putfield 18, 3) := by decide +kernel
theorem dX2_add_60 : decode cX2_add 60 = .ok (.return_, 1) := by decide +kernel
theorem dX3_firstFault_0 : decode cX3_firstFault 0 = .ok (.iconst 0, 1) := by decide +kernel
theorem dX3_firstFault_1 : decode cX3_firstFault 1 = .ok (.istore_n 3, 1) := by decide +kernel
theorem dX3_firstFault_2 : decode cX3_firstFault 2 = .ok (.iload_n 3, 1) := by decide +kernel
theorem dX3_firstFault_3 : decode cX3_firstFault 3 = .ok (.iload_n 2, 1) := by decide +kernel
theorem dX3_firstFault_4 : decode cX3_firstFault 4 = .ok (.if_icmp .ge 23, 3) := by decide +kernel
theorem dX3_firstFault_7 : decode cX3_firstFault 7 = .ok (.iload_n 3, 1) := by decide +kernel
theorem dX3_firstFault_8 : decode cX3_firstFault 8 = .ok (.aload_n 0, 1) := by decide +kernel
theorem dX3_firstFault_9 : decode cX3_firstFault 9 = .ok (.iload_n 1, 1) := by decide +kernel
theorem dX3_firstFault_10 : decode cX3_firstFault 10 = .ok (.iload_n 3, 1) := by decide +kernel
theorem dX3_firstFault_11 : decode cX3_firstFault 11 = .ok (.iadd, 1) := by decide +kernel
theorem dX3_firstFault_12 : decode cX3_firstFault 12 = .ok (.iaload, 1) := by decide +kernel
theorem dX3_firstFault_13 : decode cX3_firstFault 13 = .ok (.invokestatic 11, 3) := by decide +kernel
theorem dX3_firstFault_16 : decode cX3_firstFault 16 = .ok (.ifCond .ne 5, 3) := by decide +kernel
theorem dX3_firstFault_19 : decode cX3_firstFault 19 = .ok (.iload_n 3, 1) := by decide +kernel
theorem dX3_firstFault_20 : decode cX3_firstFault 20 = .ok (.ireturn, 1) := by decide +kernel
theorem dX3_firstFault_21 : decode cX3_firstFault 21 = .ok (.iinc 3 1, 3) := by decide +kernel
theorem dX3_firstFault_24 : decode cX3_firstFault 24 = .ok (.goto (-22), 3) := by decide +kernel
theorem dX3_firstFault_27 : decode cX3_firstFault 27 = .ok (.iload_n 2, 1) := by decide +kernel
theorem dX3_firstFault_28 : decode cX3_firstFault 28 = .ok (.bipush 13, 2) := by decide +kernel
theorem dX3_firstFault_30 : decode cX3_firstFault 30 = .ok (.if_icmp .lt 16, 3) := by decide +kernel
theorem dX3_firstFault_33 : decode cX3_firstFault 33 = .ok (.iload_n 2, 1) := by decide +kernel
theorem dX3_firstFault_34 : decode cX3_firstFault 34 = .ok (.iconst 3, 1) := by decide +kernel
theorem dX3_firstFault_35 : decode cX3_firstFault 35 = .ok (.isub, 1) := by decide +kernel
theorem dX3_firstFault_36 : decode cX3_firstFault 36 = .ok (.iconst 5, 1) := by decide +kernel
theorem dX3_firstFault_37 : decode cX3_firstFault 37 = .ok (.irem, 1) := by decide +kernel
theorem dX3_firstFault_38 : decode cX3_firstFault 38 = .ok (.ifCond .ne 8, 3) := by decide +kernel
theorem dX3_firstFault_41 : decode cX3_firstFault 41 = .ok (.bipush (-9), 2) := by decide +kernel
theorem dX3_firstFault_43 : decode cX3_firstFault 43 = .ok (.goto 4, 3) := by decide +kernel
theorem dX3_firstFault_46 : decode cX3_firstFault 46 = .ok (.iload_n 2, 1) := by decide +kernel
theorem dX3_firstFault_47 : decode cX3_firstFault 47 = .ok (.ireturn, 1) := by decide +kernel
theorem dX3_goesOnWith_0 : decode cX3_goesOnWith 0 = .ok (.iload_n 0, 1) := by decide +kernel
theorem dX3_goesOnWith_1 : decode cX3_goesOnWith 1 = .ok (.bipush 33, 2) := by decide +kernel
theorem dX3_goesOnWith_3 : decode cX3_goesOnWith 3 = .ok (.if_icmp .lt 5, 3) := by decide +kernel
theorem dX3_goesOnWith_6 : decode cX3_goesOnWith 6 = .ok (.iconst 0, 1) := by decide +kernel
theorem dX3_goesOnWith_7 : decode cX3_goesOnWith 7 = .ok (.ireturn, 1) := by decide +kernel
theorem dX3_goesOnWith_8 : decode cX3_goesOnWith 8 = .ok (.iload_n 0, 1) := by decide +kernel
theorem dX3_goesOnWith_9 : decode cX3_goesOnWith 9 = .ok (.iconst 3, 1) := by decide +kernel
theorem dX3_goesOnWith_10 : decode cX3_goesOnWith 10 = .ok (.if_icmp .ge 37, 3) := by decide +kernel
theorem dX3_goesOnWith_13 : decode cX3_goesOnWith 13 = .ok (.iload_n 0, 1) := by decide +kernel
theorem dX3_goesOnWith_14 : decode cX3_goesOnWith 14 = .ok (.ifCond .ne 17, 3) := by decide +kernel
theorem dX3_goesOnWith_17 : decode cX3_goesOnWith 17 = .ok (.iload_n 1, 1) := by decide +kernel
theorem dX3_goesOnWith_18 : decode cX3_goesOnWith 18 = .ok (.bipush 100, 2) := by decide +kernel
theorem dX3_goesOnWith_20 : decode cX3_goesOnWith 20 = .ok (.if_icmp .ne 7, 3) := by decide +kernel
theorem dX3_goesOnWith_23 : decode cX3_goesOnWith 23 = .ok (.iconst 1, 1) := by decide +kernel
theorem dX3_goesOnWith_24 : decode cX3_goesOnWith 24 = .ok (.goto 22, 3) := by decide +kernel
theorem dX3_goesOnWith_27 : decode cX3_goesOnWith 27 = .ok (.iconst 0, 1) := by decide +kernel
theorem dX3_goesOnWith_28 : decode cX3_goesOnWith 28 = .ok (.goto 18, 3) := by decide +kernel
theorem dX3_goesOnWith_31 : decode cX3_goesOnWith 31 = .ok (.iload_n 1, 1) := by decide +kernel
theorem dX3_goesOnWith_32 : decode cX3_goesOnWith 32 = .ok (.iload_n 0, 1) := by decide +kernel
theorem dX3_goesOnWith_33 : decode cX3_goesOnWith 33 = .ok (.iconst 1, 1) := by decide +kernel
theorem dX3_goesOnWith_34 : decode cX3_goesOnWith 34 = .ok (.if_icmp .ne 8, 3) := by decide +kernel
theorem dX3_goesOnWith_37 : decode cX3_goesOnWith 37 = .ok (.bipush 10, 2) := by decide +kernel
theorem dX3_goesOnWith_39 : decode cX3_goesOnWith 39 = .ok (.goto 4, 3) := by decide +kernel
theorem dX3_goesOnWith_42 : decode cX3_goesOnWith 42 = .ok (.iconst 4, 1) := by decide +kernel
theorem dX3_goesOnWith_43 : decode cX3_goesOnWith 43 = .ok (.invokestatic 15, 3) := by decide +kernel
theorem dX3_goesOnWith_46 : decode cX3_goesOnWith 46 = .ok (.ireturn, 1) := by decide +kernel
theorem dX3_goesOnWith_47 : decode cX3_goesOnWith 47 = .ok (.iload_n 0, 1) := by decide +kernel
theorem dX3_goesOnWith_48 : decode cX3_goesOnWith 48 = .ok (.iconst 3, 1) := by decide +kernel
theorem dX3_goesOnWith_49 : decode cX3_goesOnWith 49 = .ok (.isub, 1) := by decide +kernel
theorem dX3_goesOnWith_50 : decode cX3_goesOnWith 50 = .ok (.iconst 5, 1) := by decide +kernel
theorem dX3_goesOnWith_51 : decode cX3_goesOnWith 51 = .ok (.irem, 1) := by decide +kernel
theorem dX3_goesOnWith_52 : decode cX3_goesOnWith 52 = .ok (.tableswitch 79 0 4 #[36, 48, 79, 79, 72], 36) := by decide +kernel
theorem dX3_goesOnWith_88 : decode cX3_goesOnWith 88 = .ok (.iload_n 1, 1) := by decide +kernel
theorem dX3_goesOnWith_89 : decode cX3_goesOnWith 89 = .ok (.bipush 59, 2) := by decide +kernel
theorem dX3_goesOnWith_91 : decode cX3_goesOnWith 91 = .ok (.if_icmp .ne 7, 3) := by decide +kernel
theorem dX3_goesOnWith_94 : decode cX3_goesOnWith 94 = .ok (.iconst 1, 1) := by decide +kernel
theorem dX3_goesOnWith_95 : decode cX3_goesOnWith 95 = .ok (.goto 4, 3) := by decide +kernel
theorem dX3_goesOnWith_98 : decode cX3_goesOnWith 98 = .ok (.iconst 0, 1) := by decide +kernel
theorem dX3_goesOnWith_99 : decode cX3_goesOnWith 99 = .ok (.ireturn, 1) := by decide +kernel
theorem dX3_goesOnWith_100 : decode cX3_goesOnWith 100 = .ok (.iload_n 1, 1) := by decide +kernel
theorem dX3_goesOnWith_101 : decode cX3_goesOnWith 101 = .ok (.bipush 112, 2) := by decide +kernel
theorem dX3_goesOnWith_103 : decode cX3_goesOnWith 103 = .ok (.if_icmp .eq 15, 3) := by decide +kernel
theorem dX3_goesOnWith_106 : decode cX3_goesOnWith 106 = .ok (.iload_n 1, 1) := by decide +kernel
theorem dX3_goesOnWith_107 : decode cX3_goesOnWith 107 = .ok (.bipush 114, 2) := by decide +kernel
theorem dX3_goesOnWith_109 : decode cX3_goesOnWith 109 = .ok (.if_icmp .eq 9, 3) := by decide +kernel
theorem dX3_goesOnWith_112 : decode cX3_goesOnWith 112 = .ok (.iload_n 1, 1) := by decide +kernel
theorem dX3_goesOnWith_113 : decode cX3_goesOnWith 113 = .ok (.bipush 107, 2) := by decide +kernel
theorem dX3_goesOnWith_115 : decode cX3_goesOnWith 115 = .ok (.if_icmp .ne 7, 3) := by decide +kernel
theorem dX3_goesOnWith_118 : decode cX3_goesOnWith 118 = .ok (.iconst 1, 1) := by decide +kernel
theorem dX3_goesOnWith_119 : decode cX3_goesOnWith 119 = .ok (.goto 4, 3) := by decide +kernel
theorem dX3_goesOnWith_122 : decode cX3_goesOnWith 122 = .ok (.iconst 0, 1) := by decide +kernel
theorem dX3_goesOnWith_123 : decode cX3_goesOnWith 123 = .ok (.ireturn, 1) := by decide +kernel
theorem dX3_goesOnWith_124 : decode cX3_goesOnWith 124 = .ok (.iload_n 1, 1) := by decide +kernel
theorem dX3_goesOnWith_125 : decode cX3_goesOnWith 125 = .ok (.bipush 10, 2) := by decide +kernel
theorem dX3_goesOnWith_127 : decode cX3_goesOnWith 127 = .ok (.invokestatic 15, 3) := by decide +kernel
theorem dX3_goesOnWith_130 : decode cX3_goesOnWith 130 = .ok (.ireturn, 1) := by decide +kernel
theorem dX3_goesOnWith_131 : decode cX3_goesOnWith 131 = .ok (.iload_n 1, 1) := by decide +kernel
theorem dX3_goesOnWith_132 : decode cX3_goesOnWith 132 = .ok (.bipush 8, 2) := by decide +kernel
theorem dX3_goesOnWith_134 : decode cX3_goesOnWith 134 = .ok (.invokestatic 15, 3) := by decide +kernel
theorem dX3_goesOnWith_137 : decode cX3_goesOnWith 137 = .ok (.ireturn, 1) := by decide +kernel
theorem dX3_isDigitBelow_0 : decode cX3_isDigitBelow 0 = .ok (.iload_n 0, 1) := by decide +kernel
theorem dX3_isDigitBelow_1 : decode cX3_isDigitBelow 1 = .ok (.bipush 48, 2) := by decide +kernel
theorem dX3_isDigitBelow_3 : decode cX3_isDigitBelow 3 = .ok (.isub, 1) := by decide +kernel
theorem dX3_isDigitBelow_4 : decode cX3_isDigitBelow 4 = .ok (.iload_n 1, 1) := by decide +kernel
theorem dX3_isDigitBelow_5 : decode cX3_isDigitBelow 5 = .ok (.invokestatic 18, 3) := by decide +kernel
theorem dX3_isDigitBelow_8 : decode cX3_isDigitBelow 8 = .ok (.ireturn, 1) := by decide +kernel
theorem dX3_fill_0 : decode cX3_fill 0 = .ok (.aload_n 0, 1) := by decide +kernel
theorem dX3_fill_1 : decode cX3_fill 1 = .ok (.aload_n 1, 1) := by decide +kernel
theorem dX3_fill_2 : decode cX3_fill 2 = .ok (.iload_n 2, 1) := by decide +kernel
theorem dX3_fill_3 : decode cX3_fill 3 = .ok (.iconst 1, 1) := by decide +kernel
theorem dX3_fill_4 : decode cX3_fill 4 = .ok (.iadd, 1) := by decide +kernel
theorem dX3_fill_5 : decode cX3_fill 5 = .ok (.iaload, 1) := by decide +kernel
theorem dX3_fill_6 : decode cX3_fill 6 = .ok (.bipush 48, 2) := by decide +kernel
theorem dX3_fill_8 : decode cX3_fill 8 = .ok (.isub, 1) := by decide +kernel
theorem dX3_fill_9 : decode cX3_fill 9 = .ok (.putfield 21, 3) := by decide +kernel
theorem dX3_fill_12 : decode cX3_fill 12 = .ok (.aload_n 0, 1) := by decide +kernel
theorem dX3_fill_13 : decode cX3_fill 13 = .ok (.aload_n 1, 1) := by decide +kernel
theorem dX3_fill_14 : decode cX3_fill 14 = .ok (.iload_n 2, 1) := by decide +kernel
theorem dX3_fill_15 : decode cX3_fill 15 = .ok (.iconst 2, 1) := by decide +kernel
theorem dX3_fill_16 : decode cX3_fill 16 = .ok (.iadd, 1) := by decide +kernel
theorem dX3_fill_17 : decode cX3_fill 17 = .ok (.iaload, 1) := by decide +kernel
theorem dX3_fill_18 : decode cX3_fill 18 = .ok (.bipush 48, 2) := by decide +kernel
theorem dX3_fill_20 : decode cX3_fill 20 = .ok (.isub, 1) := by decide +kernel
theorem dX3_fill_21 : decode cX3_fill 21 = .ok (.putfield 27, 3) := by decide +kernel
theorem dX3_fill_24 : decode cX3_fill 24 = .ok (.aload_n 0, 1) := by decide +kernel
theorem dX3_fill_25 : decode cX3_fill 25 = .ok (.iload_n 3, 1) := by decide +kernel
theorem dX3_fill_26 : decode cX3_fill 26 = .ok (.iconst 3, 1) := by decide +kernel
theorem dX3_fill_27 : decode cX3_fill 27 = .ok (.isub, 1) := by decide +kernel
theorem dX3_fill_28 : decode cX3_fill 28 = .ok (.iconst 5, 1) := by decide +kernel
theorem dX3_fill_29 : decode cX3_fill 29 = .ok (.idiv, 1) := by decide +kernel
theorem dX3_fill_30 : decode cX3_fill 30 = .ok (.putfield 30, 3) := by decide +kernel
theorem dX3_fill_33 : decode cX3_fill 33 = .ok (.iconst 0, 1) := by decide +kernel
theorem dX3_fill_34 : decode cX3_fill 34 = .ok (.istore 4, 2) := by decide +kernel
theorem dX3_fill_36 : decode cX3_fill 36 = .ok (.iload 4, 2) := by decide +kernel
theorem dX3_fill_38 : decode cX3_fill 38 = .ok (.aload_n 0, 1) := by decide +kernel
theorem dX3_fill_39 : decode cX3_fill 39 = .ok (.getfield 30, 3) := by decide +kernel
theorem dX3_fill_42 : decode cX3_fill 42 = .ok (.if_icmp .ge 83, 3) := by decide +kernel
theorem dX3_fill_45 : decode cX3_fill 45 = .ok (.iload_n 2, 1) := by decide +kernel
theorem dX3_fill_46 : decode cX3_fill 46 = .ok (.iconst 3, 1) := by decide +kernel
theorem dX3_fill_47 : decode cX3_fill 47 = .ok (.iadd, 1) := by decide +kernel
theorem dX3_fill_48 : decode cX3_fill 48 = .ok (.iconst 5, 1) := by decide +kernel
theorem dX3_fill_49 : decode cX3_fill 49 = .ok (.iload 4, 2) := by decide +kernel
theorem dX3_fill_51 : decode cX3_fill 51 = .ok (.imul, 1) := by decide +kernel
theorem dX3_fill_52 : decode cX3_fill 52 = .ok (.iadd, 1) := by decide +kernel
theorem dX3_fill_53 : decode cX3_fill 53 = .ok (.istore 5, 2) := by decide +kernel
theorem dX3_fill_55 : decode cX3_fill 55 = .ok (.aload_n 0, 1) := by decide +kernel
theorem dX3_fill_56 : decode cX3_fill 56 = .ok (.getfield 33, 3) := by decide +kernel
theorem dX3_fill_59 : decode cX3_fill 59 = .ok (.iload 4, 2) := by decide +kernel
theorem dX3_fill_61 : decode cX3_fill 61 = .ok (.aload_n 1, 1) := by decide +kernel
theorem dX3_fill_62 : decode cX3_fill 62 = .ok (.iload 5, 2) := by decide +kernel
theorem dX3_fill_64 : decode cX3_fill 64 = .ok (.iconst 1, 1) := by decide +kernel
theorem dX3_fill_65 : decode cX3_fill 65 = .ok (.iadd, 1) := by decide +kernel
theorem dX3_fill_66 : decode cX3_fill 66 = .ok (.iaload, 1) := by decide +kernel
theorem dX3_fill_67 : decode cX3_fill 67 = .ok (.invokestatic 37, 3) := by decide +kernel
theorem dX3_fill_70 : decode cX3_fill 70 = .ok (.iastore, 1) := by decide +kernel
theorem dX3_fill_71 : decode cX3_fill 71 = .ok (.aload_n 0, 1) := by decide +kernel
theorem dX3_fill_72 : decode cX3_fill 72 = .ok (.getfield 41, 3) := by decide +kernel
theorem dX3_fill_75 : decode cX3_fill 75 = .ok (.iload 4, 2) := by decide +kernel
theorem dX3_fill_77 : decode cX3_fill 77 = .ok (.aload_n 1, 1) := by decide +kernel
theorem dX3_fill_78 : decode cX3_fill 78 = .ok (.iload 5, 2) := by decide +kernel
theorem dX3_fill_80 : decode cX3_fill 80 = .ok (.iconst 2, 1) := by decide +kernel
theorem dX3_fill_81 : decode cX3_fill 81 = .ok (.iadd, 1) := by decide +kernel
theorem dX3_fill_82 : decode cX3_fill 82 = .ok (.iaload, 1) := by decide +kernel
theorem dX3_fill_83 : decode cX3_fill 83 = .ok (.bipush 48, 2) := by decide +kernel
theorem dX3_fill_85 : decode cX3_fill 85 = .ok (.isub, 1) := by decide +kernel
theorem dX3_fill_86 : decode cX3_fill 86 = .ok (.iastore, 1) := by decide +kernel
theorem dX3_fill_87 : decode cX3_fill 87 = .ok (.aload_n 0, 1) := by decide +kernel
theorem dX3_fill_88 : decode cX3_fill 88 = .ok (.getfield 44, 3) := by decide +kernel
theorem dX3_fill_91 : decode cX3_fill 91 = .ok (.iload 4, 2) := by decide +kernel
theorem dX3_fill_93 : decode cX3_fill 93 = .ok (.aload_n 1, 1) := by decide +kernel
theorem dX3_fill_94 : decode cX3_fill 94 = .ok (.iload 5, 2) := by decide +kernel
theorem dX3_fill_96 : decode cX3_fill 96 = .ok (.iconst 3, 1) := by decide +kernel
theorem dX3_fill_97 : decode cX3_fill 97 = .ok (.iadd, 1) := by decide +kernel
theorem dX3_fill_98 : decode cX3_fill 98 = .ok (.iaload, 1) := by decide +kernel
theorem dX3_fill_99 : decode cX3_fill 99 = .ok (.bipush 48, 2) := by decide +kernel
theorem dX3_fill_101 : decode cX3_fill 101 = .ok (.isub, 1) := by decide +kernel
theorem dX3_fill_102 : decode cX3_fill 102 = .ok (.iastore, 1) := by decide +kernel
theorem dX3_fill_103 : decode cX3_fill 103 = .ok (.aload_n 0, 1) := by decide +kernel
theorem dX3_fill_104 : decode cX3_fill 104 = .ok (.getfield 47, 3) := by decide +kernel
theorem dX3_fill_107 : decode cX3_fill 107 = .ok (.iload 4, 2) := by decide +kernel
theorem dX3_fill_109 : decode cX3_fill 109 = .ok (.aload_n 1, 1) := by decide +kernel
theorem dX3_fill_110 : decode cX3_fill 110 = .ok (.iload 5, 2) := by decide +kernel
theorem dX3_fill_112 : decode cX3_fill 112 = .ok (.iconst 4, 1) := by decide +kernel
theorem dX3_fill_113 : decode cX3_fill 113 = .ok (.iadd, 1) := by decide +kernel
theorem dX3_fill_114 : decode cX3_fill 114 = .ok (.iaload, 1) := by decide +kernel
theorem dX3_fill_115 : decode cX3_fill 115 = .ok (.bipush 48, 2) := by decide +kernel
theorem dX3_fill_117 : decode cX3_fill 117 = .ok (.isub, 1) := by decide +kernel
theorem dX3_fill_118 : decode cX3_fill 118 = .ok (.iastore, 1) := by decide +kernel
theorem dX3_fill_119 : decode cX3_fill 119 = .ok (.iinc 4 1, 3) := by decide +kernel
theorem dX3_fill_122 : decode cX3_fill 122 = .ok (.goto (-86), 3) := by decide +kernel
theorem dX3_fill_125 : decode cX3_fill 125 = .ok (.return_, 1) := by decide +kernel
theorem dX3_kindOf_0 : decode cX3_kindOf 0 = .ok (.iload_n 0, 1) := by decide +kernel
theorem dX3_kindOf_1 : decode cX3_kindOf 1 = .ok (.bipush 107, 2) := by decide +kernel
theorem dX3_kindOf_3 : decode cX3_kindOf 3 = .ok (.if_icmp .ne 5, 3) := by decide +kernel
theorem dX3_kindOf_6 : decode cX3_kindOf 6 = .ok (.iconst 2, 1) := by decide +kernel
theorem dX3_kindOf_7 : decode cX3_kindOf 7 = .ok (.ireturn, 1) := by decide +kernel
theorem dX3_kindOf_8 : decode cX3_kindOf 8 = .ok (.iload_n 0, 1) := by decide +kernel
theorem dX3_kindOf_9 : decode cX3_kindOf 9 = .ok (.bipush 114, 2) := by decide +kernel
theorem dX3_kindOf_11 : decode cX3_kindOf 11 = .ok (.if_icmp .ne 7, 3) := by decide +kernel
theorem dX3_kindOf_14 : decode cX3_kindOf 14 = .ok (.iconst 1, 1) := by decide +kernel
theorem dX3_kindOf_15 : decode cX3_kindOf 15 = .ok (.goto 4, 3) := by decide +kernel
theorem dX3_kindOf_18 : decode cX3_kindOf 18 = .ok (.iconst 0, 1) := by decide +kernel
theorem dX3_kindOf_19 : decode cX3_kindOf 19 = .ok (.ireturn, 1) := by decide +kernel
theorem dJ6_bitCount_0f7a4_0 : decode cJ6_bitCount_0f7a4 0 = .ok (.iload_n 0, 1) := by decide +kernel
theorem dJ6_bitCount_0f7a4_1 : decode cJ6_bitCount_0f7a4 1 = .ok (.iload_n 0, 1) := by decide +kernel
theorem dJ6_bitCount_0f7a4_2 : decode cJ6_bitCount_0f7a4 2 = .ok (.iconst 1, 1) := by decide +kernel
theorem dJ6_bitCount_0f7a4_3 : decode cJ6_bitCount_0f7a4 3 = .ok (.iushr, 1) := by decide +kernel
theorem dJ6_bitCount_0f7a4_4 : decode cJ6_bitCount_0f7a4 4 = .ok (.ldc_w 265, 3) := by decide +kernel
theorem dJ6_bitCount_0f7a4_7 : decode cJ6_bitCount_0f7a4 7 = .ok (.iand, 1) := by decide +kernel
theorem dJ6_bitCount_0f7a4_8 : decode cJ6_bitCount_0f7a4 8 = .ok (.isub, 1) := by decide +kernel
theorem dJ6_bitCount_0f7a4_9 : decode cJ6_bitCount_0f7a4 9 = .ok (.istore_n 0, 1) := by decide +kernel
theorem dJ6_bitCount_0f7a4_10 : decode cJ6_bitCount_0f7a4 10 = .ok (.iload_n 0, 1) := by decide +kernel
theorem dJ6_bitCount_0f7a4_11 : decode cJ6_bitCount_0f7a4 11 = .ok (.ldc_w 266, 3) := by decide +kernel
theorem dJ6_bitCount_0f7a4_14 : decode cJ6_bitCount_0f7a4 14 = .ok (.iand, 1) := by decide +kernel
theorem dJ6_bitCount_0f7a4_15 : decode cJ6_bitCount_0f7a4 15 = .ok (.iload_n 0, 1) := by decide +kernel
theorem dJ6_bitCount_0f7a4_16 : decode cJ6_bitCount_0f7a4 16 = .ok (.iconst 2, 1) := by decide +kernel
theorem dJ6_bitCount_0f7a4_17 : decode cJ6_bitCount_0f7a4 17 = .ok (.iushr, 1) := by decide +kernel
theorem dJ6_bitCount_0f7a4_18 : decode cJ6_bitCount_0f7a4 18 = .ok (.ldc_w 266, 3) := by decide +kernel
theorem dJ6_bitCount_0f7a4_21 : decode cJ6_bitCount_0f7a4 21 = .ok (.iand, 1) := by decide +kernel
theorem dJ6_bitCount_0f7a4_22 : decode cJ6_bitCount_0f7a4 22 = .ok (.iadd, 1) := by decide +kernel
theorem dJ6_bitCount_0f7a4_23 : decode cJ6_bitCount_0f7a4 23 = .ok (.istore_n 0, 1) := by decide +kernel
theorem dJ6_bitCount_0f7a4_24 : decode cJ6_bitCount_0f7a4 24 = .ok (.iload_n 0, 1) := by decide +kernel
theorem dJ6_bitCount_0f7a4_25 : decode cJ6_bitCount_0f7a4 25 = .ok (.iload_n 0, 1) := by decide +kernel
theorem dJ6_bitCount_0f7a4_26 : decode cJ6_bitCount_0f7a4 26 = .ok (.iconst 4, 1) := by decide +kernel
theorem dJ6_bitCount_0f7a4_27 : decode cJ6_bitCount_0f7a4 27 = .ok (.iushr, 1) := by decide +kernel
theorem dJ6_bitCount_0f7a4_28 : decode cJ6_bitCount_0f7a4 28 = .ok (.iadd, 1) := by decide +kernel
theorem dJ6_bitCount_0f7a4_29 : decode cJ6_bitCount_0f7a4 29 = .ok (.ldc_w 267, 3) := by decide +kernel
theorem dJ6_bitCount_0f7a4_32 : decode cJ6_bitCount_0f7a4 32 = .ok (.iand, 1) := by decide +kernel
theorem dJ6_bitCount_0f7a4_33 : decode cJ6_bitCount_0f7a4 33 = .ok (.istore_n 0, 1) := by decide +kernel
theorem dJ6_bitCount_0f7a4_34 : decode cJ6_bitCount_0f7a4 34 = .ok (.iload_n 0, 1) := by decide +kernel
theorem dJ6_bitCount_0f7a4_35 : decode cJ6_bitCount_0f7a4 35 = .ok (.iload_n 0, 1) := by decide +kernel
theorem dJ6_bitCount_0f7a4_36 : decode cJ6_bitCount_0f7a4 36 = .ok (.bipush 8, 2) := by decide +kernel
theorem dJ6_bitCount_0f7a4_38 : decode cJ6_bitCount_0f7a4 38 = .ok (.iushr, 1) := by decide +kernel
theorem dJ6_bitCount_0f7a4_39 : decode cJ6_bitCount_0f7a4 39 = .ok (.iadd, 1) := by decide +kernel
theorem dJ6_bitCount_0f7a4_40 : decode cJ6_bitCount_0f7a4 40 = .ok (.istore_n 0, 1) := by decide +kernel
theorem dJ6_bitCount_0f7a4_41 : decode cJ6_bitCount_0f7a4 41 = .ok (.iload_n 0, 1) := by decide +kernel
theorem dJ6_bitCount_0f7a4_42 : decode cJ6_bitCount_0f7a4 42 = .ok (.iload_n 0, 1) := by decide +kernel
theorem dJ6_bitCount_0f7a4_43 : decode cJ6_bitCount_0f7a4 43 = .ok (.bipush 16, 2) := by decide +kernel
theorem dJ6_bitCount_0f7a4_45 : decode cJ6_bitCount_0f7a4 45 = .ok (.iushr, 1) := by decide +kernel
theorem dJ6_bitCount_0f7a4_46 : decode cJ6_bitCount_0f7a4 46 = .ok (.iadd, 1) := by decide +kernel
theorem dJ6_bitCount_0f7a4_47 : decode cJ6_bitCount_0f7a4 47 = .ok (.istore_n 0, 1) := by decide +kernel
theorem dJ6_bitCount_0f7a4_48 : decode cJ6_bitCount_0f7a4 48 = .ok (.iload_n 0, 1) := by decide +kernel
theorem dJ6_bitCount_0f7a4_49 : decode cJ6_bitCount_0f7a4 49 = .ok (.bipush 63, 2) := by decide +kernel
theorem dJ6_bitCount_0f7a4_51 : decode cJ6_bitCount_0f7a4 51 = .ok (.iand, 1) := by decide +kernel
theorem dJ6_bitCount_0f7a4_52 : decode cJ6_bitCount_0f7a4 52 = .ok (.ireturn, 1) := by decide +kernel
end
section
theorem dX4_init_0 : decode cX4_init 0 = .ok (.aload_n 0, 1) := by decide +kernel
theorem dX4_init_1 : decode cX4_init 1 = .ok (.invokespecial 3, 3) := by decide +kernel
theorem dX4_init_4 : decode cX4_init 4 = .ok (.aload_n 0, 1) := by decide +kernel
theorem dX4_init_5 : decode cX4_init 5 = .ok (.new 9, 3) := by decide +kernel
theorem dX4_init_8 : decode cX4_init 8 = .ok (.dup, 1) := by decide +kernel
theorem dX4_init_9 : decode cX4_init 9 = .ok (.invokespecial 11, 3) := by decide +kernel
theorem dX4_init_12 : decode cX4_init 12 = .ok (.putfield 12, 3) := by decide +kernel
theorem dX4_init_15 : decode cX4_init 15 = .ok (.aload_n 0, 1) := by decide +kernel
theorem dX4_init_16 : decode cX4_init 16 = .ok (.new 9, 3) := by decide +kernel
theorem dX4_init_19 : decode cX4_init 19 = .ok (.dup, 1) := by decide +kernel
theorem dX4_init_20 : decode cX4_init 20 = .ok (.invokespecial 11, 3) := by decide +kernel
theorem dX4_init_23 : decode cX4_init 23 = .ok (.putfield 18, 3) := by decide +kernel
theorem dX4_init_26 : decode cX4_init 26 = .ok (.aload_n 0, 1) := by decide +kernel
theorem dX4_init_27 : decode cX4_init 27 = .ok (.iconst 4, 1) := by decide +kernel
theorem dX4_init_28 : decode cX4_init 28 = .ok (.anewarray 21, 3) := by decide +kernel
theorem dX4_init_31 : decode cX4_init 31 = .ok (.putfield 23, 3) := by decide +kernel
theorem dX4_init_34 : decode cX4_init 34 = .ok (.iconst 0, 1) := by decide +kernel
theorem dX4_init_35 : decode cX4_init 35 = .ok (.istore_n 1, 1) := by decide +kernel
theorem dX4_init_36 : decode cX4_init 36 = .ok (.iload_n 1, 1) := by decide +kernel
theorem dX4_init_37 : decode cX4_init 37 = .ok (.iconst 4, 1) := by decide +kernel
theorem dX4_init_38 : decode cX4_init 38 = .ok (.if_icmp .ge 22, 3) := by decide +kernel
theorem dX4_init_41 : decode cX4_init 41 = .ok (.aload_n 0, 1) := by decide +kernel
theorem dX4_init_42 : decode cX4_init 42 = .ok (.getfield 23, 3) := by decide +kernel
theorem dX4_init_45 : decode cX4_init 45 = .ok (.iload_n 1, 1) := by decide +kernel
theorem dX4_init_46 : decode cX4_init 46 = .ok (.new 21, 3) := by decide +kernel
theorem dX4_init_49 : decode cX4_init 49 = .ok (.dup, 1) := by decide +kernel
theorem dX4_init_50 : decode cX4_init 50 = .ok (.invokespecial 27, 3) := by decide +kernel
theorem dX4_init_53 : decode cX4_init 53 = .ok (.aastore, 1) := by decide +kernel
theorem dX4_init_54 : decode cX4_init 54 = .ok (.iinc 1 1, 3) := by decide +kernel
theorem dX4_init_57 : decode cX4_init 57 = .ok (.goto (-21), 3) := by decide +kernel
theorem dX4_init_60 : decode cX4_init 60 = .ok (.aload_n 0, 1) := by decide +kernel
theorem dX4_init_61 : decode cX4_init 61 = .ok (.new 28, 3) := by decide +kernel
theorem dX4_init_64 : decode cX4_init 64 = .ok (.dup, 1) := by decide +kernel
theorem dX4_init_65 : decode cX4_init 65 = .ok (.invokespecial 30, 3) := by decide +kernel
theorem dX4_init_68 : decode cX4_init 68 = .ok (.putfield 31, 3) := by decide +kernel
theorem dX4_init_71 : decode cX4_init 71 = .ok (.aload_n 0, 1) := by decide +kernel
theorem dX4_init_72 : decode cX4_init 72 = .ok (.bipush 8, 2) := by decide +kernel
theorem dX4_init_74 : decode cX4_init 74 = .ok (.newarray .int, 2) := by decide +kernel
theorem dX4_init_76 : decode cX4_init 76 = .ok (.putfield 35, 3) := by decide +kernel
theorem dX4_init_79 : decode cX4_init 79 = .ok (.aload_n 0, 1) := by decide +kernel
theorem dX4_init_80 : decode cX4_init 80 = .ok (.bipush 8, 2) := by decide +kernel
theorem dX4_init_82 : decode cX4_init 82 = .ok (.newarray .int, 2) := by decide +kernel
theorem dX4_init_84 : decode cX4_init 84 = .ok (.putfield 39, 3) := by decide +kernel
theorem dX4_init_87 : decode cX4_init 87 = .ok (.aload_n 0, 1) := by decide +kernel
theorem dX4_init_88 : decode cX4_init 88 = .ok (.bipush 6, 2) := by decide +kernel
theorem dX4_init_90 : decode cX4_init 90 = .ok (.newarray .int, 2) := by decide +kernel
theorem dX4_init_92 : decode cX4_init 92 = .ok (.putfield 42, 3) := by decide +kernel
theorem dX4_init_95 : decode cX4_init 95 = .ok (.aload_n 0, 1) := by decide +kernel
theorem dX4_init_96 : decode cX4_init 96 = .ok (.bipush 6, 2) := by decide +kernel
theorem dX4_init_98 : decode cX4_init 98 = .ok (.newarray .int, 2) := by decide +kernel
theorem dX4_init_100 : decode cX4_init 100 = .ok (.putfield 45, 3) := by decide +kernel
theorem dX4_init_103 : decode cX4_init 103 = .ok (.aload_n 0, 1) := by decide +kernel
theorem dX4_init_104 : decode cX4_init 104 = .ok (.bipush 6, 2) := by decide +kernel
theorem dX4_init_106 : decode cX4_init 106 = .ok (.newarray .int, 2) := by decide +kernel
theorem dX4_init_108 : decode cX4_init 108 = .ok (.putfield 48, 3) := by decide +kernel
theorem dX4_init_111 : decode cX4_init 111 = .ok (.return_, 1) := by decide +kernel
theorem dX4_moor_0 : decode cX4_moor 0 = .ok (.aload_n 0, 1) := by decide +kernel
theorem dX4_moor_1 : decode cX4_moor 1 = .ok (.iconst 0, 1) := by decide +kernel
theorem dX4_moor_2 : decode cX4_moor 2 = .ok (.putfield 51, 3) := by decide +kernel
theorem dX4_moor_5 : decode cX4_moor 5 = .ok (.iload_n 1, 1) := by decide +kernel
theorem dX4_moor_6 : decode cX4_moor 6 = .ok (.invokestatic 55, 3) := by decide +kernel
theorem dX4_moor_9 : decode cX4_moor 9 = .ok (.ifCond .ne 5, 3) := by decide +kernel
theorem dX4_moor_12 : decode cX4_moor 12 = .ok (.iconst (-1), 1) := by decide +kernel
theorem dX4_moor_13 : decode cX4_moor 13 = .ok (.ireturn, 1) := by decide +kernel
theorem dX4_moor_14 : decode cX4_moor 14 = .ok (.iload_n 2, 1) := by decide +kernel
theorem dX4_moor_15 : decode cX4_moor 15 = .ok (.iconst 3, 1) := by decide +kernel
theorem dX4_moor_16 : decode cX4_moor 16 = .ok (.invokestatic 59, 3) := by decide +kernel
theorem dX4_moor_19 : decode cX4_moor 19 = .ok (.ifCond .ne 6, 3) := by decide +kernel
theorem dX4_moor_22 : decode cX4_moor 22 = .ok (.bipush (-2), 2) := by decide +kernel
theorem dX4_moor_24 : decode cX4_moor 24 = .ok (.ireturn, 1) := by decide +kernel
theorem dX4_moor_25 : decode cX4_moor 25 = .ok (.aload_n 0, 1) := by decide +kernel
theorem dX4_moor_26 : decode cX4_moor 26 = .ok (.getfield 23, 3) := by decide +kernel
theorem dX4_moor_29 : decode cX4_moor 29 = .ok (.iload_n 1, 1) := by decide +kernel
theorem dX4_moor_30 : decode cX4_moor 30 = .ok (.aaload, 1) := by decide +kernel
theorem dX4_moor_31 : decode cX4_moor 31 = .ok (.astore 5, 2) := by decide +kernel
theorem dX4_moor_33 : decode cX4_moor 33 = .ok (.aload 5, 2) := by decide +kernel
theorem dX4_moor_35 : decode cX4_moor 35 = .ok (.iload_n 2, 1) := by decide +kernel
theorem dX4_moor_36 : decode cX4_moor 36 = .ok (.invokevirtual 63, 3) := by decide +kernel
theorem dX4_moor_39 : decode cX4_moor 39 = .ok (.istore 6, 2) := by decide +kernel
theorem dX4_moor_41 : decode cX4_moor 41 = .ok (.iload 6, 2) := by decide +kernel
theorem dX4_moor_43 : decode cX4_moor 43 = .ok (.ifCond .ne 11, 3) := by decide +kernel
theorem dX4_moor_46 : decode cX4_moor 46 = .ok (.iload 4, 2) := by decide +kernel
theorem dX4_moor_48 : decode cX4_moor 48 = .ok (.ifCond .ge 6, 3) := by decide +kernel
theorem dX4_moor_51 : decode cX4_moor 51 = .ok (.iconst 4, 1) := by decide +kernel
theorem dX4_moor_52 : decode cX4_moor 52 = .ok (.istore 6, 2) := by decide +kernel
theorem dX4_moor_54 : decode cX4_moor 54 = .ok (.iload 6, 2) := by decide +kernel
theorem dX4_moor_56 : decode cX4_moor 56 = .ok (.ifCond .ne 17, 3) := by decide +kernel
theorem dX4_moor_59 : decode cX4_moor 59 = .ok (.aload 5, 2) := by decide +kernel
theorem dX4_moor_61 : decode cX4_moor 61 = .ok (.iload_n 3, 1) := by decide +kernel
theorem dX4_moor_62 : decode cX4_moor 62 = .ok (.iload 4, 2) := by decide +kernel
theorem dX4_moor_64 : decode cX4_moor 64 = .ok (.invokevirtual 67, 3) := by decide +kernel
theorem dX4_moor_67 : decode cX4_moor 67 = .ok (.ifCond .ne 6, 3) := by decide +kernel
theorem dX4_moor_70 : decode cX4_moor 70 = .ok (.iconst 3, 1) := by decide +kernel
theorem dX4_moor_71 : decode cX4_moor 71 = .ok (.istore 6, 2) := by decide +kernel
theorem dX4_moor_73 : decode cX4_moor 73 = .ok (.iload 6, 2) := by decide +kernel
theorem dX4_moor_75 : decode cX4_moor 75 = .ok (.ifCond .eq 10, 3) := by decide +kernel
theorem dX4_moor_78 : decode cX4_moor 78 = .ok (.aload_n 0, 1) := by decide +kernel
theorem dX4_moor_79 : decode cX4_moor 79 = .ok (.iload 6, 2) := by decide +kernel
theorem dX4_moor_81 : decode cX4_moor 81 = .ok (.invokevirtual 70, 3) := by decide +kernel
theorem dX4_moor_84 : decode cX4_moor 84 = .ok (.ireturn, 1) := by decide +kernel
theorem dX4_moor_85 : decode cX4_moor 85 = .ok (.aload 5, 2) := by decide +kernel
theorem dX4_moor_87 : decode cX4_moor 87 = .ok (.getfield 73, 3) := by decide +kernel
theorem dX4_moor_90 : decode cX4_moor 90 = .ok (.iload_n 3, 1) := by decide +kernel
theorem dX4_moor_91 : decode cX4_moor 91 = .ok (.iload 4, 2) := by decide +kernel
theorem dX4_moor_93 : decode cX4_moor 93 = .ok (.invokestatic 76, 3) := by decide +kernel
theorem dX4_moor_96 : decode cX4_moor 96 = .ok (.istore 7, 2) := by decide +kernel
theorem dX4_moor_98 : decode cX4_moor 98 = .ok (.iload 7, 2) := by decide +kernel
theorem dX4_moor_100 : decode cX4_moor 100 = .ok (.bipush (-9), 2) := by decide +kernel
theorem dX4_moor_102 : decode cX4_moor 102 = .ok (.if_icmp .eq 9, 3) := by decide +kernel
theorem dX4_moor_105 : decode cX4_moor 105 = .ok (.bipush (-100), 2) := by decide +kernel
theorem dX4_moor_107 : decode cX4_moor 107 = .ok (.iload 7, 2) := by decide +kernel
theorem dX4_moor_109 : decode cX4_moor 109 = .ok (.isub, 1) := by decide +kernel
theorem dX4_moor_110 : decode cX4_moor 110 = .ok (.ireturn, 1) := by decide +kernel
theorem dX4_moor_111 : decode cX4_moor 111 = .ok (.aload_n 0, 1) := by decide +kernel
theorem dX4_moor_112 : decode cX4_moor 112 = .ok (.getfield 12, 3) := by decide +kernel
theorem dX4_moor_115 : decode cX4_moor 115 = .ok (.aload 5, 2) := by decide +kernel
theorem dX4_moor_117 : decode cX4_moor 117 = .ok (.getfield 73, 3) := by decide +kernel
theorem dX4_moor_120 : decode cX4_moor 120 = .ok (.iload_n 3, 1) := by decide +kernel
theorem dX4_moor_121 : decode cX4_moor 121 = .ok (.iload 4, 2) := by decide +kernel
theorem dX4_moor_123 : decode cX4_moor 123 = .ok (.invokestatic 82, 3) := by decide +kernel
theorem dX4_moor_126 : decode cX4_moor 126 = .ok (.aload_n 0, 1) := by decide +kernel
theorem dX4_moor_127 : decode cX4_moor 127 = .ok (.iconst 0, 1) := by decide +kernel
theorem dX4_moor_128 : decode cX4_moor 128 = .ok (.putfield 86, 3) := by decide +kernel
theorem dX4_moor_131 : decode cX4_moor 131 = .ok (.aload_n 0, 1) := by decide +kernel
theorem dX4_moor_132 : decode cX4_moor 132 = .ok (.iconst 0, 1) := by decide +kernel
theorem dX4_moor_133 : decode cX4_moor 133 = .ok (.putfield 89, 3) := by decide +kernel
theorem dX4_moor_136 : decode cX4_moor 136 = .ok (.aload_n 0, 1) := by decide +kernel
theorem dX4_moor_137 : decode cX4_moor 137 = .ok (.getfield 12, 3) := by decide +kernel
theorem dX4_moor_140 : decode cX4_moor 140 = .ok (.getfield 92, 3) := by decide +kernel
theorem dX4_moor_143 : decode cX4_moor 143 = .ok (.ireturn, 1) := by decide +kernel
theorem dX4_ofPerson_0 : decode cX4_ofPerson 0 = .ok (.aload_n 0, 1) := by decide +kernel
theorem dX4_ofPerson_1 : decode cX4_ofPerson 1 = .ok (.iload_n 1, 1) := by decide +kernel
theorem dX4_ofPerson_2 : decode cX4_ofPerson 2 = .ok (.invokevirtual 95, 3) := by decide +kernel
theorem dX4_ofPerson_5 : decode cX4_ofPerson 5 = .ok (.ifCond .ne 5, 3) := by decide +kernel
theorem dX4_ofPerson_8 : decode cX4_ofPerson 8 = .ok (.iconst (-1), 1) := by decide +kernel
theorem dX4_ofPerson_9 : decode cX4_ofPerson 9 = .ok (.ireturn, 1) := by decide +kernel
theorem dX4_ofPerson_10 : decode cX4_ofPerson 10 = .ok (.iload_n 2, 1) := by decide +kernel
theorem dX4_ofPerson_11 : decode cX4_ofPerson 11 = .ok (.tableswitch 116 0 6 #[41, 51, 61, 71, 81, 90, 107], 41) := by decide +kernel
theorem dX4_ofPerson_52 : decode cX4_ofPerson 52 = .ok (.aload_n 0, 1) := by decide +kernel
theorem dX4_ofPerson_53 : decode cX4_ofPerson 53 = .ok (.getfield 12, 3) := by decide +kernel
theorem dX4_ofPerson_56 : decode cX4_ofPerson 56 = .ok (.getfield 98, 3) := by decide +kernel
theorem dX4_ofPerson_59 : decode cX4_ofPerson 59 = .ok (.iload_n 1, 1) := by decide +kernel
theorem dX4_ofPerson_60 : decode cX4_ofPerson 60 = .ok (.iaload, 1) := by decide +kernel
theorem dX4_ofPerson_61 : decode cX4_ofPerson 61 = .ok (.ireturn, 1) := by decide +kernel
theorem dX4_ofPerson_62 : decode cX4_ofPerson 62 = .ok (.aload_n 0, 1) := by decide +kernel
theorem dX4_ofPerson_63 : decode cX4_ofPerson 63 = .ok (.getfield 12, 3) := by decide +kernel
theorem dX4_ofPerson_66 : decode cX4_ofPerson 66 = .ok (.getfield 101, 3) := by decide +kernel
theorem dX4_ofPerson_69 : decode cX4_ofPerson 69 = .ok (.iload_n 1, 1) := by decide +kernel
theorem dX4_ofPerson_70 : decode cX4_ofPerson 70 = .ok (.iaload, 1) := by decide +kernel
theorem dX4_ofPerson_71 : decode cX4_ofPerson 71 = .ok (.ireturn, 1) := by decide +kernel
theorem dX4_ofPerson_72 : decode cX4_ofPerson 72 = .ok (.aload_n 0, 1) := by decide +kernel
theorem dX4_ofPerson_73 : decode cX4_ofPerson 73 = .ok (.getfield 12, 3) := by decide +kernel
theorem dX4_ofPerson_76 : decode cX4_ofPerson 76 = .ok (.getfield 104, 3) := by decide +kernel
theorem dX4_ofPerson_79 : decode cX4_ofPerson 79 = .ok (.iload_n 1, 1) := by decide +kernel
theorem dX4_ofPerson_80 : decode cX4_ofPerson 80 = .ok (.iaload, 1) := by decide +kernel
theorem dX4_ofPerson_81 : decode cX4_ofPerson 81 = .ok (.ireturn, 1) := by decide +kernel
theorem dX4_ofPerson_82 : decode cX4_ofPerson 82 = .ok (.aload_n 0, 1) := by decide +kernel
theorem dX4_ofPerson_83 : decode cX4_ofPerson 83 = .ok (.getfield 12, 3) := by decide +kernel
theorem dX4_ofPerson_86 : decode cX4_ofPerson 86 = .ok (.getfield 107, 3) := by decide +kernel
theorem dX4_ofPerson_89 : decode cX4_ofPerson 89 = .ok (.iload_n 1, 1) := by decide +kernel
theorem dX4_ofPerson_90 : decode cX4_ofPerson 90 = .ok (.iaload, 1) := by decide +kernel
theorem dX4_ofPerson_91 : decode cX4_ofPerson 91 = .ok (.ireturn, 1) := by decide +kernel
theorem dX4_ofPerson_92 : decode cX4_ofPerson 92 = .ok (.aload_n 0, 1) := by decide +kernel
theorem dX4_ofPerson_93 : decode cX4_ofPerson 93 = .ok (.getfield 12, 3) := by decide +kernel
theorem dX4_ofPerson_96 : decode cX4_ofPerson 96 = .ok (.iload_n 1, 1) := by decide +kernel
theorem dX4_ofPerson_97 : decode cX4_ofPerson 97 = .ok (.invokevirtual 110, 3) := by decide +kernel
theorem dX4_ofPerson_100 : decode cX4_ofPerson 100 = .ok (.ireturn, 1) := by decide +kernel
theorem dX4_ofPerson_101 : decode cX4_ofPerson 101 = .ok (.aload_n 0, 1) := by decide +kernel
theorem dX4_ofPerson_102 : decode cX4_ofPerson 102 = .ok (.getfield 12, 3) := by decide +kernel
theorem dX4_ofPerson_105 : decode cX4_ofPerson 105 = .ok (.iload_n 1, 1) := by decide +kernel
theorem dX4_ofPerson_106 : decode cX4_ofPerson 106 = .ok (.invokevirtual 113, 3) := by decide +kernel
theorem dX4_ofPerson_109 : decode cX4_ofPerson 109 = .ok (.ifCond .eq 7, 3) := by decide +kernel
theorem dX4_ofPerson_112 : decode cX4_ofPerson 112 = .ok (.iconst 1, 1) := by decide +kernel
theorem dX4_ofPerson_113 : decode cX4_ofPerson 113 = .ok (.goto 4, 3) := by decide +kernel
theorem dX4_ofPerson_116 : decode cX4_ofPerson 116 = .ok (.iconst 0, 1) := by decide +kernel
theorem dX4_ofPerson_117 : decode cX4_ofPerson 117 = .ok (.ireturn, 1) := by decide +kernel
theorem dX4_ofPerson_118 : decode cX4_ofPerson 118 = .ok (.aload_n 0, 1) := by decide +kernel
theorem dX4_ofPerson_119 : decode cX4_ofPerson 119 = .ok (.getfield 12, 3) := by decide +kernel
theorem dX4_ofPerson_122 : decode cX4_ofPerson 122 = .ok (.iload_n 1, 1) := by decide +kernel
theorem dX4_ofPerson_123 : decode cX4_ofPerson 123 = .ok (.invokevirtual 116, 3) := by decide +kernel
theorem dX4_ofPerson_126 : decode cX4_ofPerson 126 = .ok (.ireturn, 1) := by decide +kernel
theorem dX4_ofPerson_127 : decode cX4_ofPerson 127 = .ok (.bipush (-2), 2) := by decide +kernel
theorem dX4_ofPerson_129 : decode cX4_ofPerson 129 = .ok (.ireturn, 1) := by decide +kernel
theorem dX4_post_0 : decode cX4_post 0 = .ok (.aload_n 0, 1) := by decide +kernel
theorem dX4_post_1 : decode cX4_post 1 = .ok (.invokevirtual 119, 3) := by decide +kernel
theorem dX4_post_4 : decode cX4_post 4 = .ok (.ifCond .eq 6, 3) := by decide +kernel
theorem dX4_post_7 : decode cX4_post 7 = .ok (.bipush (-3), 2) := by decide +kernel
theorem dX4_post_9 : decode cX4_post 9 = .ok (.ireturn, 1) := by decide +kernel
theorem dX4_post_10 : decode cX4_post 10 = .ok (.iload_n 1, 1) := by decide +kernel
theorem dX4_post_11 : decode cX4_post 11 = .ok (.bipush 10, 2) := by decide +kernel
theorem dX4_post_13 : decode cX4_post 13 = .ok (.invokestatic 59, 3) := by decide +kernel
theorem dX4_post_16 : decode cX4_post 16 = .ok (.ifCond .ne 6, 3) := by decide +kernel
theorem dX4_post_19 : decode cX4_post 19 = .ok (.bipush (-2), 2) := by decide +kernel
theorem dX4_post_21 : decode cX4_post 21 = .ok (.ireturn, 1) := by decide +kernel
theorem dX4_post_22 : decode cX4_post 22 = .ok (.aload_n 0, 1) := by decide +kernel
theorem dX4_post_23 : decode cX4_post 23 = .ok (.getfield 12, 3) := by decide +kernel
theorem dX4_post_26 : decode cX4_post 26 = .ok (.getfield 123, 3) := by decide +kernel
theorem dX4_post_29 : decode cX4_post 29 = .ok (.istore_n 2, 1) := by decide +kernel
theorem dX4_post_30 : decode cX4_post 30 = .ok (.aload_n 0, 1) := by decide +kernel
theorem dX4_post_31 : decode cX4_post 31 = .ok (.getfield 12, 3) := by decide +kernel
theorem dX4_post_34 : decode cX4_post 34 = .ok (.iload_n 1, 1) := by decide +kernel
theorem dX4_post_35 : decode cX4_post 35 = .ok (.putfield 123, 3) := by decide +kernel
theorem dX4_post_38 : decode cX4_post 38 = .ok (.iload_n 2, 1) := by decide +kernel
theorem dX4_post_39 : decode cX4_post 39 = .ok (.ireturn, 1) := by decide +kernel
theorem dX4_lax_0 : decode cX4_lax 0 = .ok (.aload_n 0, 1) := by decide +kernel
theorem dX4_lax_1 : decode cX4_lax 1 = .ok (.invokevirtual 119, 3) := by decide +kernel
theorem dX4_lax_4 : decode cX4_lax 4 = .ok (.ifCond .eq 6, 3) := by decide +kernel
theorem dX4_lax_7 : decode cX4_lax 7 = .ok (.bipush (-3), 2) := by decide +kernel
theorem dX4_lax_9 : decode cX4_lax 9 = .ok (.ireturn, 1) := by decide +kernel
theorem dX4_lax_10 : decode cX4_lax 10 = .ok (.iload_n 1, 1) := by decide +kernel
theorem dX4_lax_11 : decode cX4_lax 11 = .ok (.iconst 4, 1) := by decide +kernel
theorem dX4_lax_12 : decode cX4_lax 12 = .ok (.invokestatic 59, 3) := by decide +kernel
theorem dX4_lax_15 : decode cX4_lax 15 = .ok (.ifCond .ne 6, 3) := by decide +kernel
theorem dX4_lax_18 : decode cX4_lax 18 = .ok (.bipush (-2), 2) := by decide +kernel
theorem dX4_lax_20 : decode cX4_lax 20 = .ok (.ireturn, 1) := by decide +kernel
theorem dX4_lax_21 : decode cX4_lax 21 = .ok (.aload_n 0, 1) := by decide +kernel
theorem dX4_lax_22 : decode cX4_lax 22 = .ok (.getfield 12, 3) := by decide +kernel
theorem dX4_lax_25 : decode cX4_lax 25 = .ok (.getfield 126, 3) := by decide +kernel
theorem dX4_lax_28 : decode cX4_lax 28 = .ok (.istore_n 2, 1) := by decide +kernel
theorem dX4_lax_29 : decode cX4_lax 29 = .ok (.aload_n 0, 1) := by decide +kernel
theorem dX4_lax_30 : decode cX4_lax 30 = .ok (.getfield 12, 3) := by decide +kernel
theorem dX4_lax_33 : decode cX4_lax 33 = .ok (.iload_n 1, 1) := by decide +kernel
theorem dX4_lax_34 : decode cX4_lax 34 = .ok (.putfield 126, 3) := by decide +kernel
theorem dX4_lax_37 : decode cX4_lax 37 = .ok (.iload_n 2, 1) := by decide +kernel
theorem dX4_lax_38 : decode cX4_lax 38 = .ok (.ireturn, 1) := by decide +kernel
theorem dX4_bathe_0 : decode cX4_bathe 0 = .ok (.aload_n 0, 1) := by decide +kernel
theorem dX4_bathe_1 : decode cX4_bathe 1 = .ok (.aload_n 0, 1) := by decide +kernel
theorem dX4_bathe_2 : decode cX4_bathe 2 = .ok (.getfield 12, 3) := by decide +kernel
theorem dX4_bathe_5 : decode cX4_bathe 5 = .ok (.getfield 101, 3) := by decide +kernel
theorem dX4_bathe_8 : decode cX4_bathe 8 = .ok (.iload_n 1, 1) := by decide +kernel
theorem dX4_bathe_9 : decode cX4_bathe 9 = .ok (.iload_n 2, 1) := by decide +kernel
theorem dX4_bathe_10 : decode cX4_bathe 10 = .ok (.bipush 8, 2) := by decide +kernel
theorem dX4_bathe_12 : decode cX4_bathe 12 = .ok (.invokevirtual 129, 3) := by decide +kernel
theorem dX4_bathe_15 : decode cX4_bathe 15 = .ok (.ireturn, 1) := by decide +kernel
theorem dX4_moves_0 : decode cX4_moves 0 = .ok (.aload_n 0, 1) := by decide +kernel
theorem dX4_moves_1 : decode cX4_moves 1 = .ok (.aload_n 0, 1) := by decide +kernel
theorem dX4_moves_2 : decode cX4_moves 2 = .ok (.getfield 12, 3) := by decide +kernel
theorem dX4_moves_5 : decode cX4_moves 5 = .ok (.getfield 107, 3) := by decide +kernel
theorem dX4_moves_8 : decode cX4_moves 8 = .ok (.iload_n 1, 1) := by decide +kernel
theorem dX4_moves_9 : decode cX4_moves 9 = .ok (.iload_n 2, 1) := by decide +kernel
theorem dX4_moves_10 : decode cX4_moves 10 = .ok (.bipush 10, 2) := by decide +kernel
theorem dX4_moves_12 : decode cX4_moves 12 = .ok (.invokevirtual 129, 3) := by decide +kernel
theorem dX4_moves_15 : decode cX4_moves 15 = .ok (.ireturn, 1) := by decide +kernel
theorem dX4_send_0 : decode cX4_send 0 = .ok (.aload_n 0, 1) := by decide +kernel
theorem dX4_send_1 : decode cX4_send 1 = .ok (.iload_n 1, 1) := by decide +kernel
theorem dX4_send_2 : decode cX4_send 2 = .ok (.invokevirtual 95, 3) := by decide +kernel
theorem dX4_send_5 : decode cX4_send 5 = .ok (.ifCond .ne 5, 3) := by decide +kernel
theorem dX4_send_8 : decode cX4_send 8 = .ok (.iconst (-1), 1) := by decide +kernel
theorem dX4_send_9 : decode cX4_send 9 = .ok (.ireturn, 1) := by decide +kernel
theorem dX4_send_10 : decode cX4_send 10 = .ok (.aload_n 0, 1) := by decide +kernel
theorem dX4_send_11 : decode cX4_send 11 = .ok (.dup, 1) := by decide +kernel
theorem dX4_send_12 : decode cX4_send 12 = .ok (.getfield 89, 3) := by decide +kernel
theorem dX4_send_15 : decode cX4_send 15 = .ok (.iconst 1, 1) := by decide +kernel
theorem dX4_send_16 : decode cX4_send 16 = .ok (.iadd, 1) := by decide +kernel
theorem dX4_send_17 : decode cX4_send 17 = .ok (.putfield 89, 3) := by decide +kernel
theorem dX4_send_20 : decode cX4_send 20 = .ok (.aload_n 0, 1) := by decide +kernel
theorem dX4_send_21 : decode cX4_send 21 = .ok (.getfield 12, 3) := by decide +kernel
theorem dX4_send_24 : decode cX4_send 24 = .ok (.iload_n 1, 1) := by decide +kernel
theorem dX4_send_25 : decode cX4_send 25 = .ok (.invokevirtual 133, 3) := by decide +kernel
theorem dX4_send_28 : decode cX4_send 28 = .ok (.ireturn, 1) := by decide +kernel
theorem dX4_comes_0 : decode cX4_comes 0 = .ok (.aload_n 0, 1) := by decide +kernel
theorem dX4_comes_1 : decode cX4_comes 1 = .ok (.invokevirtual 119, 3) := by decide +kernel
theorem dX4_comes_4 : decode cX4_comes 4 = .ok (.ifCond .eq 6, 3) := by decide +kernel
theorem dX4_comes_7 : decode cX4_comes 7 = .ok (.bipush (-3), 2) := by decide +kernel
theorem dX4_comes_9 : decode cX4_comes 9 = .ok (.ireturn, 1) := by decide +kernel
theorem dX4_comes_10 : decode cX4_comes 10 = .ok (.iload_n 1, 1) := by decide +kernel
theorem dX4_comes_11 : decode cX4_comes 11 = .ok (.lookupswitch 41 #[(0, 25), (1, 33)], 25) := by decide +kernel
theorem dX4_comes_36 : decode cX4_comes 36 = .ok (.aload_n 0, 1) := by decide +kernel
theorem dX4_comes_37 : decode cX4_comes 37 = .ok (.getfield 12, 3) := by decide +kernel
theorem dX4_comes_40 : decode cX4_comes 40 = .ok (.invokevirtual 136, 3) := by decide +kernel
theorem dX4_comes_43 : decode cX4_comes 43 = .ok (.ireturn, 1) := by decide +kernel
theorem dX4_comes_44 : decode cX4_comes 44 = .ok (.aload_n 0, 1) := by decide +kernel
theorem dX4_comes_45 : decode cX4_comes 45 = .ok (.getfield 12, 3) := by decide +kernel
theorem dX4_comes_48 : decode cX4_comes 48 = .ok (.invokevirtual 140, 3) := by decide +kernel
theorem dX4_comes_51 : decode cX4_comes 51 = .ok (.ireturn, 1) := by decide +kernel
theorem dX4_comes_52 : decode cX4_comes 52 = .ok (.bipush (-2), 2) := by decide +kernel
theorem dX4_comes_54 : decode cX4_comes 54 = .ok (.ireturn, 1) := by decide +kernel
theorem dX4_round_0 : decode cX4_round 0 = .ok (.aload_n 0, 1) := by decide +kernel
theorem dX4_round_1 : decode cX4_round 1 = .ok (.iconst 0, 1) := by decide +kernel
theorem dX4_round_2 : decode cX4_round 2 = .ok (.putfield 51, 3) := by decide +kernel
theorem dX4_round_5 : decode cX4_round 5 = .ok (.iload_n 1, 1) := by decide +kernel
theorem dX4_round_6 : decode cX4_round 6 = .ok (.invokestatic 55, 3) := by decide +kernel
theorem dX4_round_9 : decode cX4_round 9 = .ok (.ifCond .ne 5, 3) := by decide +kernel
theorem dX4_round_12 : decode cX4_round 12 = .ok (.iconst (-1), 1) := by decide +kernel
theorem dX4_round_13 : decode cX4_round 13 = .ok (.ireturn, 1) := by decide +kernel
theorem dX4_round_14 : decode cX4_round 14 = .ok (.iload_n 2, 1) := by decide +kernel
theorem dX4_round_15 : decode cX4_round 15 = .ok (.iconst 3, 1) := by decide +kernel
theorem dX4_round_16 : decode cX4_round 16 = .ok (.invokestatic 59, 3) := by decide +kernel
theorem dX4_round_19 : decode cX4_round 19 = .ok (.ifCond .eq 21, 3) := by decide +kernel
theorem dX4_round_22 : decode cX4_round 22 = .ok (.iload 4, 2) := by decide +kernel
theorem dX4_round_24 : decode cX4_round 24 = .ok (.bipush 21, 2) := by decide +kernel
theorem dX4_round_26 : decode cX4_round 26 = .ok (.invokestatic 59, 3) := by decide +kernel
theorem dX4_round_29 : decode cX4_round 29 = .ok (.ifCond .eq 11, 3) := by decide +kernel
theorem dX4_round_32 : decode cX4_round 32 = .ok (.iload 5, 2) := by decide +kernel
theorem dX4_round_34 : decode cX4_round 34 = .ok (.invokestatic 143, 3) := by decide +kernel
theorem dX4_round_37 : decode cX4_round 37 = .ok (.ifCond .ne 6, 3) := by decide +kernel
theorem dX4_round_40 : decode cX4_round 40 = .ok (.bipush (-2), 2) := by decide +kernel
theorem dX4_round_42 : decode cX4_round 42 = .ok (.ireturn, 1) := by decide +kernel
theorem dX4_round_43 : decode cX4_round 43 = .ok (.aload_n 0, 1) := by decide +kernel
theorem dX4_round_44 : decode cX4_round 44 = .ok (.invokevirtual 119, 3) := by decide +kernel
theorem dX4_round_47 : decode cX4_round 47 = .ok (.ifCond .eq 6, 3) := by decide +kernel
theorem dX4_round_50 : decode cX4_round 50 = .ok (.bipush (-3), 2) := by decide +kernel
theorem dX4_round_52 : decode cX4_round 52 = .ok (.ireturn, 1) := by decide +kernel
theorem dX4_round_53 : decode cX4_round 53 = .ok (.aload_n 0, 1) := by decide +kernel
theorem dX4_round_54 : decode cX4_round 54 = .ok (.getfield 23, 3) := by decide +kernel
theorem dX4_round_57 : decode cX4_round 57 = .ok (.iload_n 1, 1) := by decide +kernel
theorem dX4_round_58 : decode cX4_round 58 = .ok (.aaload, 1) := by decide +kernel
theorem dX4_round_59 : decode cX4_round 59 = .ok (.astore 6, 2) := by decide +kernel
theorem dX4_round_61 : decode cX4_round 61 = .ok (.aload 6, 2) := by decide +kernel
theorem dX4_round_63 : decode cX4_round 63 = .ok (.iload_n 2, 1) := by decide +kernel
theorem dX4_round_64 : decode cX4_round 64 = .ok (.invokevirtual 63, 3) := by decide +kernel
theorem dX4_round_67 : decode cX4_round 67 = .ok (.istore 7, 2) := by decide +kernel
theorem dX4_round_69 : decode cX4_round 69 = .ok (.iload 7, 2) := by decide +kernel
theorem dX4_round_71 : decode cX4_round 71 = .ok (.ifCond .ne 19, 3) := by decide +kernel
theorem dX4_round_74 : decode cX4_round 74 = .ok (.aload 6, 2) := by decide +kernel
theorem dX4_round_76 : decode cX4_round 76 = .ok (.iload_n 3, 1) := by decide +kernel
theorem dX4_round_77 : decode cX4_round 77 = .ok (.iconst 2, 1) := by decide +kernel
theorem dX4_round_78 : decode cX4_round 78 = .ok (.iload 4, 2) := by decide +kernel
theorem dX4_round_80 : decode cX4_round 80 = .ok (.imul, 1) := by decide +kernel
theorem dX4_round_81 : decode cX4_round 81 = .ok (.invokevirtual 67, 3) := by decide +kernel
theorem dX4_round_84 : decode cX4_round 84 = .ok (.ifCond .ne 6, 3) := by decide +kernel
theorem dX4_round_87 : decode cX4_round 87 = .ok (.iconst 3, 1) := by decide +kernel
theorem dX4_round_88 : decode cX4_round 88 = .ok (.istore 7, 2) := by decide +kernel
theorem dX4_round_90 : decode cX4_round 90 = .ok (.iload 7, 2) := by decide +kernel
theorem dX4_round_92 : decode cX4_round 92 = .ok (.ifCond .eq 10, 3) := by decide +kernel
theorem dX4_round_95 : decode cX4_round 95 = .ok (.aload_n 0, 1) := by decide +kernel
theorem dX4_round_96 : decode cX4_round 96 = .ok (.iload 7, 2) := by decide +kernel
theorem dX4_round_98 : decode cX4_round 98 = .ok (.invokevirtual 70, 3) := by decide +kernel
theorem dX4_round_101 : decode cX4_round 101 = .ok (.ireturn, 1) := by decide +kernel
theorem dX4_round_102 : decode cX4_round 102 = .ok (.aload_n 0, 1) := by decide +kernel
theorem dX4_round_103 : decode cX4_round 103 = .ok (.aload 6, 2) := by decide +kernel
theorem dX4_round_105 : decode cX4_round 105 = .ok (.getfield 73, 3) := by decide +kernel
theorem dX4_round_108 : decode cX4_round 108 = .ok (.iload_n 3, 1) := by decide +kernel
theorem dX4_round_109 : decode cX4_round 109 = .ok (.iload 4, 2) := by decide +kernel
theorem dX4_round_111 : decode cX4_round 111 = .ok (.invokevirtual 146, 3) := by decide +kernel
theorem dX4_round_114 : decode cX4_round 114 = .ok (.istore 8, 2) := by decide +kernel
theorem dX4_round_116 : decode cX4_round 116 = .ok (.iload 8, 2) := by decide +kernel
theorem dX4_round_118 : decode cX4_round 118 = .ok (.ifCond .eq 6, 3) := by decide +kernel
theorem dX4_round_121 : decode cX4_round 121 = .ok (.iload 8, 2) := by decide +kernel
theorem dX4_round_123 : decode cX4_round 123 = .ok (.ireturn, 1) := by decide +kernel
theorem dX4_round_124 : decode cX4_round 124 = .ok (.aload_n 0, 1) := by decide +kernel
theorem dX4_round_125 : decode cX4_round 125 = .ok (.aload 6, 2) := by decide +kernel
theorem dX4_round_127 : decode cX4_round 127 = .ok (.getfield 73, 3) := by decide +kernel
theorem dX4_round_130 : decode cX4_round 130 = .ok (.iload_n 3, 1) := by decide +kernel
theorem dX4_round_131 : decode cX4_round 131 = .ok (.iload 4, 2) := by decide +kernel
theorem dX4_round_133 : decode cX4_round 133 = .ok (.invokevirtual 149, 3) := by decide +kernel
theorem dX4_round_136 : decode cX4_round 136 = .ok (.aload_n 0, 1) := by decide +kernel
theorem dX4_round_137 : decode cX4_round 137 = .ok (.iload 5, 2) := by decide +kernel
theorem dX4_round_139 : decode cX4_round 139 = .ok (.invokevirtual 153, 3) := by decide +kernel
theorem dX4_round_142 : decode cX4_round 142 = .ok (.ireturn, 1) := by decide +kernel
theorem dX4_strict_0 : decode cX4_strict 0 = .ok (.aload_n 0, 1) := by decide +kernel
theorem dX4_strict_1 : decode cX4_strict 1 = .ok (.iload_n 1, 1) := by decide +kernel
theorem dX4_strict_2 : decode cX4_strict 2 = .ok (.invokevirtual 95, 3) := by decide +kernel
theorem dX4_strict_5 : decode cX4_strict 5 = .ok (.ifCond .ne 5, 3) := by decide +kernel
theorem dX4_strict_8 : decode cX4_strict 8 = .ok (.iconst (-1), 1) := by decide +kernel
theorem dX4_strict_9 : decode cX4_strict 9 = .ok (.ireturn, 1) := by decide +kernel
theorem dX4_strict_10 : decode cX4_strict 10 = .ok (.aload_n 0, 1) := by decide +kernel
theorem dX4_strict_11 : decode cX4_strict 11 = .ok (.getfield 18, 3) := by decide +kernel
theorem dX4_strict_14 : decode cX4_strict 14 = .ok (.aload_n 0, 1) := by decide +kernel
theorem dX4_strict_15 : decode cX4_strict 15 = .ok (.getfield 12, 3) := by decide +kernel
theorem dX4_strict_18 : decode cX4_strict 18 = .ok (.invokevirtual 156, 3) := by decide +kernel
theorem dX4_strict_21 : decode cX4_strict 21 = .ok (.iconst 0, 1) := by decide +kernel
theorem dX4_strict_22 : decode cX4_strict 22 = .ok (.istore_n 2, 1) := by decide +kernel
theorem dX4_strict_23 : decode cX4_strict 23 = .ok (.iload_n 2, 1) := by decide +kernel
theorem dX4_strict_24 : decode cX4_strict 24 = .ok (.iconst 4, 1) := by decide +kernel
theorem dX4_strict_25 : decode cX4_strict 25 = .ok (.if_icmp .ge 31, 3) := by decide +kernel
theorem dX4_strict_28 : decode cX4_strict 28 = .ok (.aload_n 0, 1) := by decide +kernel
theorem dX4_strict_29 : decode cX4_strict 29 = .ok (.getfield 18, 3) := by decide +kernel
theorem dX4_strict_32 : decode cX4_strict 32 = .ok (.iload_n 2, 1) := by decide +kernel
theorem dX4_strict_33 : decode cX4_strict 33 = .ok (.putfield 126, 3) := by decide +kernel
theorem dX4_strict_36 : decode cX4_strict 36 = .ok (.aload_n 0, 1) := by decide +kernel
theorem dX4_strict_37 : decode cX4_strict 37 = .ok (.getfield 18, 3) := by decide +kernel
theorem dX4_strict_40 : decode cX4_strict 40 = .ok (.iload_n 1, 1) := by decide +kernel
theorem dX4_strict_41 : decode cX4_strict 41 = .ok (.invokevirtual 116, 3) := by decide +kernel
theorem dX4_strict_44 : decode cX4_strict 44 = .ok (.iload_n 1, 1) := by decide +kernel
theorem dX4_strict_45 : decode cX4_strict 45 = .ok (.if_icmp .ne 5, 3) := by decide +kernel
theorem dX4_strict_48 : decode cX4_strict 48 = .ok (.iload_n 2, 1) := by decide +kernel
theorem dX4_strict_49 : decode cX4_strict 49 = .ok (.ireturn, 1) := by decide +kernel
theorem dX4_strict_50 : decode cX4_strict 50 = .ok (.iinc 2 1, 3) := by decide +kernel
theorem dX4_strict_53 : decode cX4_strict 53 = .ok (.goto (-30), 3) := by decide +kernel
theorem dX4_strict_56 : decode cX4_strict 56 = .ok (.bipush (-9), 2) := by decide +kernel
theorem dX4_strict_58 : decode cX4_strict 58 = .ok (.ireturn, 1) := by decide +kernel
theorem dX4_site_0 : decode cX4_site 0 = .ok (.aload_n 0, 1) := by decide +kernel
theorem dX4_site_1 : decode cX4_site 1 = .ok (.invokevirtual 119, 3) := by decide +kernel
theorem dX4_site_4 : decode cX4_site 4 = .ok (.ifCond .eq 6, 3) := by decide +kernel
theorem dX4_site_7 : decode cX4_site 7 = .ok (.bipush (-3), 2) := by decide +kernel
theorem dX4_site_9 : decode cX4_site 9 = .ok (.ireturn, 1) := by decide +kernel
theorem dX4_site_10 : decode cX4_site 10 = .ok (.iload_n 1, 1) := by decide +kernel
theorem dX4_site_11 : decode cX4_site 11 = .ok (.iconst 2, 1) := by decide +kernel
theorem dX4_site_12 : decode cX4_site 12 = .ok (.invokestatic 59, 3) := by decide +kernel
theorem dX4_site_15 : decode cX4_site 15 = .ok (.ifCond .ne 6, 3) := by decide +kernel
theorem dX4_site_18 : decode cX4_site 18 = .ok (.bipush (-2), 2) := by decide +kernel
theorem dX4_site_20 : decode cX4_site 20 = .ok (.ireturn, 1) := by decide +kernel
theorem dX4_site_21 : decode cX4_site 21 = .ok (.aload_n 0, 1) := by decide +kernel
theorem dX4_site_22 : decode cX4_site 22 = .ok (.getfield 18, 3) := by decide +kernel
theorem dX4_site_25 : decode cX4_site 25 = .ok (.aload_n 0, 1) := by decide +kernel
theorem dX4_site_26 : decode cX4_site 26 = .ok (.getfield 12, 3) := by decide +kernel
theorem dX4_site_29 : decode cX4_site 29 = .ok (.invokevirtual 156, 3) := by decide +kernel
theorem dX4_site_32 : decode cX4_site 32 = .ok (.iconst 0, 1) := by decide +kernel
theorem dX4_site_33 : decode cX4_site 33 = .ok (.istore_n 2, 1) := by decide +kernel
theorem dX4_site_34 : decode cX4_site 34 = .ok (.iconst (-1), 1) := by decide +kernel
theorem dX4_site_35 : decode cX4_site 35 = .ok (.istore_n 3, 1) := by decide +kernel
theorem dX4_site_36 : decode cX4_site 36 = .ok (.iconst 0, 1) := by decide +kernel
theorem dX4_site_37 : decode cX4_site 37 = .ok (.istore 4, 2) := by decide +kernel
theorem dX4_site_39 : decode cX4_site 39 = .ok (.iload 4, 2) := by decide +kernel
theorem dX4_site_41 : decode cX4_site 41 = .ok (.bipush 10, 2) := by decide +kernel
theorem dX4_site_43 : decode cX4_site 43 = .ok (.if_icmp .ge 42, 3) := by decide +kernel
theorem dX4_site_46 : decode cX4_site 46 = .ok (.aload_n 0, 1) := by decide +kernel
theorem dX4_site_47 : decode cX4_site 47 = .ok (.getfield 18, 3) := by decide +kernel
theorem dX4_site_50 : decode cX4_site 50 = .ok (.iload 4, 2) := by decide +kernel
theorem dX4_site_52 : decode cX4_site 52 = .ok (.putfield 123, 3) := by decide +kernel
theorem dX4_site_55 : decode cX4_site 55 = .ok (.aload_n 0, 1) := by decide +kernel
theorem dX4_site_56 : decode cX4_site 56 = .ok (.getfield 18, 3) := by decide +kernel
theorem dX4_site_59 : decode cX4_site 59 = .ok (.invokevirtual 136, 3) := by decide +kernel
theorem dX4_site_62 : decode cX4_site 62 = .ok (.invokestatic 160, 3) := by decide +kernel
theorem dX4_site_65 : decode cX4_site 65 = .ok (.istore 5, 2) := by decide +kernel
theorem dX4_site_67 : decode cX4_site 67 = .ok (.iload 5, 2) := by decide +kernel
theorem dX4_site_69 : decode cX4_site 69 = .ok (.iload_n 3, 1) := by decide +kernel
theorem dX4_site_70 : decode cX4_site 70 = .ok (.if_icmp .le 9, 3) := by decide +kernel
theorem dX4_site_73 : decode cX4_site 73 = .ok (.iload 5, 2) := by decide +kernel
theorem dX4_site_75 : decode cX4_site 75 = .ok (.istore_n 3, 1) := by decide +kernel
theorem dX4_site_76 : decode cX4_site 76 = .ok (.iload 4, 2) := by decide +kernel
theorem dX4_site_78 : decode cX4_site 78 = .ok (.istore_n 2, 1) := by decide +kernel
theorem dX4_site_79 : decode cX4_site 79 = .ok (.iinc 4 1, 3) := by decide +kernel
theorem dX4_site_82 : decode cX4_site 82 = .ok (.goto (-43), 3) := by decide +kernel
theorem dX4_site_85 : decode cX4_site 85 = .ok (.iload_n 1, 1) := by decide +kernel
theorem dX4_site_86 : decode cX4_site 86 = .ok (.ifCond .ne 7, 3) := by decide +kernel
theorem dX4_site_89 : decode cX4_site 89 = .ok (.iload_n 2, 1) := by decide +kernel
theorem dX4_site_90 : decode cX4_site 90 = .ok (.goto 4, 3) := by decide +kernel
theorem dX4_site_93 : decode cX4_site 93 = .ok (.iload_n 3, 1) := by decide +kernel
theorem dX4_site_94 : decode cX4_site 94 = .ok (.ireturn, 1) := by decide +kernel
theorem dX4_order_0 : decode cX4_order 0 = .ok (.aload_n 0, 1) := by decide +kernel
theorem dX4_order_1 : decode cX4_order 1 = .ok (.invokevirtual 119, 3) := by decide +kernel
theorem dX4_order_4 : decode cX4_order 4 = .ok (.ifCond .eq 6, 3) := by decide +kernel
theorem dX4_order_7 : decode cX4_order 7 = .ok (.bipush (-3), 2) := by decide +kernel
theorem dX4_order_9 : decode cX4_order 9 = .ok (.ireturn, 1) := by decide +kernel
theorem dX4_order_10 : decode cX4_order 10 = .ok (.iload_n 1, 1) := by decide +kernel
theorem dX4_order_11 : decode cX4_order 11 = .ok (.iconst (-1), 1) := by decide +kernel
theorem dX4_order_12 : decode cX4_order 12 = .ok (.if_icmp .lt 9, 3) := by decide +kernel
theorem dX4_order_15 : decode cX4_order 15 = .ok (.iload_n 1, 1) := by decide +kernel
theorem dX4_order_16 : decode cX4_order 16 = .ok (.bipush 6, 2) := by decide +kernel
theorem dX4_order_18 : decode cX4_order 18 = .ok (.if_icmp .lt 6, 3) := by decide +kernel
theorem dX4_order_21 : decode cX4_order 21 = .ok (.bipush (-2), 2) := by decide +kernel
theorem dX4_order_23 : decode cX4_order 23 = .ok (.ireturn, 1) := by decide +kernel
theorem dX4_order_24 : decode cX4_order 24 = .ok (.iload_n 1, 1) := by decide +kernel
theorem dX4_order_25 : decode cX4_order 25 = .ok (.aload_n 0, 1) := by decide +kernel
theorem dX4_order_26 : decode cX4_order 26 = .ok (.getfield 12, 3) := by decide +kernel
theorem dX4_order_29 : decode cX4_order 29 = .ok (.getfield 92, 3) := by decide +kernel
theorem dX4_order_32 : decode cX4_order 32 = .ok (.if_icmp .lt 6, 3) := by decide +kernel
theorem dX4_order_35 : decode cX4_order 35 = .ok (.bipush (-9), 2) := by decide +kernel
theorem dX4_order_37 : decode cX4_order 37 = .ok (.ireturn, 1) := by decide +kernel
theorem dX4_order_38 : decode cX4_order 38 = .ok (.aload_n 0, 1) := by decide +kernel
theorem dX4_order_39 : decode cX4_order 39 = .ok (.invokevirtual 165, 3) := by decide +kernel
theorem dX4_order_42 : decode cX4_order 42 = .ok (.istore_n 2, 1) := by decide +kernel
theorem dX4_order_43 : decode cX4_order 43 = .ok (.iload_n 1, 1) := by decide +kernel
theorem dX4_order_44 : decode cX4_order 44 = .ok (.ifCond .ge 7, 3) := by decide +kernel
theorem dX4_order_47 : decode cX4_order 47 = .ok (.iload_n 2, 1) := by decide +kernel
theorem dX4_order_48 : decode cX4_order 48 = .ok (.goto 9, 3) := by decide +kernel
theorem dX4_order_51 : decode cX4_order 51 = .ok (.aload_n 0, 1) := by decide +kernel
theorem dX4_order_52 : decode cX4_order 52 = .ok (.getfield 48, 3) := by decide +kernel
theorem dX4_order_55 : decode cX4_order 55 = .ok (.iload_n 1, 1) := by decide +kernel
theorem dX4_order_56 : decode cX4_order 56 = .ok (.iaload, 1) := by decide +kernel
theorem dX4_order_57 : decode cX4_order 57 = .ok (.ireturn, 1) := by decide +kernel
theorem dX4_ahead_0 : decode cX4_ahead 0 = .ok (.aload_n 0, 1) := by decide +kernel
theorem dX4_ahead_1 : decode cX4_ahead 1 = .ok (.iload_n 1, 1) := by decide +kernel
theorem dX4_ahead_2 : decode cX4_ahead 2 = .ok (.invokevirtual 95, 3) := by decide +kernel
theorem dX4_ahead_5 : decode cX4_ahead 5 = .ok (.ifCond .ne 5, 3) := by decide +kernel
theorem dX4_ahead_8 : decode cX4_ahead 8 = .ok (.iconst (-1), 1) := by decide +kernel
theorem dX4_ahead_9 : decode cX4_ahead 9 = .ok (.ireturn, 1) := by decide +kernel
theorem dX4_ahead_10 : decode cX4_ahead 10 = .ok (.aload_n 0, 1) := by decide +kernel
theorem dX4_ahead_11 : decode cX4_ahead 11 = .ok (.getfield 12, 3) := by decide +kernel
theorem dX4_ahead_14 : decode cX4_ahead 14 = .ok (.iload_n 1, 1) := by decide +kernel
theorem dX4_ahead_15 : decode cX4_ahead 15 = .ok (.invokevirtual 116, 3) := by decide +kernel
theorem dX4_ahead_18 : decode cX4_ahead 18 = .ok (.iload_n 1, 1) := by decide +kernel
theorem dX4_ahead_19 : decode cX4_ahead 19 = .ok (.if_icmp .ne 5, 3) := by decide +kernel
theorem dX4_ahead_22 : decode cX4_ahead 22 = .ok (.iconst 0, 1) := by decide +kernel
theorem dX4_ahead_23 : decode cX4_ahead 23 = .ok (.ireturn, 1) := by decide +kernel
theorem dX4_ahead_24 : decode cX4_ahead 24 = .ok (.aload_n 0, 1) := by decide +kernel
theorem dX4_ahead_25 : decode cX4_ahead 25 = .ok (.getfield 12, 3) := by decide +kernel
theorem dX4_ahead_28 : decode cX4_ahead 28 = .ok (.invokevirtual 140, 3) := by decide +kernel
theorem dX4_ahead_31 : decode cX4_ahead 31 = .ok (.iload_n 1, 1) := by decide +kernel
theorem dX4_ahead_32 : decode cX4_ahead 32 = .ok (.invokestatic 168, 3) := by decide +kernel
theorem dX4_ahead_35 : decode cX4_ahead 35 = .ok (.ifCond .eq 7, 3) := by decide +kernel
theorem dX4_ahead_38 : decode cX4_ahead 38 = .ok (.iconst 1, 1) := by decide +kernel
theorem dX4_ahead_39 : decode cX4_ahead 39 = .ok (.goto 5, 3) := by decide +kernel
theorem dX4_ahead_42 : decode cX4_ahead 42 = .ok (.bipush (-9), 2) := by decide +kernel
theorem dX4_ahead_44 : decode cX4_ahead 44 = .ok (.ireturn, 1) := by decide +kernel
theorem dX4_reading_0 : decode cX4_reading 0 = .ok (.aload_n 0, 1) := by decide +kernel
theorem dX4_reading_1 : decode cX4_reading 1 = .ok (.iload_n 1, 1) := by decide +kernel
theorem dX4_reading_2 : decode cX4_reading 2 = .ok (.invokevirtual 95, 3) := by decide +kernel
theorem dX4_reading_5 : decode cX4_reading 5 = .ok (.ifCond .ne 5, 3) := by decide +kernel
theorem dX4_reading_8 : decode cX4_reading 8 = .ok (.iconst (-1), 1) := by decide +kernel
theorem dX4_reading_9 : decode cX4_reading 9 = .ok (.ireturn, 1) := by decide +kernel
theorem dX4_reading_10 : decode cX4_reading 10 = .ok (.aload_n 0, 1) := by decide +kernel
theorem dX4_reading_11 : decode cX4_reading 11 = .ok (.iload_n 2, 1) := by decide +kernel
theorem dX4_reading_12 : decode cX4_reading 12 = .ok (.invokevirtual 95, 3) := by decide +kernel
theorem dX4_reading_15 : decode cX4_reading 15 = .ok (.ifCond .ne 11, 3) := by decide +kernel
theorem dX4_reading_18 : decode cX4_reading 18 = .ok (.iload_n 2, 1) := by decide +kernel
theorem dX4_reading_19 : decode cX4_reading 19 = .ok (.bipush (-9), 2) := by decide +kernel
theorem dX4_reading_21 : decode cX4_reading 21 = .ok (.if_icmp .eq 5, 3) := by decide +kernel
theorem dX4_reading_24 : decode cX4_reading 24 = .ok (.iconst (-1), 1) := by decide +kernel
theorem dX4_reading_25 : decode cX4_reading 25 = .ok (.ireturn, 1) := by decide +kernel
theorem dX4_reading_26 : decode cX4_reading 26 = .ok (.aload_n 0, 1) := by decide +kernel
theorem dX4_reading_27 : decode cX4_reading 27 = .ok (.getfield 86, 3) := by decide +kernel
theorem dX4_reading_30 : decode cX4_reading 30 = .ok (.bipush 8, 2) := by decide +kernel
theorem dX4_reading_32 : decode cX4_reading 32 = .ok (.if_icmp .lt 6, 3) := by decide +kernel
theorem dX4_reading_35 : decode cX4_reading 35 = .ok (.bipush (-4), 2) := by decide +kernel
theorem dX4_reading_37 : decode cX4_reading 37 = .ok (.ireturn, 1) := by decide +kernel
theorem dX4_reading_38 : decode cX4_reading 38 = .ok (.aload_n 0, 1) := by decide +kernel
theorem dX4_reading_39 : decode cX4_reading 39 = .ok (.getfield 35, 3) := by decide +kernel
theorem dX4_reading_42 : decode cX4_reading 42 = .ok (.aload_n 0, 1) := by decide +kernel
theorem dX4_reading_43 : decode cX4_reading 43 = .ok (.getfield 86, 3) := by decide +kernel
theorem dX4_reading_46 : decode cX4_reading 46 = .ok (.iload_n 1, 1) := by decide +kernel
theorem dX4_reading_47 : decode cX4_reading 47 = .ok (.iastore, 1) := by decide +kernel
theorem dX4_reading_48 : decode cX4_reading 48 = .ok (.aload_n 0, 1) := by decide +kernel
theorem dX4_reading_49 : decode cX4_reading 49 = .ok (.getfield 39, 3) := by decide +kernel
theorem dX4_reading_52 : decode cX4_reading 52 = .ok (.aload_n 0, 1) := by decide +kernel
theorem dX4_reading_53 : decode cX4_reading 53 = .ok (.getfield 86, 3) := by decide +kernel
theorem dX4_reading_56 : decode cX4_reading 56 = .ok (.iload_n 2, 1) := by decide +kernel
theorem dX4_reading_57 : decode cX4_reading 57 = .ok (.iastore, 1) := by decide +kernel
theorem dX4_reading_58 : decode cX4_reading 58 = .ok (.aload_n 0, 1) := by decide +kernel
theorem dX4_reading_59 : decode cX4_reading 59 = .ok (.dup, 1) := by decide +kernel
theorem dX4_reading_60 : decode cX4_reading 60 = .ok (.getfield 86, 3) := by decide +kernel
theorem dX4_reading_63 : decode cX4_reading 63 = .ok (.iconst 1, 1) := by decide +kernel
theorem dX4_reading_64 : decode cX4_reading 64 = .ok (.iadd, 1) := by decide +kernel
theorem dX4_reading_65 : decode cX4_reading 65 = .ok (.putfield 86, 3) := by decide +kernel
theorem dX4_reading_68 : decode cX4_reading 68 = .ok (.aload_n 0, 1) := by decide +kernel
theorem dX4_reading_69 : decode cX4_reading 69 = .ok (.getfield 86, 3) := by decide +kernel
theorem dX4_reading_72 : decode cX4_reading 72 = .ok (.iconst 1, 1) := by decide +kernel
theorem dX4_reading_73 : decode cX4_reading 73 = .ok (.isub, 1) := by decide +kernel
theorem dX4_reading_74 : decode cX4_reading 74 = .ok (.ireturn, 1) := by decide +kernel
theorem dX4_back_0 : decode cX4_back 0 = .ok (.iload_n 1, 1) := by decide +kernel
theorem dX4_back_1 : decode cX4_back 1 = .ok (.ifCond .lt 11, 3) := by decide +kernel
theorem dX4_back_4 : decode cX4_back 4 = .ok (.iload_n 1, 1) := by decide +kernel
theorem dX4_back_5 : decode cX4_back 5 = .ok (.aload_n 0, 1) := by decide +kernel
theorem dX4_back_6 : decode cX4_back 6 = .ok (.getfield 86, 3) := by decide +kernel
theorem dX4_back_9 : decode cX4_back 9 = .ok (.if_icmp .le 6, 3) := by decide +kernel
theorem dX4_back_12 : decode cX4_back 12 = .ok (.bipush (-2), 2) := by decide +kernel
theorem dX4_back_14 : decode cX4_back 14 = .ok (.ireturn, 1) := by decide +kernel
theorem dX4_back_15 : decode cX4_back 15 = .ok (.aload_n 0, 1) := by decide +kernel
theorem dX4_back_16 : decode cX4_back 16 = .ok (.dup, 1) := by decide +kernel
theorem dX4_back_17 : decode cX4_back 17 = .ok (.getfield 86, 3) := by decide +kernel
theorem dX4_back_20 : decode cX4_back 20 = .ok (.iload_n 1, 1) := by decide +kernel
theorem dX4_back_21 : decode cX4_back 21 = .ok (.isub, 1) := by decide +kernel
theorem dX4_back_22 : decode cX4_back 22 = .ok (.putfield 86, 3) := by decide +kernel
theorem dX4_back_25 : decode cX4_back 25 = .ok (.aload_n 0, 1) := by decide +kernel
theorem dX4_back_26 : decode cX4_back 26 = .ok (.getfield 86, 3) := by decide +kernel
theorem dX4_back_29 : decode cX4_back 29 = .ok (.ireturn, 1) := by decide +kernel
theorem dX4_smells_0 : decode cX4_smells 0 = .ok (.aload_n 0, 1) := by decide +kernel
theorem dX4_smells_1 : decode cX4_smells 1 = .ok (.aload_n 0, 1) := by decide +kernel
theorem dX4_smells_2 : decode cX4_smells 2 = .ok (.getfield 18, 3) := by decide +kernel
theorem dX4_smells_5 : decode cX4_smells 5 = .ok (.getfield 101, 3) := by decide +kernel
theorem dX4_smells_8 : decode cX4_smells 8 = .ok (.iload_n 1, 1) := by decide +kernel
theorem dX4_smells_9 : decode cX4_smells 9 = .ok (.bipush 8, 2) := by decide +kernel
theorem dX4_smells_11 : decode cX4_smells 11 = .ok (.invokevirtual 171, 3) := by decide +kernel
theorem dX4_smells_14 : decode cX4_smells 14 = .ok (.ireturn, 1) := by decide +kernel
theorem dX4_pasts_0 : decode cX4_pasts 0 = .ok (.aload_n 0, 1) := by decide +kernel
theorem dX4_pasts_1 : decode cX4_pasts 1 = .ok (.aload_n 0, 1) := by decide +kernel
theorem dX4_pasts_2 : decode cX4_pasts 2 = .ok (.getfield 18, 3) := by decide +kernel
theorem dX4_pasts_5 : decode cX4_pasts 5 = .ok (.getfield 104, 3) := by decide +kernel
theorem dX4_pasts_8 : decode cX4_pasts 8 = .ok (.iload_n 1, 1) := by decide +kernel
theorem dX4_pasts_9 : decode cX4_pasts 9 = .ok (.bipush 8, 2) := by decide +kernel
theorem dX4_pasts_11 : decode cX4_pasts 11 = .ok (.invokevirtual 171, 3) := by decide +kernel
theorem dX4_pasts_14 : decode cX4_pasts 14 = .ok (.ireturn, 1) := by decide +kernel
theorem dX4_kinds_0 : decode cX4_kinds 0 = .ok (.aload_n 0, 1) := by decide +kernel
theorem dX4_kinds_1 : decode cX4_kinds 1 = .ok (.aload_n 0, 1) := by decide +kernel
theorem dX4_kinds_2 : decode cX4_kinds 2 = .ok (.getfield 18, 3) := by decide +kernel
theorem dX4_kinds_5 : decode cX4_kinds 5 = .ok (.getfield 98, 3) := by decide +kernel
theorem dX4_kinds_8 : decode cX4_kinds 8 = .ok (.iload_n 1, 1) := by decide +kernel
theorem dX4_kinds_9 : decode cX4_kinds 9 = .ok (.iconst 3, 1) := by decide +kernel
theorem dX4_kinds_10 : decode cX4_kinds 10 = .ok (.invokevirtual 171, 3) := by decide +kernel
theorem dX4_kinds_13 : decode cX4_kinds 13 = .ok (.ireturn, 1) := by decide +kernel
theorem dX4_odds_0 : decode cX4_odds 0 = .ok (.aload_n 0, 1) := by decide +kernel
theorem dX4_odds_1 : decode cX4_odds 1 = .ok (.iload_n 1, 1) := by decide +kernel
theorem dX4_odds_2 : decode cX4_odds 2 = .ok (.invokevirtual 95, 3) := by decide +kernel
theorem dX4_odds_5 : decode cX4_odds 5 = .ok (.ifCond .eq 11, 3) := by decide +kernel
theorem dX4_odds_8 : decode cX4_odds 8 = .ok (.iload_n 2, 1) := by decide +kernel
theorem dX4_odds_9 : decode cX4_odds 9 = .ok (.iconst 2, 1) := by decide +kernel
theorem dX4_odds_10 : decode cX4_odds 10 = .ok (.invokestatic 59, 3) := by decide +kernel
theorem dX4_odds_13 : decode cX4_odds 13 = .ok (.ifCond .ne 7, 3) := by decide +kernel
theorem dX4_odds_16 : decode cX4_odds 16 = .ok (.ldc2_w 174, 3) := by decide +kernel
theorem dX4_odds_19 : decode cX4_odds 19 = .ok (.lreturn, 1) := by decide +kernel
theorem dX4_odds_20 : decode cX4_odds 20 = .ok (.aload_n 0, 1) := by decide +kernel
theorem dX4_odds_21 : decode cX4_odds 21 = .ok (.iload_n 1, 1) := by decide +kernel
theorem dX4_odds_22 : decode cX4_odds 22 = .ok (.invokevirtual 176, 3) := by decide +kernel
theorem dX4_odds_25 : decode cX4_odds 25 = .ok (.istore_n 3, 1) := by decide +kernel
theorem dX4_odds_26 : decode cX4_odds 26 = .ok (.bipush 8, 2) := by decide +kernel
theorem dX4_odds_28 : decode cX4_odds 28 = .ok (.istore 4, 2) := by decide +kernel
theorem dX4_odds_30 : decode cX4_odds 30 = .ok (.iload 4, 2) := by decide +kernel
theorem dX4_odds_32 : decode cX4_odds 32 = .ok (.iconst 1, 1) := by decide +kernel
theorem dX4_odds_33 : decode cX4_odds 33 = .ok (.if_icmp .le 22, 3) := by decide +kernel
theorem dX4_odds_36 : decode cX4_odds 36 = .ok (.iload_n 3, 1) := by decide +kernel
theorem dX4_odds_37 : decode cX4_odds 37 = .ok (.iconst 2, 1) := by decide +kernel
theorem dX4_odds_38 : decode cX4_odds 38 = .ok (.irem, 1) := by decide +kernel
theorem dX4_odds_39 : decode cX4_odds 39 = .ok (.ifCond .ne 16, 3) := by decide +kernel
theorem dX4_odds_42 : decode cX4_odds 42 = .ok (.iload_n 3, 1) := by decide +kernel
theorem dX4_odds_43 : decode cX4_odds 43 = .ok (.iconst 2, 1) := by decide +kernel
theorem dX4_odds_44 : decode cX4_odds 44 = .ok (.idiv, 1) := by decide +kernel
theorem dX4_odds_45 : decode cX4_odds 45 = .ok (.istore_n 3, 1) := by decide +kernel
theorem dX4_odds_46 : decode cX4_odds 46 = .ok (.iload 4, 2) := by decide +kernel
theorem dX4_odds_48 : decode cX4_odds 48 = .ok (.iconst 2, 1) := by decide +kernel
theorem dX4_odds_49 : decode cX4_odds 49 = .ok (.idiv, 1) := by decide +kernel
theorem dX4_odds_50 : decode cX4_odds 50 = .ok (.istore 4, 2) := by decide +kernel
theorem dX4_odds_52 : decode cX4_odds 52 = .ok (.goto (-22), 3) := by decide +kernel
theorem dX4_odds_55 : decode cX4_odds 55 = .ok (.iload_n 2, 1) := by decide +kernel
theorem dX4_odds_56 : decode cX4_odds 56 = .ok (.ifCond .ne 8, 3) := by decide +kernel
theorem dX4_odds_59 : decode cX4_odds 59 = .ok (.iload_n 3, 1) := by decide +kernel
theorem dX4_odds_60 : decode cX4_odds 60 = .ok (.i2l, 1) := by decide +kernel
theorem dX4_odds_61 : decode cX4_odds 61 = .ok (.goto 6, 3) := by decide +kernel
theorem dX4_odds_64 : decode cX4_odds 64 = .ok (.iload 4, 2) := by decide +kernel
theorem dX4_odds_66 : decode cX4_odds 66 = .ok (.i2l, 1) := by decide +kernel
theorem dX4_odds_67 : decode cX4_odds 67 = .ok (.lreturn, 1) := by decide +kernel
theorem dX4_sheet_0 : decode cX4_sheet 0 = .ok (.aload_n 0, 1) := by decide +kernel
theorem dX4_sheet_1 : decode cX4_sheet 1 = .ok (.iconst 0, 1) := by decide +kernel
theorem dX4_sheet_2 : decode cX4_sheet 2 = .ok (.putfield 51, 3) := by decide +kernel
theorem dX4_sheet_5 : decode cX4_sheet 5 = .ok (.iload_n 1, 1) := by decide +kernel
theorem dX4_sheet_6 : decode cX4_sheet 6 = .ok (.invokestatic 55, 3) := by decide +kernel
theorem dX4_sheet_9 : decode cX4_sheet 9 = .ok (.ifCond .ne 5, 3) := by decide +kernel
theorem dX4_sheet_12 : decode cX4_sheet 12 = .ok (.iconst (-1), 1) := by decide +kernel
theorem dX4_sheet_13 : decode cX4_sheet 13 = .ok (.ireturn, 1) := by decide +kernel
theorem dX4_sheet_14 : decode cX4_sheet 14 = .ok (.iload_n 2, 1) := by decide +kernel
theorem dX4_sheet_15 : decode cX4_sheet 15 = .ok (.iconst 3, 1) := by decide +kernel
theorem dX4_sheet_16 : decode cX4_sheet 16 = .ok (.invokestatic 59, 3) := by decide +kernel
theorem dX4_sheet_19 : decode cX4_sheet 19 = .ok (.ifCond .eq 9, 3) := by decide +kernel
theorem dX4_sheet_22 : decode cX4_sheet 22 = .ok (.iload_n 3, 1) := by decide +kernel
theorem dX4_sheet_23 : decode cX4_sheet 23 = .ok (.bipush 60, 2) := by decide +kernel
theorem dX4_sheet_25 : decode cX4_sheet 25 = .ok (.if_icmp .le 6, 3) := by decide +kernel
theorem dX4_sheet_28 : decode cX4_sheet 28 = .ok (.bipush (-2), 2) := by decide +kernel
theorem dX4_sheet_30 : decode cX4_sheet 30 = .ok (.ireturn, 1) := by decide +kernel
theorem dX4_sheet_31 : decode cX4_sheet 31 = .ok (.iload_n 3, 1) := by decide +kernel
theorem dX4_sheet_32 : decode cX4_sheet 32 = .ok (.ifCond .ge 9, 3) := by decide +kernel
theorem dX4_sheet_35 : decode cX4_sheet 35 = .ok (.aload_n 0, 1) := by decide +kernel
theorem dX4_sheet_36 : decode cX4_sheet 36 = .ok (.iconst 4, 1) := by decide +kernel
theorem dX4_sheet_37 : decode cX4_sheet 37 = .ok (.invokevirtual 70, 3) := by decide +kernel
theorem dX4_sheet_40 : decode cX4_sheet 40 = .ok (.ireturn, 1) := by decide +kernel
theorem dX4_sheet_41 : decode cX4_sheet 41 = .ok (.aload_n 0, 1) := by decide +kernel
theorem dX4_sheet_42 : decode cX4_sheet 42 = .ok (.getfield 23, 3) := by decide +kernel
theorem dX4_sheet_45 : decode cX4_sheet 45 = .ok (.iload_n 1, 1) := by decide +kernel
theorem dX4_sheet_46 : decode cX4_sheet 46 = .ok (.aaload, 1) := by decide +kernel
theorem dX4_sheet_47 : decode cX4_sheet 47 = .ok (.iload_n 2, 1) := by decide +kernel
theorem dX4_sheet_48 : decode cX4_sheet 48 = .ok (.iload_n 3, 1) := by decide +kernel
theorem dX4_sheet_49 : decode cX4_sheet 49 = .ok (.invokevirtual 179, 3) := by decide +kernel
theorem dX4_sheet_52 : decode cX4_sheet 52 = .ok (.iconst 1, 1) := by decide +kernel
theorem dX4_sheet_53 : decode cX4_sheet 53 = .ok (.ireturn, 1) := by decide +kernel
theorem dX4_lose_0 : decode cX4_lose 0 = .ok (.iload_n 1, 1) := by decide +kernel
theorem dX4_lose_1 : decode cX4_lose 1 = .ok (.invokestatic 55, 3) := by decide +kernel
theorem dX4_lose_4 : decode cX4_lose 4 = .ok (.ifCond .ne 5, 3) := by decide +kernel
theorem dX4_lose_7 : decode cX4_lose 7 = .ok (.iconst (-1), 1) := by decide +kernel
theorem dX4_lose_8 : decode cX4_lose 8 = .ok (.ireturn, 1) := by decide +kernel
theorem dX4_lose_9 : decode cX4_lose 9 = .ok (.aload_n 0, 1) := by decide +kernel
theorem dX4_lose_10 : decode cX4_lose 10 = .ok (.getfield 23, 3) := by decide +kernel
theorem dX4_lose_13 : decode cX4_lose 13 = .ok (.iload_n 1, 1) := by decide +kernel
theorem dX4_lose_14 : decode cX4_lose 14 = .ok (.aaload, 1) := by decide +kernel
theorem dX4_lose_15 : decode cX4_lose 15 = .ok (.getfield 183, 3) := by decide +kernel
theorem dX4_lose_18 : decode cX4_lose 18 = .ok (.istore_n 2, 1) := by decide +kernel
theorem dX4_lose_19 : decode cX4_lose 19 = .ok (.aload_n 0, 1) := by decide +kernel
theorem dX4_lose_20 : decode cX4_lose 20 = .ok (.getfield 23, 3) := by decide +kernel
theorem dX4_lose_23 : decode cX4_lose 23 = .ok (.iload_n 1, 1) := by decide +kernel
theorem dX4_lose_24 : decode cX4_lose 24 = .ok (.aaload, 1) := by decide +kernel
theorem dX4_lose_25 : decode cX4_lose 25 = .ok (.iconst 0, 1) := by decide +kernel
theorem dX4_lose_26 : decode cX4_lose 26 = .ok (.putfield 183, 3) := by decide +kernel
theorem dX4_lose_29 : decode cX4_lose 29 = .ok (.iload_n 2, 1) := by decide +kernel
theorem dX4_lose_30 : decode cX4_lose 30 = .ok (.ifCond .eq 7, 3) := by decide +kernel
theorem dX4_lose_33 : decode cX4_lose 33 = .ok (.iconst 1, 1) := by decide +kernel
theorem dX4_lose_34 : decode cX4_lose 34 = .ok (.goto 4, 3) := by decide +kernel
theorem dX4_lose_37 : decode cX4_lose 37 = .ok (.iconst 0, 1) := by decide +kernel
theorem dX4_lose_38 : decode cX4_lose 38 = .ok (.ireturn, 1) := by decide +kernel
theorem dX4_put_0 : decode cX4_put 0 = .ok (.aload_n 0, 1) := by decide +kernel
theorem dX4_put_1 : decode cX4_put 1 = .ok (.iconst 0, 1) := by decide +kernel
theorem dX4_put_2 : decode cX4_put 2 = .ok (.putfield 51, 3) := by decide +kernel
theorem dX4_put_5 : decode cX4_put 5 = .ok (.iload_n 1, 1) := by decide +kernel
theorem dX4_put_6 : decode cX4_put 6 = .ok (.invokestatic 55, 3) := by decide +kernel
theorem dX4_put_9 : decode cX4_put 9 = .ok (.ifCond .ne 5, 3) := by decide +kernel
theorem dX4_put_12 : decode cX4_put 12 = .ok (.iconst (-1), 1) := by decide +kernel
theorem dX4_put_13 : decode cX4_put 13 = .ok (.ireturn, 1) := by decide +kernel
theorem dX4_put_14 : decode cX4_put 14 = .ok (.aload_n 0, 1) := by decide +kernel
theorem dX4_put_15 : decode cX4_put 15 = .ok (.getfield 23, 3) := by decide +kernel
theorem dX4_put_18 : decode cX4_put 18 = .ok (.iload_n 1, 1) := by decide +kernel
theorem dX4_put_19 : decode cX4_put 19 = .ok (.aaload, 1) := by decide +kernel
theorem dX4_put_20 : decode cX4_put 20 = .ok (.astore 4, 2) := by decide +kernel
theorem dX4_put_22 : decode cX4_put 22 = .ok (.aload 4, 2) := by decide +kernel
theorem dX4_put_24 : decode cX4_put 24 = .ok (.getfield 183, 3) := by decide +kernel
theorem dX4_put_27 : decode cX4_put 27 = .ok (.ifCond .ne 9, 3) := by decide +kernel
theorem dX4_put_30 : decode cX4_put 30 = .ok (.aload_n 0, 1) := by decide +kernel
theorem dX4_put_31 : decode cX4_put 31 = .ok (.iconst 1, 1) := by decide +kernel
theorem dX4_put_32 : decode cX4_put 32 = .ok (.invokevirtual 70, 3) := by decide +kernel
theorem dX4_put_35 : decode cX4_put 35 = .ok (.ireturn, 1) := by decide +kernel
theorem dX4_put_36 : decode cX4_put 36 = .ok (.aload 4, 2) := by decide +kernel
theorem dX4_put_38 : decode cX4_put 38 = .ok (.iload_n 2, 1) := by decide +kernel
theorem dX4_put_39 : decode cX4_put 39 = .ok (.invokevirtual 187, 3) := by decide +kernel
theorem dX4_put_42 : decode cX4_put 42 = .ok (.ifCond .ne 9, 3) := by decide +kernel
theorem dX4_put_45 : decode cX4_put 45 = .ok (.aload_n 0, 1) := by decide +kernel
theorem dX4_put_46 : decode cX4_put 46 = .ok (.iconst 3, 1) := by decide +kernel
theorem dX4_put_47 : decode cX4_put 47 = .ok (.invokevirtual 70, 3) := by decide +kernel
theorem dX4_put_50 : decode cX4_put 50 = .ok (.ireturn, 1) := by decide +kernel
theorem dX4_put_51 : decode cX4_put 51 = .ok (.aload 4, 2) := by decide +kernel
theorem dX4_put_53 : decode cX4_put 53 = .ok (.iload_n 2, 1) := by decide +kernel
theorem dX4_put_54 : decode cX4_put 54 = .ok (.iload_n 3, 1) := by decide +kernel
theorem dX4_put_55 : decode cX4_put 55 = .ok (.invokevirtual 190, 3) := by decide +kernel
theorem dX4_put_58 : decode cX4_put 58 = .ok (.iconst 1, 1) := by decide +kernel
theorem dX4_put_59 : decode cX4_put 59 = .ok (.ireturn, 1) := by decide +kernel
theorem dX4_cell_0 : decode cX4_cell 0 = .ok (.aload_n 0, 1) := by decide +kernel
theorem dX4_cell_1 : decode cX4_cell 1 = .ok (.iconst 0, 1) := by decide +kernel
theorem dX4_cell_2 : decode cX4_cell 2 = .ok (.putfield 51, 3) := by decide +kernel
theorem dX4_cell_5 : decode cX4_cell 5 = .ok (.iload_n 1, 1) := by decide +kernel
theorem dX4_cell_6 : decode cX4_cell 6 = .ok (.invokestatic 55, 3) := by decide +kernel
theorem dX4_cell_9 : decode cX4_cell 9 = .ok (.ifCond .eq 11, 3) := by decide +kernel
theorem dX4_cell_12 : decode cX4_cell 12 = .ok (.iload_n 3, 1) := by decide +kernel
theorem dX4_cell_13 : decode cX4_cell 13 = .ok (.iconst 3, 1) := by decide +kernel
theorem dX4_cell_14 : decode cX4_cell 14 = .ok (.invokestatic 59, 3) := by decide +kernel
theorem dX4_cell_17 : decode cX4_cell 17 = .ok (.ifCond .ne 7, 3) := by decide +kernel
theorem dX4_cell_20 : decode cX4_cell 20 = .ok (.ldc2_w 174, 3) := by decide +kernel
theorem dX4_cell_23 : decode cX4_cell 23 = .ok (.lreturn, 1) := by decide +kernel
theorem dX4_cell_24 : decode cX4_cell 24 = .ok (.aload_n 0, 1) := by decide +kernel
theorem dX4_cell_25 : decode cX4_cell 25 = .ok (.getfield 23, 3) := by decide +kernel
theorem dX4_cell_28 : decode cX4_cell 28 = .ok (.iload_n 1, 1) := by decide +kernel
theorem dX4_cell_29 : decode cX4_cell 29 = .ok (.aaload, 1) := by decide +kernel
theorem dX4_cell_30 : decode cX4_cell 30 = .ok (.astore 4, 2) := by decide +kernel
theorem dX4_cell_32 : decode cX4_cell 32 = .ok (.aload_n 0, 1) := by decide +kernel
theorem dX4_cell_33 : decode cX4_cell 33 = .ok (.aload 4, 2) := by decide +kernel
theorem dX4_cell_35 : decode cX4_cell 35 = .ok (.iload_n 3, 1) := by decide +kernel
theorem dX4_cell_36 : decode cX4_cell 36 = .ok (.invokevirtual 63, 3) := by decide +kernel
theorem dX4_cell_39 : decode cX4_cell 39 = .ok (.putfield 51, 3) := by decide +kernel
theorem dX4_cell_42 : decode cX4_cell 42 = .ok (.aload_n 0, 1) := by decide +kernel
theorem dX4_cell_43 : decode cX4_cell 43 = .ok (.getfield 51, 3) := by decide +kernel
theorem dX4_cell_46 : decode cX4_cell 46 = .ok (.ifCond .ne 17, 3) := by decide +kernel
theorem dX4_cell_49 : decode cX4_cell 49 = .ok (.aload 4, 2) := by decide +kernel
theorem dX4_cell_51 : decode cX4_cell 51 = .ok (.iload_n 2, 1) := by decide +kernel
theorem dX4_cell_52 : decode cX4_cell 52 = .ok (.invokevirtual 187, 3) := by decide +kernel
theorem dX4_cell_55 : decode cX4_cell 55 = .ok (.ifCond .ne 8, 3) := by decide +kernel
theorem dX4_cell_58 : decode cX4_cell 58 = .ok (.aload_n 0, 1) := by decide +kernel
theorem dX4_cell_59 : decode cX4_cell 59 = .ok (.iconst 3, 1) := by decide +kernel
theorem dX4_cell_60 : decode cX4_cell 60 = .ok (.putfield 51, 3) := by decide +kernel
theorem dX4_cell_63 : decode cX4_cell 63 = .ok (.aload_n 0, 1) := by decide +kernel
theorem dX4_cell_64 : decode cX4_cell 64 = .ok (.getfield 51, 3) := by decide +kernel
theorem dX4_cell_67 : decode cX4_cell 67 = .ok (.ifCond .ne 14, 3) := by decide +kernel
theorem dX4_cell_70 : decode cX4_cell 70 = .ok (.aload 4, 2) := by decide +kernel
theorem dX4_cell_72 : decode cX4_cell 72 = .ok (.getfield 73, 3) := by decide +kernel
theorem dX4_cell_75 : decode cX4_cell 75 = .ok (.iload_n 2, 1) := by decide +kernel
theorem dX4_cell_76 : decode cX4_cell 76 = .ok (.iaload, 1) := by decide +kernel
theorem dX4_cell_77 : decode cX4_cell 77 = .ok (.i2l, 1) := by decide +kernel
theorem dX4_cell_78 : decode cX4_cell 78 = .ok (.goto 6, 3) := by decide +kernel
theorem dX4_cell_81 : decode cX4_cell 81 = .ok (.ldc2_w 174, 3) := by decide +kernel
theorem dX4_cell_84 : decode cX4_cell 84 = .ok (.lreturn, 1) := by decide +kernel
theorem dX4_copy_0 : decode cX4_copy 0 = .ok (.aload_n 0, 1) := by decide +kernel
theorem dX4_copy_1 : decode cX4_copy 1 = .ok (.iconst 0, 1) := by decide +kernel
theorem dX4_copy_2 : decode cX4_copy 2 = .ok (.putfield 51, 3) := by decide +kernel
theorem dX4_copy_5 : decode cX4_copy 5 = .ok (.iload_n 1, 1) := by decide +kernel
theorem dX4_copy_6 : decode cX4_copy 6 = .ok (.invokestatic 55, 3) := by decide +kernel
theorem dX4_copy_9 : decode cX4_copy 9 = .ok (.ifCond .eq 10, 3) := by decide +kernel
theorem dX4_copy_12 : decode cX4_copy 12 = .ok (.iload_n 3, 1) := by decide +kernel
theorem dX4_copy_13 : decode cX4_copy 13 = .ok (.invokestatic 55, 3) := by decide +kernel
theorem dX4_copy_16 : decode cX4_copy 16 = .ok (.ifCond .ne 5, 3) := by decide +kernel
theorem dX4_copy_19 : decode cX4_copy 19 = .ok (.iconst (-1), 1) := by decide +kernel
theorem dX4_copy_20 : decode cX4_copy 20 = .ok (.ireturn, 1) := by decide +kernel
theorem dX4_copy_21 : decode cX4_copy 21 = .ok (.aload_n 0, 1) := by decide +kernel
theorem dX4_copy_22 : decode cX4_copy 22 = .ok (.getfield 23, 3) := by decide +kernel
theorem dX4_copy_25 : decode cX4_copy 25 = .ok (.iload_n 1, 1) := by decide +kernel
theorem dX4_copy_26 : decode cX4_copy 26 = .ok (.aaload, 1) := by decide +kernel
theorem dX4_copy_27 : decode cX4_copy 27 = .ok (.astore 6, 2) := by decide +kernel
theorem dX4_copy_29 : decode cX4_copy 29 = .ok (.aload_n 0, 1) := by decide +kernel
theorem dX4_copy_30 : decode cX4_copy 30 = .ok (.getfield 23, 3) := by decide +kernel
theorem dX4_copy_33 : decode cX4_copy 33 = .ok (.iload_n 3, 1) := by decide +kernel
theorem dX4_copy_34 : decode cX4_copy 34 = .ok (.aaload, 1) := by decide +kernel
theorem dX4_copy_35 : decode cX4_copy 35 = .ok (.astore 7, 2) := by decide +kernel
theorem dX4_copy_37 : decode cX4_copy 37 = .ok (.aload 6, 2) := by decide +kernel
theorem dX4_copy_39 : decode cX4_copy 39 = .ok (.getfield 183, 3) := by decide +kernel
theorem dX4_copy_42 : decode cX4_copy 42 = .ok (.ifCond .eq 11, 3) := by decide +kernel
theorem dX4_copy_45 : decode cX4_copy 45 = .ok (.aload 7, 2) := by decide +kernel
theorem dX4_copy_47 : decode cX4_copy 47 = .ok (.getfield 183, 3) := by decide +kernel
theorem dX4_copy_50 : decode cX4_copy 50 = .ok (.ifCond .ne 9, 3) := by decide +kernel
theorem dX4_copy_53 : decode cX4_copy 53 = .ok (.aload_n 0, 1) := by decide +kernel
theorem dX4_copy_54 : decode cX4_copy 54 = .ok (.iconst 1, 1) := by decide +kernel
theorem dX4_copy_55 : decode cX4_copy 55 = .ok (.invokevirtual 70, 3) := by decide +kernel
theorem dX4_copy_58 : decode cX4_copy 58 = .ok (.ireturn, 1) := by decide +kernel
theorem dX4_copy_59 : decode cX4_copy 59 = .ok (.aload 6, 2) := by decide +kernel
theorem dX4_copy_61 : decode cX4_copy 61 = .ok (.getfield 193, 3) := by decide +kernel
theorem dX4_copy_64 : decode cX4_copy 64 = .ok (.aload 7, 2) := by decide +kernel
theorem dX4_copy_66 : decode cX4_copy 66 = .ok (.getfield 193, 3) := by decide +kernel
theorem dX4_copy_69 : decode cX4_copy 69 = .ok (.if_icmp .eq 9, 3) := by decide +kernel
theorem dX4_copy_72 : decode cX4_copy 72 = .ok (.aload_n 0, 1) := by decide +kernel
theorem dX4_copy_73 : decode cX4_copy 73 = .ok (.iconst 2, 1) := by decide +kernel
theorem dX4_copy_74 : decode cX4_copy 74 = .ok (.invokevirtual 70, 3) := by decide +kernel
theorem dX4_copy_77 : decode cX4_copy 77 = .ok (.ireturn, 1) := by decide +kernel
theorem dX4_copy_78 : decode cX4_copy 78 = .ok (.aload 6, 2) := by decide +kernel
theorem dX4_copy_80 : decode cX4_copy 80 = .ok (.iload_n 2, 1) := by decide +kernel
theorem dX4_copy_81 : decode cX4_copy 81 = .ok (.iload 5, 2) := by decide +kernel
theorem dX4_copy_83 : decode cX4_copy 83 = .ok (.invokevirtual 67, 3) := by decide +kernel
theorem dX4_copy_86 : decode cX4_copy 86 = .ok (.ifCond .eq 15, 3) := by decide +kernel
theorem dX4_copy_89 : decode cX4_copy 89 = .ok (.aload 7, 2) := by decide +kernel
theorem dX4_copy_91 : decode cX4_copy 91 = .ok (.iload 4, 2) := by decide +kernel
theorem dX4_copy_93 : decode cX4_copy 93 = .ok (.iload 5, 2) := by decide +kernel
theorem dX4_copy_95 : decode cX4_copy 95 = .ok (.invokevirtual 67, 3) := by decide +kernel
theorem dX4_copy_98 : decode cX4_copy 98 = .ok (.ifCond .ne 9, 3) := by decide +kernel
theorem dX4_copy_101 : decode cX4_copy 101 = .ok (.aload_n 0, 1) := by decide +kernel
theorem dX4_copy_102 : decode cX4_copy 102 = .ok (.iconst 3, 1) := by decide +kernel
theorem dX4_copy_103 : decode cX4_copy 103 = .ok (.invokevirtual 70, 3) := by decide +kernel
theorem dX4_copy_106 : decode cX4_copy 106 = .ok (.ireturn, 1) := by decide +kernel
theorem dX4_copy_107 : decode cX4_copy 107 = .ok (.aload 6, 2) := by decide +kernel
theorem dX4_copy_109 : decode cX4_copy 109 = .ok (.getfield 73, 3) := by decide +kernel
theorem dX4_copy_112 : decode cX4_copy 112 = .ok (.iload_n 2, 1) := by decide +kernel
theorem dX4_copy_113 : decode cX4_copy 113 = .ok (.aload 7, 2) := by decide +kernel
theorem dX4_copy_115 : decode cX4_copy 115 = .ok (.getfield 73, 3) := by decide +kernel
theorem dX4_copy_118 : decode cX4_copy 118 = .ok (.iload 4, 2) := by decide +kernel
theorem dX4_copy_120 : decode cX4_copy 120 = .ok (.iload 5, 2) := by decide +kernel
theorem dX4_copy_122 : decode cX4_copy 122 = .ok (.invokestatic 196, 3) := by decide +kernel
theorem dX4_copy_125 : decode cX4_copy 125 = .ok (.iload 5, 2) := by decide +kernel
theorem dX4_copy_127 : decode cX4_copy 127 = .ok (.ireturn, 1) := by decide +kernel
theorem dX4_tell_0 : decode cX4_tell 0 = .ok (.aload_n 0, 1) := by decide +kernel
theorem dX4_tell_1 : decode cX4_tell 1 = .ok (.iload_n 1, 1) := by decide +kernel
theorem dX4_tell_2 : decode cX4_tell 2 = .ok (.invokevirtual 95, 3) := by decide +kernel
theorem dX4_tell_5 : decode cX4_tell 5 = .ok (.ifCond .ne 5, 3) := by decide +kernel
theorem dX4_tell_8 : decode cX4_tell 8 = .ok (.iconst (-1), 1) := by decide +kernel
theorem dX4_tell_9 : decode cX4_tell 9 = .ok (.ireturn, 1) := by decide +kernel
theorem dX4_tell_10 : decode cX4_tell 10 = .ok (.aload_n 0, 1) := by decide +kernel
theorem dX4_tell_11 : decode cX4_tell 11 = .ok (.getfield 12, 3) := by decide +kernel
theorem dX4_tell_14 : decode cX4_tell 14 = .ok (.getfield 98, 3) := by decide +kernel
theorem dX4_tell_17 : decode cX4_tell 17 = .ok (.iload_n 1, 1) := by decide +kernel
theorem dX4_tell_18 : decode cX4_tell 18 = .ok (.iaload, 1) := by decide +kernel
theorem dX4_tell_19 : decode cX4_tell 19 = .ok (.lookupswitch 37 #[(1, 31), (2, 25)], 25) := by decide +kernel
theorem dX4_tell_44 : decode cX4_tell 44 = .ok (.aload_n 0, 1) := by decide +kernel
theorem dX4_tell_45 : decode cX4_tell 45 = .ok (.iload_n 1, 1) := by decide +kernel
theorem dX4_tell_46 : decode cX4_tell 46 = .ok (.invokevirtual 202, 3) := by decide +kernel
theorem dX4_tell_49 : decode cX4_tell 49 = .ok (.ireturn, 1) := by decide +kernel
theorem dX4_tell_50 : decode cX4_tell 50 = .ok (.aload_n 0, 1) := by decide +kernel
theorem dX4_tell_51 : decode cX4_tell 51 = .ok (.iload_n 1, 1) := by decide +kernel
theorem dX4_tell_52 : decode cX4_tell 52 = .ok (.invokevirtual 205, 3) := by decide +kernel
theorem dX4_tell_55 : decode cX4_tell 55 = .ok (.ireturn, 1) := by decide +kernel
theorem dX4_tell_56 : decode cX4_tell 56 = .ok (.aload_n 0, 1) := by decide +kernel
theorem dX4_tell_57 : decode cX4_tell 57 = .ok (.iload_n 1, 1) := by decide +kernel
theorem dX4_tell_58 : decode cX4_tell 58 = .ok (.invokevirtual 208, 3) := by decide +kernel
theorem dX4_tell_61 : decode cX4_tell 61 = .ok (.ireturn, 1) := by decide +kernel
theorem dX4_whistle_0 : decode cX4_whistle 0 = .ok (.aload_n 0, 1) := by decide +kernel
theorem dX4_whistle_1 : decode cX4_whistle 1 = .ok (.iload_n 1, 1) := by decide +kernel
theorem dX4_whistle_2 : decode cX4_whistle 2 = .ok (.invokevirtual 95, 3) := by decide +kernel
theorem dX4_whistle_5 : decode cX4_whistle 5 = .ok (.ifCond .ne 5, 3) := by decide +kernel
theorem dX4_whistle_8 : decode cX4_whistle 8 = .ok (.iconst (-1), 1) := by decide +kernel
theorem dX4_whistle_9 : decode cX4_whistle 9 = .ok (.ireturn, 1) := by decide +kernel
theorem dX4_whistle_10 : decode cX4_whistle 10 = .ok (.aload_n 0, 1) := by decide +kernel
theorem dX4_whistle_11 : decode cX4_whistle 11 = .ok (.getfield 12, 3) := by decide +kernel
theorem dX4_whistle_14 : decode cX4_whistle 14 = .ok (.getfield 98, 3) := by decide +kernel
theorem dX4_whistle_17 : decode cX4_whistle 17 = .ok (.iload_n 1, 1) := by decide +kernel
theorem dX4_whistle_18 : decode cX4_whistle 18 = .ok (.iaload, 1) := by decide +kernel
theorem dX4_whistle_19 : decode cX4_whistle 19 = .ok (.iconst 2, 1) := by decide +kernel
theorem dX4_whistle_20 : decode cX4_whistle 20 = .ok (.if_icmp .ne 11, 3) := by decide +kernel
theorem dX4_whistle_23 : decode cX4_whistle 23 = .ok (.aload_n 0, 1) := by decide +kernel
theorem dX4_whistle_24 : decode cX4_whistle 24 = .ok (.iconst 5, 1) := by decide +kernel
theorem dX4_whistle_25 : decode cX4_whistle 25 = .ok (.invokevirtual 211, 3) := by decide +kernel
theorem dX4_whistle_28 : decode cX4_whistle 28 = .ok (.bipush 70, 2) := by decide +kernel
theorem dX4_whistle_30 : decode cX4_whistle 30 = .ok (.ireturn, 1) := by decide +kernel
theorem dX4_whistle_31 : decode cX4_whistle 31 = .ok (.aload_n 0, 1) := by decide +kernel
theorem dX4_whistle_32 : decode cX4_whistle 32 = .ok (.iconst 4, 1) := by decide +kernel
theorem dX4_whistle_33 : decode cX4_whistle 33 = .ok (.invokevirtual 211, 3) := by decide +kernel
theorem dX4_whistle_36 : decode cX4_whistle 36 = .ok (.iload_n 1, 1) := by decide +kernel
theorem dX4_whistle_37 : decode cX4_whistle 37 = .ok (.ireturn, 1) := by decide +kernel
theorem dX4_as_0 : decode cX4_as 0 = .ok (.aload_n 0, 1) := by decide +kernel
theorem dX4_as_1 : decode cX4_as 1 = .ok (.iconst 0, 1) := by decide +kernel
theorem dX4_as_2 : decode cX4_as 2 = .ok (.putfield 51, 3) := by decide +kernel
theorem dX4_as_5 : decode cX4_as 5 = .ok (.aload_n 0, 1) := by decide +kernel
theorem dX4_as_6 : decode cX4_as 6 = .ok (.iload_n 1, 1) := by decide +kernel
theorem dX4_as_7 : decode cX4_as 7 = .ok (.invokevirtual 95, 3) := by decide +kernel
theorem dX4_as_10 : decode cX4_as 10 = .ok (.ifCond .ne 5, 3) := by decide +kernel
theorem dX4_as_13 : decode cX4_as 13 = .ok (.iconst (-1), 1) := by decide +kernel
theorem dX4_as_14 : decode cX4_as 14 = .ok (.ireturn, 1) := by decide +kernel
theorem dX4_as_15 : decode cX4_as 15 = .ok (.iload_n 2, 1) := by decide +kernel
theorem dX4_as_16 : decode cX4_as 16 = .ok (.iconst 3, 1) := by decide +kernel
theorem dX4_as_17 : decode cX4_as 17 = .ok (.invokestatic 59, 3) := by decide +kernel
theorem dX4_as_20 : decode cX4_as 20 = .ok (.ifCond .ne 6, 3) := by decide +kernel
theorem dX4_as_23 : decode cX4_as 23 = .ok (.bipush (-2), 2) := by decide +kernel
theorem dX4_as_25 : decode cX4_as 25 = .ok (.ireturn, 1) := by decide +kernel
theorem dX4_as_26 : decode cX4_as 26 = .ok (.iload_n 2, 1) := by decide +kernel
theorem dX4_as_27 : decode cX4_as 27 = .ok (.aload_n 0, 1) := by decide +kernel
theorem dX4_as_28 : decode cX4_as 28 = .ok (.getfield 12, 3) := by decide +kernel
theorem dX4_as_31 : decode cX4_as 31 = .ok (.getfield 98, 3) := by decide +kernel
theorem dX4_as_34 : decode cX4_as 34 = .ok (.iload_n 1, 1) := by decide +kernel
theorem dX4_as_35 : decode cX4_as 35 = .ok (.iaload, 1) := by decide +kernel
theorem dX4_as_36 : decode cX4_as 36 = .ok (.if_icmp .gt 7, 3) := by decide +kernel
theorem dX4_as_39 : decode cX4_as 39 = .ok (.iconst 1, 1) := by decide +kernel
theorem dX4_as_40 : decode cX4_as 40 = .ok (.goto 8, 3) := by decide +kernel
theorem dX4_as_43 : decode cX4_as 43 = .ok (.aload_n 0, 1) := by decide +kernel
theorem dX4_as_44 : decode cX4_as 44 = .ok (.iconst 2, 1) := by decide +kernel
theorem dX4_as_45 : decode cX4_as 45 = .ok (.invokevirtual 70, 3) := by decide +kernel
theorem dX4_as_48 : decode cX4_as 48 = .ok (.ireturn, 1) := by decide +kernel
theorem dX4_trace_0 : decode cX4_trace 0 = .ok (.aload_n 0, 1) := by decide +kernel
theorem dX4_trace_1 : decode cX4_trace 1 = .ok (.getfield 215, 3) := by decide +kernel
theorem dX4_trace_4 : decode cX4_trace 4 = .ok (.ireturn, 1) := by decide +kernel
theorem dX4_fault_0 : decode cX4_fault 0 = .ok (.aload_n 0, 1) := by decide +kernel
theorem dX4_fault_1 : decode cX4_fault 1 = .ok (.getfield 51, 3) := by decide +kernel
theorem dX4_fault_4 : decode cX4_fault 4 = .ok (.ireturn, 1) := by decide +kernel
theorem dX4_many_0 : decode cX4_many 0 = .ok (.iload_n 1, 1) := by decide +kernel
theorem dX4_many_1 : decode cX4_many 1 = .ok (.tableswitch 69 0 4 #[35, 43, 51, 59, 64], 35) := by decide +kernel
theorem dX4_many_36 : decode cX4_many 36 = .ok (.aload_n 0, 1) := by decide +kernel
theorem dX4_many_37 : decode cX4_many 37 = .ok (.getfield 12, 3) := by decide +kernel
theorem dX4_many_40 : decode cX4_many 40 = .ok (.getfield 92, 3) := by decide +kernel
theorem dX4_many_43 : decode cX4_many 43 = .ok (.ireturn, 1) := by decide +kernel
theorem dX4_many_44 : decode cX4_many 44 = .ok (.aload_n 0, 1) := by decide +kernel
theorem dX4_many_45 : decode cX4_many 45 = .ok (.getfield 12, 3) := by decide +kernel
theorem dX4_many_48 : decode cX4_many 48 = .ok (.getfield 123, 3) := by decide +kernel
theorem dX4_many_51 : decode cX4_many 51 = .ok (.ireturn, 1) := by decide +kernel
theorem dX4_many_52 : decode cX4_many 52 = .ok (.aload_n 0, 1) := by decide +kernel
theorem dX4_many_53 : decode cX4_many 53 = .ok (.getfield 12, 3) := by decide +kernel
theorem dX4_many_56 : decode cX4_many 56 = .ok (.getfield 126, 3) := by decide +kernel
theorem dX4_many_59 : decode cX4_many 59 = .ok (.ireturn, 1) := by decide +kernel
theorem dX4_many_60 : decode cX4_many 60 = .ok (.aload_n 0, 1) := by decide +kernel
theorem dX4_many_61 : decode cX4_many 61 = .ok (.getfield 89, 3) := by decide +kernel
theorem dX4_many_64 : decode cX4_many 64 = .ok (.ireturn, 1) := by decide +kernel
theorem dX4_many_65 : decode cX4_many 65 = .ok (.aload_n 0, 1) := by decide +kernel
theorem dX4_many_66 : decode cX4_many 66 = .ok (.getfield 86, 3) := by decide +kernel
theorem dX4_many_69 : decode cX4_many 69 = .ok (.ireturn, 1) := by decide +kernel
theorem dX4_many_70 : decode cX4_many 70 = .ok (.bipush (-2), 2) := by decide +kernel
theorem dX4_many_72 : decode cX4_many 72 = .ok (.ireturn, 1) := by decide +kernel
theorem dX4_isBelow_0 : decode cX4_isBelow 0 = .ok (.iload_n 0, 1) := by decide +kernel
theorem dX4_isBelow_1 : decode cX4_isBelow 1 = .ok (.ifCond .lt 12, 3) := by decide +kernel
theorem dX4_isBelow_4 : decode cX4_isBelow 4 = .ok (.iload_n 0, 1) := by decide +kernel
theorem dX4_isBelow_5 : decode cX4_isBelow 5 = .ok (.iload_n 1, 1) := by decide +kernel
theorem dX4_isBelow_6 : decode cX4_isBelow 6 = .ok (.if_icmp .ge 7, 3) := by decide +kernel
theorem dX4_isBelow_9 : decode cX4_isBelow 9 = .ok (.iconst 1, 1) := by decide +kernel
theorem dX4_isBelow_10 : decode cX4_isBelow 10 = .ok (.goto 4, 3) := by decide +kernel
theorem dX4_isBelow_13 : decode cX4_isBelow 13 = .ok (.iconst 0, 1) := by decide +kernel
theorem dX4_isBelow_14 : decode cX4_isBelow 14 = .ok (.ireturn, 1) := by decide +kernel
theorem dX4_isSheet_0 : decode cX4_isSheet 0 = .ok (.iload_n 0, 1) := by decide +kernel
theorem dX4_isSheet_1 : decode cX4_isSheet 1 = .ok (.iconst 4, 1) := by decide +kernel
theorem dX4_isSheet_2 : decode cX4_isSheet 2 = .ok (.invokestatic 59, 3) := by decide +kernel
theorem dX4_isSheet_5 : decode cX4_isSheet 5 = .ok (.ireturn, 1) := by decide +kernel
theorem dX4_contains_0 : decode cX4_contains 0 = .ok (.iload_n 0, 1) := by decide +kernel
theorem dX4_contains_1 : decode cX4_contains 1 = .ok (.iload_n 1, 1) := by decide +kernel
theorem dX4_contains_2 : decode cX4_contains 2 = .ok (.ishr, 1) := by decide +kernel
theorem dX4_contains_3 : decode cX4_contains 3 = .ok (.iconst 1, 1) := by decide +kernel
theorem dX4_contains_4 : decode cX4_contains 4 = .ok (.iand, 1) := by decide +kernel
theorem dX4_contains_5 : decode cX4_contains 5 = .ok (.ifCond .eq 7, 3) := by decide +kernel
theorem dX4_contains_8 : decode cX4_contains 8 = .ok (.iconst 1, 1) := by decide +kernel
theorem dX4_contains_9 : decode cX4_contains 9 = .ok (.goto 4, 3) := by decide +kernel
theorem dX4_contains_12 : decode cX4_contains 12 = .ok (.iconst 0, 1) := by decide +kernel
theorem dX4_contains_13 : decode cX4_contains 13 = .ok (.ireturn, 1) := by decide +kernel
theorem dX4_withOne_0 : decode cX4_withOne 0 = .ok (.iload_n 1, 1) := by decide +kernel
theorem dX4_withOne_1 : decode cX4_withOne 1 = .ok (.bipush (-9), 2) := by decide +kernel
theorem dX4_withOne_3 : decode cX4_withOne 3 = .ok (.if_icmp .ne 7, 3) := by decide +kernel
theorem dX4_withOne_6 : decode cX4_withOne 6 = .ok (.iload_n 0, 1) := by decide +kernel
theorem dX4_withOne_7 : decode cX4_withOne 7 = .ok (.goto 8, 3) := by decide +kernel
theorem dX4_withOne_10 : decode cX4_withOne 10 = .ok (.iload_n 0, 1) := by decide +kernel
theorem dX4_withOne_11 : decode cX4_withOne 11 = .ok (.iconst 1, 1) := by decide +kernel
theorem dX4_withOne_12 : decode cX4_withOne 12 = .ok (.iload_n 1, 1) := by decide +kernel
theorem dX4_withOne_13 : decode cX4_withOne 13 = .ok (.ishl, 1) := by decide +kernel
theorem dX4_withOne_14 : decode cX4_withOne 14 = .ok (.ior, 1) := by decide +kernel
theorem dX4_withOne_15 : decode cX4_withOne 15 = .ok (.ireturn, 1) := by decide +kernel
theorem dX4_isPerson_0 : decode cX4_isPerson 0 = .ok (.iload_n 1, 1) := by decide +kernel
theorem dX4_isPerson_1 : decode cX4_isPerson 1 = .ok (.aload_n 0, 1) := by decide +kernel
theorem dX4_isPerson_2 : decode cX4_isPerson 2 = .ok (.getfield 12, 3) := by decide +kernel
theorem dX4_isPerson_5 : decode cX4_isPerson 5 = .ok (.getfield 92, 3) := by decide +kernel
theorem dX4_isPerson_8 : decode cX4_isPerson 8 = .ok (.invokestatic 59, 3) := by decide +kernel
theorem dX4_isPerson_11 : decode cX4_isPerson 11 = .ok (.ireturn, 1) := by decide +kernel
theorem dX4_hasNoMoor_0 : decode cX4_hasNoMoor 0 = .ok (.aload_n 0, 1) := by decide +kernel
theorem dX4_hasNoMoor_1 : decode cX4_hasNoMoor 1 = .ok (.getfield 12, 3) := by decide +kernel
theorem dX4_hasNoMoor_4 : decode cX4_hasNoMoor 4 = .ok (.getfield 92, 3) := by decide +kernel
theorem dX4_hasNoMoor_7 : decode cX4_hasNoMoor 7 = .ok (.ifCond .ne 7, 3) := by decide +kernel
theorem dX4_hasNoMoor_10 : decode cX4_hasNoMoor 10 = .ok (.iconst 1, 1) := by decide +kernel
theorem dX4_hasNoMoor_11 : decode cX4_hasNoMoor 11 = .ok (.goto 4, 3) := by decide +kernel
theorem dX4_hasNoMoor_14 : decode cX4_hasNoMoor 14 = .ok (.iconst 0, 1) := by decide +kernel
theorem dX4_hasNoMoor_15 : decode cX4_hasNoMoor 15 = .ok (.ireturn, 1) := by decide +kernel
theorem dX4_faulted_0 : decode cX4_faulted 0 = .ok (.aload_n 0, 1) := by decide +kernel
theorem dX4_faulted_1 : decode cX4_faulted 1 = .ok (.iload_n 1, 1) := by decide +kernel
theorem dX4_faulted_2 : decode cX4_faulted 2 = .ok (.putfield 51, 3) := by decide +kernel
theorem dX4_faulted_5 : decode cX4_faulted 5 = .ok (.bipush (-10), 2) := by decide +kernel
theorem dX4_faulted_7 : decode cX4_faulted 7 = .ok (.iload_n 1, 1) := by decide +kernel
theorem dX4_faulted_8 : decode cX4_faulted 8 = .ok (.isub, 1) := by decide +kernel
theorem dX4_faulted_9 : decode cX4_faulted 9 = .ok (.ireturn, 1) := by decide +kernel
theorem dX4_becomes_0 : decode cX4_becomes 0 = .ok (.aload_n 0, 1) := by decide +kernel
theorem dX4_becomes_1 : decode cX4_becomes 1 = .ok (.iload_n 2, 1) := by decide +kernel
theorem dX4_becomes_2 : decode cX4_becomes 2 = .ok (.invokevirtual 95, 3) := by decide +kernel
theorem dX4_becomes_5 : decode cX4_becomes 5 = .ok (.ifCond .ne 5, 3) := by decide +kernel
theorem dX4_becomes_8 : decode cX4_becomes 8 = .ok (.iconst (-1), 1) := by decide +kernel
theorem dX4_becomes_9 : decode cX4_becomes 9 = .ok (.ireturn, 1) := by decide +kernel
theorem dX4_becomes_10 : decode cX4_becomes 10 = .ok (.iload_n 3, 1) := by decide +kernel
theorem dX4_becomes_11 : decode cX4_becomes 11 = .ok (.iload 4, 2) := by decide +kernel
theorem dX4_becomes_13 : decode cX4_becomes 13 = .ok (.invokestatic 59, 3) := by decide +kernel
theorem dX4_becomes_16 : decode cX4_becomes 16 = .ok (.ifCond .ne 6, 3) := by decide +kernel
theorem dX4_becomes_19 : decode cX4_becomes 19 = .ok (.bipush (-2), 2) := by decide +kernel
theorem dX4_becomes_21 : decode cX4_becomes 21 = .ok (.ireturn, 1) := by decide +kernel
theorem dX4_becomes_22 : decode cX4_becomes 22 = .ok (.aload_n 1, 1) := by decide +kernel
theorem dX4_becomes_23 : decode cX4_becomes 23 = .ok (.iload_n 2, 1) := by decide +kernel
theorem dX4_becomes_24 : decode cX4_becomes 24 = .ok (.iaload, 1) := by decide +kernel
theorem dX4_becomes_25 : decode cX4_becomes 25 = .ok (.istore 5, 2) := by decide +kernel
theorem dX4_becomes_27 : decode cX4_becomes 27 = .ok (.aload_n 1, 1) := by decide +kernel
theorem dX4_becomes_28 : decode cX4_becomes 28 = .ok (.iload_n 2, 1) := by decide +kernel
theorem dX4_becomes_29 : decode cX4_becomes 29 = .ok (.iload_n 3, 1) := by decide +kernel
theorem dX4_becomes_30 : decode cX4_becomes 30 = .ok (.iastore, 1) := by decide +kernel
theorem dX4_becomes_31 : decode cX4_becomes 31 = .ok (.iload 5, 2) := by decide +kernel
theorem dX4_becomes_33 : decode cX4_becomes 33 = .ok (.ireturn, 1) := by decide +kernel
theorem dX4_isOfRound_0 : decode cX4_isOfRound 0 = .ok (.iload_n 0, 1) := by decide +kernel
theorem dX4_isOfRound_1 : decode cX4_isOfRound 1 = .ok (.iconst 4, 1) := by decide +kernel
theorem dX4_isOfRound_2 : decode cX4_isOfRound 2 = .ok (.invokestatic 59, 3) := by decide +kernel
theorem dX4_isOfRound_5 : decode cX4_isOfRound 5 = .ok (.ifCond .ne 15, 3) := by decide +kernel
theorem dX4_isOfRound_8 : decode cX4_isOfRound 8 = .ok (.iload_n 0, 1) := by decide +kernel
theorem dX4_isOfRound_9 : decode cX4_isOfRound 9 = .ok (.bipush 10, 2) := by decide +kernel
theorem dX4_isOfRound_11 : decode cX4_isOfRound 11 = .ok (.isub, 1) := by decide +kernel
theorem dX4_isOfRound_12 : decode cX4_isOfRound 12 = .ok (.bipush 6, 2) := by decide +kernel
theorem dX4_isOfRound_14 : decode cX4_isOfRound 14 = .ok (.invokestatic 59, 3) := by decide +kernel
theorem dX4_isOfRound_17 : decode cX4_isOfRound 17 = .ok (.ifCond .eq 7, 3) := by decide +kernel
theorem dX4_isOfRound_20 : decode cX4_isOfRound 20 = .ok (.iconst 1, 1) := by decide +kernel
theorem dX4_isOfRound_21 : decode cX4_isOfRound 21 = .ok (.goto 4, 3) := by decide +kernel
theorem dX4_isOfRound_24 : decode cX4_isOfRound 24 = .ok (.iconst 0, 1) := by decide +kernel
theorem dX4_isOfRound_25 : decode cX4_isOfRound 25 = .ok (.ireturn, 1) := by decide +kernel
theorem dX4_refusalOfPairs_0 : decode cX4_refusalOfPairs 0 = .ok (.iconst 0, 1) := by decide +kernel
theorem dX4_refusalOfPairs_1 : decode cX4_refusalOfPairs 1 = .ok (.istore 4, 2) := by decide +kernel
theorem dX4_refusalOfPairs_3 : decode cX4_refusalOfPairs 3 = .ok (.iload 4, 2) := by decide +kernel
theorem dX4_refusalOfPairs_5 : decode cX4_refusalOfPairs 5 = .ok (.iload_n 3, 1) := by decide +kernel
theorem dX4_refusalOfPairs_6 : decode cX4_refusalOfPairs 6 = .ok (.if_icmp .ge 64, 3) := by decide +kernel
theorem dX4_refusalOfPairs_9 : decode cX4_refusalOfPairs 9 = .ok (.aload_n 1, 1) := by decide +kernel
theorem dX4_refusalOfPairs_10 : decode cX4_refusalOfPairs 10 = .ok (.iload_n 2, 1) := by decide +kernel
theorem dX4_refusalOfPairs_11 : decode cX4_refusalOfPairs 11 = .ok (.iconst 2, 1) := by decide +kernel
theorem dX4_refusalOfPairs_12 : decode cX4_refusalOfPairs 12 = .ok (.iload 4, 2) := by decide +kernel
theorem dX4_refusalOfPairs_14 : decode cX4_refusalOfPairs 14 = .ok (.imul, 1) := by decide +kernel
theorem dX4_refusalOfPairs_15 : decode cX4_refusalOfPairs 15 = .ok (.iadd, 1) := by decide +kernel
theorem dX4_refusalOfPairs_16 : decode cX4_refusalOfPairs 16 = .ok (.iconst 1, 1) := by decide +kernel
theorem dX4_refusalOfPairs_17 : decode cX4_refusalOfPairs 17 = .ok (.iadd, 1) := by decide +kernel
theorem dX4_refusalOfPairs_18 : decode cX4_refusalOfPairs 18 = .ok (.iaload, 1) := by decide +kernel
theorem dX4_refusalOfPairs_19 : decode cX4_refusalOfPairs 19 = .ok (.istore 5, 2) := by decide +kernel
theorem dX4_refusalOfPairs_21 : decode cX4_refusalOfPairs 21 = .ok (.iload 5, 2) := by decide +kernel
theorem dX4_refusalOfPairs_23 : decode cX4_refusalOfPairs 23 = .ok (.bipush 9, 2) := by decide +kernel
theorem dX4_refusalOfPairs_25 : decode cX4_refusalOfPairs 25 = .ok (.invokestatic 59, 3) := by decide +kernel
theorem dX4_refusalOfPairs_28 : decode cX4_refusalOfPairs 28 = .ok (.ifCond .ne 19, 3) := by decide +kernel
theorem dX4_refusalOfPairs_31 : decode cX4_refusalOfPairs 31 = .ok (.iload 5, 2) := by decide +kernel
theorem dX4_refusalOfPairs_33 : decode cX4_refusalOfPairs 33 = .ok (.bipush 10, 2) := by decide +kernel
theorem dX4_refusalOfPairs_35 : decode cX4_refusalOfPairs 35 = .ok (.isub, 1) := by decide +kernel
theorem dX4_refusalOfPairs_36 : decode cX4_refusalOfPairs 36 = .ok (.bipush 10, 2) := by decide +kernel
theorem dX4_refusalOfPairs_38 : decode cX4_refusalOfPairs 38 = .ok (.invokestatic 59, 3) := by decide +kernel
theorem dX4_refusalOfPairs_41 : decode cX4_refusalOfPairs 41 = .ok (.ifCond .ne 6, 3) := by decide +kernel
theorem dX4_refusalOfPairs_44 : decode cX4_refusalOfPairs 44 = .ok (.bipush (-2), 2) := by decide +kernel
theorem dX4_refusalOfPairs_46 : decode cX4_refusalOfPairs 46 = .ok (.ireturn, 1) := by decide +kernel
theorem dX4_refusalOfPairs_47 : decode cX4_refusalOfPairs 47 = .ok (.aload_n 0, 1) := by decide +kernel
theorem dX4_refusalOfPairs_48 : decode cX4_refusalOfPairs 48 = .ok (.aload_n 1, 1) := by decide +kernel
theorem dX4_refusalOfPairs_49 : decode cX4_refusalOfPairs 49 = .ok (.iload_n 2, 1) := by decide +kernel
theorem dX4_refusalOfPairs_50 : decode cX4_refusalOfPairs 50 = .ok (.iconst 2, 1) := by decide +kernel
theorem dX4_refusalOfPairs_51 : decode cX4_refusalOfPairs 51 = .ok (.iload 4, 2) := by decide +kernel
theorem dX4_refusalOfPairs_53 : decode cX4_refusalOfPairs 53 = .ok (.imul, 1) := by decide +kernel
theorem dX4_refusalOfPairs_54 : decode cX4_refusalOfPairs 54 = .ok (.iadd, 1) := by decide +kernel
theorem dX4_refusalOfPairs_55 : decode cX4_refusalOfPairs 55 = .ok (.iaload, 1) := by decide +kernel
theorem dX4_refusalOfPairs_56 : decode cX4_refusalOfPairs 56 = .ok (.invokevirtual 95, 3) := by decide +kernel
theorem dX4_refusalOfPairs_59 : decode cX4_refusalOfPairs 59 = .ok (.ifCond .ne 5, 3) := by decide +kernel
theorem dX4_refusalOfPairs_62 : decode cX4_refusalOfPairs 62 = .ok (.iconst (-1), 1) := by decide +kernel
theorem dX4_refusalOfPairs_63 : decode cX4_refusalOfPairs 63 = .ok (.ireturn, 1) := by decide +kernel
theorem dX4_refusalOfPairs_64 : decode cX4_refusalOfPairs 64 = .ok (.iinc 4 1, 3) := by decide +kernel
theorem dX4_refusalOfPairs_67 : decode cX4_refusalOfPairs 67 = .ok (.goto (-64), 3) := by decide +kernel
theorem dX4_refusalOfPairs_70 : decode cX4_refusalOfPairs 70 = .ok (.iconst 0, 1) := by decide +kernel
theorem dX4_refusalOfPairs_71 : decode cX4_refusalOfPairs 71 = .ok (.ireturn, 1) := by decide +kernel
theorem dX4_play_0 : decode cX4_play 0 = .ok (.aload_n 0, 1) := by decide +kernel
theorem dX4_play_1 : decode cX4_play 1 = .ok (.getfield 18, 3) := by decide +kernel
theorem dX4_play_4 : decode cX4_play 4 = .ok (.aload_n 0, 1) := by decide +kernel
theorem dX4_play_5 : decode cX4_play 5 = .ok (.getfield 12, 3) := by decide +kernel
theorem dX4_play_8 : decode cX4_play 8 = .ok (.invokevirtual 156, 3) := by decide +kernel
theorem dX4_play_11 : decode cX4_play 11 = .ok (.aload_n 0, 1) := by decide +kernel
theorem dX4_play_12 : decode cX4_play 12 = .ok (.getfield 31, 3) := by decide +kernel
theorem dX4_play_15 : decode cX4_play 15 = .ok (.invokevirtual 218, 3) := by decide +kernel
theorem dX4_play_18 : decode cX4_play 18 = .ok (.iconst 0, 1) := by decide +kernel
theorem dX4_play_19 : decode cX4_play 19 = .ok (.istore 4, 2) := by decide +kernel
theorem dX4_play_21 : decode cX4_play 21 = .ok (.iload 4, 2) := by decide +kernel
theorem dX4_play_23 : decode cX4_play 23 = .ok (.iload_n 3, 1) := by decide +kernel
theorem dX4_play_24 : decode cX4_play 24 = .ok (.if_icmp .ge 98, 3) := by decide +kernel
theorem dX4_play_27 : decode cX4_play 27 = .ok (.aload_n 1, 1) := by decide +kernel
theorem dX4_play_28 : decode cX4_play 28 = .ok (.iload_n 2, 1) := by decide +kernel
theorem dX4_play_29 : decode cX4_play 29 = .ok (.iconst 2, 1) := by decide +kernel
theorem dX4_play_30 : decode cX4_play 30 = .ok (.iload 4, 2) := by decide +kernel
theorem dX4_play_32 : decode cX4_play 32 = .ok (.imul, 1) := by decide +kernel
theorem dX4_play_33 : decode cX4_play 33 = .ok (.iadd, 1) := by decide +kernel
theorem dX4_play_34 : decode cX4_play 34 = .ok (.iaload, 1) := by decide +kernel
theorem dX4_play_35 : decode cX4_play 35 = .ok (.istore 5, 2) := by decide +kernel
theorem dX4_play_37 : decode cX4_play 37 = .ok (.aload_n 1, 1) := by decide +kernel
theorem dX4_play_38 : decode cX4_play 38 = .ok (.iload_n 2, 1) := by decide +kernel
theorem dX4_play_39 : decode cX4_play 39 = .ok (.iconst 2, 1) := by decide +kernel
theorem dX4_play_40 : decode cX4_play 40 = .ok (.iload 4, 2) := by decide +kernel
theorem dX4_play_42 : decode cX4_play 42 = .ok (.imul, 1) := by decide +kernel
theorem dX4_play_43 : decode cX4_play 43 = .ok (.iadd, 1) := by decide +kernel
theorem dX4_play_44 : decode cX4_play 44 = .ok (.iconst 1, 1) := by decide +kernel
theorem dX4_play_45 : decode cX4_play 45 = .ok (.iadd, 1) := by decide +kernel
theorem dX4_play_46 : decode cX4_play 46 = .ok (.iaload, 1) := by decide +kernel
theorem dX4_play_47 : decode cX4_play 47 = .ok (.istore 6, 2) := by decide +kernel
theorem dX4_play_49 : decode cX4_play 49 = .ok (.iload 6, 2) := by decide +kernel
theorem dX4_play_51 : decode cX4_play 51 = .ok (.bipush 8, 2) := by decide +kernel
theorem dX4_play_53 : decode cX4_play 53 = .ok (.if_icmp .ge 18, 3) := by decide +kernel
theorem dX4_play_56 : decode cX4_play 56 = .ok (.aload_n 0, 1) := by decide +kernel
theorem dX4_play_57 : decode cX4_play 57 = .ok (.getfield 18, 3) := by decide +kernel
theorem dX4_play_60 : decode cX4_play 60 = .ok (.getfield 101, 3) := by decide +kernel
theorem dX4_play_63 : decode cX4_play 63 = .ok (.iload 5, 2) := by decide +kernel
theorem dX4_play_65 : decode cX4_play 65 = .ok (.iload 6, 2) := by decide +kernel
theorem dX4_play_67 : decode cX4_play 67 = .ok (.iastore, 1) := by decide +kernel
theorem dX4_play_68 : decode cX4_play 68 = .ok (.goto 48, 3) := by decide +kernel
theorem dX4_play_71 : decode cX4_play 71 = .ok (.iload 6, 2) := by decide +kernel
theorem dX4_play_73 : decode cX4_play 73 = .ok (.bipush 8, 2) := by decide +kernel
theorem dX4_play_75 : decode cX4_play 75 = .ok (.if_icmp .ne 26, 3) := by decide +kernel
theorem dX4_play_78 : decode cX4_play 78 = .ok (.aload_n 0, 1) := by decide +kernel
theorem dX4_play_79 : decode cX4_play 79 = .ok (.getfield 31, 3) := by decide +kernel
theorem dX4_play_82 : decode cX4_play 82 = .ok (.iload 4, 2) := by decide +kernel
theorem dX4_play_84 : decode cX4_play 84 = .ok (.iload 5, 2) := by decide +kernel
theorem dX4_play_86 : decode cX4_play 86 = .ok (.aload_n 0, 1) := by decide +kernel
theorem dX4_play_87 : decode cX4_play 87 = .ok (.getfield 18, 3) := by decide +kernel
theorem dX4_play_90 : decode cX4_play 90 = .ok (.iload 5, 2) := by decide +kernel
theorem dX4_play_92 : decode cX4_play 92 = .ok (.invokevirtual 133, 3) := by decide +kernel
theorem dX4_play_95 : decode cX4_play 95 = .ok (.invokevirtual 221, 3) := by decide +kernel
theorem dX4_play_98 : decode cX4_play 98 = .ok (.goto 18, 3) := by decide +kernel
theorem dX4_play_101 : decode cX4_play 101 = .ok (.aload_n 0, 1) := by decide +kernel
theorem dX4_play_102 : decode cX4_play 102 = .ok (.getfield 18, 3) := by decide +kernel
theorem dX4_play_105 : decode cX4_play 105 = .ok (.getfield 107, 3) := by decide +kernel
theorem dX4_play_108 : decode cX4_play 108 = .ok (.iload 5, 2) := by decide +kernel
theorem dX4_play_110 : decode cX4_play 110 = .ok (.iload 6, 2) := by decide +kernel
theorem dX4_play_112 : decode cX4_play 112 = .ok (.bipush 10, 2) := by decide +kernel
theorem dX4_play_114 : decode cX4_play 114 = .ok (.isub, 1) := by decide +kernel
theorem dX4_play_115 : decode cX4_play 115 = .ok (.iastore, 1) := by decide +kernel
theorem dX4_play_116 : decode cX4_play 116 = .ok (.iinc 4 1, 3) := by decide +kernel
theorem dX4_play_119 : decode cX4_play 119 = .ok (.goto (-98), 3) := by decide +kernel
theorem dX4_play_122 : decode cX4_play 122 = .ok (.return_, 1) := by decide +kernel
theorem dX4_ofRound_0 : decode cX4_ofRound 0 = .ok (.iload_n 1, 1) := by decide +kernel
theorem dX4_ofRound_1 : decode cX4_ofRound 1 = .ok (.tableswitch 63 0 3 #[31, 39, 47, 55], 31) := by decide +kernel
theorem dX4_ofRound_32 : decode cX4_ofRound 32 = .ok (.aload_n 0, 1) := by decide +kernel
theorem dX4_ofRound_33 : decode cX4_ofRound 33 = .ok (.getfield 31, 3) := by decide +kernel
theorem dX4_ofRound_36 : decode cX4_ofRound 36 = .ok (.getfield 225, 3) := by decide +kernel
theorem dX4_ofRound_39 : decode cX4_ofRound 39 = .ok (.ireturn, 1) := by decide +kernel
theorem dX4_ofRound_40 : decode cX4_ofRound 40 = .ok (.aload_n 0, 1) := by decide +kernel
theorem dX4_ofRound_41 : decode cX4_ofRound 41 = .ok (.getfield 31, 3) := by decide +kernel
theorem dX4_ofRound_44 : decode cX4_ofRound 44 = .ok (.getfield 228, 3) := by decide +kernel
theorem dX4_ofRound_47 : decode cX4_ofRound 47 = .ok (.ireturn, 1) := by decide +kernel
theorem dX4_ofRound_48 : decode cX4_ofRound 48 = .ok (.aload_n 0, 1) := by decide +kernel
theorem dX4_ofRound_49 : decode cX4_ofRound 49 = .ok (.getfield 31, 3) := by decide +kernel
theorem dX4_ofRound_52 : decode cX4_ofRound 52 = .ok (.getfield 231, 3) := by decide +kernel
theorem dX4_ofRound_55 : decode cX4_ofRound 55 = .ok (.ireturn, 1) := by decide +kernel
theorem dX4_ofRound_56 : decode cX4_ofRound 56 = .ok (.aload_n 0, 1) := by decide +kernel
theorem dX4_ofRound_57 : decode cX4_ofRound 57 = .ok (.getfield 31, 3) := by decide +kernel
theorem dX4_ofRound_60 : decode cX4_ofRound 60 = .ok (.getfield 234, 3) := by decide +kernel
theorem dX4_ofRound_63 : decode cX4_ofRound 63 = .ok (.ireturn, 1) := by decide +kernel
theorem dX4_ofRound_64 : decode cX4_ofRound 64 = .ok (.aload_n 0, 1) := by decide +kernel
theorem dX4_ofRound_65 : decode cX4_ofRound 65 = .ok (.iload_n 1, 1) := by decide +kernel
theorem dX4_ofRound_66 : decode cX4_ofRound 66 = .ok (.bipush 10, 2) := by decide +kernel
theorem dX4_ofRound_68 : decode cX4_ofRound 68 = .ok (.isub, 1) := by decide +kernel
theorem dX4_ofRound_69 : decode cX4_ofRound 69 = .ok (.invokevirtual 95, 3) := by decide +kernel
theorem dX4_ofRound_72 : decode cX4_ofRound 72 = .ok (.ifCond .eq 18, 3) := by decide +kernel
theorem dX4_ofRound_75 : decode cX4_ofRound 75 = .ok (.aload_n 0, 1) := by decide +kernel
theorem dX4_ofRound_76 : decode cX4_ofRound 76 = .ok (.getfield 18, 3) := by decide +kernel
theorem dX4_ofRound_79 : decode cX4_ofRound 79 = .ok (.getfield 104, 3) := by decide +kernel
theorem dX4_ofRound_82 : decode cX4_ofRound 82 = .ok (.iload_n 1, 1) := by decide +kernel
theorem dX4_ofRound_83 : decode cX4_ofRound 83 = .ok (.bipush 10, 2) := by decide +kernel
theorem dX4_ofRound_85 : decode cX4_ofRound 85 = .ok (.isub, 1) := by decide +kernel
theorem dX4_ofRound_86 : decode cX4_ofRound 86 = .ok (.iaload, 1) := by decide +kernel
theorem dX4_ofRound_87 : decode cX4_ofRound 87 = .ok (.goto 5, 3) := by decide +kernel
theorem dX4_ofRound_90 : decode cX4_ofRound 90 = .ok (.bipush (-9), 2) := by decide +kernel
theorem dX4_ofRound_92 : decode cX4_ofRound 92 = .ok (.ireturn, 1) := by decide +kernel
theorem dX4_findBestOrder_0 : decode cX4_findBestOrder 0 = .ok (.iconst 0, 1) := by decide +kernel
theorem dX4_findBestOrder_1 : decode cX4_findBestOrder 1 = .ok (.istore_n 1, 1) := by decide +kernel
theorem dX4_findBestOrder_2 : decode cX4_findBestOrder 2 = .ok (.iload_n 1, 1) := by decide +kernel
theorem dX4_findBestOrder_3 : decode cX4_findBestOrder 3 = .ok (.aload_n 0, 1) := by decide +kernel
theorem dX4_findBestOrder_4 : decode cX4_findBestOrder 4 = .ok (.getfield 12, 3) := by decide +kernel
theorem dX4_findBestOrder_7 : decode cX4_findBestOrder 7 = .ok (.getfield 92, 3) := by decide +kernel
theorem dX4_findBestOrder_10 : decode cX4_findBestOrder 10 = .ok (.if_icmp .ge 30, 3) := by decide +kernel
theorem dX4_findBestOrder_13 : decode cX4_findBestOrder 13 = .ok (.aload_n 0, 1) := by decide +kernel
theorem dX4_findBestOrder_14 : decode cX4_findBestOrder 14 = .ok (.getfield 45, 3) := by decide +kernel
theorem dX4_findBestOrder_17 : decode cX4_findBestOrder 17 = .ok (.iload_n 1, 1) := by decide +kernel
theorem dX4_findBestOrder_18 : decode cX4_findBestOrder 18 = .ok (.iload_n 1, 1) := by decide +kernel
theorem dX4_findBestOrder_19 : decode cX4_findBestOrder 19 = .ok (.iastore, 1) := by decide +kernel
theorem dX4_findBestOrder_20 : decode cX4_findBestOrder 20 = .ok (.aload_n 0, 1) := by decide +kernel
theorem dX4_findBestOrder_21 : decode cX4_findBestOrder 21 = .ok (.getfield 42, 3) := by decide +kernel
theorem dX4_findBestOrder_24 : decode cX4_findBestOrder 24 = .ok (.iload_n 1, 1) := by decide +kernel
theorem dX4_findBestOrder_25 : decode cX4_findBestOrder 25 = .ok (.aload_n 0, 1) := by decide +kernel
theorem dX4_findBestOrder_26 : decode cX4_findBestOrder 26 = .ok (.getfield 12, 3) := by decide +kernel
theorem dX4_findBestOrder_29 : decode cX4_findBestOrder 29 = .ok (.iload_n 1, 1) := by decide +kernel
theorem dX4_findBestOrder_30 : decode cX4_findBestOrder 30 = .ok (.invokevirtual 116, 3) := by decide +kernel
theorem dX4_findBestOrder_33 : decode cX4_findBestOrder 33 = .ok (.iastore, 1) := by decide +kernel
theorem dX4_findBestOrder_34 : decode cX4_findBestOrder 34 = .ok (.iinc 1 1, 3) := by decide +kernel
theorem dX4_findBestOrder_37 : decode cX4_findBestOrder 37 = .ok (.goto (-35), 3) := by decide +kernel
theorem dX4_findBestOrder_40 : decode cX4_findBestOrder 40 = .ok (.iconst (-1), 1) := by decide +kernel
theorem dX4_findBestOrder_41 : decode cX4_findBestOrder 41 = .ok (.istore_n 1, 1) := by decide +kernel
theorem dX4_findBestOrder_42 : decode cX4_findBestOrder 42 = .ok (.iconst 0, 1) := by decide +kernel
theorem dX4_findBestOrder_43 : decode cX4_findBestOrder 43 = .ok (.istore_n 2, 1) := by decide +kernel
theorem dX4_findBestOrder_44 : decode cX4_findBestOrder 44 = .ok (.iload_n 2, 1) := by decide +kernel
theorem dX4_findBestOrder_45 : decode cX4_findBestOrder 45 = .ok (.sipush 720, 3) := by decide +kernel
theorem dX4_findBestOrder_48 : decode cX4_findBestOrder 48 = .ok (.if_icmp .ge 67, 3) := by decide +kernel
theorem dX4_findBestOrder_51 : decode cX4_findBestOrder 51 = .ok (.iload_n 1, 1) := by decide +kernel
theorem dX4_findBestOrder_52 : decode cX4_findBestOrder 52 = .ok (.aload_n 0, 1) := by decide +kernel
theorem dX4_findBestOrder_53 : decode cX4_findBestOrder 53 = .ok (.getfield 12, 3) := by decide +kernel
theorem dX4_findBestOrder_56 : decode cX4_findBestOrder 56 = .ok (.getfield 92, 3) := by decide +kernel
theorem dX4_findBestOrder_59 : decode cX4_findBestOrder 59 = .ok (.if_icmp .ge 56, 3) := by decide +kernel
theorem dX4_findBestOrder_62 : decode cX4_findBestOrder 62 = .ok (.aload_n 0, 1) := by decide +kernel
theorem dX4_findBestOrder_63 : decode cX4_findBestOrder 63 = .ok (.invokevirtual 237, 3) := by decide +kernel
theorem dX4_findBestOrder_66 : decode cX4_findBestOrder 66 = .ok (.istore_n 3, 1) := by decide +kernel
theorem dX4_findBestOrder_67 : decode cX4_findBestOrder 67 = .ok (.iload_n 3, 1) := by decide +kernel
theorem dX4_findBestOrder_68 : decode cX4_findBestOrder 68 = .ok (.iload_n 1, 1) := by decide +kernel
theorem dX4_findBestOrder_69 : decode cX4_findBestOrder 69 = .ok (.if_icmp .le 20, 3) := by decide +kernel
theorem dX4_findBestOrder_72 : decode cX4_findBestOrder 72 = .ok (.iload_n 3, 1) := by decide +kernel
theorem dX4_findBestOrder_73 : decode cX4_findBestOrder 73 = .ok (.istore_n 1, 1) := by decide +kernel
theorem dX4_findBestOrder_74 : decode cX4_findBestOrder 74 = .ok (.aload_n 0, 1) := by decide +kernel
theorem dX4_findBestOrder_75 : decode cX4_findBestOrder 75 = .ok (.getfield 45, 3) := by decide +kernel
theorem dX4_findBestOrder_78 : decode cX4_findBestOrder 78 = .ok (.iconst 0, 1) := by decide +kernel
theorem dX4_findBestOrder_79 : decode cX4_findBestOrder 79 = .ok (.aload_n 0, 1) := by decide +kernel
theorem dX4_findBestOrder_80 : decode cX4_findBestOrder 80 = .ok (.getfield 48, 3) := by decide +kernel
theorem dX4_findBestOrder_83 : decode cX4_findBestOrder 83 = .ok (.iconst 0, 1) := by decide +kernel
theorem dX4_findBestOrder_84 : decode cX4_findBestOrder 84 = .ok (.bipush 6, 2) := by decide +kernel
theorem dX4_findBestOrder_86 : decode cX4_findBestOrder 86 = .ok (.invokestatic 196, 3) := by decide +kernel
theorem dX4_findBestOrder_89 : decode cX4_findBestOrder 89 = .ok (.aload_n 0, 1) := by decide +kernel
theorem dX4_findBestOrder_90 : decode cX4_findBestOrder 90 = .ok (.getfield 45, 3) := by decide +kernel
theorem dX4_findBestOrder_93 : decode cX4_findBestOrder 93 = .ok (.aload_n 0, 1) := by decide +kernel
theorem dX4_findBestOrder_94 : decode cX4_findBestOrder 94 = .ok (.getfield 12, 3) := by decide +kernel
theorem dX4_findBestOrder_97 : decode cX4_findBestOrder 97 = .ok (.getfield 92, 3) := by decide +kernel
theorem dX4_findBestOrder_100 : decode cX4_findBestOrder 100 = .ok (.invokestatic 240, 3) := by decide +kernel
theorem dX4_findBestOrder_103 : decode cX4_findBestOrder 103 = .ok (.ifCond .ne 6, 3) := by decide +kernel
theorem dX4_findBestOrder_106 : decode cX4_findBestOrder 106 = .ok (.goto 9, 3) := by decide +kernel
theorem dX4_findBestOrder_109 : decode cX4_findBestOrder 109 = .ok (.iinc 2 1, 3) := by decide +kernel
theorem dX4_findBestOrder_112 : decode cX4_findBestOrder 112 = .ok (.goto (-68), 3) := by decide +kernel
theorem dX4_findBestOrder_115 : decode cX4_findBestOrder 115 = .ok (.iload_n 1, 1) := by decide +kernel
theorem dX4_findBestOrder_116 : decode cX4_findBestOrder 116 = .ok (.ireturn, 1) := by decide +kernel
theorem dX4_comingInTriedOrder_0 : decode cX4_comingInTriedOrder 0 = .ok (.iconst 0, 1) := by decide +kernel
theorem dX4_comingInTriedOrder_1 : decode cX4_comingInTriedOrder 1 = .ok (.istore_n 1, 1) := by decide +kernel
theorem dX4_comingInTriedOrder_2 : decode cX4_comingInTriedOrder 2 = .ok (.iconst 0, 1) := by decide +kernel
theorem dX4_comingInTriedOrder_3 : decode cX4_comingInTriedOrder 3 = .ok (.istore_n 2, 1) := by decide +kernel
theorem dX4_comingInTriedOrder_4 : decode cX4_comingInTriedOrder 4 = .ok (.iconst 0, 1) := by decide +kernel
theorem dX4_comingInTriedOrder_5 : decode cX4_comingInTriedOrder 5 = .ok (.istore_n 3, 1) := by decide +kernel
theorem dX4_comingInTriedOrder_6 : decode cX4_comingInTriedOrder 6 = .ok (.iload_n 3, 1) := by decide +kernel
theorem dX4_comingInTriedOrder_7 : decode cX4_comingInTriedOrder 7 = .ok (.aload_n 0, 1) := by decide +kernel
theorem dX4_comingInTriedOrder_8 : decode cX4_comingInTriedOrder 8 = .ok (.getfield 12, 3) := by decide +kernel
theorem dX4_comingInTriedOrder_11 : decode cX4_comingInTriedOrder 11 = .ok (.getfield 92, 3) := by decide +kernel
theorem dX4_comingInTriedOrder_14 : decode cX4_comingInTriedOrder 14 = .ok (.if_icmp .ge 57, 3) := by decide +kernel
theorem dX4_comingInTriedOrder_17 : decode cX4_comingInTriedOrder 17 = .ok (.aload_n 0, 1) := by decide +kernel
theorem dX4_comingInTriedOrder_18 : decode cX4_comingInTriedOrder 18 = .ok (.getfield 45, 3) := by decide +kernel
theorem dX4_comingInTriedOrder_21 : decode cX4_comingInTriedOrder 21 = .ok (.iload_n 3, 1) := by decide +kernel
theorem dX4_comingInTriedOrder_22 : decode cX4_comingInTriedOrder 22 = .ok (.iaload, 1) := by decide +kernel
theorem dX4_comingInTriedOrder_23 : decode cX4_comingInTriedOrder 23 = .ok (.istore 4, 2) := by decide +kernel
theorem dX4_comingInTriedOrder_25 : decode cX4_comingInTriedOrder 25 = .ok (.iload_n 1, 1) := by decide +kernel
theorem dX4_comingInTriedOrder_26 : decode cX4_comingInTriedOrder 26 = .ok (.iload 4, 2) := by decide +kernel
theorem dX4_comingInTriedOrder_28 : decode cX4_comingInTriedOrder 28 = .ok (.invokestatic 168, 3) := by decide +kernel
theorem dX4_comingInTriedOrder_31 : decode cX4_comingInTriedOrder 31 = .ok (.ifCond .eq 8, 3) := by decide +kernel
theorem dX4_comingInTriedOrder_34 : decode cX4_comingInTriedOrder 34 = .ok (.iload 4, 2) := by decide +kernel
theorem dX4_comingInTriedOrder_36 : decode cX4_comingInTriedOrder 36 = .ok (.goto 10, 3) := by decide +kernel
theorem dX4_comingInTriedOrder_39 : decode cX4_comingInTriedOrder 39 = .ok (.aload_n 0, 1) := by decide +kernel
theorem dX4_comingInTriedOrder_40 : decode cX4_comingInTriedOrder 40 = .ok (.getfield 42, 3) := by decide +kernel
theorem dX4_comingInTriedOrder_43 : decode cX4_comingInTriedOrder 43 = .ok (.iload 4, 2) := by decide +kernel
theorem dX4_comingInTriedOrder_45 : decode cX4_comingInTriedOrder 45 = .ok (.iaload, 1) := by decide +kernel
theorem dX4_comingInTriedOrder_46 : decode cX4_comingInTriedOrder 46 = .ok (.istore 5, 2) := by decide +kernel
theorem dX4_comingInTriedOrder_48 : decode cX4_comingInTriedOrder 48 = .ok (.iload 5, 2) := by decide +kernel
theorem dX4_comingInTriedOrder_50 : decode cX4_comingInTriedOrder 50 = .ok (.iload 4, 2) := by decide +kernel
theorem dX4_comingInTriedOrder_52 : decode cX4_comingInTriedOrder 52 = .ok (.if_icmp .ne 6, 3) := by decide +kernel
theorem dX4_comingInTriedOrder_55 : decode cX4_comingInTriedOrder 55 = .ok (.iinc 2 1, 3) := by decide +kernel
theorem dX4_comingInTriedOrder_58 : decode cX4_comingInTriedOrder 58 = .ok (.iload_n 1, 1) := by decide +kernel
theorem dX4_comingInTriedOrder_59 : decode cX4_comingInTriedOrder 59 = .ok (.iload 5, 2) := by decide +kernel
theorem dX4_comingInTriedOrder_61 : decode cX4_comingInTriedOrder 61 = .ok (.invokestatic 244, 3) := by decide +kernel
theorem dX4_comingInTriedOrder_64 : decode cX4_comingInTriedOrder 64 = .ok (.istore_n 1, 1) := by decide +kernel
theorem dX4_comingInTriedOrder_65 : decode cX4_comingInTriedOrder 65 = .ok (.iinc 3 1, 3) := by decide +kernel
theorem dX4_comingInTriedOrder_68 : decode cX4_comingInTriedOrder 68 = .ok (.goto (-62), 3) := by decide +kernel
theorem dX4_comingInTriedOrder_71 : decode cX4_comingInTriedOrder 71 = .ok (.iload_n 2, 1) := by decide +kernel
theorem dX4_comingInTriedOrder_72 : decode cX4_comingInTriedOrder 72 = .ok (.ireturn, 1) := by decide +kernel
theorem dX4_stepToNextRow_0 : decode cX4_stepToNextRow 0 = .ok (.iload_n 1, 1) := by decide +kernel
theorem dX4_stepToNextRow_1 : decode cX4_stepToNextRow 1 = .ok (.iconst 2, 1) := by decide +kernel
theorem dX4_stepToNextRow_2 : decode cX4_stepToNextRow 2 = .ok (.isub, 1) := by decide +kernel
theorem dX4_stepToNextRow_3 : decode cX4_stepToNextRow 3 = .ok (.istore_n 2, 1) := by decide +kernel
theorem dX4_stepToNextRow_4 : decode cX4_stepToNextRow 4 = .ok (.iload_n 2, 1) := by decide +kernel
theorem dX4_stepToNextRow_5 : decode cX4_stepToNextRow 5 = .ok (.ifCond .lt 20, 3) := by decide +kernel
theorem dX4_stepToNextRow_8 : decode cX4_stepToNextRow 8 = .ok (.aload_n 0, 1) := by decide +kernel
theorem dX4_stepToNextRow_9 : decode cX4_stepToNextRow 9 = .ok (.iload_n 2, 1) := by decide +kernel
theorem dX4_stepToNextRow_10 : decode cX4_stepToNextRow 10 = .ok (.iaload, 1) := by decide +kernel
theorem dX4_stepToNextRow_11 : decode cX4_stepToNextRow 11 = .ok (.aload_n 0, 1) := by decide +kernel
theorem dX4_stepToNextRow_12 : decode cX4_stepToNextRow 12 = .ok (.iload_n 2, 1) := by decide +kernel
theorem dX4_stepToNextRow_13 : decode cX4_stepToNextRow 13 = .ok (.iconst 1, 1) := by decide +kernel
theorem dX4_stepToNextRow_14 : decode cX4_stepToNextRow 14 = .ok (.iadd, 1) := by decide +kernel
theorem dX4_stepToNextRow_15 : decode cX4_stepToNextRow 15 = .ok (.iaload, 1) := by decide +kernel
theorem dX4_stepToNextRow_16 : decode cX4_stepToNextRow 16 = .ok (.if_icmp .le 9, 3) := by decide +kernel
theorem dX4_stepToNextRow_19 : decode cX4_stepToNextRow 19 = .ok (.iinc 2 (-1), 3) := by decide +kernel
theorem dX4_stepToNextRow_22 : decode cX4_stepToNextRow 22 = .ok (.goto (-18), 3) := by decide +kernel
theorem dX4_stepToNextRow_25 : decode cX4_stepToNextRow 25 = .ok (.iload_n 2, 1) := by decide +kernel
theorem dX4_stepToNextRow_26 : decode cX4_stepToNextRow 26 = .ok (.ifCond .ge 5, 3) := by decide +kernel
theorem dX4_stepToNextRow_29 : decode cX4_stepToNextRow 29 = .ok (.iconst 0, 1) := by decide +kernel
theorem dX4_stepToNextRow_30 : decode cX4_stepToNextRow 30 = .ok (.ireturn, 1) := by decide +kernel
theorem dX4_stepToNextRow_31 : decode cX4_stepToNextRow 31 = .ok (.iload_n 1, 1) := by decide +kernel
theorem dX4_stepToNextRow_32 : decode cX4_stepToNextRow 32 = .ok (.iconst 1, 1) := by decide +kernel
theorem dX4_stepToNextRow_33 : decode cX4_stepToNextRow 33 = .ok (.isub, 1) := by decide +kernel
theorem dX4_stepToNextRow_34 : decode cX4_stepToNextRow 34 = .ok (.istore_n 3, 1) := by decide +kernel
theorem dX4_stepToNextRow_35 : decode cX4_stepToNextRow 35 = .ok (.iload_n 3, 1) := by decide +kernel
theorem dX4_stepToNextRow_36 : decode cX4_stepToNextRow 36 = .ok (.iload_n 2, 1) := by decide +kernel
theorem dX4_stepToNextRow_37 : decode cX4_stepToNextRow 37 = .ok (.iconst 1, 1) := by decide +kernel
theorem dX4_stepToNextRow_38 : decode cX4_stepToNextRow 38 = .ok (.iadd, 1) := by decide +kernel
theorem dX4_stepToNextRow_39 : decode cX4_stepToNextRow 39 = .ok (.if_icmp .le 18, 3) := by decide +kernel
theorem dX4_stepToNextRow_42 : decode cX4_stepToNextRow 42 = .ok (.aload_n 0, 1) := by decide +kernel
theorem dX4_stepToNextRow_43 : decode cX4_stepToNextRow 43 = .ok (.iload_n 3, 1) := by decide +kernel
theorem dX4_stepToNextRow_44 : decode cX4_stepToNextRow 44 = .ok (.iaload, 1) := by decide +kernel
theorem dX4_stepToNextRow_45 : decode cX4_stepToNextRow 45 = .ok (.aload_n 0, 1) := by decide +kernel
theorem dX4_stepToNextRow_46 : decode cX4_stepToNextRow 46 = .ok (.iload_n 2, 1) := by decide +kernel
theorem dX4_stepToNextRow_47 : decode cX4_stepToNextRow 47 = .ok (.iaload, 1) := by decide +kernel
theorem dX4_stepToNextRow_48 : decode cX4_stepToNextRow 48 = .ok (.if_icmp .ge 9, 3) := by decide +kernel
theorem dX4_stepToNextRow_51 : decode cX4_stepToNextRow 51 = .ok (.iinc 3 (-1), 3) := by decide +kernel
theorem dX4_stepToNextRow_54 : decode cX4_stepToNextRow 54 = .ok (.goto (-19), 3) := by decide +kernel
theorem dX4_stepToNextRow_57 : decode cX4_stepToNextRow 57 = .ok (.aload_n 0, 1) := by decide +kernel
theorem dX4_stepToNextRow_58 : decode cX4_stepToNextRow 58 = .ok (.iload_n 2, 1) := by decide +kernel
theorem dX4_stepToNextRow_59 : decode cX4_stepToNextRow 59 = .ok (.iload_n 3, 1) := by decide +kernel
theorem dX4_stepToNextRow_60 : decode cX4_stepToNextRow 60 = .ok (.invokestatic 248, 3) := by decide +kernel
theorem dX4_stepToNextRow_63 : decode cX4_stepToNextRow 63 = .ok (.iload_n 2, 1) := by decide +kernel
theorem dX4_stepToNextRow_64 : decode cX4_stepToNextRow 64 = .ok (.iconst 1, 1) := by decide +kernel
theorem dX4_stepToNextRow_65 : decode cX4_stepToNextRow 65 = .ok (.iadd, 1) := by decide +kernel
theorem dX4_stepToNextRow_66 : decode cX4_stepToNextRow 66 = .ok (.istore 4, 2) := by decide +kernel
theorem dX4_stepToNextRow_68 : decode cX4_stepToNextRow 68 = .ok (.iload_n 1, 1) := by decide +kernel
theorem dX4_stepToNextRow_69 : decode cX4_stepToNextRow 69 = .ok (.iconst 1, 1) := by decide +kernel
theorem dX4_stepToNextRow_70 : decode cX4_stepToNextRow 70 = .ok (.isub, 1) := by decide +kernel
theorem dX4_stepToNextRow_71 : decode cX4_stepToNextRow 71 = .ok (.istore 5, 2) := by decide +kernel
theorem dX4_stepToNextRow_73 : decode cX4_stepToNextRow 73 = .ok (.iload 4, 2) := by decide +kernel
theorem dX4_stepToNextRow_75 : decode cX4_stepToNextRow 75 = .ok (.iload 5, 2) := by decide +kernel
theorem dX4_stepToNextRow_77 : decode cX4_stepToNextRow 77 = .ok (.if_icmp .ge 20, 3) := by decide +kernel
theorem dX4_stepToNextRow_80 : decode cX4_stepToNextRow 80 = .ok (.aload_n 0, 1) := by decide +kernel
theorem dX4_stepToNextRow_81 : decode cX4_stepToNextRow 81 = .ok (.iload 4, 2) := by decide +kernel
theorem dX4_stepToNextRow_83 : decode cX4_stepToNextRow 83 = .ok (.iload 5, 2) := by decide +kernel
theorem dX4_stepToNextRow_85 : decode cX4_stepToNextRow 85 = .ok (.invokestatic 248, 3) := by decide +kernel
theorem dX4_stepToNextRow_88 : decode cX4_stepToNextRow 88 = .ok (.iinc 4 1, 3) := by decide +kernel
theorem dX4_stepToNextRow_91 : decode cX4_stepToNextRow 91 = .ok (.iinc 5 (-1), 3) := by decide +kernel
theorem dX4_stepToNextRow_94 : decode cX4_stepToNextRow 94 = .ok (.goto (-21), 3) := by decide +kernel
theorem dX4_stepToNextRow_97 : decode cX4_stepToNextRow 97 = .ok (.iconst 1, 1) := by decide +kernel
theorem dX4_stepToNextRow_98 : decode cX4_stepToNextRow 98 = .ok (.ireturn, 1) := by decide +kernel
theorem dX4_swap_0 : decode cX4_swap 0 = .ok (.aload_n 0, 1) := by decide +kernel
theorem dX4_swap_1 : decode cX4_swap 1 = .ok (.iload_n 1, 1) := by decide +kernel
theorem dX4_swap_2 : decode cX4_swap 2 = .ok (.iaload, 1) := by decide +kernel
theorem dX4_swap_3 : decode cX4_swap 3 = .ok (.istore_n 3, 1) := by decide +kernel
theorem dX4_swap_4 : decode cX4_swap 4 = .ok (.aload_n 0, 1) := by decide +kernel
theorem dX4_swap_5 : decode cX4_swap 5 = .ok (.iload_n 1, 1) := by decide +kernel
theorem dX4_swap_6 : decode cX4_swap 6 = .ok (.aload_n 0, 1) := by decide +kernel
theorem dX4_swap_7 : decode cX4_swap 7 = .ok (.iload_n 2, 1) := by decide +kernel
theorem dX4_swap_8 : decode cX4_swap 8 = .ok (.iaload, 1) := by decide +kernel
theorem dX4_swap_9 : decode cX4_swap 9 = .ok (.iastore, 1) := by decide +kernel
theorem dX4_swap_10 : decode cX4_swap 10 = .ok (.aload_n 0, 1) := by decide +kernel
theorem dX4_swap_11 : decode cX4_swap 11 = .ok (.iload_n 2, 1) := by decide +kernel
theorem dX4_swap_12 : decode cX4_swap 12 = .ok (.iload_n 3, 1) := by decide +kernel
theorem dX4_swap_13 : decode cX4_swap 13 = .ok (.iastore, 1) := by decide +kernel
theorem dX4_swap_14 : decode cX4_swap 14 = .ok (.return_, 1) := by decide +kernel
theorem dX4_bySuchReadings_0 : decode cX4_bySuchReadings 0 = .ok (.aload_n 0, 1) := by decide +kernel
theorem dX4_bySuchReadings_1 : decode cX4_bySuchReadings 1 = .ok (.iload_n 2, 1) := by decide +kernel
theorem dX4_bySuchReadings_2 : decode cX4_bySuchReadings 2 = .ok (.invokevirtual 95, 3) := by decide +kernel
theorem dX4_bySuchReadings_5 : decode cX4_bySuchReadings 5 = .ok (.ifCond .ne 5, 3) := by decide +kernel
theorem dX4_bySuchReadings_8 : decode cX4_bySuchReadings 8 = .ok (.iconst (-1), 1) := by decide +kernel
theorem dX4_bySuchReadings_9 : decode cX4_bySuchReadings 9 = .ok (.ireturn, 1) := by decide +kernel
theorem dX4_bySuchReadings_10 : decode cX4_bySuchReadings 10 = .ok (.aload_n 0, 1) := by decide +kernel
theorem dX4_bySuchReadings_11 : decode cX4_bySuchReadings 11 = .ok (.getfield 18, 3) := by decide +kernel
theorem dX4_bySuchReadings_14 : decode cX4_bySuchReadings 14 = .ok (.aload_n 0, 1) := by decide +kernel
theorem dX4_bySuchReadings_15 : decode cX4_bySuchReadings 15 = .ok (.getfield 12, 3) := by decide +kernel
theorem dX4_bySuchReadings_18 : decode cX4_bySuchReadings 18 = .ok (.invokevirtual 156, 3) := by decide +kernel
theorem dX4_bySuchReadings_21 : decode cX4_bySuchReadings 21 = .ok (.iconst 0, 1) := by decide +kernel
theorem dX4_bySuchReadings_22 : decode cX4_bySuchReadings 22 = .ok (.istore 4, 2) := by decide +kernel
theorem dX4_bySuchReadings_24 : decode cX4_bySuchReadings 24 = .ok (.iconst 0, 1) := by decide +kernel
theorem dX4_bySuchReadings_25 : decode cX4_bySuchReadings 25 = .ok (.istore 5, 2) := by decide +kernel
theorem dX4_bySuchReadings_27 : decode cX4_bySuchReadings 27 = .ok (.iload 5, 2) := by decide +kernel
theorem dX4_bySuchReadings_29 : decode cX4_bySuchReadings 29 = .ok (.iload_n 3, 1) := by decide +kernel
theorem dX4_bySuchReadings_30 : decode cX4_bySuchReadings 30 = .ok (.if_icmp .ge 30, 3) := by decide +kernel
theorem dX4_bySuchReadings_33 : decode cX4_bySuchReadings 33 = .ok (.aload_n 1, 1) := by decide +kernel
theorem dX4_bySuchReadings_34 : decode cX4_bySuchReadings 34 = .ok (.iload_n 2, 1) := by decide +kernel
theorem dX4_bySuchReadings_35 : decode cX4_bySuchReadings 35 = .ok (.iload 5, 2) := by decide +kernel
theorem dX4_bySuchReadings_37 : decode cX4_bySuchReadings 37 = .ok (.iastore, 1) := by decide +kernel
theorem dX4_bySuchReadings_38 : decode cX4_bySuchReadings 38 = .ok (.aload_n 0, 1) := by decide +kernel
theorem dX4_bySuchReadings_39 : decode cX4_bySuchReadings 39 = .ok (.invokevirtual 251, 3) := by decide +kernel
theorem dX4_bySuchReadings_42 : decode cX4_bySuchReadings 42 = .ok (.ifCond .eq 12, 3) := by decide +kernel
theorem dX4_bySuchReadings_45 : decode cX4_bySuchReadings 45 = .ok (.iload 4, 2) := by decide +kernel
theorem dX4_bySuchReadings_47 : decode cX4_bySuchReadings 47 = .ok (.iconst 1, 1) := by decide +kernel
theorem dX4_bySuchReadings_48 : decode cX4_bySuchReadings 48 = .ok (.iload 5, 2) := by decide +kernel
theorem dX4_bySuchReadings_50 : decode cX4_bySuchReadings 50 = .ok (.ishl, 1) := by decide +kernel
theorem dX4_bySuchReadings_51 : decode cX4_bySuchReadings 51 = .ok (.ior, 1) := by decide +kernel
theorem dX4_bySuchReadings_52 : decode cX4_bySuchReadings 52 = .ok (.istore 4, 2) := by decide +kernel
theorem dX4_bySuchReadings_54 : decode cX4_bySuchReadings 54 = .ok (.iinc 5 1, 3) := by decide +kernel
theorem dX4_bySuchReadings_57 : decode cX4_bySuchReadings 57 = .ok (.goto (-30), 3) := by decide +kernel
theorem dX4_bySuchReadings_60 : decode cX4_bySuchReadings 60 = .ok (.iload 4, 2) := by decide +kernel
theorem dX4_bySuchReadings_62 : decode cX4_bySuchReadings 62 = .ok (.ireturn, 1) := by decide +kernel
theorem dX4_readingsHoldInDraft_0 : decode cX4_readingsHoldInDraft 0 = .ok (.iconst 0, 1) := by decide +kernel
theorem dX4_readingsHoldInDraft_1 : decode cX4_readingsHoldInDraft 1 = .ok (.istore_n 1, 1) := by decide +kernel
theorem dX4_readingsHoldInDraft_2 : decode cX4_readingsHoldInDraft 2 = .ok (.iload_n 1, 1) := by decide +kernel
theorem dX4_readingsHoldInDraft_3 : decode cX4_readingsHoldInDraft 3 = .ok (.aload_n 0, 1) := by decide +kernel
theorem dX4_readingsHoldInDraft_4 : decode cX4_readingsHoldInDraft 4 = .ok (.getfield 86, 3) := by decide +kernel
theorem dX4_readingsHoldInDraft_7 : decode cX4_readingsHoldInDraft 7 = .ok (.if_icmp .ge 33, 3) := by decide +kernel
theorem dX4_readingsHoldInDraft_10 : decode cX4_readingsHoldInDraft 10 = .ok (.aload_n 0, 1) := by decide +kernel
theorem dX4_readingsHoldInDraft_11 : decode cX4_readingsHoldInDraft 11 = .ok (.getfield 18, 3) := by decide +kernel
theorem dX4_readingsHoldInDraft_14 : decode cX4_readingsHoldInDraft 14 = .ok (.aload_n 0, 1) := by decide +kernel
theorem dX4_readingsHoldInDraft_15 : decode cX4_readingsHoldInDraft 15 = .ok (.getfield 35, 3) := by decide +kernel
theorem dX4_readingsHoldInDraft_18 : decode cX4_readingsHoldInDraft 18 = .ok (.iload_n 1, 1) := by decide +kernel
theorem dX4_readingsHoldInDraft_19 : decode cX4_readingsHoldInDraft 19 = .ok (.iaload, 1) := by decide +kernel
theorem dX4_readingsHoldInDraft_20 : decode cX4_readingsHoldInDraft 20 = .ok (.invokevirtual 116, 3) := by decide +kernel
theorem dX4_readingsHoldInDraft_23 : decode cX4_readingsHoldInDraft 23 = .ok (.aload_n 0, 1) := by decide +kernel
theorem dX4_readingsHoldInDraft_24 : decode cX4_readingsHoldInDraft 24 = .ok (.getfield 39, 3) := by decide +kernel
theorem dX4_readingsHoldInDraft_27 : decode cX4_readingsHoldInDraft 27 = .ok (.iload_n 1, 1) := by decide +kernel
theorem dX4_readingsHoldInDraft_28 : decode cX4_readingsHoldInDraft 28 = .ok (.iaload, 1) := by decide +kernel
theorem dX4_readingsHoldInDraft_29 : decode cX4_readingsHoldInDraft 29 = .ok (.if_icmp .eq 5, 3) := by decide +kernel
theorem dX4_readingsHoldInDraft_32 : decode cX4_readingsHoldInDraft 32 = .ok (.iconst 0, 1) := by decide +kernel
theorem dX4_readingsHoldInDraft_33 : decode cX4_readingsHoldInDraft 33 = .ok (.ireturn, 1) := by decide +kernel
theorem dX4_readingsHoldInDraft_34 : decode cX4_readingsHoldInDraft 34 = .ok (.iinc 1 1, 3) := by decide +kernel
theorem dX4_readingsHoldInDraft_37 : decode cX4_readingsHoldInDraft 37 = .ok (.goto (-35), 3) := by decide +kernel
theorem dX4_readingsHoldInDraft_40 : decode cX4_readingsHoldInDraft 40 = .ok (.iconst 1, 1) := by decide +kernel
theorem dX4_readingsHoldInDraft_41 : decode cX4_readingsHoldInDraft 41 = .ok (.ireturn, 1) := by decide +kernel
theorem dX4_smellsByWhichItComes_0 : decode cX4_smellsByWhichItComes 0 = .ok (.aload_n 0, 1) := by decide +kernel
theorem dX4_smellsByWhichItComes_1 : decode cX4_smellsByWhichItComes 1 = .ok (.getfield 18, 3) := by decide +kernel
theorem dX4_smellsByWhichItComes_4 : decode cX4_smellsByWhichItComes 4 = .ok (.aload_n 0, 1) := by decide +kernel
theorem dX4_smellsByWhichItComes_5 : decode cX4_smellsByWhichItComes 5 = .ok (.getfield 12, 3) := by decide +kernel
theorem dX4_smellsByWhichItComes_8 : decode cX4_smellsByWhichItComes 8 = .ok (.invokevirtual 156, 3) := by decide +kernel
theorem dX4_smellsByWhichItComes_11 : decode cX4_smellsByWhichItComes 11 = .ok (.iconst 0, 1) := by decide +kernel
theorem dX4_smellsByWhichItComes_12 : decode cX4_smellsByWhichItComes 12 = .ok (.istore_n 2, 1) := by decide +kernel
theorem dX4_smellsByWhichItComes_13 : decode cX4_smellsByWhichItComes 13 = .ok (.iconst 0, 1) := by decide +kernel
theorem dX4_smellsByWhichItComes_14 : decode cX4_smellsByWhichItComes 14 = .ok (.istore_n 3, 1) := by decide +kernel
theorem dX4_smellsByWhichItComes_15 : decode cX4_smellsByWhichItComes 15 = .ok (.iload_n 3, 1) := by decide +kernel
theorem dX4_smellsByWhichItComes_16 : decode cX4_smellsByWhichItComes 16 = .ok (.bipush 8, 2) := by decide +kernel
theorem dX4_smellsByWhichItComes_18 : decode cX4_smellsByWhichItComes 18 = .ok (.if_icmp .ge 34, 3) := by decide +kernel
theorem dX4_smellsByWhichItComes_21 : decode cX4_smellsByWhichItComes 21 = .ok (.aload_n 0, 1) := by decide +kernel
theorem dX4_smellsByWhichItComes_22 : decode cX4_smellsByWhichItComes 22 = .ok (.getfield 18, 3) := by decide +kernel
theorem dX4_smellsByWhichItComes_25 : decode cX4_smellsByWhichItComes 25 = .ok (.getfield 101, 3) := by decide +kernel
theorem dX4_smellsByWhichItComes_28 : decode cX4_smellsByWhichItComes 28 = .ok (.iload_n 1, 1) := by decide +kernel
theorem dX4_smellsByWhichItComes_29 : decode cX4_smellsByWhichItComes 29 = .ok (.iload_n 3, 1) := by decide +kernel
theorem dX4_smellsByWhichItComes_30 : decode cX4_smellsByWhichItComes 30 = .ok (.iastore, 1) := by decide +kernel
theorem dX4_smellsByWhichItComes_31 : decode cX4_smellsByWhichItComes 31 = .ok (.aload_n 0, 1) := by decide +kernel
theorem dX4_smellsByWhichItComes_32 : decode cX4_smellsByWhichItComes 32 = .ok (.getfield 18, 3) := by decide +kernel
theorem dX4_smellsByWhichItComes_35 : decode cX4_smellsByWhichItComes 35 = .ok (.iload_n 1, 1) := by decide +kernel
theorem dX4_smellsByWhichItComes_36 : decode cX4_smellsByWhichItComes 36 = .ok (.invokevirtual 116, 3) := by decide +kernel
theorem dX4_smellsByWhichItComes_39 : decode cX4_smellsByWhichItComes 39 = .ok (.iload_n 1, 1) := by decide +kernel
theorem dX4_smellsByWhichItComes_40 : decode cX4_smellsByWhichItComes 40 = .ok (.if_icmp .ne 6, 3) := by decide +kernel
theorem dX4_smellsByWhichItComes_43 : decode cX4_smellsByWhichItComes 43 = .ok (.iinc 2 1, 3) := by decide +kernel
theorem dX4_smellsByWhichItComes_46 : decode cX4_smellsByWhichItComes 46 = .ok (.iinc 3 1, 3) := by decide +kernel
theorem dX4_smellsByWhichItComes_49 : decode cX4_smellsByWhichItComes 49 = .ok (.goto (-34), 3) := by decide +kernel
theorem dX4_smellsByWhichItComes_52 : decode cX4_smellsByWhichItComes 52 = .ok (.iload_n 2, 1) := by decide +kernel
theorem dX4_smellsByWhichItComes_53 : decode cX4_smellsByWhichItComes 53 = .ok (.ireturn, 1) := by decide +kernel
theorem dX4_begins_0 : decode cX4_begins 0 = .ok (.aload_n 0, 1) := by decide +kernel
theorem dX4_begins_1 : decode cX4_begins 1 = .ok (.bipush 31, 2) := by decide +kernel
theorem dX4_begins_3 : decode cX4_begins 3 = .ok (.aload_n 0, 1) := by decide +kernel
theorem dX4_begins_4 : decode cX4_begins 4 = .ok (.getfield 215, 3) := by decide +kernel
theorem dX4_begins_7 : decode cX4_begins 7 = .ok (.imul, 1) := by decide +kernel
theorem dX4_begins_8 : decode cX4_begins 8 = .ok (.iload_n 1, 1) := by decide +kernel
theorem dX4_begins_9 : decode cX4_begins 9 = .ok (.iadd, 1) := by decide +kernel
theorem dX4_begins_10 : decode cX4_begins 10 = .ok (.putfield 215, 3) := by decide +kernel
theorem dX4_begins_13 : decode cX4_begins 13 = .ok (.return_, 1) := by decide +kernel
theorem dX4_toldByPlain_0 : decode cX4_toldByPlain 0 = .ok (.aload_n 0, 1) := by decide +kernel
theorem dX4_toldByPlain_1 : decode cX4_toldByPlain 1 = .ok (.iconst 1, 1) := by decide +kernel
theorem dX4_toldByPlain_2 : decode cX4_toldByPlain 2 = .ok (.invokevirtual 211, 3) := by decide +kernel
theorem dX4_toldByPlain_5 : decode cX4_toldByPlain 5 = .ok (.aload_n 0, 1) := by decide +kernel
theorem dX4_toldByPlain_6 : decode cX4_toldByPlain 6 = .ok (.getfield 12, 3) := by decide +kernel
theorem dX4_toldByPlain_9 : decode cX4_toldByPlain 9 = .ok (.getfield 101, 3) := by decide +kernel
theorem dX4_toldByPlain_12 : decode cX4_toldByPlain 12 = .ok (.iload_n 1, 1) := by decide +kernel
theorem dX4_toldByPlain_13 : decode cX4_toldByPlain 13 = .ok (.iaload, 1) := by decide +kernel
theorem dX4_toldByPlain_14 : decode cX4_toldByPlain 14 = .ok (.ireturn, 1) := by decide +kernel
theorem dX4_toldByRank_0 : decode cX4_toldByRank 0 = .ok (.aload_n 0, 1) := by decide +kernel
theorem dX4_toldByRank_1 : decode cX4_toldByRank 1 = .ok (.iconst 2, 1) := by decide +kernel
theorem dX4_toldByRank_2 : decode cX4_toldByRank 2 = .ok (.invokevirtual 211, 3) := by decide +kernel
theorem dX4_toldByRank_5 : decode cX4_toldByRank 5 = .ok (.aload_n 0, 1) := by decide +kernel
theorem dX4_toldByRank_6 : decode cX4_toldByRank 6 = .ok (.iload_n 1, 1) := by decide +kernel
theorem dX4_toldByRank_7 : decode cX4_toldByRank 7 = .ok (.invokevirtual 208, 3) := by decide +kernel
theorem dX4_toldByRank_10 : decode cX4_toldByRank 10 = .ok (.bipush 100, 2) := by decide +kernel
theorem dX4_toldByRank_12 : decode cX4_toldByRank 12 = .ok (.iadd, 1) := by decide +kernel
theorem dX4_toldByRank_13 : decode cX4_toldByRank 13 = .ok (.ireturn, 1) := by decide +kernel
theorem dX4_toldByReeking_0 : decode cX4_toldByReeking 0 = .ok (.aload_n 0, 1) := by decide +kernel
theorem dX4_toldByReeking_1 : decode cX4_toldByReeking 1 = .ok (.iconst 3, 1) := by decide +kernel
theorem dX4_toldByReeking_2 : decode cX4_toldByReeking 2 = .ok (.invokevirtual 211, 3) := by decide +kernel
theorem dX4_toldByReeking_5 : decode cX4_toldByReeking 5 = .ok (.aload_n 0, 1) := by decide +kernel
theorem dX4_toldByReeking_6 : decode cX4_toldByReeking 6 = .ok (.iload_n 1, 1) := by decide +kernel
theorem dX4_toldByReeking_7 : decode cX4_toldByReeking 7 = .ok (.invokevirtual 205, 3) := by decide +kernel
theorem dX4_toldByReeking_10 : decode cX4_toldByReeking 10 = .ok (.istore_n 2, 1) := by decide +kernel
theorem dX4_toldByReeking_11 : decode cX4_toldByReeking 11 = .ok (.iload_n 2, 1) := by decide +kernel
theorem dX4_toldByReeking_12 : decode cX4_toldByReeking 12 = .ok (.aload_n 0, 1) := by decide +kernel
theorem dX4_toldByReeking_13 : decode cX4_toldByReeking 13 = .ok (.iload_n 1, 1) := by decide +kernel
theorem dX4_toldByReeking_14 : decode cX4_toldByReeking 14 = .ok (.invokevirtual 208, 3) := by decide +kernel
theorem dX4_toldByReeking_17 : decode cX4_toldByReeking 17 = .ok (.iadd, 1) := by decide +kernel
theorem dX4_toldByReeking_18 : decode cX4_toldByReeking 18 = .ok (.ireturn, 1) := by decide +kernel
end
section
theorem dX5_init_0 : decode cX5_init 0 = .ok (.aload_n 0, 1) := by decide +kernel
theorem dX5_init_1 : decode cX5_init 1 = .ok (.invokespecial 1, 3) := by decide +kernel
theorem dX5_init_4 : decode cX5_init 4 = .ok (.aload_n 0, 1) := by decide +kernel
theorem dX5_init_5 : decode cX5_init 5 = .ok (.bipush 6, 2) := by decide +kernel
theorem dX5_init_7 : decode cX5_init 7 = .ok (.newarray .int, 2) := by decide +kernel
theorem dX5_init_9 : decode cX5_init 9 = .ok (.putfield 7, 3) := by decide +kernel
theorem dX5_init_12 : decode cX5_init 12 = .ok (.aload_n 0, 1) := by decide +kernel
theorem dX5_init_13 : decode cX5_init 13 = .ok (.bipush 6, 2) := by decide +kernel
theorem dX5_init_15 : decode cX5_init 15 = .ok (.newarray .int, 2) := by decide +kernel
theorem dX5_init_17 : decode cX5_init 17 = .ok (.putfield 13, 3) := by decide +kernel
theorem dX5_init_20 : decode cX5_init 20 = .ok (.aload_n 0, 1) := by decide +kernel
theorem dX5_init_21 : decode cX5_init 21 = .ok (.bipush 6, 2) := by decide +kernel
theorem dX5_init_23 : decode cX5_init 23 = .ok (.newarray .int, 2) := by decide +kernel
theorem dX5_init_25 : decode cX5_init 25 = .ok (.putfield 16, 3) := by decide +kernel
theorem dX5_init_28 : decode cX5_init 28 = .ok (.aload_n 0, 1) := by decide +kernel
theorem dX5_init_29 : decode cX5_init 29 = .ok (.bipush 6, 2) := by decide +kernel
theorem dX5_init_31 : decode cX5_init 31 = .ok (.newarray .int, 2) := by decide +kernel
theorem dX5_init_33 : decode cX5_init 33 = .ok (.putfield 19, 3) := by decide +kernel
theorem dX5_init_36 : decode cX5_init 36 = .ok (.aload_n 0, 1) := by decide +kernel
theorem dX5_init_37 : decode cX5_init 37 = .ok (.bipush 6, 2) := by decide +kernel
theorem dX5_init_39 : decode cX5_init 39 = .ok (.newarray .int, 2) := by decide +kernel
theorem dX5_init_41 : decode cX5_init 41 = .ok (.putfield 22, 3) := by decide +kernel
theorem dX5_init_44 : decode cX5_init 44 = .ok (.aload_n 0, 1) := by decide +kernel
theorem dX5_init_45 : decode cX5_init 45 = .ok (.bipush 6, 2) := by decide +kernel
theorem dX5_init_47 : decode cX5_init 47 = .ok (.newarray .int, 2) := by decide +kernel
theorem dX5_init_49 : decode cX5_init 49 = .ok (.putfield 25, 3) := by decide +kernel
theorem dX5_init_52 : decode cX5_init 52 = .ok (.aload_n 0, 1) := by decide +kernel
theorem dX5_init_53 : decode cX5_init 53 = .ok (.bipush 6, 2) := by decide +kernel
theorem dX5_init_55 : decode cX5_init 55 = .ok (.newarray .int, 2) := by decide +kernel
theorem dX5_init_57 : decode cX5_init 57 = .ok (.putfield 28, 3) := by decide +kernel
theorem dX5_init_60 : decode cX5_init 60 = .ok (.aload_n 0, 1) := by decide +kernel
theorem dX5_init_61 : decode cX5_init 61 = .ok (.bipush 6, 2) := by decide +kernel
theorem dX5_init_63 : decode cX5_init 63 = .ok (.newarray .int, 2) := by decide +kernel
theorem dX5_init_65 : decode cX5_init 65 = .ok (.putfield 31, 3) := by decide +kernel
theorem dX5_init_68 : decode cX5_init 68 = .ok (.aload_n 0, 1) := by decide +kernel
theorem dX5_init_69 : decode cX5_init 69 = .ok (.bipush 6, 2) := by decide +kernel
theorem dX5_init_71 : decode cX5_init 71 = .ok (.newarray .int, 2) := by decide +kernel
theorem dX5_init_73 : decode cX5_init 73 = .ok (.putfield 34, 3) := by decide +kernel
theorem dX5_init_76 : decode cX5_init 76 = .ok (.aload_n 0, 1) := by decide +kernel
theorem dX5_init_77 : decode cX5_init 77 = .ok (.bipush 6, 2) := by decide +kernel
theorem dX5_init_79 : decode cX5_init 79 = .ok (.newarray .int, 2) := by decide +kernel
theorem dX5_init_81 : decode cX5_init 81 = .ok (.putfield 37, 3) := by decide +kernel
theorem dX5_init_84 : decode cX5_init 84 = .ok (.aload_n 0, 1) := by decide +kernel
theorem dX5_init_85 : decode cX5_init 85 = .ok (.bipush 6, 2) := by decide +kernel
theorem dX5_init_87 : decode cX5_init 87 = .ok (.newarray .int, 2) := by decide +kernel
theorem dX5_init_89 : decode cX5_init 89 = .ok (.putfield 40, 3) := by decide +kernel
theorem dX5_init_92 : decode cX5_init 92 = .ok (.aload_n 0, 1) := by decide +kernel
theorem dX5_init_93 : decode cX5_init 93 = .ok (.bipush 6, 2) := by decide +kernel
theorem dX5_init_95 : decode cX5_init 95 = .ok (.newarray .int, 2) := by decide +kernel
theorem dX5_init_97 : decode cX5_init 97 = .ok (.putfield 43, 3) := by decide +kernel
theorem dX5_init_100 : decode cX5_init 100 = .ok (.aload_n 0, 1) := by decide +kernel
theorem dX5_init_101 : decode cX5_init 101 = .ok (.bipush 6, 2) := by decide +kernel
theorem dX5_init_103 : decode cX5_init 103 = .ok (.newarray .int, 2) := by decide +kernel
theorem dX5_init_105 : decode cX5_init 105 = .ok (.putfield 46, 3) := by decide +kernel
theorem dX5_init_108 : decode cX5_init 108 = .ok (.aload_n 0, 1) := by decide +kernel
theorem dX5_init_109 : decode cX5_init 109 = .ok (.bipush 64, 2) := by decide +kernel
theorem dX5_init_111 : decode cX5_init 111 = .ok (.newarray .int, 2) := by decide +kernel
theorem dX5_init_113 : decode cX5_init 113 = .ok (.putfield 49, 3) := by decide +kernel
theorem dX5_init_116 : decode cX5_init 116 = .ok (.aload_n 0, 1) := by decide +kernel
theorem dX5_init_117 : decode cX5_init 117 = .ok (.bipush 8, 2) := by decide +kernel
theorem dX5_init_119 : decode cX5_init 119 = .ok (.newarray .int, 2) := by decide +kernel
theorem dX5_init_121 : decode cX5_init 121 = .ok (.putfield 52, 3) := by decide +kernel
theorem dX5_init_124 : decode cX5_init 124 = .ok (.aload_n 0, 1) := by decide +kernel
theorem dX5_init_125 : decode cX5_init 125 = .ok (.bipush 8, 2) := by decide +kernel
theorem dX5_init_127 : decode cX5_init 127 = .ok (.newarray .int, 2) := by decide +kernel
theorem dX5_init_129 : decode cX5_init 129 = .ok (.putfield 55, 3) := by decide +kernel
theorem dX5_init_132 : decode cX5_init 132 = .ok (.aload_n 0, 1) := by decide +kernel
theorem dX5_init_133 : decode cX5_init 133 = .ok (.iconst 4, 1) := by decide +kernel
theorem dX5_init_134 : decode cX5_init 134 = .ok (.newarray .int, 2) := by decide +kernel
theorem dX5_init_136 : decode cX5_init 136 = .ok (.putfield 58, 3) := by decide +kernel
theorem dX5_init_139 : decode cX5_init 139 = .ok (.aload_n 0, 1) := by decide +kernel
theorem dX5_init_140 : decode cX5_init 140 = .ok (.iconst 4, 1) := by decide +kernel
theorem dX5_init_141 : decode cX5_init 141 = .ok (.newarray .int, 2) := by decide +kernel
theorem dX5_init_143 : decode cX5_init 143 = .ok (.putfield 61, 3) := by decide +kernel
theorem dX5_init_146 : decode cX5_init 146 = .ok (.aload_n 0, 1) := by decide +kernel
theorem dX5_init_147 : decode cX5_init 147 = .ok (.sipush 240, 3) := by decide +kernel
theorem dX5_init_150 : decode cX5_init 150 = .ok (.newarray .int, 2) := by decide +kernel
theorem dX5_init_152 : decode cX5_init 152 = .ok (.putfield 64, 3) := by decide +kernel
theorem dX5_init_155 : decode cX5_init 155 = .ok (.aload_n 0, 1) := by decide +kernel
theorem dX5_init_156 : decode cX5_init 156 = .ok (.bipush 60, 2) := by decide +kernel
theorem dX5_init_158 : decode cX5_init 158 = .ok (.newarray .int, 2) := by decide +kernel
theorem dX5_init_160 : decode cX5_init 160 = .ok (.putfield 67, 3) := by decide +kernel
theorem dX5_init_163 : decode cX5_init 163 = .ok (.iconst 0, 1) := by decide +kernel
theorem dX5_init_164 : decode cX5_init 164 = .ok (.istore_n 1, 1) := by decide +kernel
theorem dX5_init_165 : decode cX5_init 165 = .ok (.iload_n 1, 1) := by decide +kernel
theorem dX5_init_166 : decode cX5_init 166 = .ok (.iconst 4, 1) := by decide +kernel
theorem dX5_init_167 : decode cX5_init 167 = .ok (.if_icmp .ge 16, 3) := by decide +kernel
theorem dX5_init_170 : decode cX5_init 170 = .ok (.aload_n 0, 1) := by decide +kernel
theorem dX5_init_171 : decode cX5_init 171 = .ok (.getfield 58, 3) := by decide +kernel
theorem dX5_init_174 : decode cX5_init 174 = .ok (.iload_n 1, 1) := by decide +kernel
theorem dX5_init_175 : decode cX5_init 175 = .ok (.iconst (-1), 1) := by decide +kernel
theorem dX5_init_176 : decode cX5_init 176 = .ok (.iastore, 1) := by decide +kernel
theorem dX5_init_177 : decode cX5_init 177 = .ok (.iinc 1 1, 3) := by decide +kernel
theorem dX5_init_180 : decode cX5_init 180 = .ok (.goto (-15), 3) := by decide +kernel
theorem dX5_init_183 : decode cX5_init 183 = .ok (.return_, 1) := by decide +kernel
theorem dX5_in_0 : decode cX5_in 0 = .ok (.lload_n 0, 1) := by decide +kernel
theorem dX5_in_1 : decode cX5_in 1 = .ok (.lload_n 2, 1) := by decide +kernel
theorem dX5_in_2 : decode cX5_in 2 = .ok (.lcmp, 1) := by decide +kernel
theorem dX5_in_3 : decode cX5_in 3 = .ok (.ifCond .lt 14, 3) := by decide +kernel
theorem dX5_in_6 : decode cX5_in 6 = .ok (.lload_n 0, 1) := by decide +kernel
theorem dX5_in_7 : decode cX5_in 7 = .ok (.lload 4, 2) := by decide +kernel
theorem dX5_in_9 : decode cX5_in 9 = .ok (.lcmp, 1) := by decide +kernel
theorem dX5_in_10 : decode cX5_in 10 = .ok (.ifCond .gt 7, 3) := by decide +kernel
theorem dX5_in_13 : decode cX5_in 13 = .ok (.iconst 1, 1) := by decide +kernel
theorem dX5_in_14 : decode cX5_in 14 = .ok (.goto 4, 3) := by decide +kernel
theorem dX5_in_17 : decode cX5_in 17 = .ok (.iconst 0, 1) := by decide +kernel
theorem dX5_in_18 : decode cX5_in 18 = .ok (.ireturn, 1) := by decide +kernel
theorem dX5_lost_0 : decode cX5_lost 0 = .ok (.ldc2_w 70, 3) := by decide +kernel
theorem dX5_lost_3 : decode cX5_lost 3 = .ok (.lreturn, 1) := by decide +kernel
theorem dX5_isIn_0 : decode cX5_isIn 0 = .ok (.iload_n 0, 1) := by decide +kernel
theorem dX5_isIn_1 : decode cX5_isIn 1 = .ok (.iload_n 1, 1) := by decide +kernel
theorem dX5_isIn_2 : decode cX5_isIn 2 = .ok (.ishr, 1) := by decide +kernel
theorem dX5_isIn_3 : decode cX5_isIn 3 = .ok (.iconst 1, 1) := by decide +kernel
theorem dX5_isIn_4 : decode cX5_isIn 4 = .ok (.iand, 1) := by decide +kernel
theorem dX5_isIn_5 : decode cX5_isIn 5 = .ok (.iconst 1, 1) := by decide +kernel
theorem dX5_isIn_6 : decode cX5_isIn 6 = .ok (.if_icmp .ne 7, 3) := by decide +kernel
theorem dX5_isIn_9 : decode cX5_isIn 9 = .ok (.iconst 1, 1) := by decide +kernel
theorem dX5_isIn_10 : decode cX5_isIn 10 = .ok (.goto 4, 3) := by decide +kernel
theorem dX5_isIn_13 : decode cX5_isIn 13 = .ok (.iconst 0, 1) := by decide +kernel
theorem dX5_isIn_14 : decode cX5_isIn 14 = .ok (.ireturn, 1) := by decide +kernel
theorem dX5_bits_0 : decode cX5_bits 0 = .ok (.iconst 0, 1) := by decide +kernel
theorem dX5_bits_1 : decode cX5_bits 1 = .ok (.istore_n 1, 1) := by decide +kernel
theorem dX5_bits_2 : decode cX5_bits 2 = .ok (.iload_n 0, 1) := by decide +kernel
theorem dX5_bits_3 : decode cX5_bits 3 = .ok (.istore_n 2, 1) := by decide +kernel
theorem dX5_bits_4 : decode cX5_bits 4 = .ok (.iload_n 2, 1) := by decide +kernel
theorem dX5_bits_5 : decode cX5_bits 5 = .ok (.ifCond .le 16, 3) := by decide +kernel
theorem dX5_bits_8 : decode cX5_bits 8 = .ok (.iload_n 1, 1) := by decide +kernel
theorem dX5_bits_9 : decode cX5_bits 9 = .ok (.iload_n 2, 1) := by decide +kernel
theorem dX5_bits_10 : decode cX5_bits 10 = .ok (.iconst 1, 1) := by decide +kernel
theorem dX5_bits_11 : decode cX5_bits 11 = .ok (.iand, 1) := by decide +kernel
theorem dX5_bits_12 : decode cX5_bits 12 = .ok (.iadd, 1) := by decide +kernel
theorem dX5_bits_13 : decode cX5_bits 13 = .ok (.istore_n 1, 1) := by decide +kernel
theorem dX5_bits_14 : decode cX5_bits 14 = .ok (.iload_n 2, 1) := by decide +kernel
theorem dX5_bits_15 : decode cX5_bits 15 = .ok (.iconst 1, 1) := by decide +kernel
theorem dX5_bits_16 : decode cX5_bits 16 = .ok (.ishr, 1) := by decide +kernel
theorem dX5_bits_17 : decode cX5_bits 17 = .ok (.istore_n 2, 1) := by decide +kernel
theorem dX5_bits_18 : decode cX5_bits 18 = .ok (.goto (-14), 3) := by decide +kernel
theorem dX5_bits_21 : decode cX5_bits 21 = .ok (.iload_n 1, 1) := by decide +kernel
theorem dX5_bits_22 : decode cX5_bits 22 = .ok (.ireturn, 1) := by decide +kernel
theorem dX5_apart_0 : decode cX5_apart 0 = .ok (.iload_n 0, 1) := by decide +kernel
theorem dX5_apart_1 : decode cX5_apart 1 = .ok (.iload_n 1, 1) := by decide +kernel
theorem dX5_apart_2 : decode cX5_apart 2 = .ok (.if_icmp .le 9, 3) := by decide +kernel
theorem dX5_apart_5 : decode cX5_apart 5 = .ok (.iload_n 0, 1) := by decide +kernel
theorem dX5_apart_6 : decode cX5_apart 6 = .ok (.iload_n 1, 1) := by decide +kernel
theorem dX5_apart_7 : decode cX5_apart 7 = .ok (.isub, 1) := by decide +kernel
theorem dX5_apart_8 : decode cX5_apart 8 = .ok (.goto 6, 3) := by decide +kernel
theorem dX5_apart_11 : decode cX5_apart 11 = .ok (.iload_n 1, 1) := by decide +kernel
theorem dX5_apart_12 : decode cX5_apart 12 = .ok (.iload_n 0, 1) := by decide +kernel
theorem dX5_apart_13 : decode cX5_apart 13 = .ok (.isub, 1) := by decide +kernel
theorem dX5_apart_14 : decode cX5_apart 14 = .ok (.ireturn, 1) := by decide +kernel
theorem dX5_share_0 : decode cX5_share 0 = .ok (.lload_n 0, 1) := by decide +kernel
theorem dX5_share_1 : decode cX5_share 1 = .ok (.lstore 5, 2) := by decide +kernel
theorem dX5_share_3 : decode cX5_share 3 = .ok (.lload_n 2, 1) := by decide +kernel
theorem dX5_share_4 : decode cX5_share 4 = .ok (.lstore 7, 2) := by decide +kernel
theorem dX5_share_6 : decode cX5_share 6 = .ok (.lload 7, 2) := by decide +kernel
theorem dX5_share_8 : decode cX5_share 8 = .ok (.lconst 0, 1) := by decide +kernel
theorem dX5_share_9 : decode cX5_share 9 = .ok (.lcmp, 1) := by decide +kernel
theorem dX5_share_10 : decode cX5_share 10 = .ok (.ifCond .eq 21, 3) := by decide +kernel
theorem dX5_share_13 : decode cX5_share 13 = .ok (.lload 5, 2) := by decide +kernel
theorem dX5_share_15 : decode cX5_share 15 = .ok (.lload 7, 2) := by decide +kernel
theorem dX5_share_17 : decode cX5_share 17 = .ok (.lrem, 1) := by decide +kernel
theorem dX5_share_18 : decode cX5_share 18 = .ok (.lstore 9, 2) := by decide +kernel
theorem dX5_share_20 : decode cX5_share 20 = .ok (.lload 7, 2) := by decide +kernel
theorem dX5_share_22 : decode cX5_share 22 = .ok (.lstore 5, 2) := by decide +kernel
theorem dX5_share_24 : decode cX5_share 24 = .ok (.lload 9, 2) := by decide +kernel
theorem dX5_share_26 : decode cX5_share 26 = .ok (.lstore 7, 2) := by decide +kernel
theorem dX5_share_28 : decode cX5_share 28 = .ok (.goto (-22), 3) := by decide +kernel
theorem dX5_share_31 : decode cX5_share 31 = .ok (.iload 4, 2) := by decide +kernel
theorem dX5_share_33 : decode cX5_share 33 = .ok (.ifCond .ne 7, 3) := by decide +kernel
theorem dX5_share_36 : decode cX5_share 36 = .ok (.lload_n 0, 1) := by decide +kernel
theorem dX5_share_37 : decode cX5_share 37 = .ok (.goto 4, 3) := by decide +kernel
theorem dX5_share_40 : decode cX5_share 40 = .ok (.lload_n 2, 1) := by decide +kernel
theorem dX5_share_41 : decode cX5_share 41 = .ok (.lload 5, 2) := by decide +kernel
theorem dX5_share_43 : decode cX5_share 43 = .ok (.ldiv, 1) := by decide +kernel
theorem dX5_share_44 : decode cX5_share 44 = .ok (.lreturn, 1) := by decide +kernel
theorem dX5_refused_0 : decode cX5_refused 0 = .ok (.aload_n 0, 1) := by decide +kernel
theorem dX5_refused_1 : decode cX5_refused 1 = .ok (.iconst 0, 1) := by decide +kernel
theorem dX5_refused_2 : decode cX5_refused 2 = .ok (.putfield 72, 3) := by decide +kernel
theorem dX5_refused_5 : decode cX5_refused 5 = .ok (.iload_n 1, 1) := by decide +kernel
theorem dX5_refused_6 : decode cX5_refused 6 = .ok (.ireturn, 1) := by decide +kernel
theorem dX5_failed_0 : decode cX5_failed 0 = .ok (.aload_n 0, 1) := by decide +kernel
theorem dX5_failed_1 : decode cX5_failed 1 = .ok (.iload_n 1, 1) := by decide +kernel
theorem dX5_failed_2 : decode cX5_failed 2 = .ok (.putfield 72, 3) := by decide +kernel
theorem dX5_failed_5 : decode cX5_failed 5 = .ok (.bipush (-10), 2) := by decide +kernel
theorem dX5_failed_7 : decode cX5_failed 7 = .ok (.iload_n 1, 1) := by decide +kernel
theorem dX5_failed_8 : decode cX5_failed 8 = .ok (.isub, 1) := by decide +kernel
theorem dX5_failed_9 : decode cX5_failed 9 = .ok (.ireturn, 1) := by decide +kernel
theorem dX5_failedLong_0 : decode cX5_failedLong 0 = .ok (.aload_n 0, 1) := by decide +kernel
theorem dX5_failedLong_1 : decode cX5_failedLong 1 = .ok (.iload_n 1, 1) := by decide +kernel
theorem dX5_failedLong_2 : decode cX5_failedLong 2 = .ok (.putfield 72, 3) := by decide +kernel
theorem dX5_failedLong_5 : decode cX5_failedLong 5 = .ok (.invokestatic 76, 3) := by decide +kernel
theorem dX5_failedLong_8 : decode cX5_failedLong 8 = .ok (.lreturn, 1) := by decide +kernel
theorem dX5_noPerson_0 : decode cX5_noPerson 0 = .ok (.iload_n 1, 1) := by decide +kernel
theorem dX5_noPerson_1 : decode cX5_noPerson 1 = .ok (.i2l, 1) := by decide +kernel
theorem dX5_noPerson_2 : decode cX5_noPerson 2 = .ok (.lconst 0, 1) := by decide +kernel
theorem dX5_noPerson_3 : decode cX5_noPerson 3 = .ok (.aload_n 0, 1) := by decide +kernel
theorem dX5_noPerson_4 : decode cX5_noPerson 4 = .ok (.getfield 80, 3) := by decide +kernel
theorem dX5_noPerson_7 : decode cX5_noPerson 7 = .ok (.i2l, 1) := by decide +kernel
theorem dX5_noPerson_8 : decode cX5_noPerson 8 = .ok (.lconst 1, 1) := by decide +kernel
theorem dX5_noPerson_9 : decode cX5_noPerson 9 = .ok (.lsub, 1) := by decide +kernel
theorem dX5_noPerson_10 : decode cX5_noPerson 10 = .ok (.invokestatic 83, 3) := by decide +kernel
theorem dX5_noPerson_13 : decode cX5_noPerson 13 = .ok (.ifCond .ne 7, 3) := by decide +kernel
theorem dX5_noPerson_16 : decode cX5_noPerson 16 = .ok (.iconst 1, 1) := by decide +kernel
theorem dX5_noPerson_17 : decode cX5_noPerson 17 = .ok (.goto 4, 3) := by decide +kernel
theorem dX5_noPerson_20 : decode cX5_noPerson 20 = .ok (.iconst 0, 1) := by decide +kernel
theorem dX5_noPerson_21 : decode cX5_noPerson 21 = .ok (.ireturn, 1) := by decide +kernel
theorem dX5_codeAt_0 : decode cX5_codeAt 0 = .ok (.aload_n 0, 1) := by decide +kernel
theorem dX5_codeAt_1 : decode cX5_codeAt 1 = .ok (.getfield 87, 3) := by decide +kernel
theorem dX5_codeAt_4 : decode cX5_codeAt 4 = .ok (.iload_n 2, 1) := by decide +kernel
theorem dX5_codeAt_5 : decode cX5_codeAt 5 = .ok (.if_icmp .ge 17, 3) := by decide +kernel
theorem dX5_codeAt_8 : decode cX5_codeAt 8 = .ok (.aload_n 0, 1) := by decide +kernel
theorem dX5_codeAt_9 : decode cX5_codeAt 9 = .ok (.getfield 64, 3) := by decide +kernel
theorem dX5_codeAt_12 : decode cX5_codeAt 12 = .ok (.iload_n 1, 1) := by decide +kernel
theorem dX5_codeAt_13 : decode cX5_codeAt 13 = .ok (.aload_n 0, 1) := by decide +kernel
theorem dX5_codeAt_14 : decode cX5_codeAt 14 = .ok (.getfield 87, 3) := by decide +kernel
theorem dX5_codeAt_17 : decode cX5_codeAt 17 = .ok (.iadd, 1) := by decide +kernel
theorem dX5_codeAt_18 : decode cX5_codeAt 18 = .ok (.iaload, 1) := by decide +kernel
theorem dX5_codeAt_19 : decode cX5_codeAt 19 = .ok (.goto 5, 3) := by decide +kernel
theorem dX5_codeAt_22 : decode cX5_codeAt 22 = .ok (.bipush (-9), 2) := by decide +kernel
theorem dX5_codeAt_24 : decode cX5_codeAt 24 = .ok (.ireturn, 1) := by decide +kernel
theorem dX5_figure_0 : decode cX5_figure 0 = .ok (.iload_n 3, 1) := by decide +kernel
theorem dX5_figure_1 : decode cX5_figure 1 = .ok (.ifCond .ge 8, 3) := by decide +kernel
theorem dX5_figure_4 : decode cX5_figure 4 = .ok (.bipush (-9), 2) := by decide +kernel
theorem dX5_figure_6 : decode cX5_figure 6 = .ok (.goto 12, 3) := by decide +kernel
theorem dX5_figure_9 : decode cX5_figure 9 = .ok (.aload_n 0, 1) := by decide +kernel
theorem dX5_figure_10 : decode cX5_figure 10 = .ok (.iload_n 1, 1) := by decide +kernel
theorem dX5_figure_11 : decode cX5_figure 11 = .ok (.iload_n 2, 1) := by decide +kernel
theorem dX5_figure_12 : decode cX5_figure 12 = .ok (.invokevirtual 90, 3) := by decide +kernel
theorem dX5_figure_15 : decode cX5_figure 15 = .ok (.bipush 48, 2) := by decide +kernel
theorem dX5_figure_17 : decode cX5_figure 17 = .ok (.isub, 1) := by decide +kernel
theorem dX5_figure_18 : decode cX5_figure 18 = .ok (.istore 5, 2) := by decide +kernel
theorem dX5_figure_20 : decode cX5_figure 20 = .ok (.iload 5, 2) := by decide +kernel
theorem dX5_figure_22 : decode cX5_figure 22 = .ok (.i2l, 1) := by decide +kernel
theorem dX5_figure_23 : decode cX5_figure 23 = .ok (.lconst 0, 1) := by decide +kernel
theorem dX5_figure_24 : decode cX5_figure 24 = .ok (.iload 4, 2) := by decide +kernel
theorem dX5_figure_26 : decode cX5_figure 26 = .ok (.i2l, 1) := by decide +kernel
theorem dX5_figure_27 : decode cX5_figure 27 = .ok (.invokestatic 83, 3) := by decide +kernel
theorem dX5_figure_30 : decode cX5_figure 30 = .ok (.istore 6, 2) := by decide +kernel
theorem dX5_figure_32 : decode cX5_figure 32 = .ok (.aload_n 0, 1) := by decide +kernel
theorem dX5_figure_33 : decode cX5_figure 33 = .ok (.dup, 1) := by decide +kernel
theorem dX5_figure_34 : decode cX5_figure 34 = .ok (.getfield 87, 3) := by decide +kernel
theorem dX5_figure_37 : decode cX5_figure 37 = .ok (.iload 6, 2) := by decide +kernel
theorem dX5_figure_39 : decode cX5_figure 39 = .ok (.ifCond .eq 7, 3) := by decide +kernel
theorem dX5_figure_42 : decode cX5_figure 42 = .ok (.iconst 1, 1) := by decide +kernel
theorem dX5_figure_43 : decode cX5_figure 43 = .ok (.goto 4, 3) := by decide +kernel
theorem dX5_figure_46 : decode cX5_figure 46 = .ok (.iconst 0, 1) := by decide +kernel
theorem dX5_figure_47 : decode cX5_figure 47 = .ok (.iadd, 1) := by decide +kernel
theorem dX5_figure_48 : decode cX5_figure 48 = .ok (.putfield 87, 3) := by decide +kernel
theorem dX5_figure_51 : decode cX5_figure 51 = .ok (.iload 6, 2) := by decide +kernel
theorem dX5_figure_53 : decode cX5_figure 53 = .ok (.ifCond .eq 8, 3) := by decide +kernel
theorem dX5_figure_56 : decode cX5_figure 56 = .ok (.iload 5, 2) := by decide +kernel
theorem dX5_figure_58 : decode cX5_figure 58 = .ok (.goto 5, 3) := by decide +kernel
theorem dX5_figure_61 : decode cX5_figure 61 = .ok (.bipush (-9), 2) := by decide +kernel
theorem dX5_figure_63 : decode cX5_figure 63 = .ok (.ireturn, 1) := by decide +kernel
theorem dX5_readsPerson_0 : decode cX5_readsPerson 0 = .ok (.aload_n 0, 1) := by decide +kernel
theorem dX5_readsPerson_1 : decode cX5_readsPerson 1 = .ok (.getfield 94, 3) := by decide +kernel
theorem dX5_readsPerson_4 : decode cX5_readsPerson 4 = .ok (.bipush 6, 2) := by decide +kernel
theorem dX5_readsPerson_6 : decode cX5_readsPerson 6 = .ok (.if_icmp .eq 14, 3) := by decide +kernel
theorem dX5_readsPerson_9 : decode cX5_readsPerson 9 = .ok (.aload_n 0, 1) := by decide +kernel
theorem dX5_readsPerson_10 : decode cX5_readsPerson 10 = .ok (.iload_n 1, 1) := by decide +kernel
theorem dX5_readsPerson_11 : decode cX5_readsPerson 11 = .ok (.iload_n 2, 1) := by decide +kernel
theorem dX5_readsPerson_12 : decode cX5_readsPerson 12 = .ok (.invokevirtual 90, 3) := by decide +kernel
theorem dX5_readsPerson_15 : decode cX5_readsPerson 15 = .ok (.bipush 59, 2) := by decide +kernel
theorem dX5_readsPerson_17 : decode cX5_readsPerson 17 = .ok (.if_icmp .eq 5, 3) := by decide +kernel
theorem dX5_readsPerson_20 : decode cX5_readsPerson 20 = .ok (.iconst 0, 1) := by decide +kernel
theorem dX5_readsPerson_21 : decode cX5_readsPerson 21 = .ok (.ireturn, 1) := by decide +kernel
theorem dX5_readsPerson_22 : decode cX5_readsPerson 22 = .ok (.aload_n 0, 1) := by decide +kernel
theorem dX5_readsPerson_23 : decode cX5_readsPerson 23 = .ok (.dup, 1) := by decide +kernel
theorem dX5_readsPerson_24 : decode cX5_readsPerson 24 = .ok (.getfield 87, 3) := by decide +kernel
theorem dX5_readsPerson_27 : decode cX5_readsPerson 27 = .ok (.iconst 1, 1) := by decide +kernel
theorem dX5_readsPerson_28 : decode cX5_readsPerson 28 = .ok (.iadd, 1) := by decide +kernel
theorem dX5_readsPerson_29 : decode cX5_readsPerson 29 = .ok (.putfield 87, 3) := by decide +kernel
theorem dX5_readsPerson_32 : decode cX5_readsPerson 32 = .ok (.aload_n 0, 1) := by decide +kernel
theorem dX5_readsPerson_33 : decode cX5_readsPerson 33 = .ok (.iload_n 1, 1) := by decide +kernel
theorem dX5_readsPerson_34 : decode cX5_readsPerson 34 = .ok (.iload_n 2, 1) := by decide +kernel
theorem dX5_readsPerson_35 : decode cX5_readsPerson 35 = .ok (.invokevirtual 90, 3) := by decide +kernel
theorem dX5_readsPerson_38 : decode cX5_readsPerson 38 = .ok (.istore_n 3, 1) := by decide +kernel
theorem dX5_readsPerson_39 : decode cX5_readsPerson 39 = .ok (.iload_n 3, 1) := by decide +kernel
theorem dX5_readsPerson_40 : decode cX5_readsPerson 40 = .ok (.bipush 112, 2) := by decide +kernel
theorem dX5_readsPerson_42 : decode cX5_readsPerson 42 = .ok (.if_icmp .eq 17, 3) := by decide +kernel
theorem dX5_readsPerson_45 : decode cX5_readsPerson 45 = .ok (.iload_n 3, 1) := by decide +kernel
theorem dX5_readsPerson_46 : decode cX5_readsPerson 46 = .ok (.bipush 114, 2) := by decide +kernel
theorem dX5_readsPerson_48 : decode cX5_readsPerson 48 = .ok (.if_icmp .eq 11, 3) := by decide +kernel
theorem dX5_readsPerson_51 : decode cX5_readsPerson 51 = .ok (.iload_n 3, 1) := by decide +kernel
theorem dX5_readsPerson_52 : decode cX5_readsPerson 52 = .ok (.bipush 107, 2) := by decide +kernel
theorem dX5_readsPerson_54 : decode cX5_readsPerson 54 = .ok (.if_icmp .eq 5, 3) := by decide +kernel
theorem dX5_readsPerson_57 : decode cX5_readsPerson 57 = .ok (.iconst 0, 1) := by decide +kernel
theorem dX5_readsPerson_58 : decode cX5_readsPerson 58 = .ok (.ireturn, 1) := by decide +kernel
theorem dX5_readsPerson_59 : decode cX5_readsPerson 59 = .ok (.aload_n 0, 1) := by decide +kernel
theorem dX5_readsPerson_60 : decode cX5_readsPerson 60 = .ok (.dup, 1) := by decide +kernel
theorem dX5_readsPerson_61 : decode cX5_readsPerson 61 = .ok (.getfield 87, 3) := by decide +kernel
theorem dX5_readsPerson_64 : decode cX5_readsPerson 64 = .ok (.iconst 1, 1) := by decide +kernel
theorem dX5_readsPerson_65 : decode cX5_readsPerson 65 = .ok (.iadd, 1) := by decide +kernel
theorem dX5_readsPerson_66 : decode cX5_readsPerson 66 = .ok (.putfield 87, 3) := by decide +kernel
theorem dX5_readsPerson_69 : decode cX5_readsPerson 69 = .ok (.aload_n 0, 1) := by decide +kernel
theorem dX5_readsPerson_70 : decode cX5_readsPerson 70 = .ok (.iload_n 1, 1) := by decide +kernel
theorem dX5_readsPerson_71 : decode cX5_readsPerson 71 = .ok (.iload_n 2, 1) := by decide +kernel
theorem dX5_readsPerson_72 : decode cX5_readsPerson 72 = .ok (.iconst 0, 1) := by decide +kernel
theorem dX5_readsPerson_73 : decode cX5_readsPerson 73 = .ok (.bipush 7, 2) := by decide +kernel
theorem dX5_readsPerson_75 : decode cX5_readsPerson 75 = .ok (.invokevirtual 97, 3) := by decide +kernel
theorem dX5_readsPerson_78 : decode cX5_readsPerson 78 = .ok (.istore 4, 2) := by decide +kernel
theorem dX5_readsPerson_80 : decode cX5_readsPerson 80 = .ok (.aload_n 0, 1) := by decide +kernel
theorem dX5_readsPerson_81 : decode cX5_readsPerson 81 = .ok (.iload_n 1, 1) := by decide +kernel
theorem dX5_readsPerson_82 : decode cX5_readsPerson 82 = .ok (.iload_n 2, 1) := by decide +kernel
theorem dX5_readsPerson_83 : decode cX5_readsPerson 83 = .ok (.iload 4, 2) := by decide +kernel
theorem dX5_readsPerson_85 : decode cX5_readsPerson 85 = .ok (.bipush 7, 2) := by decide +kernel
theorem dX5_readsPerson_87 : decode cX5_readsPerson 87 = .ok (.invokevirtual 97, 3) := by decide +kernel
theorem dX5_readsPerson_90 : decode cX5_readsPerson 90 = .ok (.istore 5, 2) := by decide +kernel
theorem dX5_readsPerson_92 : decode cX5_readsPerson 92 = .ok (.aload_n 0, 1) := by decide +kernel
theorem dX5_readsPerson_93 : decode cX5_readsPerson 93 = .ok (.iload_n 1, 1) := by decide +kernel
theorem dX5_readsPerson_94 : decode cX5_readsPerson 94 = .ok (.iload_n 2, 1) := by decide +kernel
theorem dX5_readsPerson_95 : decode cX5_readsPerson 95 = .ok (.iload 5, 2) := by decide +kernel
theorem dX5_readsPerson_97 : decode cX5_readsPerson 97 = .ok (.bipush 9, 2) := by decide +kernel
theorem dX5_readsPerson_99 : decode cX5_readsPerson 99 = .ok (.invokevirtual 97, 3) := by decide +kernel
theorem dX5_readsPerson_102 : decode cX5_readsPerson 102 = .ok (.istore 6, 2) := by decide +kernel
theorem dX5_readsPerson_104 : decode cX5_readsPerson 104 = .ok (.aload_n 0, 1) := by decide +kernel
theorem dX5_readsPerson_105 : decode cX5_readsPerson 105 = .ok (.getfield 22, 3) := by decide +kernel
theorem dX5_readsPerson_108 : decode cX5_readsPerson 108 = .ok (.aload_n 0, 1) := by decide +kernel
theorem dX5_readsPerson_109 : decode cX5_readsPerson 109 = .ok (.getfield 94, 3) := by decide +kernel
theorem dX5_readsPerson_112 : decode cX5_readsPerson 112 = .ok (.iload_n 3, 1) := by decide +kernel
theorem dX5_readsPerson_113 : decode cX5_readsPerson 113 = .ok (.bipush 112, 2) := by decide +kernel
theorem dX5_readsPerson_115 : decode cX5_readsPerson 115 = .ok (.if_icmp .ne 7, 3) := by decide +kernel
theorem dX5_readsPerson_118 : decode cX5_readsPerson 118 = .ok (.iconst 0, 1) := by decide +kernel
theorem dX5_readsPerson_119 : decode cX5_readsPerson 119 = .ok (.goto 14, 3) := by decide +kernel
theorem dX5_readsPerson_122 : decode cX5_readsPerson 122 = .ok (.iload_n 3, 1) := by decide +kernel
theorem dX5_readsPerson_123 : decode cX5_readsPerson 123 = .ok (.bipush 114, 2) := by decide +kernel
theorem dX5_readsPerson_125 : decode cX5_readsPerson 125 = .ok (.if_icmp .ne 7, 3) := by decide +kernel
theorem dX5_readsPerson_128 : decode cX5_readsPerson 128 = .ok (.iconst 1, 1) := by decide +kernel
theorem dX5_readsPerson_129 : decode cX5_readsPerson 129 = .ok (.goto 4, 3) := by decide +kernel
theorem dX5_readsPerson_132 : decode cX5_readsPerson 132 = .ok (.iconst 2, 1) := by decide +kernel
theorem dX5_readsPerson_133 : decode cX5_readsPerson 133 = .ok (.iastore, 1) := by decide +kernel
theorem dX5_readsPerson_134 : decode cX5_readsPerson 134 = .ok (.aload_n 0, 1) := by decide +kernel
theorem dX5_readsPerson_135 : decode cX5_readsPerson 135 = .ok (.getfield 25, 3) := by decide +kernel
theorem dX5_readsPerson_138 : decode cX5_readsPerson 138 = .ok (.aload_n 0, 1) := by decide +kernel
theorem dX5_readsPerson_139 : decode cX5_readsPerson 139 = .ok (.getfield 94, 3) := by decide +kernel
theorem dX5_readsPerson_142 : decode cX5_readsPerson 142 = .ok (.iload 4, 2) := by decide +kernel
theorem dX5_readsPerson_144 : decode cX5_readsPerson 144 = .ok (.iastore, 1) := by decide +kernel
theorem dX5_readsPerson_145 : decode cX5_readsPerson 145 = .ok (.aload_n 0, 1) := by decide +kernel
theorem dX5_readsPerson_146 : decode cX5_readsPerson 146 = .ok (.getfield 28, 3) := by decide +kernel
theorem dX5_readsPerson_149 : decode cX5_readsPerson 149 = .ok (.aload_n 0, 1) := by decide +kernel
theorem dX5_readsPerson_150 : decode cX5_readsPerson 150 = .ok (.getfield 94, 3) := by decide +kernel
theorem dX5_readsPerson_153 : decode cX5_readsPerson 153 = .ok (.iload 5, 2) := by decide +kernel
theorem dX5_readsPerson_155 : decode cX5_readsPerson 155 = .ok (.iastore, 1) := by decide +kernel
theorem dX5_readsPerson_156 : decode cX5_readsPerson 156 = .ok (.aload_n 0, 1) := by decide +kernel
theorem dX5_readsPerson_157 : decode cX5_readsPerson 157 = .ok (.getfield 31, 3) := by decide +kernel
theorem dX5_readsPerson_160 : decode cX5_readsPerson 160 = .ok (.aload_n 0, 1) := by decide +kernel
theorem dX5_readsPerson_161 : decode cX5_readsPerson 161 = .ok (.getfield 94, 3) := by decide +kernel
theorem dX5_readsPerson_164 : decode cX5_readsPerson 164 = .ok (.iload 6, 2) := by decide +kernel
theorem dX5_readsPerson_166 : decode cX5_readsPerson 166 = .ok (.iastore, 1) := by decide +kernel
theorem dX5_readsPerson_167 : decode cX5_readsPerson 167 = .ok (.aload_n 0, 1) := by decide +kernel
theorem dX5_readsPerson_168 : decode cX5_readsPerson 168 = .ok (.dup, 1) := by decide +kernel
theorem dX5_readsPerson_169 : decode cX5_readsPerson 169 = .ok (.getfield 94, 3) := by decide +kernel
theorem dX5_readsPerson_172 : decode cX5_readsPerson 172 = .ok (.iconst 1, 1) := by decide +kernel
theorem dX5_readsPerson_173 : decode cX5_readsPerson 173 = .ok (.iadd, 1) := by decide +kernel
theorem dX5_readsPerson_174 : decode cX5_readsPerson 174 = .ok (.putfield 94, 3) := by decide +kernel
theorem dX5_readsPerson_177 : decode cX5_readsPerson 177 = .ok (.iload 6, 2) := by decide +kernel
theorem dX5_readsPerson_179 : decode cX5_readsPerson 179 = .ok (.ifCond .lt 7, 3) := by decide +kernel
theorem dX5_readsPerson_182 : decode cX5_readsPerson 182 = .ok (.iconst 1, 1) := by decide +kernel
theorem dX5_readsPerson_183 : decode cX5_readsPerson 183 = .ok (.goto 4, 3) := by decide +kernel
theorem dX5_readsPerson_186 : decode cX5_readsPerson 186 = .ok (.iconst 0, 1) := by decide +kernel
theorem dX5_readsPerson_187 : decode cX5_readsPerson 187 = .ok (.ireturn, 1) := by decide +kernel
theorem dX5_readsMoor_0 : decode cX5_readsMoor 0 = .ok (.aload_n 0, 1) := by decide +kernel
theorem dX5_readsMoor_1 : decode cX5_readsMoor 1 = .ok (.iconst 0, 1) := by decide +kernel
theorem dX5_readsMoor_2 : decode cX5_readsMoor 2 = .ok (.putfield 87, 3) := by decide +kernel
theorem dX5_readsMoor_5 : decode cX5_readsMoor 5 = .ok (.aload_n 0, 1) := by decide +kernel
theorem dX5_readsMoor_6 : decode cX5_readsMoor 6 = .ok (.iconst 0, 1) := by decide +kernel
theorem dX5_readsMoor_7 : decode cX5_readsMoor 7 = .ok (.putfield 94, 3) := by decide +kernel
theorem dX5_readsMoor_10 : decode cX5_readsMoor 10 = .ok (.aload_n 0, 1) := by decide +kernel
theorem dX5_readsMoor_11 : decode cX5_readsMoor 11 = .ok (.iload_n 1, 1) := by decide +kernel
theorem dX5_readsMoor_12 : decode cX5_readsMoor 12 = .ok (.iload_n 2, 1) := by decide +kernel
theorem dX5_readsMoor_13 : decode cX5_readsMoor 13 = .ok (.invokevirtual 90, 3) := by decide +kernel
theorem dX5_readsMoor_16 : decode cX5_readsMoor 16 = .ok (.bipush 100, 2) := by decide +kernel
theorem dX5_readsMoor_18 : decode cX5_readsMoor 18 = .ok (.if_icmp .eq 5, 3) := by decide +kernel
theorem dX5_readsMoor_21 : decode cX5_readsMoor 21 = .ok (.iconst 0, 1) := by decide +kernel
theorem dX5_readsMoor_22 : decode cX5_readsMoor 22 = .ok (.ireturn, 1) := by decide +kernel
theorem dX5_readsMoor_23 : decode cX5_readsMoor 23 = .ok (.aload_n 0, 1) := by decide +kernel
theorem dX5_readsMoor_24 : decode cX5_readsMoor 24 = .ok (.dup, 1) := by decide +kernel
theorem dX5_readsMoor_25 : decode cX5_readsMoor 25 = .ok (.getfield 87, 3) := by decide +kernel
theorem dX5_readsMoor_28 : decode cX5_readsMoor 28 = .ok (.iconst 1, 1) := by decide +kernel
theorem dX5_readsMoor_29 : decode cX5_readsMoor 29 = .ok (.iadd, 1) := by decide +kernel
theorem dX5_readsMoor_30 : decode cX5_readsMoor 30 = .ok (.putfield 87, 3) := by decide +kernel
theorem dX5_readsMoor_33 : decode cX5_readsMoor 33 = .ok (.aload_n 0, 1) := by decide +kernel
theorem dX5_readsMoor_34 : decode cX5_readsMoor 34 = .ok (.aload_n 0, 1) := by decide +kernel
theorem dX5_readsMoor_35 : decode cX5_readsMoor 35 = .ok (.iload_n 1, 1) := by decide +kernel
theorem dX5_readsMoor_36 : decode cX5_readsMoor 36 = .ok (.iload_n 2, 1) := by decide +kernel
theorem dX5_readsMoor_37 : decode cX5_readsMoor 37 = .ok (.iconst 0, 1) := by decide +kernel
theorem dX5_readsMoor_38 : decode cX5_readsMoor 38 = .ok (.bipush 9, 2) := by decide +kernel
theorem dX5_readsMoor_40 : decode cX5_readsMoor 40 = .ok (.invokevirtual 97, 3) := by decide +kernel
theorem dX5_readsMoor_43 : decode cX5_readsMoor 43 = .ok (.putfield 101, 3) := by decide +kernel
theorem dX5_readsMoor_46 : decode cX5_readsMoor 46 = .ok (.aload_n 0, 1) := by decide +kernel
theorem dX5_readsMoor_47 : decode cX5_readsMoor 47 = .ok (.aload_n 0, 1) := by decide +kernel
theorem dX5_readsMoor_48 : decode cX5_readsMoor 48 = .ok (.iload_n 1, 1) := by decide +kernel
theorem dX5_readsMoor_49 : decode cX5_readsMoor 49 = .ok (.iload_n 2, 1) := by decide +kernel
theorem dX5_readsMoor_50 : decode cX5_readsMoor 50 = .ok (.aload_n 0, 1) := by decide +kernel
theorem dX5_readsMoor_51 : decode cX5_readsMoor 51 = .ok (.getfield 101, 3) := by decide +kernel
theorem dX5_readsMoor_54 : decode cX5_readsMoor 54 = .ok (.iconst 3, 1) := by decide +kernel
theorem dX5_readsMoor_55 : decode cX5_readsMoor 55 = .ok (.invokevirtual 97, 3) := by decide +kernel
theorem dX5_readsMoor_58 : decode cX5_readsMoor 58 = .ok (.putfield 104, 3) := by decide +kernel
theorem dX5_readsMoor_61 : decode cX5_readsMoor 61 = .ok (.aload_n 0, 1) := by decide +kernel
theorem dX5_readsMoor_62 : decode cX5_readsMoor 62 = .ok (.getfield 104, 3) := by decide +kernel
theorem dX5_readsMoor_65 : decode cX5_readsMoor 65 = .ok (.ifCond .lt 7, 3) := by decide +kernel
theorem dX5_readsMoor_68 : decode cX5_readsMoor 68 = .ok (.iconst 1, 1) := by decide +kernel
theorem dX5_readsMoor_69 : decode cX5_readsMoor 69 = .ok (.goto 4, 3) := by decide +kernel
theorem dX5_readsMoor_72 : decode cX5_readsMoor 72 = .ok (.iconst 0, 1) := by decide +kernel
theorem dX5_readsMoor_73 : decode cX5_readsMoor 73 = .ok (.istore_n 3, 1) := by decide +kernel
theorem dX5_readsMoor_74 : decode cX5_readsMoor 74 = .ok (.iload_n 3, 1) := by decide +kernel
theorem dX5_readsMoor_75 : decode cX5_readsMoor 75 = .ok (.ifCond .eq 29, 3) := by decide +kernel
theorem dX5_readsMoor_78 : decode cX5_readsMoor 78 = .ok (.aload_n 0, 1) := by decide +kernel
theorem dX5_readsMoor_79 : decode cX5_readsMoor 79 = .ok (.getfield 94, 3) := by decide +kernel
theorem dX5_readsMoor_82 : decode cX5_readsMoor 82 = .ok (.iconst 2, 1) := by decide +kernel
theorem dX5_readsMoor_83 : decode cX5_readsMoor 83 = .ok (.if_icmp .lt 11, 3) := by decide +kernel
theorem dX5_readsMoor_86 : decode cX5_readsMoor 86 = .ok (.aload_n 0, 1) := by decide +kernel
theorem dX5_readsMoor_87 : decode cX5_readsMoor 87 = .ok (.getfield 87, 3) := by decide +kernel
theorem dX5_readsMoor_90 : decode cX5_readsMoor 90 = .ok (.iload_n 2, 1) := by decide +kernel
theorem dX5_readsMoor_91 : decode cX5_readsMoor 91 = .ok (.if_icmp .ge 13, 3) := by decide +kernel
theorem dX5_readsMoor_94 : decode cX5_readsMoor 94 = .ok (.aload_n 0, 1) := by decide +kernel
theorem dX5_readsMoor_95 : decode cX5_readsMoor 95 = .ok (.iload_n 1, 1) := by decide +kernel
theorem dX5_readsMoor_96 : decode cX5_readsMoor 96 = .ok (.iload_n 2, 1) := by decide +kernel
theorem dX5_readsMoor_97 : decode cX5_readsMoor 97 = .ok (.invokevirtual 107, 3) := by decide +kernel
theorem dX5_readsMoor_100 : decode cX5_readsMoor 100 = .ok (.istore_n 3, 1) := by decide +kernel
theorem dX5_readsMoor_101 : decode cX5_readsMoor 101 = .ok (.goto (-27), 3) := by decide +kernel
theorem dX5_readsMoor_104 : decode cX5_readsMoor 104 = .ok (.iload_n 3, 1) := by decide +kernel
theorem dX5_readsMoor_105 : decode cX5_readsMoor 105 = .ok (.ireturn, 1) := by decide +kernel
theorem dX5_cellsBarred_0 : decode cX5_cellsBarred 0 = .ok (.aload_n 0, 1) := by decide +kernel
theorem dX5_cellsBarred_1 : decode cX5_cellsBarred 1 = .ok (.getfield 58, 3) := by decide +kernel
theorem dX5_cellsBarred_4 : decode cX5_cellsBarred 4 = .ok (.iload_n 1, 1) := by decide +kernel
theorem dX5_cellsBarred_5 : decode cX5_cellsBarred 5 = .ok (.iaload, 1) := by decide +kernel
theorem dX5_cellsBarred_6 : decode cX5_cellsBarred 6 = .ok (.ifCond .lt 19, 3) := by decide +kernel
theorem dX5_cellsBarred_9 : decode cX5_cellsBarred 9 = .ok (.aload_n 0, 1) := by decide +kernel
theorem dX5_cellsBarred_10 : decode cX5_cellsBarred 10 = .ok (.getfield 61, 3) := by decide +kernel
theorem dX5_cellsBarred_13 : decode cX5_cellsBarred 13 = .ok (.iload_n 1, 1) := by decide +kernel
theorem dX5_cellsBarred_14 : decode cX5_cellsBarred 14 = .ok (.iaload, 1) := by decide +kernel
theorem dX5_cellsBarred_15 : decode cX5_cellsBarred 15 = .ok (.iload_n 2, 1) := by decide +kernel
theorem dX5_cellsBarred_16 : decode cX5_cellsBarred 16 = .ok (.if_icmp .eq 9, 3) := by decide +kernel
theorem dX5_cellsBarred_19 : decode cX5_cellsBarred 19 = .ok (.aload_n 0, 1) := by decide +kernel
theorem dX5_cellsBarred_20 : decode cX5_cellsBarred 20 = .ok (.iconst 2, 1) := by decide +kernel
theorem dX5_cellsBarred_21 : decode cX5_cellsBarred 21 = .ok (.invokevirtual 111, 3) := by decide +kernel
theorem dX5_cellsBarred_24 : decode cX5_cellsBarred 24 = .ok (.ireturn, 1) := by decide +kernel
theorem dX5_cellsBarred_25 : decode cX5_cellsBarred 25 = .ok (.aload_n 0, 1) := by decide +kernel
theorem dX5_cellsBarred_26 : decode cX5_cellsBarred 26 = .ok (.getfield 58, 3) := by decide +kernel
theorem dX5_cellsBarred_29 : decode cX5_cellsBarred 29 = .ok (.iload_n 1, 1) := by decide +kernel
theorem dX5_cellsBarred_30 : decode cX5_cellsBarred 30 = .ok (.iaload, 1) := by decide +kernel
theorem dX5_cellsBarred_31 : decode cX5_cellsBarred 31 = .ok (.ifCond .ge 9, 3) := by decide +kernel
theorem dX5_cellsBarred_34 : decode cX5_cellsBarred 34 = .ok (.aload_n 0, 1) := by decide +kernel
theorem dX5_cellsBarred_35 : decode cX5_cellsBarred 35 = .ok (.iconst 1, 1) := by decide +kernel
theorem dX5_cellsBarred_36 : decode cX5_cellsBarred 36 = .ok (.invokevirtual 111, 3) := by decide +kernel
theorem dX5_cellsBarred_39 : decode cX5_cellsBarred 39 = .ok (.ireturn, 1) := by decide +kernel
theorem dX5_cellsBarred_40 : decode cX5_cellsBarred 40 = .ok (.lload 4, 2) := by decide +kernel
theorem dX5_cellsBarred_42 : decode cX5_cellsBarred 42 = .ok (.lconst 0, 1) := by decide +kernel
theorem dX5_cellsBarred_43 : decode cX5_cellsBarred 43 = .ok (.lcmp, 1) := by decide +kernel
theorem dX5_cellsBarred_44 : decode cX5_cellsBarred 44 = .ok (.ifCond .ge 9, 3) := by decide +kernel
theorem dX5_cellsBarred_47 : decode cX5_cellsBarred 47 = .ok (.aload_n 0, 1) := by decide +kernel
theorem dX5_cellsBarred_48 : decode cX5_cellsBarred 48 = .ok (.iconst 4, 1) := by decide +kernel
theorem dX5_cellsBarred_49 : decode cX5_cellsBarred 49 = .ok (.invokevirtual 111, 3) := by decide +kernel
theorem dX5_cellsBarred_52 : decode cX5_cellsBarred 52 = .ok (.ireturn, 1) := by decide +kernel
theorem dX5_cellsBarred_53 : decode cX5_cellsBarred 53 = .ok (.iload_n 3, 1) := by decide +kernel
theorem dX5_cellsBarred_54 : decode cX5_cellsBarred 54 = .ok (.lload 4, 2) := by decide +kernel
theorem dX5_cellsBarred_56 : decode cX5_cellsBarred 56 = .ok (.aload_n 0, 1) := by decide +kernel
theorem dX5_cellsBarred_57 : decode cX5_cellsBarred 57 = .ok (.getfield 58, 3) := by decide +kernel
theorem dX5_cellsBarred_60 : decode cX5_cellsBarred 60 = .ok (.iload_n 1, 1) := by decide +kernel
theorem dX5_cellsBarred_61 : decode cX5_cellsBarred 61 = .ok (.iaload, 1) := by decide +kernel
theorem dX5_cellsBarred_62 : decode cX5_cellsBarred 62 = .ok (.invokestatic 115, 3) := by decide +kernel
theorem dX5_cellsBarred_65 : decode cX5_cellsBarred 65 = .ok (.ifCond .eq 11, 3) := by decide +kernel
theorem dX5_cellsBarred_68 : decode cX5_cellsBarred 68 = .ok (.aload_n 0, 1) := by decide +kernel
theorem dX5_cellsBarred_69 : decode cX5_cellsBarred 69 = .ok (.iconst 3, 1) := by decide +kernel
theorem dX5_cellsBarred_70 : decode cX5_cellsBarred 70 = .ok (.invokevirtual 111, 3) := by decide +kernel
theorem dX5_cellsBarred_73 : decode cX5_cellsBarred 73 = .ok (.goto 4, 3) := by decide +kernel
theorem dX5_cellsBarred_76 : decode cX5_cellsBarred 76 = .ok (.iconst 0, 1) := by decide +kernel
theorem dX5_cellsBarred_77 : decode cX5_cellsBarred 77 = .ok (.ireturn, 1) := by decide +kernel
theorem dX5_moor_0 : decode cX5_moor 0 = .ok (.iload_n 1, 1) := by decide +kernel
theorem dX5_moor_1 : decode cX5_moor 1 = .ok (.invokestatic 119, 3) := by decide +kernel
theorem dX5_moor_4 : decode cX5_moor 4 = .ok (.ifCond .eq 9, 3) := by decide +kernel
theorem dX5_moor_7 : decode cX5_moor 7 = .ok (.aload_n 0, 1) := by decide +kernel
theorem dX5_moor_8 : decode cX5_moor 8 = .ok (.iconst (-1), 1) := by decide +kernel
theorem dX5_moor_9 : decode cX5_moor 9 = .ok (.invokevirtual 123, 3) := by decide +kernel
theorem dX5_moor_12 : decode cX5_moor 12 = .ok (.ireturn, 1) := by decide +kernel
theorem dX5_moor_13 : decode cX5_moor 13 = .ok (.iload_n 2, 1) := by decide +kernel
theorem dX5_moor_14 : decode cX5_moor 14 = .ok (.i2l, 1) := by decide +kernel
theorem dX5_moor_15 : decode cX5_moor 15 = .ok (.lconst 0, 1) := by decide +kernel
theorem dX5_moor_16 : decode cX5_moor 16 = .ok (.ldc2_w 126, 3) := by decide +kernel
theorem dX5_moor_19 : decode cX5_moor 19 = .ok (.invokestatic 83, 3) := by decide +kernel
theorem dX5_moor_22 : decode cX5_moor 22 = .ok (.ifCond .ne 10, 3) := by decide +kernel
theorem dX5_moor_25 : decode cX5_moor 25 = .ok (.aload_n 0, 1) := by decide +kernel
theorem dX5_moor_26 : decode cX5_moor 26 = .ok (.bipush (-2), 2) := by decide +kernel
theorem dX5_moor_28 : decode cX5_moor 28 = .ok (.invokevirtual 123, 3) := by decide +kernel
theorem dX5_moor_31 : decode cX5_moor 31 = .ok (.ireturn, 1) := by decide +kernel
theorem dX5_moor_32 : decode cX5_moor 32 = .ok (.aload_n 0, 1) := by decide +kernel
theorem dX5_moor_33 : decode cX5_moor 33 = .ok (.iload_n 1, 1) := by decide +kernel
theorem dX5_moor_34 : decode cX5_moor 34 = .ok (.iload_n 2, 1) := by decide +kernel
theorem dX5_moor_35 : decode cX5_moor 35 = .ok (.iload_n 3, 1) := by decide +kernel
theorem dX5_moor_36 : decode cX5_moor 36 = .ok (.iload 4, 2) := by decide +kernel
theorem dX5_moor_38 : decode cX5_moor 38 = .ok (.i2l, 1) := by decide +kernel
theorem dX5_moor_39 : decode cX5_moor 39 = .ok (.invokevirtual 128, 3) := by decide +kernel
theorem dX5_moor_42 : decode cX5_moor 42 = .ok (.istore 5, 2) := by decide +kernel
theorem dX5_moor_44 : decode cX5_moor 44 = .ok (.iload 5, 2) := by decide +kernel
theorem dX5_moor_46 : decode cX5_moor 46 = .ok (.ifCond .ge 6, 3) := by decide +kernel
theorem dX5_moor_49 : decode cX5_moor 49 = .ok (.iload 5, 2) := by decide +kernel
theorem dX5_moor_51 : decode cX5_moor 51 = .ok (.ireturn, 1) := by decide +kernel
theorem dX5_moor_52 : decode cX5_moor 52 = .ok (.aload_n 0, 1) := by decide +kernel
theorem dX5_moor_53 : decode cX5_moor 53 = .ok (.bipush 60, 2) := by decide +kernel
theorem dX5_moor_55 : decode cX5_moor 55 = .ok (.iload_n 1, 1) := by decide +kernel
theorem dX5_moor_56 : decode cX5_moor 56 = .ok (.imul, 1) := by decide +kernel
theorem dX5_moor_57 : decode cX5_moor 57 = .ok (.iload_n 3, 1) := by decide +kernel
theorem dX5_moor_58 : decode cX5_moor 58 = .ok (.iadd, 1) := by decide +kernel
theorem dX5_moor_59 : decode cX5_moor 59 = .ok (.iload 4, 2) := by decide +kernel
theorem dX5_moor_61 : decode cX5_moor 61 = .ok (.invokevirtual 132, 3) := by decide +kernel
theorem dX5_moor_64 : decode cX5_moor 64 = .ok (.ifCond .ne 15, 3) := by decide +kernel
theorem dX5_moor_67 : decode cX5_moor 67 = .ok (.aload_n 0, 1) := by decide +kernel
theorem dX5_moor_68 : decode cX5_moor 68 = .ok (.bipush (-100), 2) := by decide +kernel
theorem dX5_moor_70 : decode cX5_moor 70 = .ok (.aload_n 0, 1) := by decide +kernel
theorem dX5_moor_71 : decode cX5_moor 71 = .ok (.getfield 87, 3) := by decide +kernel
theorem dX5_moor_74 : decode cX5_moor 74 = .ok (.isub, 1) := by decide +kernel
theorem dX5_moor_75 : decode cX5_moor 75 = .ok (.invokevirtual 123, 3) := by decide +kernel
theorem dX5_moor_78 : decode cX5_moor 78 = .ok (.ireturn, 1) := by decide +kernel
theorem dX5_moor_79 : decode cX5_moor 79 = .ok (.aload_n 0, 1) := by decide +kernel
theorem dX5_moor_80 : decode cX5_moor 80 = .ok (.aload_n 0, 1) := by decide +kernel
theorem dX5_moor_81 : decode cX5_moor 81 = .ok (.getfield 94, 3) := by decide +kernel
theorem dX5_moor_84 : decode cX5_moor 84 = .ok (.putfield 80, 3) := by decide +kernel
theorem dX5_moor_87 : decode cX5_moor 87 = .ok (.aload_n 0, 1) := by decide +kernel
theorem dX5_moor_88 : decode cX5_moor 88 = .ok (.aload_n 0, 1) := by decide +kernel
theorem dX5_moor_89 : decode cX5_moor 89 = .ok (.getfield 101, 3) := by decide +kernel
theorem dX5_moor_92 : decode cX5_moor 92 = .ok (.putfield 135, 3) := by decide +kernel
theorem dX5_moor_95 : decode cX5_moor 95 = .ok (.aload_n 0, 1) := by decide +kernel
theorem dX5_moor_96 : decode cX5_moor 96 = .ok (.aload_n 0, 1) := by decide +kernel
theorem dX5_moor_97 : decode cX5_moor 97 = .ok (.getfield 104, 3) := by decide +kernel
theorem dX5_moor_100 : decode cX5_moor 100 = .ok (.putfield 138, 3) := by decide +kernel
theorem dX5_moor_103 : decode cX5_moor 103 = .ok (.aload_n 0, 1) := by decide +kernel
theorem dX5_moor_104 : decode cX5_moor 104 = .ok (.iconst 0, 1) := by decide +kernel
theorem dX5_moor_105 : decode cX5_moor 105 = .ok (.putfield 141, 3) := by decide +kernel
theorem dX5_moor_108 : decode cX5_moor 108 = .ok (.iconst 0, 1) := by decide +kernel
theorem dX5_moor_109 : decode cX5_moor 109 = .ok (.istore 6, 2) := by decide +kernel
theorem dX5_moor_111 : decode cX5_moor 111 = .ok (.iload 6, 2) := by decide +kernel
theorem dX5_moor_113 : decode cX5_moor 113 = .ok (.aload_n 0, 1) := by decide +kernel
theorem dX5_moor_114 : decode cX5_moor 114 = .ok (.getfield 80, 3) := by decide +kernel
theorem dX5_moor_117 : decode cX5_moor 117 = .ok (.if_icmp .ge 65, 3) := by decide +kernel
theorem dX5_moor_120 : decode cX5_moor 120 = .ok (.aload_n 0, 1) := by decide +kernel
theorem dX5_moor_121 : decode cX5_moor 121 = .ok (.getfield 7, 3) := by decide +kernel
theorem dX5_moor_124 : decode cX5_moor 124 = .ok (.iload 6, 2) := by decide +kernel
theorem dX5_moor_126 : decode cX5_moor 126 = .ok (.aload_n 0, 1) := by decide +kernel
theorem dX5_moor_127 : decode cX5_moor 127 = .ok (.getfield 22, 3) := by decide +kernel
theorem dX5_moor_130 : decode cX5_moor 130 = .ok (.iload 6, 2) := by decide +kernel
theorem dX5_moor_132 : decode cX5_moor 132 = .ok (.iaload, 1) := by decide +kernel
theorem dX5_moor_133 : decode cX5_moor 133 = .ok (.iastore, 1) := by decide +kernel
theorem dX5_moor_134 : decode cX5_moor 134 = .ok (.aload_n 0, 1) := by decide +kernel
theorem dX5_moor_135 : decode cX5_moor 135 = .ok (.getfield 13, 3) := by decide +kernel
theorem dX5_moor_138 : decode cX5_moor 138 = .ok (.iload 6, 2) := by decide +kernel
theorem dX5_moor_140 : decode cX5_moor 140 = .ok (.aload_n 0, 1) := by decide +kernel
theorem dX5_moor_141 : decode cX5_moor 141 = .ok (.getfield 25, 3) := by decide +kernel
theorem dX5_moor_144 : decode cX5_moor 144 = .ok (.iload 6, 2) := by decide +kernel
theorem dX5_moor_146 : decode cX5_moor 146 = .ok (.iaload, 1) := by decide +kernel
theorem dX5_moor_147 : decode cX5_moor 147 = .ok (.iastore, 1) := by decide +kernel
theorem dX5_moor_148 : decode cX5_moor 148 = .ok (.aload_n 0, 1) := by decide +kernel
theorem dX5_moor_149 : decode cX5_moor 149 = .ok (.getfield 16, 3) := by decide +kernel
theorem dX5_moor_152 : decode cX5_moor 152 = .ok (.iload 6, 2) := by decide +kernel
theorem dX5_moor_154 : decode cX5_moor 154 = .ok (.aload_n 0, 1) := by decide +kernel
theorem dX5_moor_155 : decode cX5_moor 155 = .ok (.getfield 28, 3) := by decide +kernel
theorem dX5_moor_158 : decode cX5_moor 158 = .ok (.iload 6, 2) := by decide +kernel
theorem dX5_moor_160 : decode cX5_moor 160 = .ok (.iaload, 1) := by decide +kernel
theorem dX5_moor_161 : decode cX5_moor 161 = .ok (.iastore, 1) := by decide +kernel
theorem dX5_moor_162 : decode cX5_moor 162 = .ok (.aload_n 0, 1) := by decide +kernel
theorem dX5_moor_163 : decode cX5_moor 163 = .ok (.getfield 19, 3) := by decide +kernel
theorem dX5_moor_166 : decode cX5_moor 166 = .ok (.iload 6, 2) := by decide +kernel
theorem dX5_moor_168 : decode cX5_moor 168 = .ok (.aload_n 0, 1) := by decide +kernel
theorem dX5_moor_169 : decode cX5_moor 169 = .ok (.getfield 31, 3) := by decide +kernel
theorem dX5_moor_172 : decode cX5_moor 172 = .ok (.iload 6, 2) := by decide +kernel
theorem dX5_moor_174 : decode cX5_moor 174 = .ok (.iaload, 1) := by decide +kernel
theorem dX5_moor_175 : decode cX5_moor 175 = .ok (.iastore, 1) := by decide +kernel
theorem dX5_moor_176 : decode cX5_moor 176 = .ok (.iinc 6 1, 3) := by decide +kernel
theorem dX5_moor_179 : decode cX5_moor 179 = .ok (.goto (-68), 3) := by decide +kernel
theorem dX5_moor_182 : decode cX5_moor 182 = .ok (.aload_n 0, 1) := by decide +kernel
theorem dX5_moor_183 : decode cX5_moor 183 = .ok (.iconst 0, 1) := by decide +kernel
theorem dX5_moor_184 : decode cX5_moor 184 = .ok (.putfield 144, 3) := by decide +kernel
theorem dX5_moor_187 : decode cX5_moor 187 = .ok (.aload_n 0, 1) := by decide +kernel
theorem dX5_moor_188 : decode cX5_moor 188 = .ok (.aload_n 0, 1) := by decide +kernel
theorem dX5_moor_189 : decode cX5_moor 189 = .ok (.getfield 80, 3) := by decide +kernel
theorem dX5_moor_192 : decode cX5_moor 192 = .ok (.invokevirtual 123, 3) := by decide +kernel
theorem dX5_moor_195 : decode cX5_moor 195 = .ok (.ireturn, 1) := by decide +kernel
theorem dX5_scentOf_0 : decode cX5_scentOf 0 = .ok (.aload_n 0, 1) := by decide +kernel
theorem dX5_scentOf_1 : decode cX5_scentOf 1 = .ok (.getfield 13, 3) := by decide +kernel
theorem dX5_scentOf_4 : decode cX5_scentOf 4 = .ok (.iload_n 1, 1) := by decide +kernel
theorem dX5_scentOf_5 : decode cX5_scentOf 5 = .ok (.iaload, 1) := by decide +kernel
theorem dX5_scentOf_6 : decode cX5_scentOf 6 = .ok (.invokestatic 147, 3) := by decide +kernel
theorem dX5_scentOf_9 : decode cX5_scentOf 9 = .ok (.istore_n 2, 1) := by decide +kernel
theorem dX5_scentOf_10 : decode cX5_scentOf 10 = .ok (.aload_n 0, 1) := by decide +kernel
theorem dX5_scentOf_11 : decode cX5_scentOf 11 = .ok (.getfield 7, 3) := by decide +kernel
theorem dX5_scentOf_14 : decode cX5_scentOf 14 = .ok (.iload_n 1, 1) := by decide +kernel
theorem dX5_scentOf_15 : decode cX5_scentOf 15 = .ok (.iaload, 1) := by decide +kernel
theorem dX5_scentOf_16 : decode cX5_scentOf 16 = .ok (.ifCond .ne 7, 3) := by decide +kernel
theorem dX5_scentOf_19 : decode cX5_scentOf 19 = .ok (.iload_n 2, 1) := by decide +kernel
theorem dX5_scentOf_20 : decode cX5_scentOf 20 = .ok (.goto 24, 3) := by decide +kernel
theorem dX5_scentOf_23 : decode cX5_scentOf 23 = .ok (.aload_n 0, 1) := by decide +kernel
theorem dX5_scentOf_24 : decode cX5_scentOf 24 = .ok (.getfield 7, 3) := by decide +kernel
theorem dX5_scentOf_27 : decode cX5_scentOf 27 = .ok (.iload_n 1, 1) := by decide +kernel
theorem dX5_scentOf_28 : decode cX5_scentOf 28 = .ok (.iaload, 1) := by decide +kernel
theorem dX5_scentOf_29 : decode cX5_scentOf 29 = .ok (.iconst 1, 1) := by decide +kernel
theorem dX5_scentOf_30 : decode cX5_scentOf 30 = .ok (.if_icmp .ne 9, 3) := by decide +kernel
theorem dX5_scentOf_33 : decode cX5_scentOf 33 = .ok (.iload_n 2, 1) := by decide +kernel
theorem dX5_scentOf_34 : decode cX5_scentOf 34 = .ok (.iconst 1, 1) := by decide +kernel
theorem dX5_scentOf_35 : decode cX5_scentOf 35 = .ok (.iadd, 1) := by decide +kernel
theorem dX5_scentOf_36 : decode cX5_scentOf 36 = .ok (.goto 8, 3) := by decide +kernel
theorem dX5_scentOf_39 : decode cX5_scentOf 39 = .ok (.iconst 2, 1) := by decide +kernel
theorem dX5_scentOf_40 : decode cX5_scentOf 40 = .ok (.iload_n 2, 1) := by decide +kernel
theorem dX5_scentOf_41 : decode cX5_scentOf 41 = .ok (.imul, 1) := by decide +kernel
theorem dX5_scentOf_42 : decode cX5_scentOf 42 = .ok (.iconst 2, 1) := by decide +kernel
theorem dX5_scentOf_43 : decode cX5_scentOf 43 = .ok (.iadd, 1) := by decide +kernel
theorem dX5_scentOf_44 : decode cX5_scentOf 44 = .ok (.ireturn, 1) := by decide +kernel
theorem dX5_wayTo_0 : decode cX5_wayTo 0 = .ok (.aload_n 0, 1) := by decide +kernel
theorem dX5_wayTo_1 : decode cX5_wayTo 1 = .ok (.getfield 19, 3) := by decide +kernel
theorem dX5_wayTo_4 : decode cX5_wayTo 4 = .ok (.iload_n 1, 1) := by decide +kernel
theorem dX5_wayTo_5 : decode cX5_wayTo 5 = .ok (.iaload, 1) := by decide +kernel
theorem dX5_wayTo_6 : decode cX5_wayTo 6 = .ok (.aload_n 0, 1) := by decide +kernel
theorem dX5_wayTo_7 : decode cX5_wayTo 7 = .ok (.getfield 135, 3) := by decide +kernel
theorem dX5_wayTo_10 : decode cX5_wayTo 10 = .ok (.invokestatic 150, 3) := by decide +kernel
theorem dX5_wayTo_13 : decode cX5_wayTo 13 = .ok (.ireturn, 1) := by decide +kernel
theorem dX5_isSmelt_0 : decode cX5_isSmelt 0 = .ok (.aload_n 0, 1) := by decide +kernel
theorem dX5_isSmelt_1 : decode cX5_isSmelt 1 = .ok (.iload_n 1, 1) := by decide +kernel
theorem dX5_isSmelt_2 : decode cX5_isSmelt 2 = .ok (.invokevirtual 153, 3) := by decide +kernel
theorem dX5_isSmelt_5 : decode cX5_isSmelt 5 = .ok (.aload_n 0, 1) := by decide +kernel
theorem dX5_isSmelt_6 : decode cX5_isSmelt 6 = .ok (.iload_n 1, 1) := by decide +kernel
theorem dX5_isSmelt_7 : decode cX5_isSmelt 7 = .ok (.invokevirtual 156, 3) := by decide +kernel
theorem dX5_isSmelt_10 : decode cX5_isSmelt 10 = .ok (.if_icmp .gt 7, 3) := by decide +kernel
theorem dX5_isSmelt_13 : decode cX5_isSmelt 13 = .ok (.iconst 1, 1) := by decide +kernel
theorem dX5_isSmelt_14 : decode cX5_isSmelt 14 = .ok (.goto 4, 3) := by decide +kernel
theorem dX5_isSmelt_17 : decode cX5_isSmelt 17 = .ok (.iconst 0, 1) := by decide +kernel
theorem dX5_isSmelt_18 : decode cX5_isSmelt 18 = .ok (.ireturn, 1) := by decide +kernel
theorem dX5_goesTo_0 : decode cX5_goesTo 0 = .ok (.bipush (-9), 2) := by decide +kernel
theorem dX5_goesTo_2 : decode cX5_goesTo 2 = .ok (.istore_n 2, 1) := by decide +kernel
theorem dX5_goesTo_3 : decode cX5_goesTo 3 = .ok (.aload_n 0, 1) := by decide +kernel
theorem dX5_goesTo_4 : decode cX5_goesTo 4 = .ok (.getfield 138, 3) := by decide +kernel
theorem dX5_goesTo_7 : decode cX5_goesTo 7 = .ok (.iconst 1, 1) := by decide +kernel
theorem dX5_goesTo_8 : decode cX5_goesTo 8 = .ok (.iadd, 1) := by decide +kernel
theorem dX5_goesTo_9 : decode cX5_goesTo 9 = .ok (.istore_n 3, 1) := by decide +kernel
theorem dX5_goesTo_10 : decode cX5_goesTo 10 = .ok (.iconst 0, 1) := by decide +kernel
theorem dX5_goesTo_11 : decode cX5_goesTo 11 = .ok (.istore 4, 2) := by decide +kernel
theorem dX5_goesTo_13 : decode cX5_goesTo 13 = .ok (.iload 4, 2) := by decide +kernel
theorem dX5_goesTo_15 : decode cX5_goesTo 15 = .ok (.aload_n 0, 1) := by decide +kernel
theorem dX5_goesTo_16 : decode cX5_goesTo 16 = .ok (.getfield 80, 3) := by decide +kernel
theorem dX5_goesTo_19 : decode cX5_goesTo 19 = .ok (.if_icmp .ge 104, 3) := by decide +kernel
theorem dX5_goesTo_22 : decode cX5_goesTo 22 = .ok (.aload_n 0, 1) := by decide +kernel
theorem dX5_goesTo_23 : decode cX5_goesTo 23 = .ok (.iload 4, 2) := by decide +kernel
theorem dX5_goesTo_25 : decode cX5_goesTo 25 = .ok (.invokevirtual 159, 3) := by decide +kernel
theorem dX5_goesTo_28 : decode cX5_goesTo 28 = .ok (.ifCond .eq 23, 3) := by decide +kernel
theorem dX5_goesTo_31 : decode cX5_goesTo 31 = .ok (.aload_n 0, 1) := by decide +kernel
theorem dX5_goesTo_32 : decode cX5_goesTo 32 = .ok (.getfield 13, 3) := by decide +kernel
theorem dX5_goesTo_35 : decode cX5_goesTo 35 = .ok (.iload 4, 2) := by decide +kernel
theorem dX5_goesTo_37 : decode cX5_goesTo 37 = .ok (.iaload, 1) := by decide +kernel
theorem dX5_goesTo_38 : decode cX5_goesTo 38 = .ok (.aload_n 0, 1) := by decide +kernel
theorem dX5_goesTo_39 : decode cX5_goesTo 39 = .ok (.getfield 16, 3) := by decide +kernel
theorem dX5_goesTo_42 : decode cX5_goesTo 42 = .ok (.iload_n 1, 1) := by decide +kernel
theorem dX5_goesTo_43 : decode cX5_goesTo 43 = .ok (.iaload, 1) := by decide +kernel
theorem dX5_goesTo_44 : decode cX5_goesTo 44 = .ok (.ixor, 1) := by decide +kernel
theorem dX5_goesTo_45 : decode cX5_goesTo 45 = .ok (.invokestatic 147, 3) := by decide +kernel
theorem dX5_goesTo_48 : decode cX5_goesTo 48 = .ok (.goto 5, 3) := by decide +kernel
theorem dX5_goesTo_51 : decode cX5_goesTo 51 = .ok (.bipush 9, 2) := by decide +kernel
theorem dX5_goesTo_53 : decode cX5_goesTo 53 = .ok (.istore 5, 2) := by decide +kernel
theorem dX5_goesTo_55 : decode cX5_goesTo 55 = .ok (.iload_n 2, 1) := by decide +kernel
theorem dX5_goesTo_56 : decode cX5_goesTo 56 = .ok (.ifCond .lt 27, 3) := by decide +kernel
theorem dX5_goesTo_59 : decode cX5_goesTo 59 = .ok (.iload 5, 2) := by decide +kernel
theorem dX5_goesTo_61 : decode cX5_goesTo 61 = .ok (.iload_n 3, 1) := by decide +kernel
theorem dX5_goesTo_62 : decode cX5_goesTo 62 = .ok (.if_icmp .ne 21, 3) := by decide +kernel
theorem dX5_goesTo_65 : decode cX5_goesTo 65 = .ok (.aload_n 0, 1) := by decide +kernel
theorem dX5_goesTo_66 : decode cX5_goesTo 66 = .ok (.iload 4, 2) := by decide +kernel
theorem dX5_goesTo_68 : decode cX5_goesTo 68 = .ok (.invokevirtual 153, 3) := by decide +kernel
theorem dX5_goesTo_71 : decode cX5_goesTo 71 = .ok (.aload_n 0, 1) := by decide +kernel
theorem dX5_goesTo_72 : decode cX5_goesTo 72 = .ok (.iload_n 2, 1) := by decide +kernel
theorem dX5_goesTo_73 : decode cX5_goesTo 73 = .ok (.invokevirtual 153, 3) := by decide +kernel
theorem dX5_goesTo_76 : decode cX5_goesTo 76 = .ok (.if_icmp .ge 7, 3) := by decide +kernel
theorem dX5_goesTo_79 : decode cX5_goesTo 79 = .ok (.iconst 1, 1) := by decide +kernel
theorem dX5_goesTo_80 : decode cX5_goesTo 80 = .ok (.goto 4, 3) := by decide +kernel
theorem dX5_goesTo_83 : decode cX5_goesTo 83 = .ok (.iconst 0, 1) := by decide +kernel
theorem dX5_goesTo_84 : decode cX5_goesTo 84 = .ok (.istore 6, 2) := by decide +kernel
theorem dX5_goesTo_86 : decode cX5_goesTo 86 = .ok (.iload 5, 2) := by decide +kernel
theorem dX5_goesTo_88 : decode cX5_goesTo 88 = .ok (.iload_n 3, 1) := by decide +kernel
theorem dX5_goesTo_89 : decode cX5_goesTo 89 = .ok (.if_icmp .lt 8, 3) := by decide +kernel
theorem dX5_goesTo_92 : decode cX5_goesTo 92 = .ok (.iload 6, 2) := by decide +kernel
theorem dX5_goesTo_94 : decode cX5_goesTo 94 = .ok (.ifCond .eq 8, 3) := by decide +kernel
theorem dX5_goesTo_97 : decode cX5_goesTo 97 = .ok (.iload 4, 2) := by decide +kernel
theorem dX5_goesTo_99 : decode cX5_goesTo 99 = .ok (.goto 4, 3) := by decide +kernel
theorem dX5_goesTo_102 : decode cX5_goesTo 102 = .ok (.iload_n 2, 1) := by decide +kernel
theorem dX5_goesTo_103 : decode cX5_goesTo 103 = .ok (.istore_n 2, 1) := by decide +kernel
theorem dX5_goesTo_104 : decode cX5_goesTo 104 = .ok (.iload 5, 2) := by decide +kernel
theorem dX5_goesTo_106 : decode cX5_goesTo 106 = .ok (.iload_n 3, 1) := by decide +kernel
theorem dX5_goesTo_107 : decode cX5_goesTo 107 = .ok (.if_icmp .ge 8, 3) := by decide +kernel
theorem dX5_goesTo_110 : decode cX5_goesTo 110 = .ok (.iload 5, 2) := by decide +kernel
theorem dX5_goesTo_112 : decode cX5_goesTo 112 = .ok (.goto 4, 3) := by decide +kernel
theorem dX5_goesTo_115 : decode cX5_goesTo 115 = .ok (.iload_n 3, 1) := by decide +kernel
theorem dX5_goesTo_116 : decode cX5_goesTo 116 = .ok (.istore_n 3, 1) := by decide +kernel
theorem dX5_goesTo_117 : decode cX5_goesTo 117 = .ok (.iinc 4 1, 3) := by decide +kernel
theorem dX5_goesTo_120 : decode cX5_goesTo 120 = .ok (.goto (-107), 3) := by decide +kernel
theorem dX5_goesTo_123 : decode cX5_goesTo 123 = .ok (.iload_n 2, 1) := by decide +kernel
theorem dX5_goesTo_124 : decode cX5_goesTo 124 = .ok (.ireturn, 1) := by decide +kernel
theorem dX5_ofPerson_0 : decode cX5_ofPerson 0 = .ok (.aload_n 0, 1) := by decide +kernel
theorem dX5_ofPerson_1 : decode cX5_ofPerson 1 = .ok (.iload_n 1, 1) := by decide +kernel
theorem dX5_ofPerson_2 : decode cX5_ofPerson 2 = .ok (.invokevirtual 162, 3) := by decide +kernel
theorem dX5_ofPerson_5 : decode cX5_ofPerson 5 = .ok (.ifCond .eq 5, 3) := by decide +kernel
theorem dX5_ofPerson_8 : decode cX5_ofPerson 8 = .ok (.iconst (-1), 1) := by decide +kernel
theorem dX5_ofPerson_9 : decode cX5_ofPerson 9 = .ok (.ireturn, 1) := by decide +kernel
theorem dX5_ofPerson_10 : decode cX5_ofPerson 10 = .ok (.iload_n 2, 1) := by decide +kernel
theorem dX5_ofPerson_11 : decode cX5_ofPerson 11 = .ok (.tableswitch 95 0 6 #[41, 48, 55, 62, 69, 75, 89], 41) := by decide +kernel
theorem dX5_ofPerson_52 : decode cX5_ofPerson 52 = .ok (.aload_n 0, 1) := by decide +kernel
theorem dX5_ofPerson_53 : decode cX5_ofPerson 53 = .ok (.getfield 7, 3) := by decide +kernel
theorem dX5_ofPerson_56 : decode cX5_ofPerson 56 = .ok (.iload_n 1, 1) := by decide +kernel
theorem dX5_ofPerson_57 : decode cX5_ofPerson 57 = .ok (.iaload, 1) := by decide +kernel
theorem dX5_ofPerson_58 : decode cX5_ofPerson 58 = .ok (.ireturn, 1) := by decide +kernel
theorem dX5_ofPerson_59 : decode cX5_ofPerson 59 = .ok (.aload_n 0, 1) := by decide +kernel
theorem dX5_ofPerson_60 : decode cX5_ofPerson 60 = .ok (.getfield 13, 3) := by decide +kernel
theorem dX5_ofPerson_63 : decode cX5_ofPerson 63 = .ok (.iload_n 1, 1) := by decide +kernel
theorem dX5_ofPerson_64 : decode cX5_ofPerson 64 = .ok (.iaload, 1) := by decide +kernel
theorem dX5_ofPerson_65 : decode cX5_ofPerson 65 = .ok (.ireturn, 1) := by decide +kernel
theorem dX5_ofPerson_66 : decode cX5_ofPerson 66 = .ok (.aload_n 0, 1) := by decide +kernel
theorem dX5_ofPerson_67 : decode cX5_ofPerson 67 = .ok (.getfield 16, 3) := by decide +kernel
theorem dX5_ofPerson_70 : decode cX5_ofPerson 70 = .ok (.iload_n 1, 1) := by decide +kernel
theorem dX5_ofPerson_71 : decode cX5_ofPerson 71 = .ok (.iaload, 1) := by decide +kernel
theorem dX5_ofPerson_72 : decode cX5_ofPerson 72 = .ok (.ireturn, 1) := by decide +kernel
theorem dX5_ofPerson_73 : decode cX5_ofPerson 73 = .ok (.aload_n 0, 1) := by decide +kernel
theorem dX5_ofPerson_74 : decode cX5_ofPerson 74 = .ok (.getfield 19, 3) := by decide +kernel
theorem dX5_ofPerson_77 : decode cX5_ofPerson 77 = .ok (.iload_n 1, 1) := by decide +kernel
theorem dX5_ofPerson_78 : decode cX5_ofPerson 78 = .ok (.iaload, 1) := by decide +kernel
theorem dX5_ofPerson_79 : decode cX5_ofPerson 79 = .ok (.ireturn, 1) := by decide +kernel
theorem dX5_ofPerson_80 : decode cX5_ofPerson 80 = .ok (.aload_n 0, 1) := by decide +kernel
theorem dX5_ofPerson_81 : decode cX5_ofPerson 81 = .ok (.iload_n 1, 1) := by decide +kernel
theorem dX5_ofPerson_82 : decode cX5_ofPerson 82 = .ok (.invokevirtual 156, 3) := by decide +kernel
theorem dX5_ofPerson_85 : decode cX5_ofPerson 85 = .ok (.ireturn, 1) := by decide +kernel
theorem dX5_ofPerson_86 : decode cX5_ofPerson 86 = .ok (.aload_n 0, 1) := by decide +kernel
theorem dX5_ofPerson_87 : decode cX5_ofPerson 87 = .ok (.iload_n 1, 1) := by decide +kernel
theorem dX5_ofPerson_88 : decode cX5_ofPerson 88 = .ok (.invokevirtual 159, 3) := by decide +kernel
theorem dX5_ofPerson_91 : decode cX5_ofPerson 91 = .ok (.ifCond .eq 7, 3) := by decide +kernel
theorem dX5_ofPerson_94 : decode cX5_ofPerson 94 = .ok (.iconst 1, 1) := by decide +kernel
theorem dX5_ofPerson_95 : decode cX5_ofPerson 95 = .ok (.goto 4, 3) := by decide +kernel
theorem dX5_ofPerson_98 : decode cX5_ofPerson 98 = .ok (.iconst 0, 1) := by decide +kernel
theorem dX5_ofPerson_99 : decode cX5_ofPerson 99 = .ok (.ireturn, 1) := by decide +kernel
theorem dX5_ofPerson_100 : decode cX5_ofPerson 100 = .ok (.aload_n 0, 1) := by decide +kernel
theorem dX5_ofPerson_101 : decode cX5_ofPerson 101 = .ok (.iload_n 1, 1) := by decide +kernel
theorem dX5_ofPerson_102 : decode cX5_ofPerson 102 = .ok (.invokevirtual 165, 3) := by decide +kernel
theorem dX5_ofPerson_105 : decode cX5_ofPerson 105 = .ok (.ireturn, 1) := by decide +kernel
theorem dX5_ofPerson_106 : decode cX5_ofPerson 106 = .ok (.bipush (-2), 2) := by decide +kernel
theorem dX5_ofPerson_108 : decode cX5_ofPerson 108 = .ok (.ireturn, 1) := by decide +kernel
theorem dX5_post_0 : decode cX5_post 0 = .ok (.aload_n 0, 1) := by decide +kernel
theorem dX5_post_1 : decode cX5_post 1 = .ok (.getfield 80, 3) := by decide +kernel
theorem dX5_post_4 : decode cX5_post 4 = .ok (.ifCond .ne 6, 3) := by decide +kernel
theorem dX5_post_7 : decode cX5_post 7 = .ok (.bipush (-3), 2) := by decide +kernel
theorem dX5_post_9 : decode cX5_post 9 = .ok (.ireturn, 1) := by decide +kernel
theorem dX5_post_10 : decode cX5_post 10 = .ok (.iload_n 1, 1) := by decide +kernel
theorem dX5_post_11 : decode cX5_post 11 = .ok (.i2l, 1) := by decide +kernel
theorem dX5_post_12 : decode cX5_post 12 = .ok (.lconst 0, 1) := by decide +kernel
theorem dX5_post_13 : decode cX5_post 13 = .ok (.ldc2_w 168, 3) := by decide +kernel
theorem dX5_post_16 : decode cX5_post 16 = .ok (.invokestatic 83, 3) := by decide +kernel
theorem dX5_post_19 : decode cX5_post 19 = .ok (.ifCond .ne 6, 3) := by decide +kernel
theorem dX5_post_22 : decode cX5_post 22 = .ok (.bipush (-2), 2) := by decide +kernel
theorem dX5_post_24 : decode cX5_post 24 = .ok (.ireturn, 1) := by decide +kernel
theorem dX5_post_25 : decode cX5_post 25 = .ok (.aload_n 0, 1) := by decide +kernel
theorem dX5_post_26 : decode cX5_post 26 = .ok (.getfield 135, 3) := by decide +kernel
theorem dX5_post_29 : decode cX5_post 29 = .ok (.istore_n 2, 1) := by decide +kernel
theorem dX5_post_30 : decode cX5_post 30 = .ok (.aload_n 0, 1) := by decide +kernel
theorem dX5_post_31 : decode cX5_post 31 = .ok (.iload_n 1, 1) := by decide +kernel
theorem dX5_post_32 : decode cX5_post 32 = .ok (.putfield 135, 3) := by decide +kernel
theorem dX5_post_35 : decode cX5_post 35 = .ok (.iload_n 2, 1) := by decide +kernel
theorem dX5_post_36 : decode cX5_post 36 = .ok (.ireturn, 1) := by decide +kernel
theorem dX5_lax_0 : decode cX5_lax 0 = .ok (.aload_n 0, 1) := by decide +kernel
theorem dX5_lax_1 : decode cX5_lax 1 = .ok (.getfield 80, 3) := by decide +kernel
theorem dX5_lax_4 : decode cX5_lax 4 = .ok (.ifCond .ne 6, 3) := by decide +kernel
theorem dX5_lax_7 : decode cX5_lax 7 = .ok (.bipush (-3), 2) := by decide +kernel
theorem dX5_lax_9 : decode cX5_lax 9 = .ok (.ireturn, 1) := by decide +kernel
theorem dX5_lax_10 : decode cX5_lax 10 = .ok (.iload_n 1, 1) := by decide +kernel
theorem dX5_lax_11 : decode cX5_lax 11 = .ok (.i2l, 1) := by decide +kernel
theorem dX5_lax_12 : decode cX5_lax 12 = .ok (.lconst 0, 1) := by decide +kernel
theorem dX5_lax_13 : decode cX5_lax 13 = .ok (.ldc2_w 170, 3) := by decide +kernel
theorem dX5_lax_16 : decode cX5_lax 16 = .ok (.invokestatic 83, 3) := by decide +kernel
theorem dX5_lax_19 : decode cX5_lax 19 = .ok (.ifCond .ne 6, 3) := by decide +kernel
theorem dX5_lax_22 : decode cX5_lax 22 = .ok (.bipush (-2), 2) := by decide +kernel
theorem dX5_lax_24 : decode cX5_lax 24 = .ok (.ireturn, 1) := by decide +kernel
theorem dX5_lax_25 : decode cX5_lax 25 = .ok (.aload_n 0, 1) := by decide +kernel
theorem dX5_lax_26 : decode cX5_lax 26 = .ok (.getfield 138, 3) := by decide +kernel
theorem dX5_lax_29 : decode cX5_lax 29 = .ok (.istore_n 2, 1) := by decide +kernel
theorem dX5_lax_30 : decode cX5_lax 30 = .ok (.aload_n 0, 1) := by decide +kernel
theorem dX5_lax_31 : decode cX5_lax 31 = .ok (.iload_n 1, 1) := by decide +kernel
theorem dX5_lax_32 : decode cX5_lax 32 = .ok (.putfield 138, 3) := by decide +kernel
theorem dX5_lax_35 : decode cX5_lax 35 = .ok (.iload_n 2, 1) := by decide +kernel
theorem dX5_lax_36 : decode cX5_lax 36 = .ok (.ireturn, 1) := by decide +kernel
theorem dX5_bathe_0 : decode cX5_bathe 0 = .ok (.aload_n 0, 1) := by decide +kernel
theorem dX5_bathe_1 : decode cX5_bathe 1 = .ok (.iload_n 1, 1) := by decide +kernel
theorem dX5_bathe_2 : decode cX5_bathe 2 = .ok (.invokevirtual 162, 3) := by decide +kernel
theorem dX5_bathe_5 : decode cX5_bathe 5 = .ok (.ifCond .eq 5, 3) := by decide +kernel
theorem dX5_bathe_8 : decode cX5_bathe 8 = .ok (.iconst (-1), 1) := by decide +kernel
theorem dX5_bathe_9 : decode cX5_bathe 9 = .ok (.ireturn, 1) := by decide +kernel
theorem dX5_bathe_10 : decode cX5_bathe 10 = .ok (.iload_n 2, 1) := by decide +kernel
theorem dX5_bathe_11 : decode cX5_bathe 11 = .ok (.i2l, 1) := by decide +kernel
theorem dX5_bathe_12 : decode cX5_bathe 12 = .ok (.lconst 0, 1) := by decide +kernel
theorem dX5_bathe_13 : decode cX5_bathe 13 = .ok (.ldc2_w 172, 3) := by decide +kernel
theorem dX5_bathe_16 : decode cX5_bathe 16 = .ok (.invokestatic 83, 3) := by decide +kernel
theorem dX5_bathe_19 : decode cX5_bathe 19 = .ok (.ifCond .ne 6, 3) := by decide +kernel
theorem dX5_bathe_22 : decode cX5_bathe 22 = .ok (.bipush (-2), 2) := by decide +kernel
theorem dX5_bathe_24 : decode cX5_bathe 24 = .ok (.ireturn, 1) := by decide +kernel
theorem dX5_bathe_25 : decode cX5_bathe 25 = .ok (.aload_n 0, 1) := by decide +kernel
theorem dX5_bathe_26 : decode cX5_bathe 26 = .ok (.getfield 13, 3) := by decide +kernel
theorem dX5_bathe_29 : decode cX5_bathe 29 = .ok (.iload_n 1, 1) := by decide +kernel
theorem dX5_bathe_30 : decode cX5_bathe 30 = .ok (.iaload, 1) := by decide +kernel
theorem dX5_bathe_31 : decode cX5_bathe 31 = .ok (.istore_n 3, 1) := by decide +kernel
theorem dX5_bathe_32 : decode cX5_bathe 32 = .ok (.aload_n 0, 1) := by decide +kernel
theorem dX5_bathe_33 : decode cX5_bathe 33 = .ok (.getfield 13, 3) := by decide +kernel
theorem dX5_bathe_36 : decode cX5_bathe 36 = .ok (.iload_n 1, 1) := by decide +kernel
theorem dX5_bathe_37 : decode cX5_bathe 37 = .ok (.iload_n 2, 1) := by decide +kernel
theorem dX5_bathe_38 : decode cX5_bathe 38 = .ok (.iastore, 1) := by decide +kernel
theorem dX5_bathe_39 : decode cX5_bathe 39 = .ok (.iload_n 3, 1) := by decide +kernel
theorem dX5_bathe_40 : decode cX5_bathe 40 = .ok (.ireturn, 1) := by decide +kernel
theorem dX5_moves_0 : decode cX5_moves 0 = .ok (.aload_n 0, 1) := by decide +kernel
theorem dX5_moves_1 : decode cX5_moves 1 = .ok (.iload_n 1, 1) := by decide +kernel
theorem dX5_moves_2 : decode cX5_moves 2 = .ok (.invokevirtual 162, 3) := by decide +kernel
theorem dX5_moves_5 : decode cX5_moves 5 = .ok (.ifCond .eq 5, 3) := by decide +kernel
theorem dX5_moves_8 : decode cX5_moves 8 = .ok (.iconst (-1), 1) := by decide +kernel
theorem dX5_moves_9 : decode cX5_moves 9 = .ok (.ireturn, 1) := by decide +kernel
theorem dX5_moves_10 : decode cX5_moves 10 = .ok (.iload_n 2, 1) := by decide +kernel
theorem dX5_moves_11 : decode cX5_moves 11 = .ok (.i2l, 1) := by decide +kernel
theorem dX5_moves_12 : decode cX5_moves 12 = .ok (.lconst 0, 1) := by decide +kernel
theorem dX5_moves_13 : decode cX5_moves 13 = .ok (.ldc2_w 168, 3) := by decide +kernel
theorem dX5_moves_16 : decode cX5_moves 16 = .ok (.invokestatic 83, 3) := by decide +kernel
theorem dX5_moves_19 : decode cX5_moves 19 = .ok (.ifCond .ne 6, 3) := by decide +kernel
theorem dX5_moves_22 : decode cX5_moves 22 = .ok (.bipush (-2), 2) := by decide +kernel
theorem dX5_moves_24 : decode cX5_moves 24 = .ok (.ireturn, 1) := by decide +kernel
theorem dX5_moves_25 : decode cX5_moves 25 = .ok (.aload_n 0, 1) := by decide +kernel
theorem dX5_moves_26 : decode cX5_moves 26 = .ok (.getfield 19, 3) := by decide +kernel
theorem dX5_moves_29 : decode cX5_moves 29 = .ok (.iload_n 1, 1) := by decide +kernel
theorem dX5_moves_30 : decode cX5_moves 30 = .ok (.iaload, 1) := by decide +kernel
theorem dX5_moves_31 : decode cX5_moves 31 = .ok (.istore_n 3, 1) := by decide +kernel
theorem dX5_moves_32 : decode cX5_moves 32 = .ok (.aload_n 0, 1) := by decide +kernel
theorem dX5_moves_33 : decode cX5_moves 33 = .ok (.getfield 19, 3) := by decide +kernel
theorem dX5_moves_36 : decode cX5_moves 36 = .ok (.iload_n 1, 1) := by decide +kernel
theorem dX5_moves_37 : decode cX5_moves 37 = .ok (.iload_n 2, 1) := by decide +kernel
theorem dX5_moves_38 : decode cX5_moves 38 = .ok (.iastore, 1) := by decide +kernel
theorem dX5_moves_39 : decode cX5_moves 39 = .ok (.iload_n 3, 1) := by decide +kernel
theorem dX5_moves_40 : decode cX5_moves 40 = .ok (.ireturn, 1) := by decide +kernel
theorem dX5_sent_0 : decode cX5_sent 0 = .ok (.aload_n 0, 1) := by decide +kernel
theorem dX5_sent_1 : decode cX5_sent 1 = .ok (.iload_n 1, 1) := by decide +kernel
theorem dX5_sent_2 : decode cX5_sent 2 = .ok (.invokevirtual 165, 3) := by decide +kernel
theorem dX5_sent_5 : decode cX5_sent 5 = .ok (.istore_n 2, 1) := by decide +kernel
theorem dX5_sent_6 : decode cX5_sent 6 = .ok (.iload_n 2, 1) := by decide +kernel
theorem dX5_sent_7 : decode cX5_sent 7 = .ok (.ifCond .lt 15, 3) := by decide +kernel
theorem dX5_sent_10 : decode cX5_sent 10 = .ok (.aload_n 0, 1) := by decide +kernel
theorem dX5_sent_11 : decode cX5_sent 11 = .ok (.getfield 16, 3) := by decide +kernel
theorem dX5_sent_14 : decode cX5_sent 14 = .ok (.iload_n 2, 1) := by decide +kernel
theorem dX5_sent_15 : decode cX5_sent 15 = .ok (.aload_n 0, 1) := by decide +kernel
theorem dX5_sent_16 : decode cX5_sent 16 = .ok (.getfield 13, 3) := by decide +kernel
theorem dX5_sent_19 : decode cX5_sent 19 = .ok (.iload_n 2, 1) := by decide +kernel
theorem dX5_sent_20 : decode cX5_sent 20 = .ok (.iaload, 1) := by decide +kernel
theorem dX5_sent_21 : decode cX5_sent 21 = .ok (.iastore, 1) := by decide +kernel
theorem dX5_sent_22 : decode cX5_sent 22 = .ok (.iload_n 2, 1) := by decide +kernel
theorem dX5_sent_23 : decode cX5_sent 23 = .ok (.ireturn, 1) := by decide +kernel
theorem dX5_send_0 : decode cX5_send 0 = .ok (.aload_n 0, 1) := by decide +kernel
theorem dX5_send_1 : decode cX5_send 1 = .ok (.iload_n 1, 1) := by decide +kernel
theorem dX5_send_2 : decode cX5_send 2 = .ok (.invokevirtual 162, 3) := by decide +kernel
theorem dX5_send_5 : decode cX5_send 5 = .ok (.ifCond .eq 5, 3) := by decide +kernel
theorem dX5_send_8 : decode cX5_send 8 = .ok (.iconst (-1), 1) := by decide +kernel
theorem dX5_send_9 : decode cX5_send 9 = .ok (.ireturn, 1) := by decide +kernel
theorem dX5_send_10 : decode cX5_send 10 = .ok (.aload_n 0, 1) := by decide +kernel
theorem dX5_send_11 : decode cX5_send 11 = .ok (.dup, 1) := by decide +kernel
theorem dX5_send_12 : decode cX5_send 12 = .ok (.getfield 141, 3) := by decide +kernel
theorem dX5_send_15 : decode cX5_send 15 = .ok (.iconst 1, 1) := by decide +kernel
theorem dX5_send_16 : decode cX5_send 16 = .ok (.iadd, 1) := by decide +kernel
theorem dX5_send_17 : decode cX5_send 17 = .ok (.putfield 141, 3) := by decide +kernel
theorem dX5_send_20 : decode cX5_send 20 = .ok (.aload_n 0, 1) := by decide +kernel
theorem dX5_send_21 : decode cX5_send 21 = .ok (.iload_n 1, 1) := by decide +kernel
theorem dX5_send_22 : decode cX5_send 22 = .ok (.invokevirtual 174, 3) := by decide +kernel
theorem dX5_send_25 : decode cX5_send 25 = .ok (.ireturn, 1) := by decide +kernel
theorem dX5_comes_0 : decode cX5_comes 0 = .ok (.aload_n 0, 1) := by decide +kernel
theorem dX5_comes_1 : decode cX5_comes 1 = .ok (.getfield 80, 3) := by decide +kernel
theorem dX5_comes_4 : decode cX5_comes 4 = .ok (.ifCond .ne 6, 3) := by decide +kernel
theorem dX5_comes_7 : decode cX5_comes 7 = .ok (.bipush (-3), 2) := by decide +kernel
theorem dX5_comes_9 : decode cX5_comes 9 = .ok (.ireturn, 1) := by decide +kernel
theorem dX5_comes_10 : decode cX5_comes 10 = .ok (.iload_n 1, 1) := by decide +kernel
theorem dX5_comes_11 : decode cX5_comes 11 = .ok (.i2l, 1) := by decide +kernel
theorem dX5_comes_12 : decode cX5_comes 12 = .ok (.lconst 0, 1) := by decide +kernel
theorem dX5_comes_13 : decode cX5_comes 13 = .ok (.lconst 1, 1) := by decide +kernel
theorem dX5_comes_14 : decode cX5_comes 14 = .ok (.invokestatic 83, 3) := by decide +kernel
theorem dX5_comes_17 : decode cX5_comes 17 = .ok (.ifCond .ne 6, 3) := by decide +kernel
theorem dX5_comes_20 : decode cX5_comes 20 = .ok (.bipush (-2), 2) := by decide +kernel
theorem dX5_comes_22 : decode cX5_comes 22 = .ok (.ireturn, 1) := by decide +kernel
theorem dX5_comes_23 : decode cX5_comes 23 = .ok (.iconst 0, 1) := by decide +kernel
theorem dX5_comes_24 : decode cX5_comes 24 = .ok (.istore_n 2, 1) := by decide +kernel
theorem dX5_comes_25 : decode cX5_comes 25 = .ok (.iconst 0, 1) := by decide +kernel
theorem dX5_comes_26 : decode cX5_comes 26 = .ok (.istore_n 3, 1) := by decide +kernel
theorem dX5_comes_27 : decode cX5_comes 27 = .ok (.iconst 0, 1) := by decide +kernel
theorem dX5_comes_28 : decode cX5_comes 28 = .ok (.istore 4, 2) := by decide +kernel
theorem dX5_comes_30 : decode cX5_comes 30 = .ok (.iload 4, 2) := by decide +kernel
theorem dX5_comes_32 : decode cX5_comes 32 = .ok (.aload_n 0, 1) := by decide +kernel
theorem dX5_comes_33 : decode cX5_comes 33 = .ok (.getfield 80, 3) := by decide +kernel
theorem dX5_comes_36 : decode cX5_comes 36 = .ok (.if_icmp .ge 51, 3) := by decide +kernel
theorem dX5_comes_39 : decode cX5_comes 39 = .ok (.aload_n 0, 1) := by decide +kernel
theorem dX5_comes_40 : decode cX5_comes 40 = .ok (.iload 4, 2) := by decide +kernel
theorem dX5_comes_42 : decode cX5_comes 42 = .ok (.invokevirtual 165, 3) := by decide +kernel
theorem dX5_comes_45 : decode cX5_comes 45 = .ok (.istore 5, 2) := by decide +kernel
theorem dX5_comes_47 : decode cX5_comes 47 = .ok (.iload_n 2, 1) := by decide +kernel
theorem dX5_comes_48 : decode cX5_comes 48 = .ok (.iload 5, 2) := by decide +kernel
theorem dX5_comes_50 : decode cX5_comes 50 = .ok (.iload 4, 2) := by decide +kernel
theorem dX5_comes_52 : decode cX5_comes 52 = .ok (.if_icmp .ne 10, 3) := by decide +kernel
theorem dX5_comes_55 : decode cX5_comes 55 = .ok (.iconst 1, 1) := by decide +kernel
theorem dX5_comes_56 : decode cX5_comes 56 = .ok (.iload 4, 2) := by decide +kernel
theorem dX5_comes_58 : decode cX5_comes 58 = .ok (.ishl, 1) := by decide +kernel
theorem dX5_comes_59 : decode cX5_comes 59 = .ok (.goto 4, 3) := by decide +kernel
theorem dX5_comes_62 : decode cX5_comes 62 = .ok (.iconst 0, 1) := by decide +kernel
theorem dX5_comes_63 : decode cX5_comes 63 = .ok (.ior, 1) := by decide +kernel
theorem dX5_comes_64 : decode cX5_comes 64 = .ok (.istore_n 2, 1) := by decide +kernel
theorem dX5_comes_65 : decode cX5_comes 65 = .ok (.iload_n 3, 1) := by decide +kernel
theorem dX5_comes_66 : decode cX5_comes 66 = .ok (.iload 5, 2) := by decide +kernel
theorem dX5_comes_68 : decode cX5_comes 68 = .ok (.ifCond .ge 7, 3) := by decide +kernel
theorem dX5_comes_71 : decode cX5_comes 71 = .ok (.iconst 0, 1) := by decide +kernel
theorem dX5_comes_72 : decode cX5_comes 72 = .ok (.goto 7, 3) := by decide +kernel
theorem dX5_comes_75 : decode cX5_comes 75 = .ok (.iconst 1, 1) := by decide +kernel
theorem dX5_comes_76 : decode cX5_comes 76 = .ok (.iload 5, 2) := by decide +kernel
theorem dX5_comes_78 : decode cX5_comes 78 = .ok (.ishl, 1) := by decide +kernel
theorem dX5_comes_79 : decode cX5_comes 79 = .ok (.ior, 1) := by decide +kernel
theorem dX5_comes_80 : decode cX5_comes 80 = .ok (.istore_n 3, 1) := by decide +kernel
theorem dX5_comes_81 : decode cX5_comes 81 = .ok (.iinc 4 1, 3) := by decide +kernel
theorem dX5_comes_84 : decode cX5_comes 84 = .ok (.goto (-54), 3) := by decide +kernel
theorem dX5_comes_87 : decode cX5_comes 87 = .ok (.iload_n 1, 1) := by decide +kernel
theorem dX5_comes_88 : decode cX5_comes 88 = .ok (.ifCond .ne 7, 3) := by decide +kernel
theorem dX5_comes_91 : decode cX5_comes 91 = .ok (.iload_n 2, 1) := by decide +kernel
theorem dX5_comes_92 : decode cX5_comes 92 = .ok (.goto 4, 3) := by decide +kernel
theorem dX5_comes_95 : decode cX5_comes 95 = .ok (.iload_n 3, 1) := by decide +kernel
theorem dX5_comes_96 : decode cX5_comes 96 = .ok (.ireturn, 1) := by decide +kernel
theorem dX5_keepAll_0 : decode cX5_keepAll 0 = .ok (.iconst 0, 1) := by decide +kernel
theorem dX5_keepAll_1 : decode cX5_keepAll 1 = .ok (.istore_n 1, 1) := by decide +kernel
theorem dX5_keepAll_2 : decode cX5_keepAll 2 = .ok (.iload_n 1, 1) := by decide +kernel
theorem dX5_keepAll_3 : decode cX5_keepAll 3 = .ok (.aload_n 0, 1) := by decide +kernel
theorem dX5_keepAll_4 : decode cX5_keepAll 4 = .ok (.getfield 80, 3) := by decide +kernel
theorem dX5_keepAll_7 : decode cX5_keepAll 7 = .ok (.if_icmp .ge 45, 3) := by decide +kernel
theorem dX5_keepAll_10 : decode cX5_keepAll 10 = .ok (.aload_n 0, 1) := by decide +kernel
theorem dX5_keepAll_11 : decode cX5_keepAll 11 = .ok (.getfield 34, 3) := by decide +kernel
theorem dX5_keepAll_14 : decode cX5_keepAll 14 = .ok (.iload_n 1, 1) := by decide +kernel
theorem dX5_keepAll_15 : decode cX5_keepAll 15 = .ok (.aload_n 0, 1) := by decide +kernel
theorem dX5_keepAll_16 : decode cX5_keepAll 16 = .ok (.getfield 13, 3) := by decide +kernel
theorem dX5_keepAll_19 : decode cX5_keepAll 19 = .ok (.iload_n 1, 1) := by decide +kernel
theorem dX5_keepAll_20 : decode cX5_keepAll 20 = .ok (.iaload, 1) := by decide +kernel
theorem dX5_keepAll_21 : decode cX5_keepAll 21 = .ok (.iastore, 1) := by decide +kernel
theorem dX5_keepAll_22 : decode cX5_keepAll 22 = .ok (.aload_n 0, 1) := by decide +kernel
theorem dX5_keepAll_23 : decode cX5_keepAll 23 = .ok (.getfield 37, 3) := by decide +kernel
theorem dX5_keepAll_26 : decode cX5_keepAll 26 = .ok (.iload_n 1, 1) := by decide +kernel
theorem dX5_keepAll_27 : decode cX5_keepAll 27 = .ok (.aload_n 0, 1) := by decide +kernel
theorem dX5_keepAll_28 : decode cX5_keepAll 28 = .ok (.getfield 16, 3) := by decide +kernel
theorem dX5_keepAll_31 : decode cX5_keepAll 31 = .ok (.iload_n 1, 1) := by decide +kernel
theorem dX5_keepAll_32 : decode cX5_keepAll 32 = .ok (.iaload, 1) := by decide +kernel
theorem dX5_keepAll_33 : decode cX5_keepAll 33 = .ok (.iastore, 1) := by decide +kernel
theorem dX5_keepAll_34 : decode cX5_keepAll 34 = .ok (.aload_n 0, 1) := by decide +kernel
theorem dX5_keepAll_35 : decode cX5_keepAll 35 = .ok (.getfield 40, 3) := by decide +kernel
theorem dX5_keepAll_38 : decode cX5_keepAll 38 = .ok (.iload_n 1, 1) := by decide +kernel
theorem dX5_keepAll_39 : decode cX5_keepAll 39 = .ok (.aload_n 0, 1) := by decide +kernel
theorem dX5_keepAll_40 : decode cX5_keepAll 40 = .ok (.getfield 19, 3) := by decide +kernel
theorem dX5_keepAll_43 : decode cX5_keepAll 43 = .ok (.iload_n 1, 1) := by decide +kernel
theorem dX5_keepAll_44 : decode cX5_keepAll 44 = .ok (.iaload, 1) := by decide +kernel
theorem dX5_keepAll_45 : decode cX5_keepAll 45 = .ok (.iastore, 1) := by decide +kernel
theorem dX5_keepAll_46 : decode cX5_keepAll 46 = .ok (.iinc 1 1, 3) := by decide +kernel
theorem dX5_keepAll_49 : decode cX5_keepAll 49 = .ok (.goto (-47), 3) := by decide +kernel
theorem dX5_keepAll_52 : decode cX5_keepAll 52 = .ok (.return_, 1) := by decide +kernel
theorem dX5_bringBack_0 : decode cX5_bringBack 0 = .ok (.iconst 0, 1) := by decide +kernel
theorem dX5_bringBack_1 : decode cX5_bringBack 1 = .ok (.istore_n 1, 1) := by decide +kernel
theorem dX5_bringBack_2 : decode cX5_bringBack 2 = .ok (.iload_n 1, 1) := by decide +kernel
theorem dX5_bringBack_3 : decode cX5_bringBack 3 = .ok (.aload_n 0, 1) := by decide +kernel
theorem dX5_bringBack_4 : decode cX5_bringBack 4 = .ok (.getfield 80, 3) := by decide +kernel
theorem dX5_bringBack_7 : decode cX5_bringBack 7 = .ok (.if_icmp .ge 45, 3) := by decide +kernel
theorem dX5_bringBack_10 : decode cX5_bringBack 10 = .ok (.aload_n 0, 1) := by decide +kernel
theorem dX5_bringBack_11 : decode cX5_bringBack 11 = .ok (.getfield 13, 3) := by decide +kernel
theorem dX5_bringBack_14 : decode cX5_bringBack 14 = .ok (.iload_n 1, 1) := by decide +kernel
theorem dX5_bringBack_15 : decode cX5_bringBack 15 = .ok (.aload_n 0, 1) := by decide +kernel
theorem dX5_bringBack_16 : decode cX5_bringBack 16 = .ok (.getfield 34, 3) := by decide +kernel
theorem dX5_bringBack_19 : decode cX5_bringBack 19 = .ok (.iload_n 1, 1) := by decide +kernel
theorem dX5_bringBack_20 : decode cX5_bringBack 20 = .ok (.iaload, 1) := by decide +kernel
theorem dX5_bringBack_21 : decode cX5_bringBack 21 = .ok (.iastore, 1) := by decide +kernel
theorem dX5_bringBack_22 : decode cX5_bringBack 22 = .ok (.aload_n 0, 1) := by decide +kernel
theorem dX5_bringBack_23 : decode cX5_bringBack 23 = .ok (.getfield 16, 3) := by decide +kernel
theorem dX5_bringBack_26 : decode cX5_bringBack 26 = .ok (.iload_n 1, 1) := by decide +kernel
theorem dX5_bringBack_27 : decode cX5_bringBack 27 = .ok (.aload_n 0, 1) := by decide +kernel
theorem dX5_bringBack_28 : decode cX5_bringBack 28 = .ok (.getfield 37, 3) := by decide +kernel
theorem dX5_bringBack_31 : decode cX5_bringBack 31 = .ok (.iload_n 1, 1) := by decide +kernel
theorem dX5_bringBack_32 : decode cX5_bringBack 32 = .ok (.iaload, 1) := by decide +kernel
theorem dX5_bringBack_33 : decode cX5_bringBack 33 = .ok (.iastore, 1) := by decide +kernel
theorem dX5_bringBack_34 : decode cX5_bringBack 34 = .ok (.aload_n 0, 1) := by decide +kernel
theorem dX5_bringBack_35 : decode cX5_bringBack 35 = .ok (.getfield 19, 3) := by decide +kernel
theorem dX5_bringBack_38 : decode cX5_bringBack 38 = .ok (.iload_n 1, 1) := by decide +kernel
theorem dX5_bringBack_39 : decode cX5_bringBack 39 = .ok (.aload_n 0, 1) := by decide +kernel
theorem dX5_bringBack_40 : decode cX5_bringBack 40 = .ok (.getfield 40, 3) := by decide +kernel
theorem dX5_bringBack_43 : decode cX5_bringBack 43 = .ok (.iload_n 1, 1) := by decide +kernel
theorem dX5_bringBack_44 : decode cX5_bringBack 44 = .ok (.iaload, 1) := by decide +kernel
theorem dX5_bringBack_45 : decode cX5_bringBack 45 = .ok (.iastore, 1) := by decide +kernel
theorem dX5_bringBack_46 : decode cX5_bringBack 46 = .ok (.iinc 1 1, 3) := by decide +kernel
theorem dX5_bringBack_49 : decode cX5_bringBack 49 = .ok (.goto (-47), 3) := by decide +kernel
theorem dX5_bringBack_52 : decode cX5_bringBack 52 = .ok (.return_, 1) := by decide +kernel
theorem dX5_pairsBarred_0 : decode cX5_pairsBarred 0 = .ok (.iconst 0, 1) := by decide +kernel
theorem dX5_pairsBarred_1 : decode cX5_pairsBarred 1 = .ok (.istore_n 3, 1) := by decide +kernel
theorem dX5_pairsBarred_2 : decode cX5_pairsBarred 2 = .ok (.iload_n 3, 1) := by decide +kernel
theorem dX5_pairsBarred_3 : decode cX5_pairsBarred 3 = .ok (.iload_n 2, 1) := by decide +kernel
theorem dX5_pairsBarred_4 : decode cX5_pairsBarred 4 = .ok (.if_icmp .ge 73, 3) := by decide +kernel
theorem dX5_pairsBarred_7 : decode cX5_pairsBarred 7 = .ok (.aload_n 0, 1) := by decide +kernel
theorem dX5_pairsBarred_8 : decode cX5_pairsBarred 8 = .ok (.getfield 64, 3) := by decide +kernel
theorem dX5_pairsBarred_11 : decode cX5_pairsBarred 11 = .ok (.iload_n 1, 1) := by decide +kernel
theorem dX5_pairsBarred_12 : decode cX5_pairsBarred 12 = .ok (.iconst 2, 1) := by decide +kernel
theorem dX5_pairsBarred_13 : decode cX5_pairsBarred 13 = .ok (.iload_n 3, 1) := by decide +kernel
theorem dX5_pairsBarred_14 : decode cX5_pairsBarred 14 = .ok (.imul, 1) := by decide +kernel
theorem dX5_pairsBarred_15 : decode cX5_pairsBarred 15 = .ok (.iadd, 1) := by decide +kernel
theorem dX5_pairsBarred_16 : decode cX5_pairsBarred 16 = .ok (.iconst 1, 1) := by decide +kernel
theorem dX5_pairsBarred_17 : decode cX5_pairsBarred 17 = .ok (.iadd, 1) := by decide +kernel
theorem dX5_pairsBarred_18 : decode cX5_pairsBarred 18 = .ok (.iaload, 1) := by decide +kernel
theorem dX5_pairsBarred_19 : decode cX5_pairsBarred 19 = .ok (.istore 4, 2) := by decide +kernel
theorem dX5_pairsBarred_21 : decode cX5_pairsBarred 21 = .ok (.iload 4, 2) := by decide +kernel
theorem dX5_pairsBarred_23 : decode cX5_pairsBarred 23 = .ok (.i2l, 1) := by decide +kernel
theorem dX5_pairsBarred_24 : decode cX5_pairsBarred 24 = .ok (.lconst 0, 1) := by decide +kernel
theorem dX5_pairsBarred_25 : decode cX5_pairsBarred 25 = .ok (.ldc2_w 177, 3) := by decide +kernel
theorem dX5_pairsBarred_28 : decode cX5_pairsBarred 28 = .ok (.invokestatic 83, 3) := by decide +kernel
theorem dX5_pairsBarred_31 : decode cX5_pairsBarred 31 = .ok (.ifCond .ne 21, 3) := by decide +kernel
theorem dX5_pairsBarred_34 : decode cX5_pairsBarred 34 = .ok (.iload 4, 2) := by decide +kernel
theorem dX5_pairsBarred_36 : decode cX5_pairsBarred 36 = .ok (.i2l, 1) := by decide +kernel
theorem dX5_pairsBarred_37 : decode cX5_pairsBarred 37 = .ok (.ldc2_w 179, 3) := by decide +kernel
theorem dX5_pairsBarred_40 : decode cX5_pairsBarred 40 = .ok (.ldc2_w 181, 3) := by decide +kernel
theorem dX5_pairsBarred_43 : decode cX5_pairsBarred 43 = .ok (.invokestatic 83, 3) := by decide +kernel
theorem dX5_pairsBarred_46 : decode cX5_pairsBarred 46 = .ok (.ifCond .ne 6, 3) := by decide +kernel
theorem dX5_pairsBarred_49 : decode cX5_pairsBarred 49 = .ok (.bipush (-2), 2) := by decide +kernel
theorem dX5_pairsBarred_51 : decode cX5_pairsBarred 51 = .ok (.ireturn, 1) := by decide +kernel
theorem dX5_pairsBarred_52 : decode cX5_pairsBarred 52 = .ok (.aload_n 0, 1) := by decide +kernel
theorem dX5_pairsBarred_53 : decode cX5_pairsBarred 53 = .ok (.aload_n 0, 1) := by decide +kernel
theorem dX5_pairsBarred_54 : decode cX5_pairsBarred 54 = .ok (.getfield 64, 3) := by decide +kernel
theorem dX5_pairsBarred_57 : decode cX5_pairsBarred 57 = .ok (.iload_n 1, 1) := by decide +kernel
theorem dX5_pairsBarred_58 : decode cX5_pairsBarred 58 = .ok (.iconst 2, 1) := by decide +kernel
theorem dX5_pairsBarred_59 : decode cX5_pairsBarred 59 = .ok (.iload_n 3, 1) := by decide +kernel
theorem dX5_pairsBarred_60 : decode cX5_pairsBarred 60 = .ok (.imul, 1) := by decide +kernel
theorem dX5_pairsBarred_61 : decode cX5_pairsBarred 61 = .ok (.iadd, 1) := by decide +kernel
theorem dX5_pairsBarred_62 : decode cX5_pairsBarred 62 = .ok (.iaload, 1) := by decide +kernel
theorem dX5_pairsBarred_63 : decode cX5_pairsBarred 63 = .ok (.invokevirtual 162, 3) := by decide +kernel
theorem dX5_pairsBarred_66 : decode cX5_pairsBarred 66 = .ok (.ifCond .eq 5, 3) := by decide +kernel
theorem dX5_pairsBarred_69 : decode cX5_pairsBarred 69 = .ok (.iconst (-1), 1) := by decide +kernel
theorem dX5_pairsBarred_70 : decode cX5_pairsBarred 70 = .ok (.ireturn, 1) := by decide +kernel
theorem dX5_pairsBarred_71 : decode cX5_pairsBarred 71 = .ok (.iinc 3 1, 3) := by decide +kernel
theorem dX5_pairsBarred_74 : decode cX5_pairsBarred 74 = .ok (.goto (-72), 3) := by decide +kernel
theorem dX5_pairsBarred_77 : decode cX5_pairsBarred 77 = .ok (.iconst 0, 1) := by decide +kernel
theorem dX5_pairsBarred_78 : decode cX5_pairsBarred 78 = .ok (.ireturn, 1) := by decide +kernel
theorem dX5_roundBy_0 : decode cX5_roundBy 0 = .ok (.iconst 0, 1) := by decide +kernel
theorem dX5_roundBy_1 : decode cX5_roundBy 1 = .ok (.istore 4, 2) := by decide +kernel
theorem dX5_roundBy_3 : decode cX5_roundBy 3 = .ok (.bipush (-9), 2) := by decide +kernel
theorem dX5_roundBy_5 : decode cX5_roundBy 5 = .ok (.istore 5, 2) := by decide +kernel
theorem dX5_roundBy_7 : decode cX5_roundBy 7 = .ok (.iconst 0, 1) := by decide +kernel
theorem dX5_roundBy_8 : decode cX5_roundBy 8 = .ok (.istore 6, 2) := by decide +kernel
theorem dX5_roundBy_10 : decode cX5_roundBy 10 = .ok (.iconst 0, 1) := by decide +kernel
theorem dX5_roundBy_11 : decode cX5_roundBy 11 = .ok (.istore 7, 2) := by decide +kernel
theorem dX5_roundBy_13 : decode cX5_roundBy 13 = .ok (.iconst 0, 1) := by decide +kernel
theorem dX5_roundBy_14 : decode cX5_roundBy 14 = .ok (.istore 8, 2) := by decide +kernel
theorem dX5_roundBy_16 : decode cX5_roundBy 16 = .ok (.iload 8, 2) := by decide +kernel
theorem dX5_roundBy_18 : decode cX5_roundBy 18 = .ok (.iload_n 2, 1) := by decide +kernel
theorem dX5_roundBy_19 : decode cX5_roundBy 19 = .ok (.if_icmp .ge 157, 3) := by decide +kernel
theorem dX5_roundBy_22 : decode cX5_roundBy 22 = .ok (.aload_n 0, 1) := by decide +kernel
theorem dX5_roundBy_23 : decode cX5_roundBy 23 = .ok (.getfield 64, 3) := by decide +kernel
theorem dX5_roundBy_26 : decode cX5_roundBy 26 = .ok (.iload_n 1, 1) := by decide +kernel
theorem dX5_roundBy_27 : decode cX5_roundBy 27 = .ok (.iconst 2, 1) := by decide +kernel
theorem dX5_roundBy_28 : decode cX5_roundBy 28 = .ok (.iload 8, 2) := by decide +kernel
theorem dX5_roundBy_30 : decode cX5_roundBy 30 = .ok (.imul, 1) := by decide +kernel
theorem dX5_roundBy_31 : decode cX5_roundBy 31 = .ok (.iadd, 1) := by decide +kernel
theorem dX5_roundBy_32 : decode cX5_roundBy 32 = .ok (.iaload, 1) := by decide +kernel
theorem dX5_roundBy_33 : decode cX5_roundBy 33 = .ok (.istore 9, 2) := by decide +kernel
theorem dX5_roundBy_35 : decode cX5_roundBy 35 = .ok (.aload_n 0, 1) := by decide +kernel
theorem dX5_roundBy_36 : decode cX5_roundBy 36 = .ok (.getfield 64, 3) := by decide +kernel
theorem dX5_roundBy_39 : decode cX5_roundBy 39 = .ok (.iload_n 1, 1) := by decide +kernel
theorem dX5_roundBy_40 : decode cX5_roundBy 40 = .ok (.iconst 2, 1) := by decide +kernel
theorem dX5_roundBy_41 : decode cX5_roundBy 41 = .ok (.iload 8, 2) := by decide +kernel
theorem dX5_roundBy_43 : decode cX5_roundBy 43 = .ok (.imul, 1) := by decide +kernel
theorem dX5_roundBy_44 : decode cX5_roundBy 44 = .ok (.iadd, 1) := by decide +kernel
theorem dX5_roundBy_45 : decode cX5_roundBy 45 = .ok (.iconst 1, 1) := by decide +kernel
theorem dX5_roundBy_46 : decode cX5_roundBy 46 = .ok (.iadd, 1) := by decide +kernel
theorem dX5_roundBy_47 : decode cX5_roundBy 47 = .ok (.iaload, 1) := by decide +kernel
theorem dX5_roundBy_48 : decode cX5_roundBy 48 = .ok (.istore 10, 2) := by decide +kernel
theorem dX5_roundBy_50 : decode cX5_roundBy 50 = .ok (.iload 10, 2) := by decide +kernel
theorem dX5_roundBy_52 : decode cX5_roundBy 52 = .ok (.bipush 8, 2) := by decide +kernel
theorem dX5_roundBy_54 : decode cX5_roundBy 54 = .ok (.if_icmp .ne 85, 3) := by decide +kernel
theorem dX5_roundBy_57 : decode cX5_roundBy 57 = .ok (.aload_n 0, 1) := by decide +kernel
theorem dX5_roundBy_58 : decode cX5_roundBy 58 = .ok (.iload 9, 2) := by decide +kernel
theorem dX5_roundBy_60 : decode cX5_roundBy 60 = .ok (.invokevirtual 174, 3) := by decide +kernel
theorem dX5_roundBy_63 : decode cX5_roundBy 63 = .ok (.istore 11, 2) := by decide +kernel
theorem dX5_roundBy_65 : decode cX5_roundBy 65 = .ok (.iload 4, 2) := by decide +kernel
theorem dX5_roundBy_67 : decode cX5_roundBy 67 = .ok (.iload 11, 2) := by decide +kernel
theorem dX5_roundBy_69 : decode cX5_roundBy 69 = .ok (.iload 9, 2) := by decide +kernel
theorem dX5_roundBy_71 : decode cX5_roundBy 71 = .ok (.if_icmp .ne 7, 3) := by decide +kernel
theorem dX5_roundBy_74 : decode cX5_roundBy 74 = .ok (.iconst 1, 1) := by decide +kernel
theorem dX5_roundBy_75 : decode cX5_roundBy 75 = .ok (.goto 4, 3) := by decide +kernel
theorem dX5_roundBy_78 : decode cX5_roundBy 78 = .ok (.iconst 0, 1) := by decide +kernel
theorem dX5_roundBy_79 : decode cX5_roundBy 79 = .ok (.iadd, 1) := by decide +kernel
theorem dX5_roundBy_80 : decode cX5_roundBy 80 = .ok (.istore 4, 2) := by decide +kernel
theorem dX5_roundBy_82 : decode cX5_roundBy 82 = .ok (.iload 5, 2) := by decide +kernel
theorem dX5_roundBy_84 : decode cX5_roundBy 84 = .ok (.ifCond .ge 15, 3) := by decide +kernel
theorem dX5_roundBy_87 : decode cX5_roundBy 87 = .ok (.iload 11, 2) := by decide +kernel
theorem dX5_roundBy_89 : decode cX5_roundBy 89 = .ok (.iload 9, 2) := by decide +kernel
theorem dX5_roundBy_91 : decode cX5_roundBy 91 = .ok (.if_icmp .eq 8, 3) := by decide +kernel
theorem dX5_roundBy_94 : decode cX5_roundBy 94 = .ok (.iload 8, 2) := by decide +kernel
theorem dX5_roundBy_96 : decode cX5_roundBy 96 = .ok (.goto 5, 3) := by decide +kernel
theorem dX5_roundBy_99 : decode cX5_roundBy 99 = .ok (.iload 5, 2) := by decide +kernel
theorem dX5_roundBy_101 : decode cX5_roundBy 101 = .ok (.istore 5, 2) := by decide +kernel
theorem dX5_roundBy_103 : decode cX5_roundBy 103 = .ok (.iload 6, 2) := by decide +kernel
theorem dX5_roundBy_105 : decode cX5_roundBy 105 = .ok (.iload 11, 2) := by decide +kernel
theorem dX5_roundBy_107 : decode cX5_roundBy 107 = .ok (.ifCond .ge 7, 3) := by decide +kernel
theorem dX5_roundBy_110 : decode cX5_roundBy 110 = .ok (.iconst 0, 1) := by decide +kernel
theorem dX5_roundBy_111 : decode cX5_roundBy 111 = .ok (.goto 7, 3) := by decide +kernel
theorem dX5_roundBy_114 : decode cX5_roundBy 114 = .ok (.iconst 1, 1) := by decide +kernel
theorem dX5_roundBy_115 : decode cX5_roundBy 115 = .ok (.iload 11, 2) := by decide +kernel
theorem dX5_roundBy_117 : decode cX5_roundBy 117 = .ok (.ishl, 1) := by decide +kernel
theorem dX5_roundBy_118 : decode cX5_roundBy 118 = .ok (.ior, 1) := by decide +kernel
theorem dX5_roundBy_119 : decode cX5_roundBy 119 = .ok (.istore 6, 2) := by decide +kernel
theorem dX5_roundBy_121 : decode cX5_roundBy 121 = .ok (.iload 7, 2) := by decide +kernel
theorem dX5_roundBy_123 : decode cX5_roundBy 123 = .ok (.iload 11, 2) := by decide +kernel
theorem dX5_roundBy_125 : decode cX5_roundBy 125 = .ok (.ifCond .ge 7, 3) := by decide +kernel
theorem dX5_roundBy_128 : decode cX5_roundBy 128 = .ok (.iconst 1, 1) := by decide +kernel
theorem dX5_roundBy_129 : decode cX5_roundBy 129 = .ok (.goto 4, 3) := by decide +kernel
theorem dX5_roundBy_132 : decode cX5_roundBy 132 = .ok (.iconst 0, 1) := by decide +kernel
theorem dX5_roundBy_133 : decode cX5_roundBy 133 = .ok (.iadd, 1) := by decide +kernel
theorem dX5_roundBy_134 : decode cX5_roundBy 134 = .ok (.istore 7, 2) := by decide +kernel
theorem dX5_roundBy_136 : decode cX5_roundBy 136 = .ok (.goto 34, 3) := by decide +kernel
theorem dX5_roundBy_139 : decode cX5_roundBy 139 = .ok (.iload 10, 2) := by decide +kernel
theorem dX5_roundBy_141 : decode cX5_roundBy 141 = .ok (.bipush 8, 2) := by decide +kernel
theorem dX5_roundBy_143 : decode cX5_roundBy 143 = .ok (.if_icmp .ge 15, 3) := by decide +kernel
theorem dX5_roundBy_146 : decode cX5_roundBy 146 = .ok (.aload_n 0, 1) := by decide +kernel
theorem dX5_roundBy_147 : decode cX5_roundBy 147 = .ok (.getfield 13, 3) := by decide +kernel
theorem dX5_roundBy_150 : decode cX5_roundBy 150 = .ok (.iload 9, 2) := by decide +kernel
theorem dX5_roundBy_152 : decode cX5_roundBy 152 = .ok (.iload 10, 2) := by decide +kernel
theorem dX5_roundBy_154 : decode cX5_roundBy 154 = .ok (.iastore, 1) := by decide +kernel
theorem dX5_roundBy_155 : decode cX5_roundBy 155 = .ok (.goto 15, 3) := by decide +kernel
theorem dX5_roundBy_158 : decode cX5_roundBy 158 = .ok (.aload_n 0, 1) := by decide +kernel
theorem dX5_roundBy_159 : decode cX5_roundBy 159 = .ok (.getfield 19, 3) := by decide +kernel
theorem dX5_roundBy_162 : decode cX5_roundBy 162 = .ok (.iload 9, 2) := by decide +kernel
theorem dX5_roundBy_164 : decode cX5_roundBy 164 = .ok (.iload 10, 2) := by decide +kernel
theorem dX5_roundBy_166 : decode cX5_roundBy 166 = .ok (.bipush 10, 2) := by decide +kernel
theorem dX5_roundBy_168 : decode cX5_roundBy 168 = .ok (.isub, 1) := by decide +kernel
theorem dX5_roundBy_169 : decode cX5_roundBy 169 = .ok (.iastore, 1) := by decide +kernel
theorem dX5_roundBy_170 : decode cX5_roundBy 170 = .ok (.iinc 8 1, 3) := by decide +kernel
theorem dX5_roundBy_173 : decode cX5_roundBy 173 = .ok (.goto (-157), 3) := by decide +kernel
theorem dX5_roundBy_176 : decode cX5_roundBy 176 = .ok (.iload_n 3, 1) := by decide +kernel
theorem dX5_roundBy_177 : decode cX5_roundBy 177 = .ok (.bipush 10, 2) := by decide +kernel
theorem dX5_roundBy_179 : decode cX5_roundBy 179 = .ok (.if_icmp .lt 29, 3) := by decide +kernel
theorem dX5_roundBy_182 : decode cX5_roundBy 182 = .ok (.aload_n 0, 1) := by decide +kernel
theorem dX5_roundBy_183 : decode cX5_roundBy 183 = .ok (.iload_n 3, 1) := by decide +kernel
theorem dX5_roundBy_184 : decode cX5_roundBy 184 = .ok (.bipush 10, 2) := by decide +kernel
theorem dX5_roundBy_186 : decode cX5_roundBy 186 = .ok (.isub, 1) := by decide +kernel
theorem dX5_roundBy_187 : decode cX5_roundBy 187 = .ok (.invokevirtual 162, 3) := by decide +kernel
theorem dX5_roundBy_190 : decode cX5_roundBy 190 = .ok (.ifCond .eq 8, 3) := by decide +kernel
theorem dX5_roundBy_193 : decode cX5_roundBy 193 = .ok (.bipush (-9), 2) := by decide +kernel
theorem dX5_roundBy_195 : decode cX5_roundBy 195 = .ok (.goto 12, 3) := by decide +kernel
theorem dX5_roundBy_198 : decode cX5_roundBy 198 = .ok (.aload_n 0, 1) := by decide +kernel
theorem dX5_roundBy_199 : decode cX5_roundBy 199 = .ok (.getfield 16, 3) := by decide +kernel
theorem dX5_roundBy_202 : decode cX5_roundBy 202 = .ok (.iload_n 3, 1) := by decide +kernel
theorem dX5_roundBy_203 : decode cX5_roundBy 203 = .ok (.bipush 10, 2) := by decide +kernel
theorem dX5_roundBy_205 : decode cX5_roundBy 205 = .ok (.isub, 1) := by decide +kernel
theorem dX5_roundBy_206 : decode cX5_roundBy 206 = .ok (.iaload, 1) := by decide +kernel
theorem dX5_roundBy_207 : decode cX5_roundBy 207 = .ok (.ireturn, 1) := by decide +kernel
theorem dX5_roundBy_208 : decode cX5_roundBy 208 = .ok (.iload_n 3, 1) := by decide +kernel
theorem dX5_roundBy_209 : decode cX5_roundBy 209 = .ok (.ifCond .ne 8, 3) := by decide +kernel
theorem dX5_roundBy_212 : decode cX5_roundBy 212 = .ok (.iload 4, 2) := by decide +kernel
theorem dX5_roundBy_214 : decode cX5_roundBy 214 = .ok (.goto 25, 3) := by decide +kernel
theorem dX5_roundBy_217 : decode cX5_roundBy 217 = .ok (.iload_n 3, 1) := by decide +kernel
theorem dX5_roundBy_218 : decode cX5_roundBy 218 = .ok (.iconst 1, 1) := by decide +kernel
theorem dX5_roundBy_219 : decode cX5_roundBy 219 = .ok (.if_icmp .ne 8, 3) := by decide +kernel
theorem dX5_roundBy_222 : decode cX5_roundBy 222 = .ok (.iload 5, 2) := by decide +kernel
theorem dX5_roundBy_224 : decode cX5_roundBy 224 = .ok (.goto 15, 3) := by decide +kernel
theorem dX5_roundBy_227 : decode cX5_roundBy 227 = .ok (.iload_n 3, 1) := by decide +kernel
theorem dX5_roundBy_228 : decode cX5_roundBy 228 = .ok (.iconst 2, 1) := by decide +kernel
theorem dX5_roundBy_229 : decode cX5_roundBy 229 = .ok (.if_icmp .ne 8, 3) := by decide +kernel
theorem dX5_roundBy_232 : decode cX5_roundBy 232 = .ok (.iload 6, 2) := by decide +kernel
theorem dX5_roundBy_234 : decode cX5_roundBy 234 = .ok (.goto 5, 3) := by decide +kernel
theorem dX5_roundBy_237 : decode cX5_roundBy 237 = .ok (.iload 7, 2) := by decide +kernel
theorem dX5_roundBy_239 : decode cX5_roundBy 239 = .ok (.ireturn, 1) := by decide +kernel
theorem dX5_round_0 : decode cX5_round 0 = .ok (.iload_n 1, 1) := by decide +kernel
theorem dX5_round_1 : decode cX5_round 1 = .ok (.invokestatic 119, 3) := by decide +kernel
theorem dX5_round_4 : decode cX5_round 4 = .ok (.ifCond .eq 9, 3) := by decide +kernel
theorem dX5_round_7 : decode cX5_round 7 = .ok (.aload_n 0, 1) := by decide +kernel
theorem dX5_round_8 : decode cX5_round 8 = .ok (.iconst (-1), 1) := by decide +kernel
theorem dX5_round_9 : decode cX5_round 9 = .ok (.invokevirtual 123, 3) := by decide +kernel
theorem dX5_round_12 : decode cX5_round 12 = .ok (.ireturn, 1) := by decide +kernel
theorem dX5_round_13 : decode cX5_round 13 = .ok (.iload_n 2, 1) := by decide +kernel
theorem dX5_round_14 : decode cX5_round 14 = .ok (.i2l, 1) := by decide +kernel
theorem dX5_round_15 : decode cX5_round 15 = .ok (.lconst 0, 1) := by decide +kernel
theorem dX5_round_16 : decode cX5_round 16 = .ok (.ldc2_w 126, 3) := by decide +kernel
theorem dX5_round_19 : decode cX5_round 19 = .ok (.invokestatic 83, 3) := by decide +kernel
theorem dX5_round_22 : decode cX5_round 22 = .ok (.ifCond .eq 44, 3) := by decide +kernel
theorem dX5_round_25 : decode cX5_round 25 = .ok (.iload 4, 2) := by decide +kernel
theorem dX5_round_27 : decode cX5_round 27 = .ok (.i2l, 1) := by decide +kernel
theorem dX5_round_28 : decode cX5_round 28 = .ok (.lconst 0, 1) := by decide +kernel
theorem dX5_round_29 : decode cX5_round 29 = .ok (.ldc2_w 183, 3) := by decide +kernel
theorem dX5_round_32 : decode cX5_round 32 = .ok (.invokestatic 83, 3) := by decide +kernel
theorem dX5_round_35 : decode cX5_round 35 = .ok (.ifCond .eq 31, 3) := by decide +kernel
theorem dX5_round_38 : decode cX5_round 38 = .ok (.iload 5, 2) := by decide +kernel
theorem dX5_round_40 : decode cX5_round 40 = .ok (.i2l, 1) := by decide +kernel
theorem dX5_round_41 : decode cX5_round 41 = .ok (.lconst 0, 1) := by decide +kernel
theorem dX5_round_42 : decode cX5_round 42 = .ok (.ldc2_w 170, 3) := by decide +kernel
theorem dX5_round_45 : decode cX5_round 45 = .ok (.invokestatic 83, 3) := by decide +kernel
theorem dX5_round_48 : decode cX5_round 48 = .ok (.ifCond .ne 25, 3) := by decide +kernel
theorem dX5_round_51 : decode cX5_round 51 = .ok (.iload 5, 2) := by decide +kernel
theorem dX5_round_53 : decode cX5_round 53 = .ok (.i2l, 1) := by decide +kernel
theorem dX5_round_54 : decode cX5_round 54 = .ok (.ldc2_w 179, 3) := by decide +kernel
theorem dX5_round_57 : decode cX5_round 57 = .ok (.ldc2_w 185, 3) := by decide +kernel
theorem dX5_round_60 : decode cX5_round 60 = .ok (.invokestatic 83, 3) := by decide +kernel
theorem dX5_round_63 : decode cX5_round 63 = .ok (.ifCond .ne 10, 3) := by decide +kernel
theorem dX5_round_66 : decode cX5_round 66 = .ok (.aload_n 0, 1) := by decide +kernel
theorem dX5_round_67 : decode cX5_round 67 = .ok (.bipush (-2), 2) := by decide +kernel
theorem dX5_round_69 : decode cX5_round 69 = .ok (.invokevirtual 123, 3) := by decide +kernel
theorem dX5_round_72 : decode cX5_round 72 = .ok (.ireturn, 1) := by decide +kernel
theorem dX5_round_73 : decode cX5_round 73 = .ok (.aload_n 0, 1) := by decide +kernel
theorem dX5_round_74 : decode cX5_round 74 = .ok (.getfield 80, 3) := by decide +kernel
theorem dX5_round_77 : decode cX5_round 77 = .ok (.ifCond .ne 10, 3) := by decide +kernel
theorem dX5_round_80 : decode cX5_round 80 = .ok (.aload_n 0, 1) := by decide +kernel
theorem dX5_round_81 : decode cX5_round 81 = .ok (.bipush (-3), 2) := by decide +kernel
theorem dX5_round_83 : decode cX5_round 83 = .ok (.invokevirtual 123, 3) := by decide +kernel
theorem dX5_round_86 : decode cX5_round 86 = .ok (.ireturn, 1) := by decide +kernel
theorem dX5_round_87 : decode cX5_round 87 = .ok (.aload_n 0, 1) := by decide +kernel
theorem dX5_round_88 : decode cX5_round 88 = .ok (.iload_n 1, 1) := by decide +kernel
theorem dX5_round_89 : decode cX5_round 89 = .ok (.iload_n 2, 1) := by decide +kernel
theorem dX5_round_90 : decode cX5_round 90 = .ok (.iload_n 3, 1) := by decide +kernel
theorem dX5_round_91 : decode cX5_round 91 = .ok (.ldc2_w 126, 3) := by decide +kernel
theorem dX5_round_94 : decode cX5_round 94 = .ok (.iload 4, 2) := by decide +kernel
theorem dX5_round_96 : decode cX5_round 96 = .ok (.i2l, 1) := by decide +kernel
theorem dX5_round_97 : decode cX5_round 97 = .ok (.lmul, 1) := by decide +kernel
theorem dX5_round_98 : decode cX5_round 98 = .ok (.invokevirtual 128, 3) := by decide +kernel
theorem dX5_round_101 : decode cX5_round 101 = .ok (.istore 6, 2) := by decide +kernel
theorem dX5_round_103 : decode cX5_round 103 = .ok (.iload 6, 2) := by decide +kernel
theorem dX5_round_105 : decode cX5_round 105 = .ok (.ifCond .ge 6, 3) := by decide +kernel
theorem dX5_round_108 : decode cX5_round 108 = .ok (.iload 6, 2) := by decide +kernel
theorem dX5_round_110 : decode cX5_round 110 = .ok (.ireturn, 1) := by decide +kernel
theorem dX5_round_111 : decode cX5_round 111 = .ok (.aload_n 0, 1) := by decide +kernel
theorem dX5_round_112 : decode cX5_round 112 = .ok (.bipush 60, 2) := by decide +kernel
theorem dX5_round_114 : decode cX5_round 114 = .ok (.iload_n 1, 1) := by decide +kernel
theorem dX5_round_115 : decode cX5_round 115 = .ok (.imul, 1) := by decide +kernel
theorem dX5_round_116 : decode cX5_round 116 = .ok (.iload_n 3, 1) := by decide +kernel
theorem dX5_round_117 : decode cX5_round 117 = .ok (.iadd, 1) := by decide +kernel
theorem dX5_round_118 : decode cX5_round 118 = .ok (.iload 4, 2) := by decide +kernel
theorem dX5_round_120 : decode cX5_round 120 = .ok (.invokevirtual 187, 3) := by decide +kernel
theorem dX5_round_123 : decode cX5_round 123 = .ok (.istore 6, 2) := by decide +kernel
theorem dX5_round_125 : decode cX5_round 125 = .ok (.iload 6, 2) := by decide +kernel
theorem dX5_round_127 : decode cX5_round 127 = .ok (.ifCond .ge 10, 3) := by decide +kernel
theorem dX5_round_130 : decode cX5_round 130 = .ok (.aload_n 0, 1) := by decide +kernel
theorem dX5_round_131 : decode cX5_round 131 = .ok (.iload 6, 2) := by decide +kernel
theorem dX5_round_133 : decode cX5_round 133 = .ok (.invokevirtual 123, 3) := by decide +kernel
theorem dX5_round_136 : decode cX5_round 136 = .ok (.ireturn, 1) := by decide +kernel
theorem dX5_round_137 : decode cX5_round 137 = .ok (.aload_n 0, 1) := by decide +kernel
theorem dX5_round_138 : decode cX5_round 138 = .ok (.invokevirtual 190, 3) := by decide +kernel
theorem dX5_round_141 : decode cX5_round 141 = .ok (.aload_n 0, 1) := by decide +kernel
theorem dX5_round_142 : decode cX5_round 142 = .ok (.bipush 60, 2) := by decide +kernel
theorem dX5_round_144 : decode cX5_round 144 = .ok (.iload_n 1, 1) := by decide +kernel
theorem dX5_round_145 : decode cX5_round 145 = .ok (.imul, 1) := by decide +kernel
theorem dX5_round_146 : decode cX5_round 146 = .ok (.iload_n 3, 1) := by decide +kernel
theorem dX5_round_147 : decode cX5_round 147 = .ok (.iadd, 1) := by decide +kernel
theorem dX5_round_148 : decode cX5_round 148 = .ok (.iload 4, 2) := by decide +kernel
theorem dX5_round_150 : decode cX5_round 150 = .ok (.iload 5, 2) := by decide +kernel
theorem dX5_round_152 : decode cX5_round 152 = .ok (.invokevirtual 193, 3) := by decide +kernel
theorem dX5_round_155 : decode cX5_round 155 = .ok (.istore 7, 2) := by decide +kernel
theorem dX5_round_157 : decode cX5_round 157 = .ok (.aload_n 0, 1) := by decide +kernel
theorem dX5_round_158 : decode cX5_round 158 = .ok (.invokevirtual 197, 3) := by decide +kernel
theorem dX5_round_161 : decode cX5_round 161 = .ok (.aload_n 0, 1) := by decide +kernel
theorem dX5_round_162 : decode cX5_round 162 = .ok (.iload 7, 2) := by decide +kernel
theorem dX5_round_164 : decode cX5_round 164 = .ok (.invokevirtual 123, 3) := by decide +kernel
theorem dX5_round_167 : decode cX5_round 167 = .ok (.ireturn, 1) := by decide +kernel
end
section
theorem dX5_strict_0 : decode cX5_strict 0 = .ok (.aload_n 0, 1) := by decide +kernel
theorem dX5_strict_1 : decode cX5_strict 1 = .ok (.iload_n 1, 1) := by decide +kernel
theorem dX5_strict_2 : decode cX5_strict 2 = .ok (.invokevirtual 162, 3) := by decide +kernel
theorem dX5_strict_5 : decode cX5_strict 5 = .ok (.ifCond .eq 5, 3) := by decide +kernel
theorem dX5_strict_8 : decode cX5_strict 8 = .ok (.iconst (-1), 1) := by decide +kernel
theorem dX5_strict_9 : decode cX5_strict 9 = .ok (.ireturn, 1) := by decide +kernel
theorem dX5_strict_10 : decode cX5_strict 10 = .ok (.aload_n 0, 1) := by decide +kernel
theorem dX5_strict_11 : decode cX5_strict 11 = .ok (.getfield 138, 3) := by decide +kernel
theorem dX5_strict_14 : decode cX5_strict 14 = .ok (.istore_n 2, 1) := by decide +kernel
theorem dX5_strict_15 : decode cX5_strict 15 = .ok (.bipush (-9), 2) := by decide +kernel
theorem dX5_strict_17 : decode cX5_strict 17 = .ok (.istore_n 3, 1) := by decide +kernel
theorem dX5_strict_18 : decode cX5_strict 18 = .ok (.iconst 3, 1) := by decide +kernel
theorem dX5_strict_19 : decode cX5_strict 19 = .ok (.istore 4, 2) := by decide +kernel
theorem dX5_strict_21 : decode cX5_strict 21 = .ok (.iload 4, 2) := by decide +kernel
theorem dX5_strict_23 : decode cX5_strict 23 = .ok (.ifCond .lt 31, 3) := by decide +kernel
theorem dX5_strict_26 : decode cX5_strict 26 = .ok (.aload_n 0, 1) := by decide +kernel
theorem dX5_strict_27 : decode cX5_strict 27 = .ok (.iload 4, 2) := by decide +kernel
theorem dX5_strict_29 : decode cX5_strict 29 = .ok (.putfield 138, 3) := by decide +kernel
theorem dX5_strict_32 : decode cX5_strict 32 = .ok (.aload_n 0, 1) := by decide +kernel
theorem dX5_strict_33 : decode cX5_strict 33 = .ok (.iload_n 1, 1) := by decide +kernel
theorem dX5_strict_34 : decode cX5_strict 34 = .ok (.invokevirtual 165, 3) := by decide +kernel
theorem dX5_strict_37 : decode cX5_strict 37 = .ok (.iload_n 1, 1) := by decide +kernel
theorem dX5_strict_38 : decode cX5_strict 38 = .ok (.if_icmp .ne 8, 3) := by decide +kernel
theorem dX5_strict_41 : decode cX5_strict 41 = .ok (.iload 4, 2) := by decide +kernel
theorem dX5_strict_43 : decode cX5_strict 43 = .ok (.goto 4, 3) := by decide +kernel
theorem dX5_strict_46 : decode cX5_strict 46 = .ok (.iload_n 3, 1) := by decide +kernel
theorem dX5_strict_47 : decode cX5_strict 47 = .ok (.istore_n 3, 1) := by decide +kernel
theorem dX5_strict_48 : decode cX5_strict 48 = .ok (.iinc 4 (-1), 3) := by decide +kernel
theorem dX5_strict_51 : decode cX5_strict 51 = .ok (.goto (-30), 3) := by decide +kernel
theorem dX5_strict_54 : decode cX5_strict 54 = .ok (.aload_n 0, 1) := by decide +kernel
theorem dX5_strict_55 : decode cX5_strict 55 = .ok (.iload_n 2, 1) := by decide +kernel
theorem dX5_strict_56 : decode cX5_strict 56 = .ok (.putfield 138, 3) := by decide +kernel
theorem dX5_strict_59 : decode cX5_strict 59 = .ok (.iload_n 3, 1) := by decide +kernel
theorem dX5_strict_60 : decode cX5_strict 60 = .ok (.ireturn, 1) := by decide +kernel
theorem dX5_comeNow_0 : decode cX5_comeNow 0 = .ok (.iconst 0, 1) := by decide +kernel
theorem dX5_comeNow_1 : decode cX5_comeNow 1 = .ok (.istore_n 1, 1) := by decide +kernel
theorem dX5_comeNow_2 : decode cX5_comeNow 2 = .ok (.iconst 0, 1) := by decide +kernel
theorem dX5_comeNow_3 : decode cX5_comeNow 3 = .ok (.istore_n 2, 1) := by decide +kernel
theorem dX5_comeNow_4 : decode cX5_comeNow 4 = .ok (.iload_n 2, 1) := by decide +kernel
theorem dX5_comeNow_5 : decode cX5_comeNow 5 = .ok (.aload_n 0, 1) := by decide +kernel
theorem dX5_comeNow_6 : decode cX5_comeNow 6 = .ok (.getfield 80, 3) := by decide +kernel
theorem dX5_comeNow_9 : decode cX5_comeNow 9 = .ok (.if_icmp .ge 26, 3) := by decide +kernel
theorem dX5_comeNow_12 : decode cX5_comeNow 12 = .ok (.iload_n 1, 1) := by decide +kernel
theorem dX5_comeNow_13 : decode cX5_comeNow 13 = .ok (.aload_n 0, 1) := by decide +kernel
theorem dX5_comeNow_14 : decode cX5_comeNow 14 = .ok (.iload_n 2, 1) := by decide +kernel
theorem dX5_comeNow_15 : decode cX5_comeNow 15 = .ok (.invokevirtual 165, 3) := by decide +kernel
theorem dX5_comeNow_18 : decode cX5_comeNow 18 = .ok (.iload_n 2, 1) := by decide +kernel
theorem dX5_comeNow_19 : decode cX5_comeNow 19 = .ok (.if_icmp .ne 7, 3) := by decide +kernel
theorem dX5_comeNow_22 : decode cX5_comeNow 22 = .ok (.iconst 1, 1) := by decide +kernel
theorem dX5_comeNow_23 : decode cX5_comeNow 23 = .ok (.goto 4, 3) := by decide +kernel
theorem dX5_comeNow_26 : decode cX5_comeNow 26 = .ok (.iconst 0, 1) := by decide +kernel
theorem dX5_comeNow_27 : decode cX5_comeNow 27 = .ok (.iadd, 1) := by decide +kernel
theorem dX5_comeNow_28 : decode cX5_comeNow 28 = .ok (.istore_n 1, 1) := by decide +kernel
theorem dX5_comeNow_29 : decode cX5_comeNow 29 = .ok (.iinc 2 1, 3) := by decide +kernel
theorem dX5_comeNow_32 : decode cX5_comeNow 32 = .ok (.goto (-28), 3) := by decide +kernel
theorem dX5_comeNow_35 : decode cX5_comeNow 35 = .ok (.iload_n 1, 1) := by decide +kernel
theorem dX5_comeNow_36 : decode cX5_comeNow 36 = .ok (.ireturn, 1) := by decide +kernel
theorem dX5_site_0 : decode cX5_site 0 = .ok (.aload_n 0, 1) := by decide +kernel
theorem dX5_site_1 : decode cX5_site 1 = .ok (.getfield 80, 3) := by decide +kernel
theorem dX5_site_4 : decode cX5_site 4 = .ok (.ifCond .ne 6, 3) := by decide +kernel
theorem dX5_site_7 : decode cX5_site 7 = .ok (.bipush (-3), 2) := by decide +kernel
theorem dX5_site_9 : decode cX5_site 9 = .ok (.ireturn, 1) := by decide +kernel
theorem dX5_site_10 : decode cX5_site 10 = .ok (.iload_n 1, 1) := by decide +kernel
theorem dX5_site_11 : decode cX5_site 11 = .ok (.i2l, 1) := by decide +kernel
theorem dX5_site_12 : decode cX5_site 12 = .ok (.lconst 0, 1) := by decide +kernel
theorem dX5_site_13 : decode cX5_site 13 = .ok (.lconst 1, 1) := by decide +kernel
theorem dX5_site_14 : decode cX5_site 14 = .ok (.invokestatic 83, 3) := by decide +kernel
theorem dX5_site_17 : decode cX5_site 17 = .ok (.ifCond .ne 6, 3) := by decide +kernel
theorem dX5_site_20 : decode cX5_site 20 = .ok (.bipush (-2), 2) := by decide +kernel
theorem dX5_site_22 : decode cX5_site 22 = .ok (.ireturn, 1) := by decide +kernel
theorem dX5_site_23 : decode cX5_site 23 = .ok (.aload_n 0, 1) := by decide +kernel
theorem dX5_site_24 : decode cX5_site 24 = .ok (.getfield 135, 3) := by decide +kernel
theorem dX5_site_27 : decode cX5_site 27 = .ok (.istore_n 2, 1) := by decide +kernel
theorem dX5_site_28 : decode cX5_site 28 = .ok (.bipush (-9), 2) := by decide +kernel
theorem dX5_site_30 : decode cX5_site 30 = .ok (.istore_n 3, 1) := by decide +kernel
theorem dX5_site_31 : decode cX5_site 31 = .ok (.bipush (-9), 2) := by decide +kernel
theorem dX5_site_33 : decode cX5_site 33 = .ok (.istore 4, 2) := by decide +kernel
theorem dX5_site_35 : decode cX5_site 35 = .ok (.iconst 0, 1) := by decide +kernel
theorem dX5_site_36 : decode cX5_site 36 = .ok (.istore 5, 2) := by decide +kernel
theorem dX5_site_38 : decode cX5_site 38 = .ok (.iload 5, 2) := by decide +kernel
theorem dX5_site_40 : decode cX5_site 40 = .ok (.bipush 10, 2) := by decide +kernel
theorem dX5_site_42 : decode cX5_site 42 = .ok (.if_icmp .ge 51, 3) := by decide +kernel
theorem dX5_site_45 : decode cX5_site 45 = .ok (.aload_n 0, 1) := by decide +kernel
theorem dX5_site_46 : decode cX5_site 46 = .ok (.iload 5, 2) := by decide +kernel
theorem dX5_site_48 : decode cX5_site 48 = .ok (.putfield 135, 3) := by decide +kernel
theorem dX5_site_51 : decode cX5_site 51 = .ok (.aload_n 0, 1) := by decide +kernel
theorem dX5_site_52 : decode cX5_site 52 = .ok (.invokevirtual 200, 3) := by decide +kernel
theorem dX5_site_55 : decode cX5_site 55 = .ok (.istore 6, 2) := by decide +kernel
theorem dX5_site_57 : decode cX5_site 57 = .ok (.iload 6, 2) := by decide +kernel
theorem dX5_site_59 : decode cX5_site 59 = .ok (.iload 4, 2) := by decide +kernel
theorem dX5_site_61 : decode cX5_site 61 = .ok (.if_icmp .le 8, 3) := by decide +kernel
theorem dX5_site_64 : decode cX5_site 64 = .ok (.iload 5, 2) := by decide +kernel
theorem dX5_site_66 : decode cX5_site 66 = .ok (.goto 4, 3) := by decide +kernel
theorem dX5_site_69 : decode cX5_site 69 = .ok (.iload_n 3, 1) := by decide +kernel
theorem dX5_site_70 : decode cX5_site 70 = .ok (.istore_n 3, 1) := by decide +kernel
theorem dX5_site_71 : decode cX5_site 71 = .ok (.iload 6, 2) := by decide +kernel
theorem dX5_site_73 : decode cX5_site 73 = .ok (.iload 4, 2) := by decide +kernel
theorem dX5_site_75 : decode cX5_site 75 = .ok (.if_icmp .le 8, 3) := by decide +kernel
theorem dX5_site_78 : decode cX5_site 78 = .ok (.iload 6, 2) := by decide +kernel
theorem dX5_site_80 : decode cX5_site 80 = .ok (.goto 5, 3) := by decide +kernel
theorem dX5_site_83 : decode cX5_site 83 = .ok (.iload 4, 2) := by decide +kernel
theorem dX5_site_85 : decode cX5_site 85 = .ok (.istore 4, 2) := by decide +kernel
theorem dX5_site_87 : decode cX5_site 87 = .ok (.iinc 5 1, 3) := by decide +kernel
theorem dX5_site_90 : decode cX5_site 90 = .ok (.goto (-52), 3) := by decide +kernel
theorem dX5_site_93 : decode cX5_site 93 = .ok (.aload_n 0, 1) := by decide +kernel
theorem dX5_site_94 : decode cX5_site 94 = .ok (.iload_n 2, 1) := by decide +kernel
theorem dX5_site_95 : decode cX5_site 95 = .ok (.putfield 135, 3) := by decide +kernel
theorem dX5_site_98 : decode cX5_site 98 = .ok (.iload_n 1, 1) := by decide +kernel
theorem dX5_site_99 : decode cX5_site 99 = .ok (.ifCond .ne 7, 3) := by decide +kernel
theorem dX5_site_102 : decode cX5_site 102 = .ok (.iload_n 3, 1) := by decide +kernel
theorem dX5_site_103 : decode cX5_site 103 = .ok (.goto 5, 3) := by decide +kernel
theorem dX5_site_106 : decode cX5_site 106 = .ok (.iload 4, 2) := by decide +kernel
theorem dX5_site_108 : decode cX5_site 108 = .ok (.ireturn, 1) := by decide +kernel
theorem dX5_exchange_0 : decode cX5_exchange 0 = .ok (.aload_n 0, 1) := by decide +kernel
theorem dX5_exchange_1 : decode cX5_exchange 1 = .ok (.getfield 43, 3) := by decide +kernel
theorem dX5_exchange_4 : decode cX5_exchange 4 = .ok (.iload_n 1, 1) := by decide +kernel
theorem dX5_exchange_5 : decode cX5_exchange 5 = .ok (.iaload, 1) := by decide +kernel
theorem dX5_exchange_6 : decode cX5_exchange 6 = .ok (.istore_n 3, 1) := by decide +kernel
theorem dX5_exchange_7 : decode cX5_exchange 7 = .ok (.aload_n 0, 1) := by decide +kernel
theorem dX5_exchange_8 : decode cX5_exchange 8 = .ok (.getfield 43, 3) := by decide +kernel
theorem dX5_exchange_11 : decode cX5_exchange 11 = .ok (.iload_n 1, 1) := by decide +kernel
theorem dX5_exchange_12 : decode cX5_exchange 12 = .ok (.aload_n 0, 1) := by decide +kernel
theorem dX5_exchange_13 : decode cX5_exchange 13 = .ok (.getfield 43, 3) := by decide +kernel
theorem dX5_exchange_16 : decode cX5_exchange 16 = .ok (.iload_n 2, 1) := by decide +kernel
theorem dX5_exchange_17 : decode cX5_exchange 17 = .ok (.iaload, 1) := by decide +kernel
theorem dX5_exchange_18 : decode cX5_exchange 18 = .ok (.iastore, 1) := by decide +kernel
theorem dX5_exchange_19 : decode cX5_exchange 19 = .ok (.aload_n 0, 1) := by decide +kernel
theorem dX5_exchange_20 : decode cX5_exchange 20 = .ok (.getfield 43, 3) := by decide +kernel
theorem dX5_exchange_23 : decode cX5_exchange 23 = .ok (.iload_n 2, 1) := by decide +kernel
theorem dX5_exchange_24 : decode cX5_exchange 24 = .ok (.iload_n 3, 1) := by decide +kernel
theorem dX5_exchange_25 : decode cX5_exchange 25 = .ok (.iastore, 1) := by decide +kernel
theorem dX5_exchange_26 : decode cX5_exchange 26 = .ok (.return_, 1) := by decide +kernel
theorem dX5_nextOrder_0 : decode cX5_nextOrder 0 = .ok (.aload_n 0, 1) := by decide +kernel
theorem dX5_nextOrder_1 : decode cX5_nextOrder 1 = .ok (.getfield 80, 3) := by decide +kernel
theorem dX5_nextOrder_4 : decode cX5_nextOrder 4 = .ok (.iconst 2, 1) := by decide +kernel
theorem dX5_nextOrder_5 : decode cX5_nextOrder 5 = .ok (.isub, 1) := by decide +kernel
theorem dX5_nextOrder_6 : decode cX5_nextOrder 6 = .ok (.istore_n 1, 1) := by decide +kernel
theorem dX5_nextOrder_7 : decode cX5_nextOrder 7 = .ok (.iload_n 1, 1) := by decide +kernel
theorem dX5_nextOrder_8 : decode cX5_nextOrder 8 = .ok (.ifCond .lt 26, 3) := by decide +kernel
theorem dX5_nextOrder_11 : decode cX5_nextOrder 11 = .ok (.aload_n 0, 1) := by decide +kernel
theorem dX5_nextOrder_12 : decode cX5_nextOrder 12 = .ok (.getfield 43, 3) := by decide +kernel
theorem dX5_nextOrder_15 : decode cX5_nextOrder 15 = .ok (.iload_n 1, 1) := by decide +kernel
theorem dX5_nextOrder_16 : decode cX5_nextOrder 16 = .ok (.iaload, 1) := by decide +kernel
theorem dX5_nextOrder_17 : decode cX5_nextOrder 17 = .ok (.aload_n 0, 1) := by decide +kernel
theorem dX5_nextOrder_18 : decode cX5_nextOrder 18 = .ok (.getfield 43, 3) := by decide +kernel
theorem dX5_nextOrder_21 : decode cX5_nextOrder 21 = .ok (.iload_n 1, 1) := by decide +kernel
theorem dX5_nextOrder_22 : decode cX5_nextOrder 22 = .ok (.iconst 1, 1) := by decide +kernel
theorem dX5_nextOrder_23 : decode cX5_nextOrder 23 = .ok (.iadd, 1) := by decide +kernel
theorem dX5_nextOrder_24 : decode cX5_nextOrder 24 = .ok (.iaload, 1) := by decide +kernel
theorem dX5_nextOrder_25 : decode cX5_nextOrder 25 = .ok (.if_icmp .le 9, 3) := by decide +kernel
theorem dX5_nextOrder_28 : decode cX5_nextOrder 28 = .ok (.iinc 1 (-1), 3) := by decide +kernel
theorem dX5_nextOrder_31 : decode cX5_nextOrder 31 = .ok (.goto (-24), 3) := by decide +kernel
theorem dX5_nextOrder_34 : decode cX5_nextOrder 34 = .ok (.iload_n 1, 1) := by decide +kernel
theorem dX5_nextOrder_35 : decode cX5_nextOrder 35 = .ok (.ifCond .ge 5, 3) := by decide +kernel
theorem dX5_nextOrder_38 : decode cX5_nextOrder 38 = .ok (.iconst 0, 1) := by decide +kernel
theorem dX5_nextOrder_39 : decode cX5_nextOrder 39 = .ok (.ireturn, 1) := by decide +kernel
theorem dX5_nextOrder_40 : decode cX5_nextOrder 40 = .ok (.aload_n 0, 1) := by decide +kernel
theorem dX5_nextOrder_41 : decode cX5_nextOrder 41 = .ok (.getfield 80, 3) := by decide +kernel
theorem dX5_nextOrder_44 : decode cX5_nextOrder 44 = .ok (.iconst 1, 1) := by decide +kernel
theorem dX5_nextOrder_45 : decode cX5_nextOrder 45 = .ok (.isub, 1) := by decide +kernel
theorem dX5_nextOrder_46 : decode cX5_nextOrder 46 = .ok (.istore_n 2, 1) := by decide +kernel
theorem dX5_nextOrder_47 : decode cX5_nextOrder 47 = .ok (.aload_n 0, 1) := by decide +kernel
theorem dX5_nextOrder_48 : decode cX5_nextOrder 48 = .ok (.getfield 43, 3) := by decide +kernel
theorem dX5_nextOrder_51 : decode cX5_nextOrder 51 = .ok (.iload_n 2, 1) := by decide +kernel
theorem dX5_nextOrder_52 : decode cX5_nextOrder 52 = .ok (.iaload, 1) := by decide +kernel
theorem dX5_nextOrder_53 : decode cX5_nextOrder 53 = .ok (.aload_n 0, 1) := by decide +kernel
theorem dX5_nextOrder_54 : decode cX5_nextOrder 54 = .ok (.getfield 43, 3) := by decide +kernel
theorem dX5_nextOrder_57 : decode cX5_nextOrder 57 = .ok (.iload_n 1, 1) := by decide +kernel
theorem dX5_nextOrder_58 : decode cX5_nextOrder 58 = .ok (.iaload, 1) := by decide +kernel
theorem dX5_nextOrder_59 : decode cX5_nextOrder 59 = .ok (.if_icmp .ge 9, 3) := by decide +kernel
theorem dX5_nextOrder_62 : decode cX5_nextOrder 62 = .ok (.iinc 2 (-1), 3) := by decide +kernel
theorem dX5_nextOrder_65 : decode cX5_nextOrder 65 = .ok (.goto (-18), 3) := by decide +kernel
theorem dX5_nextOrder_68 : decode cX5_nextOrder 68 = .ok (.aload_n 0, 1) := by decide +kernel
theorem dX5_nextOrder_69 : decode cX5_nextOrder 69 = .ok (.iload_n 1, 1) := by decide +kernel
theorem dX5_nextOrder_70 : decode cX5_nextOrder 70 = .ok (.iload_n 2, 1) := by decide +kernel
theorem dX5_nextOrder_71 : decode cX5_nextOrder 71 = .ok (.invokevirtual 204, 3) := by decide +kernel
theorem dX5_nextOrder_74 : decode cX5_nextOrder 74 = .ok (.iload_n 1, 1) := by decide +kernel
theorem dX5_nextOrder_75 : decode cX5_nextOrder 75 = .ok (.iconst 1, 1) := by decide +kernel
theorem dX5_nextOrder_76 : decode cX5_nextOrder 76 = .ok (.iadd, 1) := by decide +kernel
theorem dX5_nextOrder_77 : decode cX5_nextOrder 77 = .ok (.istore_n 3, 1) := by decide +kernel
theorem dX5_nextOrder_78 : decode cX5_nextOrder 78 = .ok (.aload_n 0, 1) := by decide +kernel
theorem dX5_nextOrder_79 : decode cX5_nextOrder 79 = .ok (.getfield 80, 3) := by decide +kernel
theorem dX5_nextOrder_82 : decode cX5_nextOrder 82 = .ok (.iconst 1, 1) := by decide +kernel
theorem dX5_nextOrder_83 : decode cX5_nextOrder 83 = .ok (.isub, 1) := by decide +kernel
theorem dX5_nextOrder_84 : decode cX5_nextOrder 84 = .ok (.istore 4, 2) := by decide +kernel
theorem dX5_nextOrder_86 : decode cX5_nextOrder 86 = .ok (.iload 4, 2) := by decide +kernel
theorem dX5_nextOrder_88 : decode cX5_nextOrder 88 = .ok (.iload_n 3, 1) := by decide +kernel
theorem dX5_nextOrder_89 : decode cX5_nextOrder 89 = .ok (.if_icmp .le 19, 3) := by decide +kernel
theorem dX5_nextOrder_92 : decode cX5_nextOrder 92 = .ok (.aload_n 0, 1) := by decide +kernel
theorem dX5_nextOrder_93 : decode cX5_nextOrder 93 = .ok (.iload_n 3, 1) := by decide +kernel
theorem dX5_nextOrder_94 : decode cX5_nextOrder 94 = .ok (.iload 4, 2) := by decide +kernel
theorem dX5_nextOrder_96 : decode cX5_nextOrder 96 = .ok (.invokevirtual 204, 3) := by decide +kernel
theorem dX5_nextOrder_99 : decode cX5_nextOrder 99 = .ok (.iinc 3 1, 3) := by decide +kernel
theorem dX5_nextOrder_102 : decode cX5_nextOrder 102 = .ok (.iinc 4 (-1), 3) := by decide +kernel
theorem dX5_nextOrder_105 : decode cX5_nextOrder 105 = .ok (.goto (-19), 3) := by decide +kernel
theorem dX5_nextOrder_108 : decode cX5_nextOrder 108 = .ok (.iconst 1, 1) := by decide +kernel
theorem dX5_nextOrder_109 : decode cX5_nextOrder 109 = .ok (.ireturn, 1) := by decide +kernel
theorem dX5_comeInOrder_0 : decode cX5_comeInOrder 0 = .ok (.iconst 0, 1) := by decide +kernel
theorem dX5_comeInOrder_1 : decode cX5_comeInOrder 1 = .ok (.istore_n 1, 1) := by decide +kernel
theorem dX5_comeInOrder_2 : decode cX5_comeInOrder 2 = .ok (.iconst 0, 1) := by decide +kernel
theorem dX5_comeInOrder_3 : decode cX5_comeInOrder 3 = .ok (.istore_n 2, 1) := by decide +kernel
theorem dX5_comeInOrder_4 : decode cX5_comeInOrder 4 = .ok (.iload_n 2, 1) := by decide +kernel
theorem dX5_comeInOrder_5 : decode cX5_comeInOrder 5 = .ok (.aload_n 0, 1) := by decide +kernel
theorem dX5_comeInOrder_6 : decode cX5_comeInOrder 6 = .ok (.getfield 80, 3) := by decide +kernel
theorem dX5_comeInOrder_9 : decode cX5_comeInOrder 9 = .ok (.if_icmp .ge 36, 3) := by decide +kernel
theorem dX5_comeInOrder_12 : decode cX5_comeInOrder 12 = .ok (.iload_n 1, 1) := by decide +kernel
theorem dX5_comeInOrder_13 : decode cX5_comeInOrder 13 = .ok (.aload_n 0, 1) := by decide +kernel
theorem dX5_comeInOrder_14 : decode cX5_comeInOrder 14 = .ok (.aload_n 0, 1) := by decide +kernel
theorem dX5_comeInOrder_15 : decode cX5_comeInOrder 15 = .ok (.getfield 43, 3) := by decide +kernel
theorem dX5_comeInOrder_18 : decode cX5_comeInOrder 18 = .ok (.iload_n 2, 1) := by decide +kernel
theorem dX5_comeInOrder_19 : decode cX5_comeInOrder 19 = .ok (.iaload, 1) := by decide +kernel
theorem dX5_comeInOrder_20 : decode cX5_comeInOrder 20 = .ok (.invokevirtual 174, 3) := by decide +kernel
theorem dX5_comeInOrder_23 : decode cX5_comeInOrder 23 = .ok (.aload_n 0, 1) := by decide +kernel
theorem dX5_comeInOrder_24 : decode cX5_comeInOrder 24 = .ok (.getfield 43, 3) := by decide +kernel
theorem dX5_comeInOrder_27 : decode cX5_comeInOrder 27 = .ok (.iload_n 2, 1) := by decide +kernel
theorem dX5_comeInOrder_28 : decode cX5_comeInOrder 28 = .ok (.iaload, 1) := by decide +kernel
theorem dX5_comeInOrder_29 : decode cX5_comeInOrder 29 = .ok (.if_icmp .ne 7, 3) := by decide +kernel
theorem dX5_comeInOrder_32 : decode cX5_comeInOrder 32 = .ok (.iconst 1, 1) := by decide +kernel
theorem dX5_comeInOrder_33 : decode cX5_comeInOrder 33 = .ok (.goto 4, 3) := by decide +kernel
theorem dX5_comeInOrder_36 : decode cX5_comeInOrder 36 = .ok (.iconst 0, 1) := by decide +kernel
theorem dX5_comeInOrder_37 : decode cX5_comeInOrder 37 = .ok (.iadd, 1) := by decide +kernel
theorem dX5_comeInOrder_38 : decode cX5_comeInOrder 38 = .ok (.istore_n 1, 1) := by decide +kernel
theorem dX5_comeInOrder_39 : decode cX5_comeInOrder 39 = .ok (.iinc 2 1, 3) := by decide +kernel
theorem dX5_comeInOrder_42 : decode cX5_comeInOrder 42 = .ok (.goto (-38), 3) := by decide +kernel
theorem dX5_comeInOrder_45 : decode cX5_comeInOrder 45 = .ok (.aload_n 0, 1) := by decide +kernel
theorem dX5_comeInOrder_46 : decode cX5_comeInOrder 46 = .ok (.invokevirtual 197, 3) := by decide +kernel
theorem dX5_comeInOrder_49 : decode cX5_comeInOrder 49 = .ok (.iload_n 1, 1) := by decide +kernel
theorem dX5_comeInOrder_50 : decode cX5_comeInOrder 50 = .ok (.ireturn, 1) := by decide +kernel
theorem dX5_bestOrder_0 : decode cX5_bestOrder 0 = .ok (.aload_n 0, 1) := by decide +kernel
theorem dX5_bestOrder_1 : decode cX5_bestOrder 1 = .ok (.invokevirtual 190, 3) := by decide +kernel
theorem dX5_bestOrder_4 : decode cX5_bestOrder 4 = .ok (.iconst 0, 1) := by decide +kernel
theorem dX5_bestOrder_5 : decode cX5_bestOrder 5 = .ok (.istore_n 1, 1) := by decide +kernel
theorem dX5_bestOrder_6 : decode cX5_bestOrder 6 = .ok (.iload_n 1, 1) := by decide +kernel
theorem dX5_bestOrder_7 : decode cX5_bestOrder 7 = .ok (.aload_n 0, 1) := by decide +kernel
theorem dX5_bestOrder_8 : decode cX5_bestOrder 8 = .ok (.getfield 80, 3) := by decide +kernel
theorem dX5_bestOrder_11 : decode cX5_bestOrder 11 = .ok (.if_icmp .ge 16, 3) := by decide +kernel
theorem dX5_bestOrder_14 : decode cX5_bestOrder 14 = .ok (.aload_n 0, 1) := by decide +kernel
theorem dX5_bestOrder_15 : decode cX5_bestOrder 15 = .ok (.getfield 43, 3) := by decide +kernel
theorem dX5_bestOrder_18 : decode cX5_bestOrder 18 = .ok (.iload_n 1, 1) := by decide +kernel
theorem dX5_bestOrder_19 : decode cX5_bestOrder 19 = .ok (.iload_n 1, 1) := by decide +kernel
theorem dX5_bestOrder_20 : decode cX5_bestOrder 20 = .ok (.iastore, 1) := by decide +kernel
theorem dX5_bestOrder_21 : decode cX5_bestOrder 21 = .ok (.iinc 1 1, 3) := by decide +kernel
theorem dX5_bestOrder_24 : decode cX5_bestOrder 24 = .ok (.goto (-18), 3) := by decide +kernel
theorem dX5_bestOrder_27 : decode cX5_bestOrder 27 = .ok (.bipush (-9), 2) := by decide +kernel
theorem dX5_bestOrder_29 : decode cX5_bestOrder 29 = .ok (.istore_n 1, 1) := by decide +kernel
theorem dX5_bestOrder_30 : decode cX5_bestOrder 30 = .ok (.iconst 1, 1) := by decide +kernel
theorem dX5_bestOrder_31 : decode cX5_bestOrder 31 = .ok (.istore_n 2, 1) := by decide +kernel
theorem dX5_bestOrder_32 : decode cX5_bestOrder 32 = .ok (.iload_n 2, 1) := by decide +kernel
theorem dX5_bestOrder_33 : decode cX5_bestOrder 33 = .ok (.ifCond .eq 74, 3) := by decide +kernel
theorem dX5_bestOrder_36 : decode cX5_bestOrder 36 = .ok (.aload_n 0, 1) := by decide +kernel
theorem dX5_bestOrder_37 : decode cX5_bestOrder 37 = .ok (.invokevirtual 208, 3) := by decide +kernel
theorem dX5_bestOrder_40 : decode cX5_bestOrder 40 = .ok (.istore_n 3, 1) := by decide +kernel
theorem dX5_bestOrder_41 : decode cX5_bestOrder 41 = .ok (.iconst 0, 1) := by decide +kernel
theorem dX5_bestOrder_42 : decode cX5_bestOrder 42 = .ok (.istore 4, 2) := by decide +kernel
theorem dX5_bestOrder_44 : decode cX5_bestOrder 44 = .ok (.iload 4, 2) := by decide +kernel
theorem dX5_bestOrder_46 : decode cX5_bestOrder 46 = .ok (.aload_n 0, 1) := by decide +kernel
theorem dX5_bestOrder_47 : decode cX5_bestOrder 47 = .ok (.getfield 80, 3) := by decide +kernel
theorem dX5_bestOrder_50 : decode cX5_bestOrder 50 = .ok (.if_icmp .ge 38, 3) := by decide +kernel
theorem dX5_bestOrder_53 : decode cX5_bestOrder 53 = .ok (.aload_n 0, 1) := by decide +kernel
theorem dX5_bestOrder_54 : decode cX5_bestOrder 54 = .ok (.getfield 46, 3) := by decide +kernel
theorem dX5_bestOrder_57 : decode cX5_bestOrder 57 = .ok (.iload 4, 2) := by decide +kernel
theorem dX5_bestOrder_59 : decode cX5_bestOrder 59 = .ok (.iload_n 3, 1) := by decide +kernel
theorem dX5_bestOrder_60 : decode cX5_bestOrder 60 = .ok (.iload_n 1, 1) := by decide +kernel
theorem dX5_bestOrder_61 : decode cX5_bestOrder 61 = .ok (.if_icmp .le 13, 3) := by decide +kernel
theorem dX5_bestOrder_64 : decode cX5_bestOrder 64 = .ok (.aload_n 0, 1) := by decide +kernel
theorem dX5_bestOrder_65 : decode cX5_bestOrder 65 = .ok (.getfield 43, 3) := by decide +kernel
theorem dX5_bestOrder_68 : decode cX5_bestOrder 68 = .ok (.iload 4, 2) := by decide +kernel
theorem dX5_bestOrder_70 : decode cX5_bestOrder 70 = .ok (.iaload, 1) := by decide +kernel
theorem dX5_bestOrder_71 : decode cX5_bestOrder 71 = .ok (.goto 10, 3) := by decide +kernel
theorem dX5_bestOrder_74 : decode cX5_bestOrder 74 = .ok (.aload_n 0, 1) := by decide +kernel
theorem dX5_bestOrder_75 : decode cX5_bestOrder 75 = .ok (.getfield 46, 3) := by decide +kernel
theorem dX5_bestOrder_78 : decode cX5_bestOrder 78 = .ok (.iload 4, 2) := by decide +kernel
theorem dX5_bestOrder_80 : decode cX5_bestOrder 80 = .ok (.iaload, 1) := by decide +kernel
theorem dX5_bestOrder_81 : decode cX5_bestOrder 81 = .ok (.iastore, 1) := by decide +kernel
theorem dX5_bestOrder_82 : decode cX5_bestOrder 82 = .ok (.iinc 4 1, 3) := by decide +kernel
theorem dX5_bestOrder_85 : decode cX5_bestOrder 85 = .ok (.goto (-41), 3) := by decide +kernel
theorem dX5_bestOrder_88 : decode cX5_bestOrder 88 = .ok (.iload_n 3, 1) := by decide +kernel
theorem dX5_bestOrder_89 : decode cX5_bestOrder 89 = .ok (.iload_n 1, 1) := by decide +kernel
theorem dX5_bestOrder_90 : decode cX5_bestOrder 90 = .ok (.if_icmp .le 7, 3) := by decide +kernel
theorem dX5_bestOrder_93 : decode cX5_bestOrder 93 = .ok (.iload_n 3, 1) := by decide +kernel
theorem dX5_bestOrder_94 : decode cX5_bestOrder 94 = .ok (.goto 4, 3) := by decide +kernel
theorem dX5_bestOrder_97 : decode cX5_bestOrder 97 = .ok (.iload_n 1, 1) := by decide +kernel
theorem dX5_bestOrder_98 : decode cX5_bestOrder 98 = .ok (.istore_n 1, 1) := by decide +kernel
theorem dX5_bestOrder_99 : decode cX5_bestOrder 99 = .ok (.aload_n 0, 1) := by decide +kernel
theorem dX5_bestOrder_100 : decode cX5_bestOrder 100 = .ok (.invokevirtual 211, 3) := by decide +kernel
theorem dX5_bestOrder_103 : decode cX5_bestOrder 103 = .ok (.istore_n 2, 1) := by decide +kernel
theorem dX5_bestOrder_104 : decode cX5_bestOrder 104 = .ok (.goto (-72), 3) := by decide +kernel
theorem dX5_bestOrder_107 : decode cX5_bestOrder 107 = .ok (.iload_n 1, 1) := by decide +kernel
theorem dX5_bestOrder_108 : decode cX5_bestOrder 108 = .ok (.ireturn, 1) := by decide +kernel
theorem dX5_order_0 : decode cX5_order 0 = .ok (.aload_n 0, 1) := by decide +kernel
theorem dX5_order_1 : decode cX5_order 1 = .ok (.getfield 80, 3) := by decide +kernel
theorem dX5_order_4 : decode cX5_order 4 = .ok (.ifCond .ne 6, 3) := by decide +kernel
theorem dX5_order_7 : decode cX5_order 7 = .ok (.bipush (-3), 2) := by decide +kernel
theorem dX5_order_9 : decode cX5_order 9 = .ok (.ireturn, 1) := by decide +kernel
theorem dX5_order_10 : decode cX5_order 10 = .ok (.iload_n 1, 1) := by decide +kernel
theorem dX5_order_11 : decode cX5_order 11 = .ok (.i2l, 1) := by decide +kernel
theorem dX5_order_12 : decode cX5_order 12 = .ok (.ldc2_w 215, 3) := by decide +kernel
theorem dX5_order_15 : decode cX5_order 15 = .ok (.ldc2_w 217, 3) := by decide +kernel
theorem dX5_order_18 : decode cX5_order 18 = .ok (.invokestatic 83, 3) := by decide +kernel
theorem dX5_order_21 : decode cX5_order 21 = .ok (.ifCond .ne 6, 3) := by decide +kernel
theorem dX5_order_24 : decode cX5_order 24 = .ok (.bipush (-2), 2) := by decide +kernel
theorem dX5_order_26 : decode cX5_order 26 = .ok (.ireturn, 1) := by decide +kernel
theorem dX5_order_27 : decode cX5_order 27 = .ok (.aload_n 0, 1) := by decide +kernel
theorem dX5_order_28 : decode cX5_order 28 = .ok (.invokevirtual 219, 3) := by decide +kernel
theorem dX5_order_31 : decode cX5_order 31 = .ok (.istore_n 2, 1) := by decide +kernel
theorem dX5_order_32 : decode cX5_order 32 = .ok (.iload_n 1, 1) := by decide +kernel
theorem dX5_order_33 : decode cX5_order 33 = .ok (.ifCond .ge 7, 3) := by decide +kernel
theorem dX5_order_36 : decode cX5_order 36 = .ok (.iload_n 2, 1) := by decide +kernel
theorem dX5_order_37 : decode cX5_order 37 = .ok (.goto 22, 3) := by decide +kernel
theorem dX5_order_40 : decode cX5_order 40 = .ok (.iload_n 1, 1) := by decide +kernel
theorem dX5_order_41 : decode cX5_order 41 = .ok (.aload_n 0, 1) := by decide +kernel
theorem dX5_order_42 : decode cX5_order 42 = .ok (.getfield 80, 3) := by decide +kernel
theorem dX5_order_45 : decode cX5_order 45 = .ok (.if_icmp .ge 12, 3) := by decide +kernel
theorem dX5_order_48 : decode cX5_order 48 = .ok (.aload_n 0, 1) := by decide +kernel
theorem dX5_order_49 : decode cX5_order 49 = .ok (.getfield 46, 3) := by decide +kernel
theorem dX5_order_52 : decode cX5_order 52 = .ok (.iload_n 1, 1) := by decide +kernel
theorem dX5_order_53 : decode cX5_order 53 = .ok (.iaload, 1) := by decide +kernel
theorem dX5_order_54 : decode cX5_order 54 = .ok (.goto 5, 3) := by decide +kernel
theorem dX5_order_57 : decode cX5_order 57 = .ok (.bipush (-9), 2) := by decide +kernel
theorem dX5_order_59 : decode cX5_order 59 = .ok (.ireturn, 1) := by decide +kernel
theorem dX5_asMet_0 : decode cX5_asMet 0 = .ok (.iconst 0, 1) := by decide +kernel
theorem dX5_asMet_1 : decode cX5_asMet 1 = .ok (.istore_n 2, 1) := by decide +kernel
theorem dX5_asMet_2 : decode cX5_asMet 2 = .ok (.iload_n 2, 1) := by decide +kernel
theorem dX5_asMet_3 : decode cX5_asMet 3 = .ok (.aload_n 0, 1) := by decide +kernel
theorem dX5_asMet_4 : decode cX5_asMet 4 = .ok (.getfield 80, 3) := by decide +kernel
theorem dX5_asMet_7 : decode cX5_asMet 7 = .ok (.if_icmp .ge 38, 3) := by decide +kernel
theorem dX5_asMet_10 : decode cX5_asMet 10 = .ok (.aload_n 0, 1) := by decide +kernel
theorem dX5_asMet_11 : decode cX5_asMet 11 = .ok (.getfield 16, 3) := by decide +kernel
theorem dX5_asMet_14 : decode cX5_asMet 14 = .ok (.iload_n 2, 1) := by decide +kernel
theorem dX5_asMet_15 : decode cX5_asMet 15 = .ok (.iload_n 1, 1) := by decide +kernel
theorem dX5_asMet_16 : decode cX5_asMet 16 = .ok (.iload_n 2, 1) := by decide +kernel
theorem dX5_asMet_17 : decode cX5_asMet 17 = .ok (.invokestatic 222, 3) := by decide +kernel
theorem dX5_asMet_20 : decode cX5_asMet 20 = .ok (.ifCond .eq 12, 3) := by decide +kernel
theorem dX5_asMet_23 : decode cX5_asMet 23 = .ok (.aload_n 0, 1) := by decide +kernel
theorem dX5_asMet_24 : decode cX5_asMet 24 = .ok (.getfield 34, 3) := by decide +kernel
theorem dX5_asMet_27 : decode cX5_asMet 27 = .ok (.iload_n 2, 1) := by decide +kernel
theorem dX5_asMet_28 : decode cX5_asMet 28 = .ok (.iaload, 1) := by decide +kernel
theorem dX5_asMet_29 : decode cX5_asMet 29 = .ok (.goto 9, 3) := by decide +kernel
theorem dX5_asMet_32 : decode cX5_asMet 32 = .ok (.aload_n 0, 1) := by decide +kernel
theorem dX5_asMet_33 : decode cX5_asMet 33 = .ok (.getfield 37, 3) := by decide +kernel
theorem dX5_asMet_36 : decode cX5_asMet 36 = .ok (.iload_n 2, 1) := by decide +kernel
theorem dX5_asMet_37 : decode cX5_asMet 37 = .ok (.iaload, 1) := by decide +kernel
theorem dX5_asMet_38 : decode cX5_asMet 38 = .ok (.iastore, 1) := by decide +kernel
theorem dX5_asMet_39 : decode cX5_asMet 39 = .ok (.iinc 2 1, 3) := by decide +kernel
theorem dX5_asMet_42 : decode cX5_asMet 42 = .ok (.goto (-40), 3) := by decide +kernel
theorem dX5_asMet_45 : decode cX5_asMet 45 = .ok (.return_, 1) := by decide +kernel
theorem dX5_spreads_0 : decode cX5_spreads 0 = .ok (.iconst 0, 1) := by decide +kernel
theorem dX5_spreads_1 : decode cX5_spreads 1 = .ok (.istore_n 2, 1) := by decide +kernel
theorem dX5_spreads_2 : decode cX5_spreads 2 = .ok (.iload_n 2, 1) := by decide +kernel
theorem dX5_spreads_3 : decode cX5_spreads 3 = .ok (.bipush 64, 2) := by decide +kernel
theorem dX5_spreads_5 : decode cX5_spreads 5 = .ok (.if_icmp .ge 94, 3) := by decide +kernel
theorem dX5_spreads_8 : decode cX5_spreads 8 = .ok (.iconst 0, 1) := by decide +kernel
theorem dX5_spreads_9 : decode cX5_spreads 9 = .ok (.istore_n 3, 1) := by decide +kernel
theorem dX5_spreads_10 : decode cX5_spreads 10 = .ok (.iload_n 3, 1) := by decide +kernel
theorem dX5_spreads_11 : decode cX5_spreads 11 = .ok (.aload_n 0, 1) := by decide +kernel
theorem dX5_spreads_12 : decode cX5_spreads 12 = .ok (.getfield 80, 3) := by decide +kernel
theorem dX5_spreads_15 : decode cX5_spreads 15 = .ok (.if_icmp .ge 78, 3) := by decide +kernel
theorem dX5_spreads_18 : decode cX5_spreads 18 = .ok (.aload_n 0, 1) := by decide +kernel
theorem dX5_spreads_19 : decode cX5_spreads 19 = .ok (.getfield 49, 3) := by decide +kernel
theorem dX5_spreads_22 : decode cX5_spreads 22 = .ok (.iload_n 2, 1) := by decide +kernel
theorem dX5_spreads_23 : decode cX5_spreads 23 = .ok (.iaload, 1) := by decide +kernel
theorem dX5_spreads_24 : decode cX5_spreads 24 = .ok (.iload_n 1, 1) := by decide +kernel
theorem dX5_spreads_25 : decode cX5_spreads 25 = .ok (.if_icmp .ne 68, 3) := by decide +kernel
theorem dX5_spreads_28 : decode cX5_spreads 28 = .ok (.aload_n 0, 1) := by decide +kernel
theorem dX5_spreads_29 : decode cX5_spreads 29 = .ok (.iload_n 2, 1) := by decide +kernel
theorem dX5_spreads_30 : decode cX5_spreads 30 = .ok (.invokevirtual 225, 3) := by decide +kernel
theorem dX5_spreads_33 : decode cX5_spreads 33 = .ok (.aload_n 0, 1) := by decide +kernel
theorem dX5_spreads_34 : decode cX5_spreads 34 = .ok (.iload_n 3, 1) := by decide +kernel
theorem dX5_spreads_35 : decode cX5_spreads 35 = .ok (.invokevirtual 165, 3) := by decide +kernel
theorem dX5_spreads_38 : decode cX5_spreads 38 = .ok (.istore 4, 2) := by decide +kernel
theorem dX5_spreads_40 : decode cX5_spreads 40 = .ok (.iload 4, 2) := by decide +kernel
theorem dX5_spreads_42 : decode cX5_spreads 42 = .ok (.ifCond .ge 7, 3) := by decide +kernel
theorem dX5_spreads_45 : decode cX5_spreads 45 = .ok (.iload_n 2, 1) := by decide +kernel
theorem dX5_spreads_46 : decode cX5_spreads 46 = .ok (.goto 9, 3) := by decide +kernel
theorem dX5_spreads_49 : decode cX5_spreads 49 = .ok (.iload_n 2, 1) := by decide +kernel
theorem dX5_spreads_50 : decode cX5_spreads 50 = .ok (.iconst 1, 1) := by decide +kernel
theorem dX5_spreads_51 : decode cX5_spreads 51 = .ok (.iload 4, 2) := by decide +kernel
theorem dX5_spreads_53 : decode cX5_spreads 53 = .ok (.ishl, 1) := by decide +kernel
theorem dX5_spreads_54 : decode cX5_spreads 54 = .ok (.ior, 1) := by decide +kernel
theorem dX5_spreads_55 : decode cX5_spreads 55 = .ok (.istore 5, 2) := by decide +kernel
theorem dX5_spreads_57 : decode cX5_spreads 57 = .ok (.aload_n 0, 1) := by decide +kernel
theorem dX5_spreads_58 : decode cX5_spreads 58 = .ok (.getfield 49, 3) := by decide +kernel
theorem dX5_spreads_61 : decode cX5_spreads 61 = .ok (.iload 5, 2) := by decide +kernel
theorem dX5_spreads_63 : decode cX5_spreads 63 = .ok (.aload_n 0, 1) := by decide +kernel
theorem dX5_spreads_64 : decode cX5_spreads 64 = .ok (.getfield 49, 3) := by decide +kernel
theorem dX5_spreads_67 : decode cX5_spreads 67 = .ok (.iload 5, 2) := by decide +kernel
theorem dX5_spreads_69 : decode cX5_spreads 69 = .ok (.iaload, 1) := by decide +kernel
theorem dX5_spreads_70 : decode cX5_spreads 70 = .ok (.ifCond .ge 9, 3) := by decide +kernel
theorem dX5_spreads_73 : decode cX5_spreads 73 = .ok (.iload_n 1, 1) := by decide +kernel
theorem dX5_spreads_74 : decode cX5_spreads 74 = .ok (.iconst 1, 1) := by decide +kernel
theorem dX5_spreads_75 : decode cX5_spreads 75 = .ok (.iadd, 1) := by decide +kernel
theorem dX5_spreads_76 : decode cX5_spreads 76 = .ok (.goto 10, 3) := by decide +kernel
theorem dX5_spreads_79 : decode cX5_spreads 79 = .ok (.aload_n 0, 1) := by decide +kernel
theorem dX5_spreads_80 : decode cX5_spreads 80 = .ok (.getfield 49, 3) := by decide +kernel
theorem dX5_spreads_83 : decode cX5_spreads 83 = .ok (.iload 5, 2) := by decide +kernel
theorem dX5_spreads_85 : decode cX5_spreads 85 = .ok (.iaload, 1) := by decide +kernel
theorem dX5_spreads_86 : decode cX5_spreads 86 = .ok (.iastore, 1) := by decide +kernel
theorem dX5_spreads_87 : decode cX5_spreads 87 = .ok (.iinc 3 1, 3) := by decide +kernel
theorem dX5_spreads_90 : decode cX5_spreads 90 = .ok (.goto (-80), 3) := by decide +kernel
theorem dX5_spreads_93 : decode cX5_spreads 93 = .ok (.iinc 2 1, 3) := by decide +kernel
theorem dX5_spreads_96 : decode cX5_spreads 96 = .ok (.goto (-94), 3) := by decide +kernel
theorem dX5_spreads_99 : decode cX5_spreads 99 = .ok (.return_, 1) := by decide +kernel
theorem dX5_ahead_0 : decode cX5_ahead 0 = .ok (.aload_n 0, 1) := by decide +kernel
theorem dX5_ahead_1 : decode cX5_ahead 1 = .ok (.iload_n 1, 1) := by decide +kernel
theorem dX5_ahead_2 : decode cX5_ahead 2 = .ok (.invokevirtual 162, 3) := by decide +kernel
theorem dX5_ahead_5 : decode cX5_ahead 5 = .ok (.ifCond .eq 5, 3) := by decide +kernel
theorem dX5_ahead_8 : decode cX5_ahead 8 = .ok (.iconst (-1), 1) := by decide +kernel
theorem dX5_ahead_9 : decode cX5_ahead 9 = .ok (.ireturn, 1) := by decide +kernel
theorem dX5_ahead_10 : decode cX5_ahead 10 = .ok (.aload_n 0, 1) := by decide +kernel
theorem dX5_ahead_11 : decode cX5_ahead 11 = .ok (.invokevirtual 190, 3) := by decide +kernel
theorem dX5_ahead_14 : decode cX5_ahead 14 = .ok (.iconst 0, 1) := by decide +kernel
theorem dX5_ahead_15 : decode cX5_ahead 15 = .ok (.istore_n 2, 1) := by decide +kernel
theorem dX5_ahead_16 : decode cX5_ahead 16 = .ok (.iload_n 2, 1) := by decide +kernel
theorem dX5_ahead_17 : decode cX5_ahead 17 = .ok (.bipush 64, 2) := by decide +kernel
theorem dX5_ahead_19 : decode cX5_ahead 19 = .ok (.if_icmp .ge 25, 3) := by decide +kernel
theorem dX5_ahead_22 : decode cX5_ahead 22 = .ok (.aload_n 0, 1) := by decide +kernel
theorem dX5_ahead_23 : decode cX5_ahead 23 = .ok (.getfield 49, 3) := by decide +kernel
theorem dX5_ahead_26 : decode cX5_ahead 26 = .ok (.iload_n 2, 1) := by decide +kernel
theorem dX5_ahead_27 : decode cX5_ahead 27 = .ok (.iload_n 2, 1) := by decide +kernel
theorem dX5_ahead_28 : decode cX5_ahead 28 = .ok (.ifCond .ne 7, 3) := by decide +kernel
theorem dX5_ahead_31 : decode cX5_ahead 31 = .ok (.iconst 0, 1) := by decide +kernel
theorem dX5_ahead_32 : decode cX5_ahead 32 = .ok (.goto 5, 3) := by decide +kernel
theorem dX5_ahead_35 : decode cX5_ahead 35 = .ok (.bipush (-9), 2) := by decide +kernel
theorem dX5_ahead_37 : decode cX5_ahead 37 = .ok (.iastore, 1) := by decide +kernel
theorem dX5_ahead_38 : decode cX5_ahead 38 = .ok (.iinc 2 1, 3) := by decide +kernel
theorem dX5_ahead_41 : decode cX5_ahead 41 = .ok (.goto (-25), 3) := by decide +kernel
theorem dX5_ahead_44 : decode cX5_ahead 44 = .ok (.iconst 0, 1) := by decide +kernel
theorem dX5_ahead_45 : decode cX5_ahead 45 = .ok (.istore_n 2, 1) := by decide +kernel
theorem dX5_ahead_46 : decode cX5_ahead 46 = .ok (.iload_n 2, 1) := by decide +kernel
theorem dX5_ahead_47 : decode cX5_ahead 47 = .ok (.bipush 7, 2) := by decide +kernel
theorem dX5_ahead_49 : decode cX5_ahead 49 = .ok (.if_icmp .ge 14, 3) := by decide +kernel
theorem dX5_ahead_52 : decode cX5_ahead 52 = .ok (.aload_n 0, 1) := by decide +kernel
theorem dX5_ahead_53 : decode cX5_ahead 53 = .ok (.iload_n 2, 1) := by decide +kernel
theorem dX5_ahead_54 : decode cX5_ahead 54 = .ok (.invokevirtual 229, 3) := by decide +kernel
theorem dX5_ahead_57 : decode cX5_ahead 57 = .ok (.iinc 2 1, 3) := by decide +kernel
theorem dX5_ahead_60 : decode cX5_ahead 60 = .ok (.goto (-14), 3) := by decide +kernel
theorem dX5_ahead_63 : decode cX5_ahead 63 = .ok (.bipush (-9), 2) := by decide +kernel
theorem dX5_ahead_65 : decode cX5_ahead 65 = .ok (.istore_n 2, 1) := by decide +kernel
theorem dX5_ahead_66 : decode cX5_ahead 66 = .ok (.iconst 0, 1) := by decide +kernel
theorem dX5_ahead_67 : decode cX5_ahead 67 = .ok (.istore_n 3, 1) := by decide +kernel
theorem dX5_ahead_68 : decode cX5_ahead 68 = .ok (.iload_n 3, 1) := by decide +kernel
theorem dX5_ahead_69 : decode cX5_ahead 69 = .ok (.bipush 64, 2) := by decide +kernel
theorem dX5_ahead_71 : decode cX5_ahead 71 = .ok (.if_icmp .ge 69, 3) := by decide +kernel
theorem dX5_ahead_74 : decode cX5_ahead 74 = .ok (.aload_n 0, 1) := by decide +kernel
theorem dX5_ahead_75 : decode cX5_ahead 75 = .ok (.iload_n 3, 1) := by decide +kernel
theorem dX5_ahead_76 : decode cX5_ahead 76 = .ok (.invokevirtual 225, 3) := by decide +kernel
theorem dX5_ahead_79 : decode cX5_ahead 79 = .ok (.aload_n 0, 1) := by decide +kernel
theorem dX5_ahead_80 : decode cX5_ahead 80 = .ok (.getfield 49, 3) := by decide +kernel
theorem dX5_ahead_83 : decode cX5_ahead 83 = .ok (.iload_n 3, 1) := by decide +kernel
theorem dX5_ahead_84 : decode cX5_ahead 84 = .ok (.iaload, 1) := by decide +kernel
theorem dX5_ahead_85 : decode cX5_ahead 85 = .ok (.ifCond .lt 16, 3) := by decide +kernel
theorem dX5_ahead_88 : decode cX5_ahead 88 = .ok (.aload_n 0, 1) := by decide +kernel
theorem dX5_ahead_89 : decode cX5_ahead 89 = .ok (.iload_n 1, 1) := by decide +kernel
theorem dX5_ahead_90 : decode cX5_ahead 90 = .ok (.invokevirtual 165, 3) := by decide +kernel
theorem dX5_ahead_93 : decode cX5_ahead 93 = .ok (.iload_n 1, 1) := by decide +kernel
theorem dX5_ahead_94 : decode cX5_ahead 94 = .ok (.if_icmp .ne 7, 3) := by decide +kernel
theorem dX5_ahead_97 : decode cX5_ahead 97 = .ok (.iconst 1, 1) := by decide +kernel
theorem dX5_ahead_98 : decode cX5_ahead 98 = .ok (.goto 4, 3) := by decide +kernel
theorem dX5_ahead_101 : decode cX5_ahead 101 = .ok (.iconst 0, 1) := by decide +kernel
theorem dX5_ahead_102 : decode cX5_ahead 102 = .ok (.istore 4, 2) := by decide +kernel
theorem dX5_ahead_104 : decode cX5_ahead 104 = .ok (.iload 4, 2) := by decide +kernel
theorem dX5_ahead_106 : decode cX5_ahead 106 = .ok (.ifCond .eq 26, 3) := by decide +kernel
theorem dX5_ahead_109 : decode cX5_ahead 109 = .ok (.iload_n 2, 1) := by decide +kernel
theorem dX5_ahead_110 : decode cX5_ahead 110 = .ok (.ifCond .lt 13, 3) := by decide +kernel
theorem dX5_ahead_113 : decode cX5_ahead 113 = .ok (.aload_n 0, 1) := by decide +kernel
theorem dX5_ahead_114 : decode cX5_ahead 114 = .ok (.getfield 49, 3) := by decide +kernel
theorem dX5_ahead_117 : decode cX5_ahead 117 = .ok (.iload_n 3, 1) := by decide +kernel
theorem dX5_ahead_118 : decode cX5_ahead 118 = .ok (.iaload, 1) := by decide +kernel
theorem dX5_ahead_119 : decode cX5_ahead 119 = .ok (.iload_n 2, 1) := by decide +kernel
theorem dX5_ahead_120 : decode cX5_ahead 120 = .ok (.if_icmp .ge 12, 3) := by decide +kernel
theorem dX5_ahead_123 : decode cX5_ahead 123 = .ok (.aload_n 0, 1) := by decide +kernel
theorem dX5_ahead_124 : decode cX5_ahead 124 = .ok (.getfield 49, 3) := by decide +kernel
theorem dX5_ahead_127 : decode cX5_ahead 127 = .ok (.iload_n 3, 1) := by decide +kernel
theorem dX5_ahead_128 : decode cX5_ahead 128 = .ok (.iaload, 1) := by decide +kernel
theorem dX5_ahead_129 : decode cX5_ahead 129 = .ok (.goto 4, 3) := by decide +kernel
theorem dX5_ahead_132 : decode cX5_ahead 132 = .ok (.iload_n 2, 1) := by decide +kernel
theorem dX5_ahead_133 : decode cX5_ahead 133 = .ok (.istore_n 2, 1) := by decide +kernel
theorem dX5_ahead_134 : decode cX5_ahead 134 = .ok (.iinc 3 1, 3) := by decide +kernel
theorem dX5_ahead_137 : decode cX5_ahead 137 = .ok (.goto (-69), 3) := by decide +kernel
theorem dX5_ahead_140 : decode cX5_ahead 140 = .ok (.aload_n 0, 1) := by decide +kernel
theorem dX5_ahead_141 : decode cX5_ahead 141 = .ok (.invokevirtual 197, 3) := by decide +kernel
theorem dX5_ahead_144 : decode cX5_ahead 144 = .ok (.iload_n 2, 1) := by decide +kernel
theorem dX5_ahead_145 : decode cX5_ahead 145 = .ok (.ireturn, 1) := by decide +kernel
theorem dX5_reading_0 : decode cX5_reading 0 = .ok (.aload_n 0, 1) := by decide +kernel
theorem dX5_reading_1 : decode cX5_reading 1 = .ok (.iload_n 1, 1) := by decide +kernel
theorem dX5_reading_2 : decode cX5_reading 2 = .ok (.invokevirtual 162, 3) := by decide +kernel
theorem dX5_reading_5 : decode cX5_reading 5 = .ok (.ifCond .ne 17, 3) := by decide +kernel
theorem dX5_reading_8 : decode cX5_reading 8 = .ok (.aload_n 0, 1) := by decide +kernel
theorem dX5_reading_9 : decode cX5_reading 9 = .ok (.iload_n 2, 1) := by decide +kernel
theorem dX5_reading_10 : decode cX5_reading 10 = .ok (.invokevirtual 162, 3) := by decide +kernel
theorem dX5_reading_13 : decode cX5_reading 13 = .ok (.ifCond .eq 11, 3) := by decide +kernel
theorem dX5_reading_16 : decode cX5_reading 16 = .ok (.iload_n 2, 1) := by decide +kernel
theorem dX5_reading_17 : decode cX5_reading 17 = .ok (.bipush (-9), 2) := by decide +kernel
theorem dX5_reading_19 : decode cX5_reading 19 = .ok (.if_icmp .eq 5, 3) := by decide +kernel
theorem dX5_reading_22 : decode cX5_reading 22 = .ok (.iconst (-1), 1) := by decide +kernel
theorem dX5_reading_23 : decode cX5_reading 23 = .ok (.ireturn, 1) := by decide +kernel
theorem dX5_reading_24 : decode cX5_reading 24 = .ok (.aload_n 0, 1) := by decide +kernel
theorem dX5_reading_25 : decode cX5_reading 25 = .ok (.getfield 144, 3) := by decide +kernel
theorem dX5_reading_28 : decode cX5_reading 28 = .ok (.bipush 8, 2) := by decide +kernel
theorem dX5_reading_30 : decode cX5_reading 30 = .ok (.if_icmp .ne 6, 3) := by decide +kernel
theorem dX5_reading_33 : decode cX5_reading 33 = .ok (.bipush (-4), 2) := by decide +kernel
theorem dX5_reading_35 : decode cX5_reading 35 = .ok (.ireturn, 1) := by decide +kernel
theorem dX5_reading_36 : decode cX5_reading 36 = .ok (.aload_n 0, 1) := by decide +kernel
theorem dX5_reading_37 : decode cX5_reading 37 = .ok (.getfield 52, 3) := by decide +kernel
theorem dX5_reading_40 : decode cX5_reading 40 = .ok (.aload_n 0, 1) := by decide +kernel
theorem dX5_reading_41 : decode cX5_reading 41 = .ok (.getfield 144, 3) := by decide +kernel
theorem dX5_reading_44 : decode cX5_reading 44 = .ok (.iload_n 1, 1) := by decide +kernel
theorem dX5_reading_45 : decode cX5_reading 45 = .ok (.iastore, 1) := by decide +kernel
theorem dX5_reading_46 : decode cX5_reading 46 = .ok (.aload_n 0, 1) := by decide +kernel
theorem dX5_reading_47 : decode cX5_reading 47 = .ok (.getfield 55, 3) := by decide +kernel
theorem dX5_reading_50 : decode cX5_reading 50 = .ok (.aload_n 0, 1) := by decide +kernel
theorem dX5_reading_51 : decode cX5_reading 51 = .ok (.getfield 144, 3) := by decide +kernel
theorem dX5_reading_54 : decode cX5_reading 54 = .ok (.iload_n 2, 1) := by decide +kernel
theorem dX5_reading_55 : decode cX5_reading 55 = .ok (.iastore, 1) := by decide +kernel
theorem dX5_reading_56 : decode cX5_reading 56 = .ok (.aload_n 0, 1) := by decide +kernel
theorem dX5_reading_57 : decode cX5_reading 57 = .ok (.dup, 1) := by decide +kernel
theorem dX5_reading_58 : decode cX5_reading 58 = .ok (.getfield 144, 3) := by decide +kernel
theorem dX5_reading_61 : decode cX5_reading 61 = .ok (.iconst 1, 1) := by decide +kernel
theorem dX5_reading_62 : decode cX5_reading 62 = .ok (.iadd, 1) := by decide +kernel
theorem dX5_reading_63 : decode cX5_reading 63 = .ok (.putfield 144, 3) := by decide +kernel
theorem dX5_reading_66 : decode cX5_reading 66 = .ok (.aload_n 0, 1) := by decide +kernel
theorem dX5_reading_67 : decode cX5_reading 67 = .ok (.getfield 144, 3) := by decide +kernel
theorem dX5_reading_70 : decode cX5_reading 70 = .ok (.iconst 1, 1) := by decide +kernel
theorem dX5_reading_71 : decode cX5_reading 71 = .ok (.isub, 1) := by decide +kernel
theorem dX5_reading_72 : decode cX5_reading 72 = .ok (.ireturn, 1) := by decide +kernel
theorem dX5_back_0 : decode cX5_back 0 = .ok (.iload_n 1, 1) := by decide +kernel
theorem dX5_back_1 : decode cX5_back 1 = .ok (.i2l, 1) := by decide +kernel
theorem dX5_back_2 : decode cX5_back 2 = .ok (.lconst 0, 1) := by decide +kernel
theorem dX5_back_3 : decode cX5_back 3 = .ok (.aload_n 0, 1) := by decide +kernel
theorem dX5_back_4 : decode cX5_back 4 = .ok (.getfield 144, 3) := by decide +kernel
theorem dX5_back_7 : decode cX5_back 7 = .ok (.i2l, 1) := by decide +kernel
theorem dX5_back_8 : decode cX5_back 8 = .ok (.invokestatic 83, 3) := by decide +kernel
theorem dX5_back_11 : decode cX5_back 11 = .ok (.ifCond .ne 6, 3) := by decide +kernel
theorem dX5_back_14 : decode cX5_back 14 = .ok (.bipush (-2), 2) := by decide +kernel
theorem dX5_back_16 : decode cX5_back 16 = .ok (.ireturn, 1) := by decide +kernel
theorem dX5_back_17 : decode cX5_back 17 = .ok (.aload_n 0, 1) := by decide +kernel
theorem dX5_back_18 : decode cX5_back 18 = .ok (.dup, 1) := by decide +kernel
theorem dX5_back_19 : decode cX5_back 19 = .ok (.getfield 144, 3) := by decide +kernel
theorem dX5_back_22 : decode cX5_back 22 = .ok (.iload_n 1, 1) := by decide +kernel
theorem dX5_back_23 : decode cX5_back 23 = .ok (.isub, 1) := by decide +kernel
theorem dX5_back_24 : decode cX5_back 24 = .ok (.putfield 144, 3) := by decide +kernel
theorem dX5_back_27 : decode cX5_back 27 = .ok (.aload_n 0, 1) := by decide +kernel
theorem dX5_back_28 : decode cX5_back 28 = .ok (.getfield 144, 3) := by decide +kernel
theorem dX5_back_31 : decode cX5_back 31 = .ok (.ireturn, 1) := by decide +kernel
theorem dX5_areSo_0 : decode cX5_areSo 0 = .ok (.iconst 1, 1) := by decide +kernel
theorem dX5_areSo_1 : decode cX5_areSo 1 = .ok (.istore_n 1, 1) := by decide +kernel
theorem dX5_areSo_2 : decode cX5_areSo 2 = .ok (.iconst 0, 1) := by decide +kernel
theorem dX5_areSo_3 : decode cX5_areSo 3 = .ok (.istore_n 2, 1) := by decide +kernel
theorem dX5_areSo_4 : decode cX5_areSo 4 = .ok (.iload_n 2, 1) := by decide +kernel
theorem dX5_areSo_5 : decode cX5_areSo 5 = .ok (.aload_n 0, 1) := by decide +kernel
theorem dX5_areSo_6 : decode cX5_areSo 6 = .ok (.getfield 144, 3) := by decide +kernel
theorem dX5_areSo_9 : decode cX5_areSo 9 = .ok (.if_icmp .ge 38, 3) := by decide +kernel
theorem dX5_areSo_12 : decode cX5_areSo 12 = .ok (.iload_n 1, 1) := by decide +kernel
theorem dX5_areSo_13 : decode cX5_areSo 13 = .ok (.ifCond .eq 26, 3) := by decide +kernel
theorem dX5_areSo_16 : decode cX5_areSo 16 = .ok (.aload_n 0, 1) := by decide +kernel
theorem dX5_areSo_17 : decode cX5_areSo 17 = .ok (.aload_n 0, 1) := by decide +kernel
theorem dX5_areSo_18 : decode cX5_areSo 18 = .ok (.getfield 52, 3) := by decide +kernel
theorem dX5_areSo_21 : decode cX5_areSo 21 = .ok (.iload_n 2, 1) := by decide +kernel
theorem dX5_areSo_22 : decode cX5_areSo 22 = .ok (.iaload, 1) := by decide +kernel
theorem dX5_areSo_23 : decode cX5_areSo 23 = .ok (.invokevirtual 165, 3) := by decide +kernel
theorem dX5_areSo_26 : decode cX5_areSo 26 = .ok (.aload_n 0, 1) := by decide +kernel
theorem dX5_areSo_27 : decode cX5_areSo 27 = .ok (.getfield 55, 3) := by decide +kernel
theorem dX5_areSo_30 : decode cX5_areSo 30 = .ok (.iload_n 2, 1) := by decide +kernel
theorem dX5_areSo_31 : decode cX5_areSo 31 = .ok (.iaload, 1) := by decide +kernel
theorem dX5_areSo_32 : decode cX5_areSo 32 = .ok (.if_icmp .ne 7, 3) := by decide +kernel
theorem dX5_areSo_35 : decode cX5_areSo 35 = .ok (.iconst 1, 1) := by decide +kernel
theorem dX5_areSo_36 : decode cX5_areSo 36 = .ok (.goto 4, 3) := by decide +kernel
theorem dX5_areSo_39 : decode cX5_areSo 39 = .ok (.iconst 0, 1) := by decide +kernel
theorem dX5_areSo_40 : decode cX5_areSo 40 = .ok (.istore_n 1, 1) := by decide +kernel
theorem dX5_areSo_41 : decode cX5_areSo 41 = .ok (.iinc 2 1, 3) := by decide +kernel
theorem dX5_areSo_44 : decode cX5_areSo 44 = .ok (.goto (-40), 3) := by decide +kernel
theorem dX5_areSo_47 : decode cX5_areSo 47 = .ok (.iload_n 1, 1) := by decide +kernel
theorem dX5_areSo_48 : decode cX5_areSo 48 = .ok (.ireturn, 1) := by decide +kernel
theorem dX5_smells_0 : decode cX5_smells 0 = .ok (.aload_n 0, 1) := by decide +kernel
theorem dX5_smells_1 : decode cX5_smells 1 = .ok (.iload_n 1, 1) := by decide +kernel
theorem dX5_smells_2 : decode cX5_smells 2 = .ok (.invokevirtual 162, 3) := by decide +kernel
theorem dX5_smells_5 : decode cX5_smells 5 = .ok (.ifCond .eq 5, 3) := by decide +kernel
theorem dX5_smells_8 : decode cX5_smells 8 = .ok (.iconst (-1), 1) := by decide +kernel
theorem dX5_smells_9 : decode cX5_smells 9 = .ok (.ireturn, 1) := by decide +kernel
theorem dX5_smells_10 : decode cX5_smells 10 = .ok (.aload_n 0, 1) := by decide +kernel
theorem dX5_smells_11 : decode cX5_smells 11 = .ok (.getfield 13, 3) := by decide +kernel
theorem dX5_smells_14 : decode cX5_smells 14 = .ok (.iload_n 1, 1) := by decide +kernel
theorem dX5_smells_15 : decode cX5_smells 15 = .ok (.iaload, 1) := by decide +kernel
theorem dX5_smells_16 : decode cX5_smells 16 = .ok (.istore_n 2, 1) := by decide +kernel
theorem dX5_smells_17 : decode cX5_smells 17 = .ok (.iconst 0, 1) := by decide +kernel
theorem dX5_smells_18 : decode cX5_smells 18 = .ok (.istore_n 3, 1) := by decide +kernel
theorem dX5_smells_19 : decode cX5_smells 19 = .ok (.iconst 0, 1) := by decide +kernel
theorem dX5_smells_20 : decode cX5_smells 20 = .ok (.istore 4, 2) := by decide +kernel
theorem dX5_smells_22 : decode cX5_smells 22 = .ok (.iload 4, 2) := by decide +kernel
theorem dX5_smells_24 : decode cX5_smells 24 = .ok (.bipush 8, 2) := by decide +kernel
theorem dX5_smells_26 : decode cX5_smells 26 = .ok (.if_icmp .ge 35, 3) := by decide +kernel
theorem dX5_smells_29 : decode cX5_smells 29 = .ok (.aload_n 0, 1) := by decide +kernel
theorem dX5_smells_30 : decode cX5_smells 30 = .ok (.getfield 13, 3) := by decide +kernel
theorem dX5_smells_33 : decode cX5_smells 33 = .ok (.iload_n 1, 1) := by decide +kernel
theorem dX5_smells_34 : decode cX5_smells 34 = .ok (.iload 4, 2) := by decide +kernel
theorem dX5_smells_36 : decode cX5_smells 36 = .ok (.iastore, 1) := by decide +kernel
theorem dX5_smells_37 : decode cX5_smells 37 = .ok (.iload_n 3, 1) := by decide +kernel
theorem dX5_smells_38 : decode cX5_smells 38 = .ok (.aload_n 0, 1) := by decide +kernel
theorem dX5_smells_39 : decode cX5_smells 39 = .ok (.invokevirtual 232, 3) := by decide +kernel
theorem dX5_smells_42 : decode cX5_smells 42 = .ok (.ifCond .eq 10, 3) := by decide +kernel
theorem dX5_smells_45 : decode cX5_smells 45 = .ok (.iconst 1, 1) := by decide +kernel
theorem dX5_smells_46 : decode cX5_smells 46 = .ok (.iload 4, 2) := by decide +kernel
theorem dX5_smells_48 : decode cX5_smells 48 = .ok (.ishl, 1) := by decide +kernel
theorem dX5_smells_49 : decode cX5_smells 49 = .ok (.goto 4, 3) := by decide +kernel
theorem dX5_smells_52 : decode cX5_smells 52 = .ok (.iconst 0, 1) := by decide +kernel
theorem dX5_smells_53 : decode cX5_smells 53 = .ok (.ior, 1) := by decide +kernel
theorem dX5_smells_54 : decode cX5_smells 54 = .ok (.istore_n 3, 1) := by decide +kernel
theorem dX5_smells_55 : decode cX5_smells 55 = .ok (.iinc 4 1, 3) := by decide +kernel
theorem dX5_smells_58 : decode cX5_smells 58 = .ok (.goto (-36), 3) := by decide +kernel
theorem dX5_smells_61 : decode cX5_smells 61 = .ok (.aload_n 0, 1) := by decide +kernel
theorem dX5_smells_62 : decode cX5_smells 62 = .ok (.getfield 13, 3) := by decide +kernel
theorem dX5_smells_65 : decode cX5_smells 65 = .ok (.iload_n 1, 1) := by decide +kernel
theorem dX5_smells_66 : decode cX5_smells 66 = .ok (.iload_n 2, 1) := by decide +kernel
theorem dX5_smells_67 : decode cX5_smells 67 = .ok (.iastore, 1) := by decide +kernel
theorem dX5_smells_68 : decode cX5_smells 68 = .ok (.iload_n 3, 1) := by decide +kernel
theorem dX5_smells_69 : decode cX5_smells 69 = .ok (.ireturn, 1) := by decide +kernel
theorem dX5_pasts_0 : decode cX5_pasts 0 = .ok (.aload_n 0, 1) := by decide +kernel
theorem dX5_pasts_1 : decode cX5_pasts 1 = .ok (.iload_n 1, 1) := by decide +kernel
theorem dX5_pasts_2 : decode cX5_pasts 2 = .ok (.invokevirtual 162, 3) := by decide +kernel
theorem dX5_pasts_5 : decode cX5_pasts 5 = .ok (.ifCond .eq 5, 3) := by decide +kernel
theorem dX5_pasts_8 : decode cX5_pasts 8 = .ok (.iconst (-1), 1) := by decide +kernel
theorem dX5_pasts_9 : decode cX5_pasts 9 = .ok (.ireturn, 1) := by decide +kernel
theorem dX5_pasts_10 : decode cX5_pasts 10 = .ok (.aload_n 0, 1) := by decide +kernel
theorem dX5_pasts_11 : decode cX5_pasts 11 = .ok (.getfield 16, 3) := by decide +kernel
theorem dX5_pasts_14 : decode cX5_pasts 14 = .ok (.iload_n 1, 1) := by decide +kernel
theorem dX5_pasts_15 : decode cX5_pasts 15 = .ok (.iaload, 1) := by decide +kernel
theorem dX5_pasts_16 : decode cX5_pasts 16 = .ok (.istore_n 2, 1) := by decide +kernel
theorem dX5_pasts_17 : decode cX5_pasts 17 = .ok (.iconst 0, 1) := by decide +kernel
theorem dX5_pasts_18 : decode cX5_pasts 18 = .ok (.istore_n 3, 1) := by decide +kernel
theorem dX5_pasts_19 : decode cX5_pasts 19 = .ok (.iconst 0, 1) := by decide +kernel
theorem dX5_pasts_20 : decode cX5_pasts 20 = .ok (.istore 4, 2) := by decide +kernel
theorem dX5_pasts_22 : decode cX5_pasts 22 = .ok (.iload 4, 2) := by decide +kernel
theorem dX5_pasts_24 : decode cX5_pasts 24 = .ok (.bipush 8, 2) := by decide +kernel
theorem dX5_pasts_26 : decode cX5_pasts 26 = .ok (.if_icmp .ge 35, 3) := by decide +kernel
theorem dX5_pasts_29 : decode cX5_pasts 29 = .ok (.aload_n 0, 1) := by decide +kernel
theorem dX5_pasts_30 : decode cX5_pasts 30 = .ok (.getfield 16, 3) := by decide +kernel
theorem dX5_pasts_33 : decode cX5_pasts 33 = .ok (.iload_n 1, 1) := by decide +kernel
theorem dX5_pasts_34 : decode cX5_pasts 34 = .ok (.iload 4, 2) := by decide +kernel
theorem dX5_pasts_36 : decode cX5_pasts 36 = .ok (.iastore, 1) := by decide +kernel
theorem dX5_pasts_37 : decode cX5_pasts 37 = .ok (.iload_n 3, 1) := by decide +kernel
theorem dX5_pasts_38 : decode cX5_pasts 38 = .ok (.aload_n 0, 1) := by decide +kernel
theorem dX5_pasts_39 : decode cX5_pasts 39 = .ok (.invokevirtual 232, 3) := by decide +kernel
theorem dX5_pasts_42 : decode cX5_pasts 42 = .ok (.ifCond .eq 10, 3) := by decide +kernel
theorem dX5_pasts_45 : decode cX5_pasts 45 = .ok (.iconst 1, 1) := by decide +kernel
theorem dX5_pasts_46 : decode cX5_pasts 46 = .ok (.iload 4, 2) := by decide +kernel
theorem dX5_pasts_48 : decode cX5_pasts 48 = .ok (.ishl, 1) := by decide +kernel
theorem dX5_pasts_49 : decode cX5_pasts 49 = .ok (.goto 4, 3) := by decide +kernel
theorem dX5_pasts_52 : decode cX5_pasts 52 = .ok (.iconst 0, 1) := by decide +kernel
theorem dX5_pasts_53 : decode cX5_pasts 53 = .ok (.ior, 1) := by decide +kernel
theorem dX5_pasts_54 : decode cX5_pasts 54 = .ok (.istore_n 3, 1) := by decide +kernel
theorem dX5_pasts_55 : decode cX5_pasts 55 = .ok (.iinc 4 1, 3) := by decide +kernel
theorem dX5_pasts_58 : decode cX5_pasts 58 = .ok (.goto (-36), 3) := by decide +kernel
theorem dX5_pasts_61 : decode cX5_pasts 61 = .ok (.aload_n 0, 1) := by decide +kernel
theorem dX5_pasts_62 : decode cX5_pasts 62 = .ok (.getfield 16, 3) := by decide +kernel
theorem dX5_pasts_65 : decode cX5_pasts 65 = .ok (.iload_n 1, 1) := by decide +kernel
theorem dX5_pasts_66 : decode cX5_pasts 66 = .ok (.iload_n 2, 1) := by decide +kernel
theorem dX5_pasts_67 : decode cX5_pasts 67 = .ok (.iastore, 1) := by decide +kernel
theorem dX5_pasts_68 : decode cX5_pasts 68 = .ok (.iload_n 3, 1) := by decide +kernel
theorem dX5_pasts_69 : decode cX5_pasts 69 = .ok (.ireturn, 1) := by decide +kernel
theorem dX5_kinds_0 : decode cX5_kinds 0 = .ok (.aload_n 0, 1) := by decide +kernel
theorem dX5_kinds_1 : decode cX5_kinds 1 = .ok (.iload_n 1, 1) := by decide +kernel
theorem dX5_kinds_2 : decode cX5_kinds 2 = .ok (.invokevirtual 162, 3) := by decide +kernel
theorem dX5_kinds_5 : decode cX5_kinds 5 = .ok (.ifCond .eq 5, 3) := by decide +kernel
theorem dX5_kinds_8 : decode cX5_kinds 8 = .ok (.iconst (-1), 1) := by decide +kernel
theorem dX5_kinds_9 : decode cX5_kinds 9 = .ok (.ireturn, 1) := by decide +kernel
theorem dX5_kinds_10 : decode cX5_kinds 10 = .ok (.aload_n 0, 1) := by decide +kernel
theorem dX5_kinds_11 : decode cX5_kinds 11 = .ok (.getfield 7, 3) := by decide +kernel
theorem dX5_kinds_14 : decode cX5_kinds 14 = .ok (.iload_n 1, 1) := by decide +kernel
theorem dX5_kinds_15 : decode cX5_kinds 15 = .ok (.iaload, 1) := by decide +kernel
theorem dX5_kinds_16 : decode cX5_kinds 16 = .ok (.istore_n 2, 1) := by decide +kernel
theorem dX5_kinds_17 : decode cX5_kinds 17 = .ok (.iconst 0, 1) := by decide +kernel
theorem dX5_kinds_18 : decode cX5_kinds 18 = .ok (.istore_n 3, 1) := by decide +kernel
theorem dX5_kinds_19 : decode cX5_kinds 19 = .ok (.iconst 0, 1) := by decide +kernel
theorem dX5_kinds_20 : decode cX5_kinds 20 = .ok (.istore 4, 2) := by decide +kernel
theorem dX5_kinds_22 : decode cX5_kinds 22 = .ok (.iload 4, 2) := by decide +kernel
theorem dX5_kinds_24 : decode cX5_kinds 24 = .ok (.iconst 3, 1) := by decide +kernel
theorem dX5_kinds_25 : decode cX5_kinds 25 = .ok (.if_icmp .ge 35, 3) := by decide +kernel
theorem dX5_kinds_28 : decode cX5_kinds 28 = .ok (.aload_n 0, 1) := by decide +kernel
theorem dX5_kinds_29 : decode cX5_kinds 29 = .ok (.getfield 7, 3) := by decide +kernel
theorem dX5_kinds_32 : decode cX5_kinds 32 = .ok (.iload_n 1, 1) := by decide +kernel
theorem dX5_kinds_33 : decode cX5_kinds 33 = .ok (.iload 4, 2) := by decide +kernel
theorem dX5_kinds_35 : decode cX5_kinds 35 = .ok (.iastore, 1) := by decide +kernel
theorem dX5_kinds_36 : decode cX5_kinds 36 = .ok (.iload_n 3, 1) := by decide +kernel
theorem dX5_kinds_37 : decode cX5_kinds 37 = .ok (.aload_n 0, 1) := by decide +kernel
theorem dX5_kinds_38 : decode cX5_kinds 38 = .ok (.invokevirtual 232, 3) := by decide +kernel
theorem dX5_kinds_41 : decode cX5_kinds 41 = .ok (.ifCond .eq 10, 3) := by decide +kernel
theorem dX5_kinds_44 : decode cX5_kinds 44 = .ok (.iconst 1, 1) := by decide +kernel
theorem dX5_kinds_45 : decode cX5_kinds 45 = .ok (.iload 4, 2) := by decide +kernel
theorem dX5_kinds_47 : decode cX5_kinds 47 = .ok (.ishl, 1) := by decide +kernel
theorem dX5_kinds_48 : decode cX5_kinds 48 = .ok (.goto 4, 3) := by decide +kernel
theorem dX5_kinds_51 : decode cX5_kinds 51 = .ok (.iconst 0, 1) := by decide +kernel
theorem dX5_kinds_52 : decode cX5_kinds 52 = .ok (.ior, 1) := by decide +kernel
theorem dX5_kinds_53 : decode cX5_kinds 53 = .ok (.istore_n 3, 1) := by decide +kernel
theorem dX5_kinds_54 : decode cX5_kinds 54 = .ok (.iinc 4 1, 3) := by decide +kernel
theorem dX5_kinds_57 : decode cX5_kinds 57 = .ok (.goto (-35), 3) := by decide +kernel
theorem dX5_kinds_60 : decode cX5_kinds 60 = .ok (.aload_n 0, 1) := by decide +kernel
theorem dX5_kinds_61 : decode cX5_kinds 61 = .ok (.getfield 7, 3) := by decide +kernel
theorem dX5_kinds_64 : decode cX5_kinds 64 = .ok (.iload_n 1, 1) := by decide +kernel
theorem dX5_kinds_65 : decode cX5_kinds 65 = .ok (.iload_n 2, 1) := by decide +kernel
theorem dX5_kinds_66 : decode cX5_kinds 66 = .ok (.iastore, 1) := by decide +kernel
theorem dX5_kinds_67 : decode cX5_kinds 67 = .ok (.iload_n 3, 1) := by decide +kernel
theorem dX5_kinds_68 : decode cX5_kinds 68 = .ok (.ireturn, 1) := by decide +kernel
theorem dX5_odds_0 : decode cX5_odds 0 = .ok (.aload_n 0, 1) := by decide +kernel
theorem dX5_odds_1 : decode cX5_odds 1 = .ok (.iload_n 1, 1) := by decide +kernel
theorem dX5_odds_2 : decode cX5_odds 2 = .ok (.invokevirtual 162, 3) := by decide +kernel
theorem dX5_odds_5 : decode cX5_odds 5 = .ok (.ifCond .ne 13, 3) := by decide +kernel
theorem dX5_odds_8 : decode cX5_odds 8 = .ok (.iload_n 2, 1) := by decide +kernel
theorem dX5_odds_9 : decode cX5_odds 9 = .ok (.i2l, 1) := by decide +kernel
theorem dX5_odds_10 : decode cX5_odds 10 = .ok (.lconst 0, 1) := by decide +kernel
theorem dX5_odds_11 : decode cX5_odds 11 = .ok (.lconst 1, 1) := by decide +kernel
theorem dX5_odds_12 : decode cX5_odds 12 = .ok (.invokestatic 83, 3) := by decide +kernel
theorem dX5_odds_15 : decode cX5_odds 15 = .ok (.ifCond .ne 7, 3) := by decide +kernel
theorem dX5_odds_18 : decode cX5_odds 18 = .ok (.invokestatic 76, 3) := by decide +kernel
theorem dX5_odds_21 : decode cX5_odds 21 = .ok (.lreturn, 1) := by decide +kernel
theorem dX5_odds_22 : decode cX5_odds 22 = .ok (.aload_n 0, 1) := by decide +kernel
theorem dX5_odds_23 : decode cX5_odds 23 = .ok (.getfield 13, 3) := by decide +kernel
theorem dX5_odds_26 : decode cX5_odds 26 = .ok (.iload_n 1, 1) := by decide +kernel
theorem dX5_odds_27 : decode cX5_odds 27 = .ok (.iaload, 1) := by decide +kernel
theorem dX5_odds_28 : decode cX5_odds 28 = .ok (.istore_n 3, 1) := by decide +kernel
theorem dX5_odds_29 : decode cX5_odds 29 = .ok (.lconst 0, 1) := by decide +kernel
theorem dX5_odds_30 : decode cX5_odds 30 = .ok (.lstore 4, 2) := by decide +kernel
theorem dX5_odds_32 : decode cX5_odds 32 = .ok (.iconst 0, 1) := by decide +kernel
theorem dX5_odds_33 : decode cX5_odds 33 = .ok (.istore 6, 2) := by decide +kernel
theorem dX5_odds_35 : decode cX5_odds 35 = .ok (.iload 6, 2) := by decide +kernel
theorem dX5_odds_37 : decode cX5_odds 37 = .ok (.bipush 8, 2) := by decide +kernel
theorem dX5_odds_39 : decode cX5_odds 39 = .ok (.if_icmp .ge 36, 3) := by decide +kernel
theorem dX5_odds_42 : decode cX5_odds 42 = .ok (.aload_n 0, 1) := by decide +kernel
theorem dX5_odds_43 : decode cX5_odds 43 = .ok (.getfield 13, 3) := by decide +kernel
theorem dX5_odds_46 : decode cX5_odds 46 = .ok (.iload_n 1, 1) := by decide +kernel
theorem dX5_odds_47 : decode cX5_odds 47 = .ok (.iload 6, 2) := by decide +kernel
theorem dX5_odds_49 : decode cX5_odds 49 = .ok (.iastore, 1) := by decide +kernel
theorem dX5_odds_50 : decode cX5_odds 50 = .ok (.lload 4, 2) := by decide +kernel
theorem dX5_odds_52 : decode cX5_odds 52 = .ok (.aload_n 0, 1) := by decide +kernel
theorem dX5_odds_53 : decode cX5_odds 53 = .ok (.iload_n 1, 1) := by decide +kernel
theorem dX5_odds_54 : decode cX5_odds 54 = .ok (.invokevirtual 165, 3) := by decide +kernel
theorem dX5_odds_57 : decode cX5_odds 57 = .ok (.iload_n 1, 1) := by decide +kernel
theorem dX5_odds_58 : decode cX5_odds 58 = .ok (.if_icmp .ne 7, 3) := by decide +kernel
theorem dX5_odds_61 : decode cX5_odds 61 = .ok (.lconst 1, 1) := by decide +kernel
theorem dX5_odds_62 : decode cX5_odds 62 = .ok (.goto 4, 3) := by decide +kernel
theorem dX5_odds_65 : decode cX5_odds 65 = .ok (.lconst 0, 1) := by decide +kernel
theorem dX5_odds_66 : decode cX5_odds 66 = .ok (.ladd, 1) := by decide +kernel
theorem dX5_odds_67 : decode cX5_odds 67 = .ok (.lstore 4, 2) := by decide +kernel
theorem dX5_odds_69 : decode cX5_odds 69 = .ok (.iinc 6 1, 3) := by decide +kernel
theorem dX5_odds_72 : decode cX5_odds 72 = .ok (.goto (-37), 3) := by decide +kernel
theorem dX5_odds_75 : decode cX5_odds 75 = .ok (.aload_n 0, 1) := by decide +kernel
theorem dX5_odds_76 : decode cX5_odds 76 = .ok (.getfield 13, 3) := by decide +kernel
theorem dX5_odds_79 : decode cX5_odds 79 = .ok (.iload_n 1, 1) := by decide +kernel
theorem dX5_odds_80 : decode cX5_odds 80 = .ok (.iload_n 3, 1) := by decide +kernel
theorem dX5_odds_81 : decode cX5_odds 81 = .ok (.iastore, 1) := by decide +kernel
theorem dX5_odds_82 : decode cX5_odds 82 = .ok (.lload 4, 2) := by decide +kernel
theorem dX5_odds_84 : decode cX5_odds 84 = .ok (.ldc2_w 177, 3) := by decide +kernel
theorem dX5_odds_87 : decode cX5_odds 87 = .ok (.iload_n 2, 1) := by decide +kernel
theorem dX5_odds_88 : decode cX5_odds 88 = .ok (.invokestatic 235, 3) := by decide +kernel
theorem dX5_odds_91 : decode cX5_odds 91 = .ok (.lreturn, 1) := by decide +kernel
theorem dX5_noSheet_0 : decode cX5_noSheet 0 = .ok (.iload_n 0, 1) := by decide +kernel
theorem dX5_noSheet_1 : decode cX5_noSheet 1 = .ok (.i2l, 1) := by decide +kernel
theorem dX5_noSheet_2 : decode cX5_noSheet 2 = .ok (.lconst 0, 1) := by decide +kernel
theorem dX5_noSheet_3 : decode cX5_noSheet 3 = .ok (.ldc2_w 170, 3) := by decide +kernel
theorem dX5_noSheet_6 : decode cX5_noSheet 6 = .ok (.invokestatic 83, 3) := by decide +kernel
theorem dX5_noSheet_9 : decode cX5_noSheet 9 = .ok (.ifCond .ne 7, 3) := by decide +kernel
theorem dX5_noSheet_12 : decode cX5_noSheet 12 = .ok (.iconst 1, 1) := by decide +kernel
theorem dX5_noSheet_13 : decode cX5_noSheet 13 = .ok (.goto 4, 3) := by decide +kernel
theorem dX5_noSheet_16 : decode cX5_noSheet 16 = .ok (.iconst 0, 1) := by decide +kernel
theorem dX5_noSheet_17 : decode cX5_noSheet 17 = .ok (.ireturn, 1) := by decide +kernel
theorem dX5_sheet_0 : decode cX5_sheet 0 = .ok (.iload_n 1, 1) := by decide +kernel
theorem dX5_sheet_1 : decode cX5_sheet 1 = .ok (.invokestatic 119, 3) := by decide +kernel
theorem dX5_sheet_4 : decode cX5_sheet 4 = .ok (.ifCond .eq 9, 3) := by decide +kernel
theorem dX5_sheet_7 : decode cX5_sheet 7 = .ok (.aload_n 0, 1) := by decide +kernel
theorem dX5_sheet_8 : decode cX5_sheet 8 = .ok (.iconst (-1), 1) := by decide +kernel
theorem dX5_sheet_9 : decode cX5_sheet 9 = .ok (.invokevirtual 123, 3) := by decide +kernel
theorem dX5_sheet_12 : decode cX5_sheet 12 = .ok (.ireturn, 1) := by decide +kernel
theorem dX5_sheet_13 : decode cX5_sheet 13 = .ok (.iload_n 2, 1) := by decide +kernel
theorem dX5_sheet_14 : decode cX5_sheet 14 = .ok (.i2l, 1) := by decide +kernel
theorem dX5_sheet_15 : decode cX5_sheet 15 = .ok (.lconst 0, 1) := by decide +kernel
theorem dX5_sheet_16 : decode cX5_sheet 16 = .ok (.ldc2_w 126, 3) := by decide +kernel
theorem dX5_sheet_19 : decode cX5_sheet 19 = .ok (.invokestatic 83, 3) := by decide +kernel
theorem dX5_sheet_22 : decode cX5_sheet 22 = .ok (.ifCond .eq 9, 3) := by decide +kernel
theorem dX5_sheet_25 : decode cX5_sheet 25 = .ok (.iload_n 3, 1) := by decide +kernel
theorem dX5_sheet_26 : decode cX5_sheet 26 = .ok (.bipush 60, 2) := by decide +kernel
theorem dX5_sheet_28 : decode cX5_sheet 28 = .ok (.if_icmp .le 10, 3) := by decide +kernel
theorem dX5_sheet_31 : decode cX5_sheet 31 = .ok (.aload_n 0, 1) := by decide +kernel
theorem dX5_sheet_32 : decode cX5_sheet 32 = .ok (.bipush (-2), 2) := by decide +kernel
theorem dX5_sheet_34 : decode cX5_sheet 34 = .ok (.invokevirtual 123, 3) := by decide +kernel
theorem dX5_sheet_37 : decode cX5_sheet 37 = .ok (.ireturn, 1) := by decide +kernel
theorem dX5_sheet_38 : decode cX5_sheet 38 = .ok (.iload_n 3, 1) := by decide +kernel
theorem dX5_sheet_39 : decode cX5_sheet 39 = .ok (.ifCond .ge 9, 3) := by decide +kernel
theorem dX5_sheet_42 : decode cX5_sheet 42 = .ok (.aload_n 0, 1) := by decide +kernel
theorem dX5_sheet_43 : decode cX5_sheet 43 = .ok (.iconst 4, 1) := by decide +kernel
theorem dX5_sheet_44 : decode cX5_sheet 44 = .ok (.invokevirtual 111, 3) := by decide +kernel
theorem dX5_sheet_47 : decode cX5_sheet 47 = .ok (.ireturn, 1) := by decide +kernel
theorem dX5_sheet_48 : decode cX5_sheet 48 = .ok (.aload_n 0, 1) := by decide +kernel
theorem dX5_sheet_49 : decode cX5_sheet 49 = .ok (.getfield 58, 3) := by decide +kernel
theorem dX5_sheet_52 : decode cX5_sheet 52 = .ok (.iload_n 1, 1) := by decide +kernel
theorem dX5_sheet_53 : decode cX5_sheet 53 = .ok (.iload_n 3, 1) := by decide +kernel
theorem dX5_sheet_54 : decode cX5_sheet 54 = .ok (.iastore, 1) := by decide +kernel
theorem dX5_sheet_55 : decode cX5_sheet 55 = .ok (.aload_n 0, 1) := by decide +kernel
theorem dX5_sheet_56 : decode cX5_sheet 56 = .ok (.getfield 61, 3) := by decide +kernel
theorem dX5_sheet_59 : decode cX5_sheet 59 = .ok (.iload_n 1, 1) := by decide +kernel
theorem dX5_sheet_60 : decode cX5_sheet 60 = .ok (.iload_n 2, 1) := by decide +kernel
theorem dX5_sheet_61 : decode cX5_sheet 61 = .ok (.iastore, 1) := by decide +kernel
theorem dX5_sheet_62 : decode cX5_sheet 62 = .ok (.iconst 0, 1) := by decide +kernel
theorem dX5_sheet_63 : decode cX5_sheet 63 = .ok (.istore 4, 2) := by decide +kernel
theorem dX5_sheet_65 : decode cX5_sheet 65 = .ok (.iload 4, 2) := by decide +kernel
theorem dX5_sheet_67 : decode cX5_sheet 67 = .ok (.iload_n 3, 1) := by decide +kernel
theorem dX5_sheet_68 : decode cX5_sheet 68 = .ok (.if_icmp .ge 22, 3) := by decide +kernel
theorem dX5_sheet_71 : decode cX5_sheet 71 = .ok (.aload_n 0, 1) := by decide +kernel
theorem dX5_sheet_72 : decode cX5_sheet 72 = .ok (.getfield 64, 3) := by decide +kernel
theorem dX5_sheet_75 : decode cX5_sheet 75 = .ok (.bipush 60, 2) := by decide +kernel
theorem dX5_sheet_77 : decode cX5_sheet 77 = .ok (.iload_n 1, 1) := by decide +kernel
theorem dX5_sheet_78 : decode cX5_sheet 78 = .ok (.imul, 1) := by decide +kernel
theorem dX5_sheet_79 : decode cX5_sheet 79 = .ok (.iload 4, 2) := by decide +kernel
theorem dX5_sheet_81 : decode cX5_sheet 81 = .ok (.iadd, 1) := by decide +kernel
theorem dX5_sheet_82 : decode cX5_sheet 82 = .ok (.iconst 0, 1) := by decide +kernel
theorem dX5_sheet_83 : decode cX5_sheet 83 = .ok (.iastore, 1) := by decide +kernel
theorem dX5_sheet_84 : decode cX5_sheet 84 = .ok (.iinc 4 1, 3) := by decide +kernel
theorem dX5_sheet_87 : decode cX5_sheet 87 = .ok (.goto (-22), 3) := by decide +kernel
theorem dX5_sheet_90 : decode cX5_sheet 90 = .ok (.aload_n 0, 1) := by decide +kernel
theorem dX5_sheet_91 : decode cX5_sheet 91 = .ok (.iconst 1, 1) := by decide +kernel
theorem dX5_sheet_92 : decode cX5_sheet 92 = .ok (.invokevirtual 123, 3) := by decide +kernel
theorem dX5_sheet_95 : decode cX5_sheet 95 = .ok (.ireturn, 1) := by decide +kernel
theorem dX5_lose_0 : decode cX5_lose 0 = .ok (.iload_n 1, 1) := by decide +kernel
theorem dX5_lose_1 : decode cX5_lose 1 = .ok (.invokestatic 119, 3) := by decide +kernel
theorem dX5_lose_4 : decode cX5_lose 4 = .ok (.ifCond .eq 5, 3) := by decide +kernel
theorem dX5_lose_7 : decode cX5_lose 7 = .ok (.iconst (-1), 1) := by decide +kernel
theorem dX5_lose_8 : decode cX5_lose 8 = .ok (.ireturn, 1) := by decide +kernel
theorem dX5_lose_9 : decode cX5_lose 9 = .ok (.aload_n 0, 1) := by decide +kernel
theorem dX5_lose_10 : decode cX5_lose 10 = .ok (.getfield 58, 3) := by decide +kernel
theorem dX5_lose_13 : decode cX5_lose 13 = .ok (.iload_n 1, 1) := by decide +kernel
theorem dX5_lose_14 : decode cX5_lose 14 = .ok (.iaload, 1) := by decide +kernel
theorem dX5_lose_15 : decode cX5_lose 15 = .ok (.ifCond .ge 7, 3) := by decide +kernel
theorem dX5_lose_18 : decode cX5_lose 18 = .ok (.iconst 0, 1) := by decide +kernel
theorem dX5_lose_19 : decode cX5_lose 19 = .ok (.goto 4, 3) := by decide +kernel
theorem dX5_lose_22 : decode cX5_lose 22 = .ok (.iconst 1, 1) := by decide +kernel
theorem dX5_lose_23 : decode cX5_lose 23 = .ok (.istore_n 2, 1) := by decide +kernel
theorem dX5_lose_24 : decode cX5_lose 24 = .ok (.aload_n 0, 1) := by decide +kernel
theorem dX5_lose_25 : decode cX5_lose 25 = .ok (.getfield 58, 3) := by decide +kernel
theorem dX5_lose_28 : decode cX5_lose 28 = .ok (.iload_n 1, 1) := by decide +kernel
theorem dX5_lose_29 : decode cX5_lose 29 = .ok (.iconst (-1), 1) := by decide +kernel
theorem dX5_lose_30 : decode cX5_lose 30 = .ok (.iastore, 1) := by decide +kernel
theorem dX5_lose_31 : decode cX5_lose 31 = .ok (.iload_n 2, 1) := by decide +kernel
theorem dX5_lose_32 : decode cX5_lose 32 = .ok (.ireturn, 1) := by decide +kernel
theorem dX5_noCell_0 : decode cX5_noCell 0 = .ok (.aload_n 0, 1) := by decide +kernel
theorem dX5_noCell_1 : decode cX5_noCell 1 = .ok (.getfield 58, 3) := by decide +kernel
theorem dX5_noCell_4 : decode cX5_noCell 4 = .ok (.iload_n 1, 1) := by decide +kernel
theorem dX5_noCell_5 : decode cX5_noCell 5 = .ok (.iaload, 1) := by decide +kernel
theorem dX5_noCell_6 : decode cX5_noCell 6 = .ok (.ifCond .ge 7, 3) := by decide +kernel
theorem dX5_noCell_9 : decode cX5_noCell 9 = .ok (.iconst 1, 1) := by decide +kernel
theorem dX5_noCell_10 : decode cX5_noCell 10 = .ok (.goto 26, 3) := by decide +kernel
theorem dX5_noCell_13 : decode cX5_noCell 13 = .ok (.iload_n 2, 1) := by decide +kernel
theorem dX5_noCell_14 : decode cX5_noCell 14 = .ok (.i2l, 1) := by decide +kernel
theorem dX5_noCell_15 : decode cX5_noCell 15 = .ok (.lconst 0, 1) := by decide +kernel
theorem dX5_noCell_16 : decode cX5_noCell 16 = .ok (.aload_n 0, 1) := by decide +kernel
theorem dX5_noCell_17 : decode cX5_noCell 17 = .ok (.getfield 58, 3) := by decide +kernel
theorem dX5_noCell_20 : decode cX5_noCell 20 = .ok (.iload_n 1, 1) := by decide +kernel
theorem dX5_noCell_21 : decode cX5_noCell 21 = .ok (.iaload, 1) := by decide +kernel
theorem dX5_noCell_22 : decode cX5_noCell 22 = .ok (.i2l, 1) := by decide +kernel
theorem dX5_noCell_23 : decode cX5_noCell 23 = .ok (.lconst 1, 1) := by decide +kernel
theorem dX5_noCell_24 : decode cX5_noCell 24 = .ok (.lsub, 1) := by decide +kernel
theorem dX5_noCell_25 : decode cX5_noCell 25 = .ok (.invokestatic 83, 3) := by decide +kernel
theorem dX5_noCell_28 : decode cX5_noCell 28 = .ok (.ifCond .eq 7, 3) := by decide +kernel
theorem dX5_noCell_31 : decode cX5_noCell 31 = .ok (.iconst 0, 1) := by decide +kernel
theorem dX5_noCell_32 : decode cX5_noCell 32 = .ok (.goto 4, 3) := by decide +kernel
theorem dX5_noCell_35 : decode cX5_noCell 35 = .ok (.iconst 3, 1) := by decide +kernel
theorem dX5_noCell_36 : decode cX5_noCell 36 = .ok (.ireturn, 1) := by decide +kernel
theorem dX5_put_0 : decode cX5_put 0 = .ok (.iload_n 1, 1) := by decide +kernel
theorem dX5_put_1 : decode cX5_put 1 = .ok (.invokestatic 119, 3) := by decide +kernel
theorem dX5_put_4 : decode cX5_put 4 = .ok (.ifCond .eq 9, 3) := by decide +kernel
theorem dX5_put_7 : decode cX5_put 7 = .ok (.aload_n 0, 1) := by decide +kernel
theorem dX5_put_8 : decode cX5_put 8 = .ok (.iconst (-1), 1) := by decide +kernel
theorem dX5_put_9 : decode cX5_put 9 = .ok (.invokevirtual 123, 3) := by decide +kernel
theorem dX5_put_12 : decode cX5_put 12 = .ok (.ireturn, 1) := by decide +kernel
theorem dX5_put_13 : decode cX5_put 13 = .ok (.aload_n 0, 1) := by decide +kernel
theorem dX5_put_14 : decode cX5_put 14 = .ok (.iload_n 1, 1) := by decide +kernel
theorem dX5_put_15 : decode cX5_put 15 = .ok (.iload_n 2, 1) := by decide +kernel
theorem dX5_put_16 : decode cX5_put 16 = .ok (.invokevirtual 239, 3) := by decide +kernel
theorem dX5_put_19 : decode cX5_put 19 = .ok (.ifCond .le 14, 3) := by decide +kernel
theorem dX5_put_22 : decode cX5_put 22 = .ok (.aload_n 0, 1) := by decide +kernel
theorem dX5_put_23 : decode cX5_put 23 = .ok (.aload_n 0, 1) := by decide +kernel
theorem dX5_put_24 : decode cX5_put 24 = .ok (.iload_n 1, 1) := by decide +kernel
theorem dX5_put_25 : decode cX5_put 25 = .ok (.iload_n 2, 1) := by decide +kernel
theorem dX5_put_26 : decode cX5_put 26 = .ok (.invokevirtual 239, 3) := by decide +kernel
theorem dX5_put_29 : decode cX5_put 29 = .ok (.invokevirtual 111, 3) := by decide +kernel
theorem dX5_put_32 : decode cX5_put 32 = .ok (.ireturn, 1) := by decide +kernel
theorem dX5_put_33 : decode cX5_put 33 = .ok (.aload_n 0, 1) := by decide +kernel
theorem dX5_put_34 : decode cX5_put 34 = .ok (.getfield 64, 3) := by decide +kernel
theorem dX5_put_37 : decode cX5_put 37 = .ok (.bipush 60, 2) := by decide +kernel
theorem dX5_put_39 : decode cX5_put 39 = .ok (.iload_n 1, 1) := by decide +kernel
theorem dX5_put_40 : decode cX5_put 40 = .ok (.imul, 1) := by decide +kernel
theorem dX5_put_41 : decode cX5_put 41 = .ok (.iload_n 2, 1) := by decide +kernel
theorem dX5_put_42 : decode cX5_put 42 = .ok (.iadd, 1) := by decide +kernel
theorem dX5_put_43 : decode cX5_put 43 = .ok (.aload_n 0, 1) := by decide +kernel
theorem dX5_put_44 : decode cX5_put 44 = .ok (.getfield 61, 3) := by decide +kernel
theorem dX5_put_47 : decode cX5_put 47 = .ok (.iload_n 1, 1) := by decide +kernel
theorem dX5_put_48 : decode cX5_put 48 = .ok (.iaload, 1) := by decide +kernel
theorem dX5_put_49 : decode cX5_put 49 = .ok (.ifCond .ne 8, 3) := by decide +kernel
theorem dX5_put_52 : decode cX5_put 52 = .ok (.iload_n 3, 1) := by decide +kernel
theorem dX5_put_53 : decode cX5_put 53 = .ok (.i2b, 1) := by decide +kernel
theorem dX5_put_54 : decode cX5_put 54 = .ok (.goto 19, 3) := by decide +kernel
theorem dX5_put_57 : decode cX5_put 57 = .ok (.aload_n 0, 1) := by decide +kernel
theorem dX5_put_58 : decode cX5_put 58 = .ok (.getfield 61, 3) := by decide +kernel
theorem dX5_put_61 : decode cX5_put 61 = .ok (.iload_n 1, 1) := by decide +kernel
theorem dX5_put_62 : decode cX5_put 62 = .ok (.iaload, 1) := by decide +kernel
theorem dX5_put_63 : decode cX5_put 63 = .ok (.iconst 1, 1) := by decide +kernel
theorem dX5_put_64 : decode cX5_put 64 = .ok (.if_icmp .ne 8, 3) := by decide +kernel
theorem dX5_put_67 : decode cX5_put 67 = .ok (.iload_n 3, 1) := by decide +kernel
theorem dX5_put_68 : decode cX5_put 68 = .ok (.i2s, 1) := by decide +kernel
theorem dX5_put_69 : decode cX5_put 69 = .ok (.goto 4, 3) := by decide +kernel
theorem dX5_put_72 : decode cX5_put 72 = .ok (.iload_n 3, 1) := by decide +kernel
theorem dX5_put_73 : decode cX5_put 73 = .ok (.iastore, 1) := by decide +kernel
theorem dX5_put_74 : decode cX5_put 74 = .ok (.aload_n 0, 1) := by decide +kernel
theorem dX5_put_75 : decode cX5_put 75 = .ok (.iconst 1, 1) := by decide +kernel
theorem dX5_put_76 : decode cX5_put 76 = .ok (.invokevirtual 123, 3) := by decide +kernel
theorem dX5_put_79 : decode cX5_put 79 = .ok (.ireturn, 1) := by decide +kernel
theorem dX5_cell_0 : decode cX5_cell 0 = .ok (.aload_n 0, 1) := by decide +kernel
theorem dX5_cell_1 : decode cX5_cell 1 = .ok (.iconst 0, 1) := by decide +kernel
theorem dX5_cell_2 : decode cX5_cell 2 = .ok (.putfield 72, 3) := by decide +kernel
theorem dX5_cell_5 : decode cX5_cell 5 = .ok (.iload_n 1, 1) := by decide +kernel
theorem dX5_cell_6 : decode cX5_cell 6 = .ok (.invokestatic 119, 3) := by decide +kernel
theorem dX5_cell_9 : decode cX5_cell 9 = .ok (.ifCond .ne 15, 3) := by decide +kernel
theorem dX5_cell_12 : decode cX5_cell 12 = .ok (.iload_n 3, 1) := by decide +kernel
theorem dX5_cell_13 : decode cX5_cell 13 = .ok (.i2l, 1) := by decide +kernel
theorem dX5_cell_14 : decode cX5_cell 14 = .ok (.lconst 0, 1) := by decide +kernel
theorem dX5_cell_15 : decode cX5_cell 15 = .ok (.ldc2_w 126, 3) := by decide +kernel
theorem dX5_cell_18 : decode cX5_cell 18 = .ok (.invokestatic 83, 3) := by decide +kernel
theorem dX5_cell_21 : decode cX5_cell 21 = .ok (.ifCond .ne 7, 3) := by decide +kernel
theorem dX5_cell_24 : decode cX5_cell 24 = .ok (.invokestatic 76, 3) := by decide +kernel
theorem dX5_cell_27 : decode cX5_cell 27 = .ok (.lreturn, 1) := by decide +kernel
theorem dX5_cell_28 : decode cX5_cell 28 = .ok (.aload_n 0, 1) := by decide +kernel
theorem dX5_cell_29 : decode cX5_cell 29 = .ok (.getfield 58, 3) := by decide +kernel
theorem dX5_cell_32 : decode cX5_cell 32 = .ok (.iload_n 1, 1) := by decide +kernel
theorem dX5_cell_33 : decode cX5_cell 33 = .ok (.iaload, 1) := by decide +kernel
theorem dX5_cell_34 : decode cX5_cell 34 = .ok (.ifCond .lt 19, 3) := by decide +kernel
theorem dX5_cell_37 : decode cX5_cell 37 = .ok (.aload_n 0, 1) := by decide +kernel
theorem dX5_cell_38 : decode cX5_cell 38 = .ok (.getfield 61, 3) := by decide +kernel
theorem dX5_cell_41 : decode cX5_cell 41 = .ok (.iload_n 1, 1) := by decide +kernel
theorem dX5_cell_42 : decode cX5_cell 42 = .ok (.iaload, 1) := by decide +kernel
theorem dX5_cell_43 : decode cX5_cell 43 = .ok (.iload_n 3, 1) := by decide +kernel
theorem dX5_cell_44 : decode cX5_cell 44 = .ok (.if_icmp .eq 9, 3) := by decide +kernel
theorem dX5_cell_47 : decode cX5_cell 47 = .ok (.aload_n 0, 1) := by decide +kernel
theorem dX5_cell_48 : decode cX5_cell 48 = .ok (.iconst 2, 1) := by decide +kernel
theorem dX5_cell_49 : decode cX5_cell 49 = .ok (.invokevirtual 242, 3) := by decide +kernel
theorem dX5_cell_52 : decode cX5_cell 52 = .ok (.lreturn, 1) := by decide +kernel
theorem dX5_cell_53 : decode cX5_cell 53 = .ok (.aload_n 0, 1) := by decide +kernel
theorem dX5_cell_54 : decode cX5_cell 54 = .ok (.iload_n 1, 1) := by decide +kernel
theorem dX5_cell_55 : decode cX5_cell 55 = .ok (.iload_n 2, 1) := by decide +kernel
theorem dX5_cell_56 : decode cX5_cell 56 = .ok (.invokevirtual 239, 3) := by decide +kernel
theorem dX5_cell_59 : decode cX5_cell 59 = .ok (.ifCond .le 16, 3) := by decide +kernel
theorem dX5_cell_62 : decode cX5_cell 62 = .ok (.aload_n 0, 1) := by decide +kernel
theorem dX5_cell_63 : decode cX5_cell 63 = .ok (.aload_n 0, 1) := by decide +kernel
theorem dX5_cell_64 : decode cX5_cell 64 = .ok (.iload_n 1, 1) := by decide +kernel
theorem dX5_cell_65 : decode cX5_cell 65 = .ok (.iload_n 2, 1) := by decide +kernel
theorem dX5_cell_66 : decode cX5_cell 66 = .ok (.invokevirtual 239, 3) := by decide +kernel
theorem dX5_cell_69 : decode cX5_cell 69 = .ok (.invokevirtual 242, 3) := by decide +kernel
theorem dX5_cell_72 : decode cX5_cell 72 = .ok (.goto 15, 3) := by decide +kernel
theorem dX5_cell_75 : decode cX5_cell 75 = .ok (.aload_n 0, 1) := by decide +kernel
theorem dX5_cell_76 : decode cX5_cell 76 = .ok (.getfield 64, 3) := by decide +kernel
theorem dX5_cell_79 : decode cX5_cell 79 = .ok (.bipush 60, 2) := by decide +kernel
theorem dX5_cell_81 : decode cX5_cell 81 = .ok (.iload_n 1, 1) := by decide +kernel
theorem dX5_cell_82 : decode cX5_cell 82 = .ok (.imul, 1) := by decide +kernel
theorem dX5_cell_83 : decode cX5_cell 83 = .ok (.iload_n 2, 1) := by decide +kernel
theorem dX5_cell_84 : decode cX5_cell 84 = .ok (.iadd, 1) := by decide +kernel
theorem dX5_cell_85 : decode cX5_cell 85 = .ok (.iaload, 1) := by decide +kernel
theorem dX5_cell_86 : decode cX5_cell 86 = .ok (.i2l, 1) := by decide +kernel
theorem dX5_cell_87 : decode cX5_cell 87 = .ok (.lreturn, 1) := by decide +kernel
theorem dX5_isBeyond_0 : decode cX5_isBeyond 0 = .ok (.iload_n 0, 1) := by decide +kernel
theorem dX5_isBeyond_1 : decode cX5_isBeyond 1 = .ok (.ifCond .lt 19, 3) := by decide +kernel
theorem dX5_isBeyond_4 : decode cX5_isBeyond 4 = .ok (.lload_n 1, 1) := by decide +kernel
theorem dX5_isBeyond_5 : decode cX5_isBeyond 5 = .ok (.lconst 0, 1) := by decide +kernel
theorem dX5_isBeyond_6 : decode cX5_isBeyond 6 = .ok (.lcmp, 1) := by decide +kernel
theorem dX5_isBeyond_7 : decode cX5_isBeyond 7 = .ok (.ifCond .lt 13, 3) := by decide +kernel
theorem dX5_isBeyond_10 : decode cX5_isBeyond 10 = .ok (.iload_n 0, 1) := by decide +kernel
theorem dX5_isBeyond_11 : decode cX5_isBeyond 11 = .ok (.i2l, 1) := by decide +kernel
theorem dX5_isBeyond_12 : decode cX5_isBeyond 12 = .ok (.lload_n 1, 1) := by decide +kernel
theorem dX5_isBeyond_13 : decode cX5_isBeyond 13 = .ok (.ladd, 1) := by decide +kernel
theorem dX5_isBeyond_14 : decode cX5_isBeyond 14 = .ok (.iload_n 3, 1) := by decide +kernel
theorem dX5_isBeyond_15 : decode cX5_isBeyond 15 = .ok (.i2l, 1) := by decide +kernel
theorem dX5_isBeyond_16 : decode cX5_isBeyond 16 = .ok (.lcmp, 1) := by decide +kernel
theorem dX5_isBeyond_17 : decode cX5_isBeyond 17 = .ok (.ifCond .le 7, 3) := by decide +kernel
theorem dX5_isBeyond_20 : decode cX5_isBeyond 20 = .ok (.iconst 1, 1) := by decide +kernel
theorem dX5_isBeyond_21 : decode cX5_isBeyond 21 = .ok (.goto 4, 3) := by decide +kernel
theorem dX5_isBeyond_24 : decode cX5_isBeyond 24 = .ok (.iconst 0, 1) := by decide +kernel
theorem dX5_isBeyond_25 : decode cX5_isBeyond 25 = .ok (.ireturn, 1) := by decide +kernel
theorem dX5_copy_0 : decode cX5_copy 0 = .ok (.iload_n 1, 1) := by decide +kernel
theorem dX5_copy_1 : decode cX5_copy 1 = .ok (.invokestatic 119, 3) := by decide +kernel
theorem dX5_copy_4 : decode cX5_copy 4 = .ok (.ifCond .ne 10, 3) := by decide +kernel
theorem dX5_copy_7 : decode cX5_copy 7 = .ok (.iload_n 3, 1) := by decide +kernel
theorem dX5_copy_8 : decode cX5_copy 8 = .ok (.invokestatic 119, 3) := by decide +kernel
theorem dX5_copy_11 : decode cX5_copy 11 = .ok (.ifCond .eq 9, 3) := by decide +kernel
theorem dX5_copy_14 : decode cX5_copy 14 = .ok (.aload_n 0, 1) := by decide +kernel
theorem dX5_copy_15 : decode cX5_copy 15 = .ok (.iconst (-1), 1) := by decide +kernel
theorem dX5_copy_16 : decode cX5_copy 16 = .ok (.invokevirtual 123, 3) := by decide +kernel
theorem dX5_copy_19 : decode cX5_copy 19 = .ok (.ireturn, 1) := by decide +kernel
theorem dX5_copy_20 : decode cX5_copy 20 = .ok (.aload_n 0, 1) := by decide +kernel
theorem dX5_copy_21 : decode cX5_copy 21 = .ok (.getfield 58, 3) := by decide +kernel
theorem dX5_copy_24 : decode cX5_copy 24 = .ok (.iload_n 1, 1) := by decide +kernel
theorem dX5_copy_25 : decode cX5_copy 25 = .ok (.iaload, 1) := by decide +kernel
theorem dX5_copy_26 : decode cX5_copy 26 = .ok (.ifCond .lt 12, 3) := by decide +kernel
theorem dX5_copy_29 : decode cX5_copy 29 = .ok (.aload_n 0, 1) := by decide +kernel
theorem dX5_copy_30 : decode cX5_copy 30 = .ok (.getfield 58, 3) := by decide +kernel
theorem dX5_copy_33 : decode cX5_copy 33 = .ok (.iload_n 3, 1) := by decide +kernel
theorem dX5_copy_34 : decode cX5_copy 34 = .ok (.iaload, 1) := by decide +kernel
theorem dX5_copy_35 : decode cX5_copy 35 = .ok (.ifCond .ge 9, 3) := by decide +kernel
theorem dX5_copy_38 : decode cX5_copy 38 = .ok (.aload_n 0, 1) := by decide +kernel
theorem dX5_copy_39 : decode cX5_copy 39 = .ok (.iconst 1, 1) := by decide +kernel
theorem dX5_copy_40 : decode cX5_copy 40 = .ok (.invokevirtual 111, 3) := by decide +kernel
theorem dX5_copy_43 : decode cX5_copy 43 = .ok (.ireturn, 1) := by decide +kernel
theorem dX5_copy_44 : decode cX5_copy 44 = .ok (.aload_n 0, 1) := by decide +kernel
theorem dX5_copy_45 : decode cX5_copy 45 = .ok (.getfield 61, 3) := by decide +kernel
theorem dX5_copy_48 : decode cX5_copy 48 = .ok (.iload_n 1, 1) := by decide +kernel
theorem dX5_copy_49 : decode cX5_copy 49 = .ok (.iaload, 1) := by decide +kernel
theorem dX5_copy_50 : decode cX5_copy 50 = .ok (.aload_n 0, 1) := by decide +kernel
theorem dX5_copy_51 : decode cX5_copy 51 = .ok (.getfield 61, 3) := by decide +kernel
theorem dX5_copy_54 : decode cX5_copy 54 = .ok (.iload_n 3, 1) := by decide +kernel
theorem dX5_copy_55 : decode cX5_copy 55 = .ok (.iaload, 1) := by decide +kernel
theorem dX5_copy_56 : decode cX5_copy 56 = .ok (.if_icmp .eq 9, 3) := by decide +kernel
theorem dX5_copy_59 : decode cX5_copy 59 = .ok (.aload_n 0, 1) := by decide +kernel
theorem dX5_copy_60 : decode cX5_copy 60 = .ok (.iconst 2, 1) := by decide +kernel
theorem dX5_copy_61 : decode cX5_copy 61 = .ok (.invokevirtual 111, 3) := by decide +kernel
theorem dX5_copy_64 : decode cX5_copy 64 = .ok (.ireturn, 1) := by decide +kernel
theorem dX5_copy_65 : decode cX5_copy 65 = .ok (.iload_n 2, 1) := by decide +kernel
theorem dX5_copy_66 : decode cX5_copy 66 = .ok (.iload 5, 2) := by decide +kernel
theorem dX5_copy_68 : decode cX5_copy 68 = .ok (.i2l, 1) := by decide +kernel
theorem dX5_copy_69 : decode cX5_copy 69 = .ok (.aload_n 0, 1) := by decide +kernel
theorem dX5_copy_70 : decode cX5_copy 70 = .ok (.getfield 58, 3) := by decide +kernel
theorem dX5_copy_73 : decode cX5_copy 73 = .ok (.iload_n 1, 1) := by decide +kernel
theorem dX5_copy_74 : decode cX5_copy 74 = .ok (.iaload, 1) := by decide +kernel
theorem dX5_copy_75 : decode cX5_copy 75 = .ok (.invokestatic 115, 3) := by decide +kernel
theorem dX5_copy_78 : decode cX5_copy 78 = .ok (.ifCond .ne 20, 3) := by decide +kernel
theorem dX5_copy_81 : decode cX5_copy 81 = .ok (.iload 4, 2) := by decide +kernel
theorem dX5_copy_83 : decode cX5_copy 83 = .ok (.iload 5, 2) := by decide +kernel
theorem dX5_copy_85 : decode cX5_copy 85 = .ok (.i2l, 1) := by decide +kernel
theorem dX5_copy_86 : decode cX5_copy 86 = .ok (.aload_n 0, 1) := by decide +kernel
theorem dX5_copy_87 : decode cX5_copy 87 = .ok (.getfield 58, 3) := by decide +kernel
theorem dX5_copy_90 : decode cX5_copy 90 = .ok (.iload_n 3, 1) := by decide +kernel
theorem dX5_copy_91 : decode cX5_copy 91 = .ok (.iaload, 1) := by decide +kernel
theorem dX5_copy_92 : decode cX5_copy 92 = .ok (.invokestatic 115, 3) := by decide +kernel
theorem dX5_copy_95 : decode cX5_copy 95 = .ok (.ifCond .eq 9, 3) := by decide +kernel
theorem dX5_copy_98 : decode cX5_copy 98 = .ok (.aload_n 0, 1) := by decide +kernel
theorem dX5_copy_99 : decode cX5_copy 99 = .ok (.iconst 3, 1) := by decide +kernel
theorem dX5_copy_100 : decode cX5_copy 100 = .ok (.invokevirtual 111, 3) := by decide +kernel
theorem dX5_copy_103 : decode cX5_copy 103 = .ok (.ireturn, 1) := by decide +kernel
theorem dX5_copy_104 : decode cX5_copy 104 = .ok (.iconst 0, 1) := by decide +kernel
theorem dX5_copy_105 : decode cX5_copy 105 = .ok (.istore 6, 2) := by decide +kernel
theorem dX5_copy_107 : decode cX5_copy 107 = .ok (.iload 6, 2) := by decide +kernel
theorem dX5_copy_109 : decode cX5_copy 109 = .ok (.iload 5, 2) := by decide +kernel
theorem dX5_copy_111 : decode cX5_copy 111 = .ok (.if_icmp .ge 30, 3) := by decide +kernel
theorem dX5_copy_114 : decode cX5_copy 114 = .ok (.aload_n 0, 1) := by decide +kernel
theorem dX5_copy_115 : decode cX5_copy 115 = .ok (.getfield 67, 3) := by decide +kernel
theorem dX5_copy_118 : decode cX5_copy 118 = .ok (.iload 6, 2) := by decide +kernel
theorem dX5_copy_120 : decode cX5_copy 120 = .ok (.aload_n 0, 1) := by decide +kernel
theorem dX5_copy_121 : decode cX5_copy 121 = .ok (.getfield 64, 3) := by decide +kernel
theorem dX5_copy_124 : decode cX5_copy 124 = .ok (.bipush 60, 2) := by decide +kernel
theorem dX5_copy_126 : decode cX5_copy 126 = .ok (.iload_n 1, 1) := by decide +kernel
theorem dX5_copy_127 : decode cX5_copy 127 = .ok (.imul, 1) := by decide +kernel
theorem dX5_copy_128 : decode cX5_copy 128 = .ok (.iload_n 2, 1) := by decide +kernel
theorem dX5_copy_129 : decode cX5_copy 129 = .ok (.iadd, 1) := by decide +kernel
theorem dX5_copy_130 : decode cX5_copy 130 = .ok (.iload 6, 2) := by decide +kernel
theorem dX5_copy_132 : decode cX5_copy 132 = .ok (.iadd, 1) := by decide +kernel
theorem dX5_copy_133 : decode cX5_copy 133 = .ok (.iaload, 1) := by decide +kernel
theorem dX5_copy_134 : decode cX5_copy 134 = .ok (.iastore, 1) := by decide +kernel
theorem dX5_copy_135 : decode cX5_copy 135 = .ok (.iinc 6 1, 3) := by decide +kernel
theorem dX5_copy_138 : decode cX5_copy 138 = .ok (.goto (-31), 3) := by decide +kernel
theorem dX5_copy_141 : decode cX5_copy 141 = .ok (.iconst 0, 1) := by decide +kernel
theorem dX5_copy_142 : decode cX5_copy 142 = .ok (.istore 6, 2) := by decide +kernel
theorem dX5_copy_144 : decode cX5_copy 144 = .ok (.iload 6, 2) := by decide +kernel
theorem dX5_copy_146 : decode cX5_copy 146 = .ok (.iload 5, 2) := by decide +kernel
theorem dX5_copy_148 : decode cX5_copy 148 = .ok (.if_icmp .ge 31, 3) := by decide +kernel
theorem dX5_copy_151 : decode cX5_copy 151 = .ok (.aload_n 0, 1) := by decide +kernel
theorem dX5_copy_152 : decode cX5_copy 152 = .ok (.getfield 64, 3) := by decide +kernel
theorem dX5_copy_155 : decode cX5_copy 155 = .ok (.bipush 60, 2) := by decide +kernel
theorem dX5_copy_157 : decode cX5_copy 157 = .ok (.iload_n 3, 1) := by decide +kernel
theorem dX5_copy_158 : decode cX5_copy 158 = .ok (.imul, 1) := by decide +kernel
theorem dX5_copy_159 : decode cX5_copy 159 = .ok (.iload 4, 2) := by decide +kernel
theorem dX5_copy_161 : decode cX5_copy 161 = .ok (.iadd, 1) := by decide +kernel
theorem dX5_copy_162 : decode cX5_copy 162 = .ok (.iload 6, 2) := by decide +kernel
theorem dX5_copy_164 : decode cX5_copy 164 = .ok (.iadd, 1) := by decide +kernel
theorem dX5_copy_165 : decode cX5_copy 165 = .ok (.aload_n 0, 1) := by decide +kernel
theorem dX5_copy_166 : decode cX5_copy 166 = .ok (.getfield 67, 3) := by decide +kernel
theorem dX5_copy_169 : decode cX5_copy 169 = .ok (.iload 6, 2) := by decide +kernel
theorem dX5_copy_171 : decode cX5_copy 171 = .ok (.iaload, 1) := by decide +kernel
theorem dX5_copy_172 : decode cX5_copy 172 = .ok (.iastore, 1) := by decide +kernel
theorem dX5_copy_173 : decode cX5_copy 173 = .ok (.iinc 6 1, 3) := by decide +kernel
theorem dX5_copy_176 : decode cX5_copy 176 = .ok (.goto (-32), 3) := by decide +kernel
theorem dX5_copy_179 : decode cX5_copy 179 = .ok (.aload_n 0, 1) := by decide +kernel
theorem dX5_copy_180 : decode cX5_copy 180 = .ok (.iload 5, 2) := by decide +kernel
theorem dX5_copy_182 : decode cX5_copy 182 = .ok (.invokevirtual 123, 3) := by decide +kernel
theorem dX5_copy_185 : decode cX5_copy 185 = .ok (.ireturn, 1) := by decide +kernel
theorem dX5_traced_0 : decode cX5_traced 0 = .ok (.aload_n 0, 1) := by decide +kernel
theorem dX5_traced_1 : decode cX5_traced 1 = .ok (.bipush 31, 2) := by decide +kernel
theorem dX5_traced_3 : decode cX5_traced 3 = .ok (.aload_n 0, 1) := by decide +kernel
theorem dX5_traced_4 : decode cX5_traced 4 = .ok (.getfield 246, 3) := by decide +kernel
theorem dX5_traced_7 : decode cX5_traced 7 = .ok (.imul, 1) := by decide +kernel
theorem dX5_traced_8 : decode cX5_traced 8 = .ok (.iload_n 1, 1) := by decide +kernel
theorem dX5_traced_9 : decode cX5_traced 9 = .ok (.iadd, 1) := by decide +kernel
theorem dX5_traced_10 : decode cX5_traced 10 = .ok (.putfield 246, 3) := by decide +kernel
theorem dX5_traced_13 : decode cX5_traced 13 = .ok (.return_, 1) := by decide +kernel
theorem dX5_tell_0 : decode cX5_tell 0 = .ok (.aload_n 0, 1) := by decide +kernel
theorem dX5_tell_1 : decode cX5_tell 1 = .ok (.iload_n 1, 1) := by decide +kernel
theorem dX5_tell_2 : decode cX5_tell 2 = .ok (.invokevirtual 162, 3) := by decide +kernel
theorem dX5_tell_5 : decode cX5_tell 5 = .ok (.ifCond .eq 5, 3) := by decide +kernel
theorem dX5_tell_8 : decode cX5_tell 8 = .ok (.iconst (-1), 1) := by decide +kernel
theorem dX5_tell_9 : decode cX5_tell 9 = .ok (.ireturn, 1) := by decide +kernel
theorem dX5_tell_10 : decode cX5_tell 10 = .ok (.aload_n 0, 1) := by decide +kernel
theorem dX5_tell_11 : decode cX5_tell 11 = .ok (.getfield 7, 3) := by decide +kernel
theorem dX5_tell_14 : decode cX5_tell 14 = .ok (.iload_n 1, 1) := by decide +kernel
theorem dX5_tell_15 : decode cX5_tell 15 = .ok (.iaload, 1) := by decide +kernel
theorem dX5_tell_16 : decode cX5_tell 16 = .ok (.istore_n 2, 1) := by decide +kernel
theorem dX5_tell_17 : decode cX5_tell 17 = .ok (.iload_n 2, 1) := by decide +kernel
theorem dX5_tell_18 : decode cX5_tell 18 = .ok (.iconst 2, 1) := by decide +kernel
theorem dX5_tell_19 : decode cX5_tell 19 = .ok (.if_icmp .ne 8, 3) := by decide +kernel
theorem dX5_tell_22 : decode cX5_tell 22 = .ok (.aload_n 0, 1) := by decide +kernel
theorem dX5_tell_23 : decode cX5_tell 23 = .ok (.iconst 3, 1) := by decide +kernel
theorem dX5_tell_24 : decode cX5_tell 24 = .ok (.invokevirtual 249, 3) := by decide +kernel
theorem dX5_tell_27 : decode cX5_tell 27 = .ok (.iload_n 2, 1) := by decide +kernel
theorem dX5_tell_28 : decode cX5_tell 28 = .ok (.ifCond .le 8, 3) := by decide +kernel
theorem dX5_tell_31 : decode cX5_tell 31 = .ok (.aload_n 0, 1) := by decide +kernel
theorem dX5_tell_32 : decode cX5_tell 32 = .ok (.iconst 2, 1) := by decide +kernel
theorem dX5_tell_33 : decode cX5_tell 33 = .ok (.invokevirtual 249, 3) := by decide +kernel
theorem dX5_tell_36 : decode cX5_tell 36 = .ok (.aload_n 0, 1) := by decide +kernel
theorem dX5_tell_37 : decode cX5_tell 37 = .ok (.iconst 1, 1) := by decide +kernel
theorem dX5_tell_38 : decode cX5_tell 38 = .ok (.invokevirtual 249, 3) := by decide +kernel
theorem dX5_tell_41 : decode cX5_tell 41 = .ok (.iload_n 2, 1) := by decide +kernel
theorem dX5_tell_42 : decode cX5_tell 42 = .ok (.iconst 2, 1) := by decide +kernel
theorem dX5_tell_43 : decode cX5_tell 43 = .ok (.if_icmp .ne 8, 3) := by decide +kernel
theorem dX5_tell_46 : decode cX5_tell 46 = .ok (.aload_n 0, 1) := by decide +kernel
theorem dX5_tell_47 : decode cX5_tell 47 = .ok (.iconst 1, 1) := by decide +kernel
theorem dX5_tell_48 : decode cX5_tell 48 = .ok (.invokevirtual 249, 3) := by decide +kernel
theorem dX5_tell_51 : decode cX5_tell 51 = .ok (.aload_n 0, 1) := by decide +kernel
theorem dX5_tell_52 : decode cX5_tell 52 = .ok (.getfield 13, 3) := by decide +kernel
theorem dX5_tell_55 : decode cX5_tell 55 = .ok (.iload_n 1, 1) := by decide +kernel
theorem dX5_tell_56 : decode cX5_tell 56 = .ok (.iaload, 1) := by decide +kernel
theorem dX5_tell_57 : decode cX5_tell 57 = .ok (.istore_n 3, 1) := by decide +kernel
theorem dX5_tell_58 : decode cX5_tell 58 = .ok (.iload_n 2, 1) := by decide +kernel
theorem dX5_tell_59 : decode cX5_tell 59 = .ok (.ifCond .ne 7, 3) := by decide +kernel
theorem dX5_tell_62 : decode cX5_tell 62 = .ok (.iload_n 3, 1) := by decide +kernel
theorem dX5_tell_63 : decode cX5_tell 63 = .ok (.goto 21, 3) := by decide +kernel
theorem dX5_tell_66 : decode cX5_tell 66 = .ok (.iload_n 2, 1) := by decide +kernel
theorem dX5_tell_67 : decode cX5_tell 67 = .ok (.iconst 1, 1) := by decide +kernel
theorem dX5_tell_68 : decode cX5_tell 68 = .ok (.if_icmp .ne 10, 3) := by decide +kernel
theorem dX5_tell_71 : decode cX5_tell 71 = .ok (.iload_n 3, 1) := by decide +kernel
theorem dX5_tell_72 : decode cX5_tell 72 = .ok (.bipush 100, 2) := by decide +kernel
theorem dX5_tell_74 : decode cX5_tell 74 = .ok (.iadd, 1) := by decide +kernel
theorem dX5_tell_75 : decode cX5_tell 75 = .ok (.goto 9, 3) := by decide +kernel
theorem dX5_tell_78 : decode cX5_tell 78 = .ok (.iconst 2, 1) := by decide +kernel
theorem dX5_tell_79 : decode cX5_tell 79 = .ok (.iload_n 3, 1) := by decide +kernel
theorem dX5_tell_80 : decode cX5_tell 80 = .ok (.imul, 1) := by decide +kernel
theorem dX5_tell_81 : decode cX5_tell 81 = .ok (.bipush 100, 2) := by decide +kernel
theorem dX5_tell_83 : decode cX5_tell 83 = .ok (.iadd, 1) := by decide +kernel
theorem dX5_tell_84 : decode cX5_tell 84 = .ok (.ireturn, 1) := by decide +kernel
theorem dX5_whistle_0 : decode cX5_whistle 0 = .ok (.aload_n 0, 1) := by decide +kernel
theorem dX5_whistle_1 : decode cX5_whistle 1 = .ok (.iload_n 1, 1) := by decide +kernel
theorem dX5_whistle_2 : decode cX5_whistle 2 = .ok (.invokevirtual 162, 3) := by decide +kernel
theorem dX5_whistle_5 : decode cX5_whistle 5 = .ok (.ifCond .eq 5, 3) := by decide +kernel
theorem dX5_whistle_8 : decode cX5_whistle 8 = .ok (.iconst (-1), 1) := by decide +kernel
theorem dX5_whistle_9 : decode cX5_whistle 9 = .ok (.ireturn, 1) := by decide +kernel
theorem dX5_whistle_10 : decode cX5_whistle 10 = .ok (.aload_n 0, 1) := by decide +kernel
theorem dX5_whistle_11 : decode cX5_whistle 11 = .ok (.aload_n 0, 1) := by decide +kernel
theorem dX5_whistle_12 : decode cX5_whistle 12 = .ok (.getfield 7, 3) := by decide +kernel
theorem dX5_whistle_15 : decode cX5_whistle 15 = .ok (.iload_n 1, 1) := by decide +kernel
theorem dX5_whistle_16 : decode cX5_whistle 16 = .ok (.iaload, 1) := by decide +kernel
theorem dX5_whistle_17 : decode cX5_whistle 17 = .ok (.iconst 2, 1) := by decide +kernel
theorem dX5_whistle_18 : decode cX5_whistle 18 = .ok (.if_icmp .ne 7, 3) := by decide +kernel
theorem dX5_whistle_21 : decode cX5_whistle 21 = .ok (.iconst 5, 1) := by decide +kernel
theorem dX5_whistle_22 : decode cX5_whistle 22 = .ok (.goto 4, 3) := by decide +kernel
theorem dX5_whistle_25 : decode cX5_whistle 25 = .ok (.iconst 4, 1) := by decide +kernel
theorem dX5_whistle_26 : decode cX5_whistle 26 = .ok (.invokevirtual 249, 3) := by decide +kernel
theorem dX5_whistle_29 : decode cX5_whistle 29 = .ok (.aload_n 0, 1) := by decide +kernel
theorem dX5_whistle_30 : decode cX5_whistle 30 = .ok (.getfield 7, 3) := by decide +kernel
theorem dX5_whistle_33 : decode cX5_whistle 33 = .ok (.iload_n 1, 1) := by decide +kernel
theorem dX5_whistle_34 : decode cX5_whistle 34 = .ok (.iaload, 1) := by decide +kernel
theorem dX5_whistle_35 : decode cX5_whistle 35 = .ok (.iconst 2, 1) := by decide +kernel
theorem dX5_whistle_36 : decode cX5_whistle 36 = .ok (.if_icmp .ne 8, 3) := by decide +kernel
theorem dX5_whistle_39 : decode cX5_whistle 39 = .ok (.bipush 70, 2) := by decide +kernel
theorem dX5_whistle_41 : decode cX5_whistle 41 = .ok (.goto 4, 3) := by decide +kernel
theorem dX5_whistle_44 : decode cX5_whistle 44 = .ok (.iload_n 1, 1) := by decide +kernel
theorem dX5_whistle_45 : decode cX5_whistle 45 = .ok (.ireturn, 1) := by decide +kernel
theorem dX5_as_0 : decode cX5_as 0 = .ok (.aload_n 0, 1) := by decide +kernel
theorem dX5_as_1 : decode cX5_as 1 = .ok (.iload_n 1, 1) := by decide +kernel
theorem dX5_as_2 : decode cX5_as 2 = .ok (.invokevirtual 162, 3) := by decide +kernel
theorem dX5_as_5 : decode cX5_as 5 = .ok (.ifCond .eq 9, 3) := by decide +kernel
theorem dX5_as_8 : decode cX5_as 8 = .ok (.aload_n 0, 1) := by decide +kernel
theorem dX5_as_9 : decode cX5_as 9 = .ok (.iconst (-1), 1) := by decide +kernel
theorem dX5_as_10 : decode cX5_as 10 = .ok (.invokevirtual 123, 3) := by decide +kernel
theorem dX5_as_13 : decode cX5_as 13 = .ok (.ireturn, 1) := by decide +kernel
theorem dX5_as_14 : decode cX5_as 14 = .ok (.iload_n 2, 1) := by decide +kernel
theorem dX5_as_15 : decode cX5_as 15 = .ok (.i2l, 1) := by decide +kernel
theorem dX5_as_16 : decode cX5_as 16 = .ok (.lconst 0, 1) := by decide +kernel
theorem dX5_as_17 : decode cX5_as 17 = .ok (.ldc2_w 126, 3) := by decide +kernel
theorem dX5_as_20 : decode cX5_as 20 = .ok (.invokestatic 83, 3) := by decide +kernel
theorem dX5_as_23 : decode cX5_as 23 = .ok (.ifCond .ne 10, 3) := by decide +kernel
theorem dX5_as_26 : decode cX5_as 26 = .ok (.aload_n 0, 1) := by decide +kernel
theorem dX5_as_27 : decode cX5_as 27 = .ok (.bipush (-2), 2) := by decide +kernel
theorem dX5_as_29 : decode cX5_as 29 = .ok (.invokevirtual 123, 3) := by decide +kernel
theorem dX5_as_32 : decode cX5_as 32 = .ok (.ireturn, 1) := by decide +kernel
theorem dX5_as_33 : decode cX5_as 33 = .ok (.aload_n 0, 1) := by decide +kernel
theorem dX5_as_34 : decode cX5_as 34 = .ok (.getfield 7, 3) := by decide +kernel
theorem dX5_as_37 : decode cX5_as 37 = .ok (.iload_n 1, 1) := by decide +kernel
theorem dX5_as_38 : decode cX5_as 38 = .ok (.iaload, 1) := by decide +kernel
theorem dX5_as_39 : decode cX5_as 39 = .ok (.iload_n 2, 1) := by decide +kernel
theorem dX5_as_40 : decode cX5_as 40 = .ok (.if_icmp .lt 11, 3) := by decide +kernel
theorem dX5_as_43 : decode cX5_as 43 = .ok (.aload_n 0, 1) := by decide +kernel
theorem dX5_as_44 : decode cX5_as 44 = .ok (.iconst 1, 1) := by decide +kernel
theorem dX5_as_45 : decode cX5_as 45 = .ok (.invokevirtual 123, 3) := by decide +kernel
theorem dX5_as_48 : decode cX5_as 48 = .ok (.goto 8, 3) := by decide +kernel
theorem dX5_as_51 : decode cX5_as 51 = .ok (.aload_n 0, 1) := by decide +kernel
theorem dX5_as_52 : decode cX5_as 52 = .ok (.iconst 2, 1) := by decide +kernel
theorem dX5_as_53 : decode cX5_as 53 = .ok (.invokevirtual 111, 3) := by decide +kernel
theorem dX5_as_56 : decode cX5_as 56 = .ok (.ireturn, 1) := by decide +kernel
theorem dX5_trace_0 : decode cX5_trace 0 = .ok (.aload_n 0, 1) := by decide +kernel
theorem dX5_trace_1 : decode cX5_trace 1 = .ok (.getfield 246, 3) := by decide +kernel
theorem dX5_trace_4 : decode cX5_trace 4 = .ok (.ireturn, 1) := by decide +kernel
theorem dX5_fault_0 : decode cX5_fault 0 = .ok (.aload_n 0, 1) := by decide +kernel
theorem dX5_fault_1 : decode cX5_fault 1 = .ok (.getfield 72, 3) := by decide +kernel
theorem dX5_fault_4 : decode cX5_fault 4 = .ok (.ireturn, 1) := by decide +kernel
theorem dX5_many_0 : decode cX5_many 0 = .ok (.iload_n 1, 1) := by decide +kernel
theorem dX5_many_1 : decode cX5_many 1 = .ok (.tableswitch 60 0 4 #[35, 40, 45, 50, 55], 35) := by decide +kernel
theorem dX5_many_36 : decode cX5_many 36 = .ok (.aload_n 0, 1) := by decide +kernel
theorem dX5_many_37 : decode cX5_many 37 = .ok (.getfield 80, 3) := by decide +kernel
theorem dX5_many_40 : decode cX5_many 40 = .ok (.ireturn, 1) := by decide +kernel
theorem dX5_many_41 : decode cX5_many 41 = .ok (.aload_n 0, 1) := by decide +kernel
theorem dX5_many_42 : decode cX5_many 42 = .ok (.getfield 135, 3) := by decide +kernel
theorem dX5_many_45 : decode cX5_many 45 = .ok (.ireturn, 1) := by decide +kernel
theorem dX5_many_46 : decode cX5_many 46 = .ok (.aload_n 0, 1) := by decide +kernel
theorem dX5_many_47 : decode cX5_many 47 = .ok (.getfield 138, 3) := by decide +kernel
theorem dX5_many_50 : decode cX5_many 50 = .ok (.ireturn, 1) := by decide +kernel
theorem dX5_many_51 : decode cX5_many 51 = .ok (.aload_n 0, 1) := by decide +kernel
theorem dX5_many_52 : decode cX5_many 52 = .ok (.getfield 141, 3) := by decide +kernel
theorem dX5_many_55 : decode cX5_many 55 = .ok (.ireturn, 1) := by decide +kernel
theorem dX5_many_56 : decode cX5_many 56 = .ok (.aload_n 0, 1) := by decide +kernel
theorem dX5_many_57 : decode cX5_many 57 = .ok (.getfield 144, 3) := by decide +kernel
theorem dX5_many_60 : decode cX5_many 60 = .ok (.ireturn, 1) := by decide +kernel
theorem dX5_many_61 : decode cX5_many 61 = .ok (.bipush (-2), 2) := by decide +kernel
theorem dX5_many_63 : decode cX5_many 63 = .ok (.ireturn, 1) := by decide +kernel
end
section
theorem dL_law_0 : decode cL_law 0 = .ok (.new 7, 3) := by decide +kernel
theorem dL_law_3 : decode cL_law 3 = .ok (.dup, 1) := by decide +kernel
theorem dL_law_4 : decode cL_law 4 = .ok (.invokespecial 9, 3) := by decide +kernel
theorem dL_law_7 : decode cL_law 7 = .ok (.astore_n 1, 1) := by decide +kernel
theorem dL_law_8 : decode cL_law 8 = .ok (.new 10, 3) := by decide +kernel
theorem dL_law_11 : decode cL_law 11 = .ok (.dup, 1) := by decide +kernel
theorem dL_law_12 : decode cL_law 12 = .ok (.invokespecial 12, 3) := by decide +kernel
theorem dL_law_15 : decode cL_law 15 = .ok (.astore_n 2, 1) := by decide +kernel
theorem dL_law_16 : decode cL_law 16 = .ok (.iconst 0, 1) := by decide +kernel
theorem dL_law_17 : decode cL_law 17 = .ok (.istore_n 3, 1) := by decide +kernel
theorem dL_law_18 : decode cL_law 18 = .ok (.iload_n 3, 1) := by decide +kernel
theorem dL_law_19 : decode cL_law 19 = .ok (.aload_n 0, 1) := by decide +kernel
theorem dL_law_20 : decode cL_law 20 = .ok (.arraylength, 1) := by decide +kernel
theorem dL_law_21 : decode cL_law 21 = .ok (.bipush 6, 2) := by decide +kernel
theorem dL_law_23 : decode cL_law 23 = .ok (.isub, 1) := by decide +kernel
theorem dL_law_24 : decode cL_law 24 = .ok (.if_icmp .gt 1052, 3) := by decide +kernel
theorem dL_law_27 : decode cL_law 27 = .ok (.aload_n 0, 1) := by decide +kernel
theorem dL_law_28 : decode cL_law 28 = .ok (.iload_n 3, 1) := by decide +kernel
theorem dL_law_29 : decode cL_law 29 = .ok (.iaload, 1) := by decide +kernel
theorem dL_law_30 : decode cL_law 30 = .ok (.bipush 31, 2) := by decide +kernel
theorem dL_law_32 : decode cL_law 32 = .ok (.iand, 1) := by decide +kernel
theorem dL_law_33 : decode cL_law 33 = .ok (.tableswitch 1037 0 29 #[135, 188, 221, 244, 267, 300, 333, 356, 379, 442, 465, 488, 511, 534, 567, 590, 613, 636, 659, 693, 736, 759, 802, 846, 909, 932, 955, 988, 1001, 1014], 135) := by decide +kernel
theorem dL_law_168 : decode cL_law 168 = .ok (.aload_n 1, 1) := by decide +kernel
theorem dL_law_169 : decode cL_law 169 = .ok (.aload_n 0, 1) := by decide +kernel
theorem dL_law_170 : decode cL_law 170 = .ok (.iload_n 3, 1) := by decide +kernel
theorem dL_law_171 : decode cL_law 171 = .ok (.iconst 1, 1) := by decide +kernel
theorem dL_law_172 : decode cL_law 172 = .ok (.iadd, 1) := by decide +kernel
theorem dL_law_173 : decode cL_law 173 = .ok (.iaload, 1) := by decide +kernel
theorem dL_law_174 : decode cL_law 174 = .ok (.aload_n 0, 1) := by decide +kernel
theorem dL_law_175 : decode cL_law 175 = .ok (.iload_n 3, 1) := by decide +kernel
theorem dL_law_176 : decode cL_law 176 = .ok (.iconst 2, 1) := by decide +kernel
theorem dL_law_177 : decode cL_law 177 = .ok (.iadd, 1) := by decide +kernel
theorem dL_law_178 : decode cL_law 178 = .ok (.iaload, 1) := by decide +kernel
theorem dL_law_179 : decode cL_law 179 = .ok (.aload_n 0, 1) := by decide +kernel
theorem dL_law_180 : decode cL_law 180 = .ok (.iload_n 3, 1) := by decide +kernel
theorem dL_law_181 : decode cL_law 181 = .ok (.iconst 3, 1) := by decide +kernel
theorem dL_law_182 : decode cL_law 182 = .ok (.iadd, 1) := by decide +kernel
theorem dL_law_183 : decode cL_law 183 = .ok (.iaload, 1) := by decide +kernel
theorem dL_law_184 : decode cL_law 184 = .ok (.aload_n 0, 1) := by decide +kernel
theorem dL_law_185 : decode cL_law 185 = .ok (.iload_n 3, 1) := by decide +kernel
theorem dL_law_186 : decode cL_law 186 = .ok (.iconst 4, 1) := by decide +kernel
theorem dL_law_187 : decode cL_law 187 = .ok (.iadd, 1) := by decide +kernel
theorem dL_law_188 : decode cL_law 188 = .ok (.iaload, 1) := by decide +kernel
theorem dL_law_189 : decode cL_law 189 = .ok (.invokevirtual 13, 3) := by decide +kernel
theorem dL_law_192 : decode cL_law 192 = .ok (.aload_n 2, 1) := by decide +kernel
theorem dL_law_193 : decode cL_law 193 = .ok (.aload_n 0, 1) := by decide +kernel
theorem dL_law_194 : decode cL_law 194 = .ok (.iload_n 3, 1) := by decide +kernel
theorem dL_law_195 : decode cL_law 195 = .ok (.iconst 1, 1) := by decide +kernel
theorem dL_law_196 : decode cL_law 196 = .ok (.iadd, 1) := by decide +kernel
theorem dL_law_197 : decode cL_law 197 = .ok (.iaload, 1) := by decide +kernel
theorem dL_law_198 : decode cL_law 198 = .ok (.aload_n 0, 1) := by decide +kernel
theorem dL_law_199 : decode cL_law 199 = .ok (.iload_n 3, 1) := by decide +kernel
theorem dL_law_200 : decode cL_law 200 = .ok (.iconst 2, 1) := by decide +kernel
theorem dL_law_201 : decode cL_law 201 = .ok (.iadd, 1) := by decide +kernel
theorem dL_law_202 : decode cL_law 202 = .ok (.iaload, 1) := by decide +kernel
theorem dL_law_203 : decode cL_law 203 = .ok (.aload_n 0, 1) := by decide +kernel
theorem dL_law_204 : decode cL_law 204 = .ok (.iload_n 3, 1) := by decide +kernel
theorem dL_law_205 : decode cL_law 205 = .ok (.iconst 3, 1) := by decide +kernel
theorem dL_law_206 : decode cL_law 206 = .ok (.iadd, 1) := by decide +kernel
theorem dL_law_207 : decode cL_law 207 = .ok (.iaload, 1) := by decide +kernel
theorem dL_law_208 : decode cL_law 208 = .ok (.aload_n 0, 1) := by decide +kernel
theorem dL_law_209 : decode cL_law 209 = .ok (.iload_n 3, 1) := by decide +kernel
theorem dL_law_210 : decode cL_law 210 = .ok (.iconst 4, 1) := by decide +kernel
theorem dL_law_211 : decode cL_law 211 = .ok (.iadd, 1) := by decide +kernel
theorem dL_law_212 : decode cL_law 212 = .ok (.iaload, 1) := by decide +kernel
theorem dL_law_213 : decode cL_law 213 = .ok (.invokevirtual 17, 3) := by decide +kernel
theorem dL_law_216 : decode cL_law 216 = .ok (.if_icmp .eq 854, 3) := by decide +kernel
theorem dL_law_219 : decode cL_law 219 = .ok (.iconst 0, 1) := by decide +kernel
theorem dL_law_220 : decode cL_law 220 = .ok (.ireturn, 1) := by decide +kernel
theorem dL_law_221 : decode cL_law 221 = .ok (.aload_n 1, 1) := by decide +kernel
theorem dL_law_222 : decode cL_law 222 = .ok (.aload_n 0, 1) := by decide +kernel
theorem dL_law_223 : decode cL_law 223 = .ok (.iload_n 3, 1) := by decide +kernel
theorem dL_law_224 : decode cL_law 224 = .ok (.iconst 1, 1) := by decide +kernel
theorem dL_law_225 : decode cL_law 225 = .ok (.iadd, 1) := by decide +kernel
theorem dL_law_226 : decode cL_law 226 = .ok (.iaload, 1) := by decide +kernel
theorem dL_law_227 : decode cL_law 227 = .ok (.aload_n 0, 1) := by decide +kernel
theorem dL_law_228 : decode cL_law 228 = .ok (.iload_n 3, 1) := by decide +kernel
theorem dL_law_229 : decode cL_law 229 = .ok (.iconst 2, 1) := by decide +kernel
theorem dL_law_230 : decode cL_law 230 = .ok (.iadd, 1) := by decide +kernel
theorem dL_law_231 : decode cL_law 231 = .ok (.iaload, 1) := by decide +kernel
theorem dL_law_232 : decode cL_law 232 = .ok (.invokevirtual 18, 3) := by decide +kernel
theorem dL_law_235 : decode cL_law 235 = .ok (.aload_n 2, 1) := by decide +kernel
theorem dL_law_236 : decode cL_law 236 = .ok (.aload_n 0, 1) := by decide +kernel
theorem dL_law_237 : decode cL_law 237 = .ok (.iload_n 3, 1) := by decide +kernel
theorem dL_law_238 : decode cL_law 238 = .ok (.iconst 1, 1) := by decide +kernel
theorem dL_law_239 : decode cL_law 239 = .ok (.iadd, 1) := by decide +kernel
theorem dL_law_240 : decode cL_law 240 = .ok (.iaload, 1) := by decide +kernel
theorem dL_law_241 : decode cL_law 241 = .ok (.aload_n 0, 1) := by decide +kernel
theorem dL_law_242 : decode cL_law 242 = .ok (.iload_n 3, 1) := by decide +kernel
theorem dL_law_243 : decode cL_law 243 = .ok (.iconst 2, 1) := by decide +kernel
theorem dL_law_244 : decode cL_law 244 = .ok (.iadd, 1) := by decide +kernel
theorem dL_law_245 : decode cL_law 245 = .ok (.iaload, 1) := by decide +kernel
theorem dL_law_246 : decode cL_law 246 = .ok (.invokevirtual 22, 3) := by decide +kernel
theorem dL_law_249 : decode cL_law 249 = .ok (.if_icmp .eq 821, 3) := by decide +kernel
theorem dL_law_252 : decode cL_law 252 = .ok (.iconst 0, 1) := by decide +kernel
theorem dL_law_253 : decode cL_law 253 = .ok (.ireturn, 1) := by decide +kernel
theorem dL_law_254 : decode cL_law 254 = .ok (.aload_n 1, 1) := by decide +kernel
theorem dL_law_255 : decode cL_law 255 = .ok (.aload_n 0, 1) := by decide +kernel
theorem dL_law_256 : decode cL_law 256 = .ok (.iload_n 3, 1) := by decide +kernel
theorem dL_law_257 : decode cL_law 257 = .ok (.iconst 1, 1) := by decide +kernel
theorem dL_law_258 : decode cL_law 258 = .ok (.iadd, 1) := by decide +kernel
theorem dL_law_259 : decode cL_law 259 = .ok (.iaload, 1) := by decide +kernel
theorem dL_law_260 : decode cL_law 260 = .ok (.invokevirtual 23, 3) := by decide +kernel
theorem dL_law_263 : decode cL_law 263 = .ok (.aload_n 2, 1) := by decide +kernel
theorem dL_law_264 : decode cL_law 264 = .ok (.aload_n 0, 1) := by decide +kernel
theorem dL_law_265 : decode cL_law 265 = .ok (.iload_n 3, 1) := by decide +kernel
theorem dL_law_266 : decode cL_law 266 = .ok (.iconst 1, 1) := by decide +kernel
theorem dL_law_267 : decode cL_law 267 = .ok (.iadd, 1) := by decide +kernel
theorem dL_law_268 : decode cL_law 268 = .ok (.iaload, 1) := by decide +kernel
theorem dL_law_269 : decode cL_law 269 = .ok (.invokevirtual 27, 3) := by decide +kernel
theorem dL_law_272 : decode cL_law 272 = .ok (.if_icmp .eq 798, 3) := by decide +kernel
theorem dL_law_275 : decode cL_law 275 = .ok (.iconst 0, 1) := by decide +kernel
theorem dL_law_276 : decode cL_law 276 = .ok (.ireturn, 1) := by decide +kernel
theorem dL_law_277 : decode cL_law 277 = .ok (.aload_n 1, 1) := by decide +kernel
theorem dL_law_278 : decode cL_law 278 = .ok (.aload_n 0, 1) := by decide +kernel
theorem dL_law_279 : decode cL_law 279 = .ok (.iload_n 3, 1) := by decide +kernel
theorem dL_law_280 : decode cL_law 280 = .ok (.iconst 1, 1) := by decide +kernel
theorem dL_law_281 : decode cL_law 281 = .ok (.iadd, 1) := by decide +kernel
theorem dL_law_282 : decode cL_law 282 = .ok (.iaload, 1) := by decide +kernel
theorem dL_law_283 : decode cL_law 283 = .ok (.invokevirtual 28, 3) := by decide +kernel
theorem dL_law_286 : decode cL_law 286 = .ok (.aload_n 2, 1) := by decide +kernel
theorem dL_law_287 : decode cL_law 287 = .ok (.aload_n 0, 1) := by decide +kernel
theorem dL_law_288 : decode cL_law 288 = .ok (.iload_n 3, 1) := by decide +kernel
theorem dL_law_289 : decode cL_law 289 = .ok (.iconst 1, 1) := by decide +kernel
theorem dL_law_290 : decode cL_law 290 = .ok (.iadd, 1) := by decide +kernel
theorem dL_law_291 : decode cL_law 291 = .ok (.iaload, 1) := by decide +kernel
theorem dL_law_292 : decode cL_law 292 = .ok (.invokevirtual 31, 3) := by decide +kernel
theorem dL_law_295 : decode cL_law 295 = .ok (.if_icmp .eq 775, 3) := by decide +kernel
theorem dL_law_298 : decode cL_law 298 = .ok (.iconst 0, 1) := by decide +kernel
theorem dL_law_299 : decode cL_law 299 = .ok (.ireturn, 1) := by decide +kernel
theorem dL_law_300 : decode cL_law 300 = .ok (.aload_n 1, 1) := by decide +kernel
theorem dL_law_301 : decode cL_law 301 = .ok (.aload_n 0, 1) := by decide +kernel
theorem dL_law_302 : decode cL_law 302 = .ok (.iload_n 3, 1) := by decide +kernel
theorem dL_law_303 : decode cL_law 303 = .ok (.iconst 1, 1) := by decide +kernel
theorem dL_law_304 : decode cL_law 304 = .ok (.iadd, 1) := by decide +kernel
theorem dL_law_305 : decode cL_law 305 = .ok (.iaload, 1) := by decide +kernel
theorem dL_law_306 : decode cL_law 306 = .ok (.aload_n 0, 1) := by decide +kernel
theorem dL_law_307 : decode cL_law 307 = .ok (.iload_n 3, 1) := by decide +kernel
theorem dL_law_308 : decode cL_law 308 = .ok (.iconst 2, 1) := by decide +kernel
theorem dL_law_309 : decode cL_law 309 = .ok (.iadd, 1) := by decide +kernel
theorem dL_law_310 : decode cL_law 310 = .ok (.iaload, 1) := by decide +kernel
theorem dL_law_311 : decode cL_law 311 = .ok (.invokevirtual 32, 3) := by decide +kernel
theorem dL_law_314 : decode cL_law 314 = .ok (.aload_n 2, 1) := by decide +kernel
theorem dL_law_315 : decode cL_law 315 = .ok (.aload_n 0, 1) := by decide +kernel
theorem dL_law_316 : decode cL_law 316 = .ok (.iload_n 3, 1) := by decide +kernel
theorem dL_law_317 : decode cL_law 317 = .ok (.iconst 1, 1) := by decide +kernel
theorem dL_law_318 : decode cL_law 318 = .ok (.iadd, 1) := by decide +kernel
theorem dL_law_319 : decode cL_law 319 = .ok (.iaload, 1) := by decide +kernel
theorem dL_law_320 : decode cL_law 320 = .ok (.aload_n 0, 1) := by decide +kernel
theorem dL_law_321 : decode cL_law 321 = .ok (.iload_n 3, 1) := by decide +kernel
theorem dL_law_322 : decode cL_law 322 = .ok (.iconst 2, 1) := by decide +kernel
theorem dL_law_323 : decode cL_law 323 = .ok (.iadd, 1) := by decide +kernel
theorem dL_law_324 : decode cL_law 324 = .ok (.iaload, 1) := by decide +kernel
theorem dL_law_325 : decode cL_law 325 = .ok (.invokevirtual 35, 3) := by decide +kernel
theorem dL_law_328 : decode cL_law 328 = .ok (.if_icmp .eq 742, 3) := by decide +kernel
theorem dL_law_331 : decode cL_law 331 = .ok (.iconst 0, 1) := by decide +kernel
theorem dL_law_332 : decode cL_law 332 = .ok (.ireturn, 1) := by decide +kernel
theorem dL_law_333 : decode cL_law 333 = .ok (.aload_n 1, 1) := by decide +kernel
theorem dL_law_334 : decode cL_law 334 = .ok (.aload_n 0, 1) := by decide +kernel
theorem dL_law_335 : decode cL_law 335 = .ok (.iload_n 3, 1) := by decide +kernel
theorem dL_law_336 : decode cL_law 336 = .ok (.iconst 1, 1) := by decide +kernel
theorem dL_law_337 : decode cL_law 337 = .ok (.iadd, 1) := by decide +kernel
theorem dL_law_338 : decode cL_law 338 = .ok (.iaload, 1) := by decide +kernel
theorem dL_law_339 : decode cL_law 339 = .ok (.aload_n 0, 1) := by decide +kernel
theorem dL_law_340 : decode cL_law 340 = .ok (.iload_n 3, 1) := by decide +kernel
theorem dL_law_341 : decode cL_law 341 = .ok (.iconst 2, 1) := by decide +kernel
theorem dL_law_342 : decode cL_law 342 = .ok (.iadd, 1) := by decide +kernel
theorem dL_law_343 : decode cL_law 343 = .ok (.iaload, 1) := by decide +kernel
theorem dL_law_344 : decode cL_law 344 = .ok (.invokevirtual 36, 3) := by decide +kernel
theorem dL_law_347 : decode cL_law 347 = .ok (.aload_n 2, 1) := by decide +kernel
theorem dL_law_348 : decode cL_law 348 = .ok (.aload_n 0, 1) := by decide +kernel
theorem dL_law_349 : decode cL_law 349 = .ok (.iload_n 3, 1) := by decide +kernel
theorem dL_law_350 : decode cL_law 350 = .ok (.iconst 1, 1) := by decide +kernel
theorem dL_law_351 : decode cL_law 351 = .ok (.iadd, 1) := by decide +kernel
theorem dL_law_352 : decode cL_law 352 = .ok (.iaload, 1) := by decide +kernel
theorem dL_law_353 : decode cL_law 353 = .ok (.aload_n 0, 1) := by decide +kernel
theorem dL_law_354 : decode cL_law 354 = .ok (.iload_n 3, 1) := by decide +kernel
theorem dL_law_355 : decode cL_law 355 = .ok (.iconst 2, 1) := by decide +kernel
theorem dL_law_356 : decode cL_law 356 = .ok (.iadd, 1) := by decide +kernel
theorem dL_law_357 : decode cL_law 357 = .ok (.iaload, 1) := by decide +kernel
theorem dL_law_358 : decode cL_law 358 = .ok (.invokevirtual 39, 3) := by decide +kernel
theorem dL_law_361 : decode cL_law 361 = .ok (.if_icmp .eq 709, 3) := by decide +kernel
theorem dL_law_364 : decode cL_law 364 = .ok (.iconst 0, 1) := by decide +kernel
theorem dL_law_365 : decode cL_law 365 = .ok (.ireturn, 1) := by decide +kernel
theorem dL_law_366 : decode cL_law 366 = .ok (.aload_n 1, 1) := by decide +kernel
theorem dL_law_367 : decode cL_law 367 = .ok (.aload_n 0, 1) := by decide +kernel
theorem dL_law_368 : decode cL_law 368 = .ok (.iload_n 3, 1) := by decide +kernel
theorem dL_law_369 : decode cL_law 369 = .ok (.iconst 1, 1) := by decide +kernel
theorem dL_law_370 : decode cL_law 370 = .ok (.iadd, 1) := by decide +kernel
theorem dL_law_371 : decode cL_law 371 = .ok (.iaload, 1) := by decide +kernel
theorem dL_law_372 : decode cL_law 372 = .ok (.invokevirtual 40, 3) := by decide +kernel
theorem dL_law_375 : decode cL_law 375 = .ok (.aload_n 2, 1) := by decide +kernel
theorem dL_law_376 : decode cL_law 376 = .ok (.aload_n 0, 1) := by decide +kernel
theorem dL_law_377 : decode cL_law 377 = .ok (.iload_n 3, 1) := by decide +kernel
theorem dL_law_378 : decode cL_law 378 = .ok (.iconst 1, 1) := by decide +kernel
theorem dL_law_379 : decode cL_law 379 = .ok (.iadd, 1) := by decide +kernel
theorem dL_law_380 : decode cL_law 380 = .ok (.iaload, 1) := by decide +kernel
theorem dL_law_381 : decode cL_law 381 = .ok (.invokevirtual 43, 3) := by decide +kernel
theorem dL_law_384 : decode cL_law 384 = .ok (.if_icmp .eq 686, 3) := by decide +kernel
theorem dL_law_387 : decode cL_law 387 = .ok (.iconst 0, 1) := by decide +kernel
theorem dL_law_388 : decode cL_law 388 = .ok (.ireturn, 1) := by decide +kernel
theorem dL_law_389 : decode cL_law 389 = .ok (.aload_n 1, 1) := by decide +kernel
theorem dL_law_390 : decode cL_law 390 = .ok (.aload_n 0, 1) := by decide +kernel
theorem dL_law_391 : decode cL_law 391 = .ok (.iload_n 3, 1) := by decide +kernel
theorem dL_law_392 : decode cL_law 392 = .ok (.iconst 1, 1) := by decide +kernel
theorem dL_law_393 : decode cL_law 393 = .ok (.iadd, 1) := by decide +kernel
theorem dL_law_394 : decode cL_law 394 = .ok (.iaload, 1) := by decide +kernel
theorem dL_law_395 : decode cL_law 395 = .ok (.invokevirtual 44, 3) := by decide +kernel
theorem dL_law_398 : decode cL_law 398 = .ok (.aload_n 2, 1) := by decide +kernel
theorem dL_law_399 : decode cL_law 399 = .ok (.aload_n 0, 1) := by decide +kernel
theorem dL_law_400 : decode cL_law 400 = .ok (.iload_n 3, 1) := by decide +kernel
theorem dL_law_401 : decode cL_law 401 = .ok (.iconst 1, 1) := by decide +kernel
theorem dL_law_402 : decode cL_law 402 = .ok (.iadd, 1) := by decide +kernel
theorem dL_law_403 : decode cL_law 403 = .ok (.iaload, 1) := by decide +kernel
theorem dL_law_404 : decode cL_law 404 = .ok (.invokevirtual 47, 3) := by decide +kernel
theorem dL_law_407 : decode cL_law 407 = .ok (.if_icmp .eq 663, 3) := by decide +kernel
theorem dL_law_410 : decode cL_law 410 = .ok (.iconst 0, 1) := by decide +kernel
theorem dL_law_411 : decode cL_law 411 = .ok (.ireturn, 1) := by decide +kernel
theorem dL_law_412 : decode cL_law 412 = .ok (.aload_n 1, 1) := by decide +kernel
theorem dL_law_413 : decode cL_law 413 = .ok (.aload_n 0, 1) := by decide +kernel
theorem dL_law_414 : decode cL_law 414 = .ok (.iload_n 3, 1) := by decide +kernel
theorem dL_law_415 : decode cL_law 415 = .ok (.iconst 1, 1) := by decide +kernel
theorem dL_law_416 : decode cL_law 416 = .ok (.iadd, 1) := by decide +kernel
theorem dL_law_417 : decode cL_law 417 = .ok (.iaload, 1) := by decide +kernel
theorem dL_law_418 : decode cL_law 418 = .ok (.aload_n 0, 1) := by decide +kernel
theorem dL_law_419 : decode cL_law 419 = .ok (.iload_n 3, 1) := by decide +kernel
theorem dL_law_420 : decode cL_law 420 = .ok (.iconst 2, 1) := by decide +kernel
theorem dL_law_421 : decode cL_law 421 = .ok (.iadd, 1) := by decide +kernel
theorem dL_law_422 : decode cL_law 422 = .ok (.iaload, 1) := by decide +kernel
theorem dL_law_423 : decode cL_law 423 = .ok (.aload_n 0, 1) := by decide +kernel
theorem dL_law_424 : decode cL_law 424 = .ok (.iload_n 3, 1) := by decide +kernel
theorem dL_law_425 : decode cL_law 425 = .ok (.iconst 3, 1) := by decide +kernel
theorem dL_law_426 : decode cL_law 426 = .ok (.iadd, 1) := by decide +kernel
theorem dL_law_427 : decode cL_law 427 = .ok (.iaload, 1) := by decide +kernel
theorem dL_law_428 : decode cL_law 428 = .ok (.aload_n 0, 1) := by decide +kernel
theorem dL_law_429 : decode cL_law 429 = .ok (.iload_n 3, 1) := by decide +kernel
theorem dL_law_430 : decode cL_law 430 = .ok (.iconst 4, 1) := by decide +kernel
theorem dL_law_431 : decode cL_law 431 = .ok (.iadd, 1) := by decide +kernel
theorem dL_law_432 : decode cL_law 432 = .ok (.iaload, 1) := by decide +kernel
theorem dL_law_433 : decode cL_law 433 = .ok (.aload_n 0, 1) := by decide +kernel
theorem dL_law_434 : decode cL_law 434 = .ok (.iload_n 3, 1) := by decide +kernel
theorem dL_law_435 : decode cL_law 435 = .ok (.iconst 5, 1) := by decide +kernel
theorem dL_law_436 : decode cL_law 436 = .ok (.iadd, 1) := by decide +kernel
theorem dL_law_437 : decode cL_law 437 = .ok (.iaload, 1) := by decide +kernel
theorem dL_law_438 : decode cL_law 438 = .ok (.invokevirtual 48, 3) := by decide +kernel
theorem dL_law_441 : decode cL_law 441 = .ok (.aload_n 2, 1) := by decide +kernel
theorem dL_law_442 : decode cL_law 442 = .ok (.aload_n 0, 1) := by decide +kernel
theorem dL_law_443 : decode cL_law 443 = .ok (.iload_n 3, 1) := by decide +kernel
theorem dL_law_444 : decode cL_law 444 = .ok (.iconst 1, 1) := by decide +kernel
theorem dL_law_445 : decode cL_law 445 = .ok (.iadd, 1) := by decide +kernel
theorem dL_law_446 : decode cL_law 446 = .ok (.iaload, 1) := by decide +kernel
theorem dL_law_447 : decode cL_law 447 = .ok (.aload_n 0, 1) := by decide +kernel
theorem dL_law_448 : decode cL_law 448 = .ok (.iload_n 3, 1) := by decide +kernel
theorem dL_law_449 : decode cL_law 449 = .ok (.iconst 2, 1) := by decide +kernel
theorem dL_law_450 : decode cL_law 450 = .ok (.iadd, 1) := by decide +kernel
theorem dL_law_451 : decode cL_law 451 = .ok (.iaload, 1) := by decide +kernel
theorem dL_law_452 : decode cL_law 452 = .ok (.aload_n 0, 1) := by decide +kernel
theorem dL_law_453 : decode cL_law 453 = .ok (.iload_n 3, 1) := by decide +kernel
theorem dL_law_454 : decode cL_law 454 = .ok (.iconst 3, 1) := by decide +kernel
theorem dL_law_455 : decode cL_law 455 = .ok (.iadd, 1) := by decide +kernel
theorem dL_law_456 : decode cL_law 456 = .ok (.iaload, 1) := by decide +kernel
theorem dL_law_457 : decode cL_law 457 = .ok (.aload_n 0, 1) := by decide +kernel
theorem dL_law_458 : decode cL_law 458 = .ok (.iload_n 3, 1) := by decide +kernel
theorem dL_law_459 : decode cL_law 459 = .ok (.iconst 4, 1) := by decide +kernel
theorem dL_law_460 : decode cL_law 460 = .ok (.iadd, 1) := by decide +kernel
theorem dL_law_461 : decode cL_law 461 = .ok (.iaload, 1) := by decide +kernel
theorem dL_law_462 : decode cL_law 462 = .ok (.aload_n 0, 1) := by decide +kernel
theorem dL_law_463 : decode cL_law 463 = .ok (.iload_n 3, 1) := by decide +kernel
theorem dL_law_464 : decode cL_law 464 = .ok (.iconst 5, 1) := by decide +kernel
theorem dL_law_465 : decode cL_law 465 = .ok (.iadd, 1) := by decide +kernel
theorem dL_law_466 : decode cL_law 466 = .ok (.iaload, 1) := by decide +kernel
theorem dL_law_467 : decode cL_law 467 = .ok (.invokevirtual 52, 3) := by decide +kernel
theorem dL_law_470 : decode cL_law 470 = .ok (.if_icmp .eq 600, 3) := by decide +kernel
theorem dL_law_473 : decode cL_law 473 = .ok (.iconst 0, 1) := by decide +kernel
theorem dL_law_474 : decode cL_law 474 = .ok (.ireturn, 1) := by decide +kernel
theorem dL_law_475 : decode cL_law 475 = .ok (.aload_n 1, 1) := by decide +kernel
theorem dL_law_476 : decode cL_law 476 = .ok (.aload_n 0, 1) := by decide +kernel
theorem dL_law_477 : decode cL_law 477 = .ok (.iload_n 3, 1) := by decide +kernel
theorem dL_law_478 : decode cL_law 478 = .ok (.iconst 1, 1) := by decide +kernel
theorem dL_law_479 : decode cL_law 479 = .ok (.iadd, 1) := by decide +kernel
theorem dL_law_480 : decode cL_law 480 = .ok (.iaload, 1) := by decide +kernel
theorem dL_law_481 : decode cL_law 481 = .ok (.invokevirtual 53, 3) := by decide +kernel
theorem dL_law_484 : decode cL_law 484 = .ok (.aload_n 2, 1) := by decide +kernel
theorem dL_law_485 : decode cL_law 485 = .ok (.aload_n 0, 1) := by decide +kernel
theorem dL_law_486 : decode cL_law 486 = .ok (.iload_n 3, 1) := by decide +kernel
theorem dL_law_487 : decode cL_law 487 = .ok (.iconst 1, 1) := by decide +kernel
theorem dL_law_488 : decode cL_law 488 = .ok (.iadd, 1) := by decide +kernel
theorem dL_law_489 : decode cL_law 489 = .ok (.iaload, 1) := by decide +kernel
theorem dL_law_490 : decode cL_law 490 = .ok (.invokevirtual 56, 3) := by decide +kernel
theorem dL_law_493 : decode cL_law 493 = .ok (.if_icmp .eq 577, 3) := by decide +kernel
theorem dL_law_496 : decode cL_law 496 = .ok (.iconst 0, 1) := by decide +kernel
theorem dL_law_497 : decode cL_law 497 = .ok (.ireturn, 1) := by decide +kernel
theorem dL_law_498 : decode cL_law 498 = .ok (.aload_n 1, 1) := by decide +kernel
theorem dL_law_499 : decode cL_law 499 = .ok (.aload_n 0, 1) := by decide +kernel
theorem dL_law_500 : decode cL_law 500 = .ok (.iload_n 3, 1) := by decide +kernel
theorem dL_law_501 : decode cL_law 501 = .ok (.iconst 1, 1) := by decide +kernel
theorem dL_law_502 : decode cL_law 502 = .ok (.iadd, 1) := by decide +kernel
theorem dL_law_503 : decode cL_law 503 = .ok (.iaload, 1) := by decide +kernel
theorem dL_law_504 : decode cL_law 504 = .ok (.invokevirtual 57, 3) := by decide +kernel
theorem dL_law_507 : decode cL_law 507 = .ok (.aload_n 2, 1) := by decide +kernel
theorem dL_law_508 : decode cL_law 508 = .ok (.aload_n 0, 1) := by decide +kernel
theorem dL_law_509 : decode cL_law 509 = .ok (.iload_n 3, 1) := by decide +kernel
theorem dL_law_510 : decode cL_law 510 = .ok (.iconst 1, 1) := by decide +kernel
theorem dL_law_511 : decode cL_law 511 = .ok (.iadd, 1) := by decide +kernel
theorem dL_law_512 : decode cL_law 512 = .ok (.iaload, 1) := by decide +kernel
theorem dL_law_513 : decode cL_law 513 = .ok (.invokevirtual 60, 3) := by decide +kernel
theorem dL_law_516 : decode cL_law 516 = .ok (.if_icmp .eq 554, 3) := by decide +kernel
theorem dL_law_519 : decode cL_law 519 = .ok (.iconst 0, 1) := by decide +kernel
theorem dL_law_520 : decode cL_law 520 = .ok (.ireturn, 1) := by decide +kernel
theorem dL_law_521 : decode cL_law 521 = .ok (.aload_n 1, 1) := by decide +kernel
theorem dL_law_522 : decode cL_law 522 = .ok (.aload_n 0, 1) := by decide +kernel
theorem dL_law_523 : decode cL_law 523 = .ok (.iload_n 3, 1) := by decide +kernel
theorem dL_law_524 : decode cL_law 524 = .ok (.iconst 1, 1) := by decide +kernel
theorem dL_law_525 : decode cL_law 525 = .ok (.iadd, 1) := by decide +kernel
theorem dL_law_526 : decode cL_law 526 = .ok (.iaload, 1) := by decide +kernel
theorem dL_law_527 : decode cL_law 527 = .ok (.invokevirtual 61, 3) := by decide +kernel
theorem dL_law_530 : decode cL_law 530 = .ok (.aload_n 2, 1) := by decide +kernel
theorem dL_law_531 : decode cL_law 531 = .ok (.aload_n 0, 1) := by decide +kernel
theorem dL_law_532 : decode cL_law 532 = .ok (.iload_n 3, 1) := by decide +kernel
theorem dL_law_533 : decode cL_law 533 = .ok (.iconst 1, 1) := by decide +kernel
theorem dL_law_534 : decode cL_law 534 = .ok (.iadd, 1) := by decide +kernel
theorem dL_law_535 : decode cL_law 535 = .ok (.iaload, 1) := by decide +kernel
theorem dL_law_536 : decode cL_law 536 = .ok (.invokevirtual 64, 3) := by decide +kernel
theorem dL_law_539 : decode cL_law 539 = .ok (.if_icmp .eq 531, 3) := by decide +kernel
theorem dL_law_542 : decode cL_law 542 = .ok (.iconst 0, 1) := by decide +kernel
theorem dL_law_543 : decode cL_law 543 = .ok (.ireturn, 1) := by decide +kernel
theorem dL_law_544 : decode cL_law 544 = .ok (.aload_n 1, 1) := by decide +kernel
theorem dL_law_545 : decode cL_law 545 = .ok (.aload_n 0, 1) := by decide +kernel
theorem dL_law_546 : decode cL_law 546 = .ok (.iload_n 3, 1) := by decide +kernel
theorem dL_law_547 : decode cL_law 547 = .ok (.iconst 1, 1) := by decide +kernel
theorem dL_law_548 : decode cL_law 548 = .ok (.iadd, 1) := by decide +kernel
theorem dL_law_549 : decode cL_law 549 = .ok (.iaload, 1) := by decide +kernel
theorem dL_law_550 : decode cL_law 550 = .ok (.invokevirtual 65, 3) := by decide +kernel
theorem dL_law_553 : decode cL_law 553 = .ok (.aload_n 2, 1) := by decide +kernel
theorem dL_law_554 : decode cL_law 554 = .ok (.aload_n 0, 1) := by decide +kernel
theorem dL_law_555 : decode cL_law 555 = .ok (.iload_n 3, 1) := by decide +kernel
theorem dL_law_556 : decode cL_law 556 = .ok (.iconst 1, 1) := by decide +kernel
theorem dL_law_557 : decode cL_law 557 = .ok (.iadd, 1) := by decide +kernel
theorem dL_law_558 : decode cL_law 558 = .ok (.iaload, 1) := by decide +kernel
theorem dL_law_559 : decode cL_law 559 = .ok (.invokevirtual 68, 3) := by decide +kernel
theorem dL_law_562 : decode cL_law 562 = .ok (.if_icmp .eq 508, 3) := by decide +kernel
theorem dL_law_565 : decode cL_law 565 = .ok (.iconst 0, 1) := by decide +kernel
theorem dL_law_566 : decode cL_law 566 = .ok (.ireturn, 1) := by decide +kernel
theorem dL_law_567 : decode cL_law 567 = .ok (.aload_n 1, 1) := by decide +kernel
theorem dL_law_568 : decode cL_law 568 = .ok (.aload_n 0, 1) := by decide +kernel
theorem dL_law_569 : decode cL_law 569 = .ok (.iload_n 3, 1) := by decide +kernel
theorem dL_law_570 : decode cL_law 570 = .ok (.iconst 1, 1) := by decide +kernel
theorem dL_law_571 : decode cL_law 571 = .ok (.iadd, 1) := by decide +kernel
theorem dL_law_572 : decode cL_law 572 = .ok (.iaload, 1) := by decide +kernel
theorem dL_law_573 : decode cL_law 573 = .ok (.aload_n 0, 1) := by decide +kernel
theorem dL_law_574 : decode cL_law 574 = .ok (.iload_n 3, 1) := by decide +kernel
theorem dL_law_575 : decode cL_law 575 = .ok (.iconst 2, 1) := by decide +kernel
theorem dL_law_576 : decode cL_law 576 = .ok (.iadd, 1) := by decide +kernel
theorem dL_law_577 : decode cL_law 577 = .ok (.iaload, 1) := by decide +kernel
theorem dL_law_578 : decode cL_law 578 = .ok (.invokevirtual 69, 3) := by decide +kernel
theorem dL_law_581 : decode cL_law 581 = .ok (.aload_n 2, 1) := by decide +kernel
theorem dL_law_582 : decode cL_law 582 = .ok (.aload_n 0, 1) := by decide +kernel
theorem dL_law_583 : decode cL_law 583 = .ok (.iload_n 3, 1) := by decide +kernel
theorem dL_law_584 : decode cL_law 584 = .ok (.iconst 1, 1) := by decide +kernel
theorem dL_law_585 : decode cL_law 585 = .ok (.iadd, 1) := by decide +kernel
theorem dL_law_586 : decode cL_law 586 = .ok (.iaload, 1) := by decide +kernel
theorem dL_law_587 : decode cL_law 587 = .ok (.aload_n 0, 1) := by decide +kernel
theorem dL_law_588 : decode cL_law 588 = .ok (.iload_n 3, 1) := by decide +kernel
theorem dL_law_589 : decode cL_law 589 = .ok (.iconst 2, 1) := by decide +kernel
theorem dL_law_590 : decode cL_law 590 = .ok (.iadd, 1) := by decide +kernel
theorem dL_law_591 : decode cL_law 591 = .ok (.iaload, 1) := by decide +kernel
theorem dL_law_592 : decode cL_law 592 = .ok (.invokevirtual 72, 3) := by decide +kernel
theorem dL_law_595 : decode cL_law 595 = .ok (.if_icmp .eq 475, 3) := by decide +kernel
theorem dL_law_598 : decode cL_law 598 = .ok (.iconst 0, 1) := by decide +kernel
theorem dL_law_599 : decode cL_law 599 = .ok (.ireturn, 1) := by decide +kernel
theorem dL_law_600 : decode cL_law 600 = .ok (.aload_n 1, 1) := by decide +kernel
theorem dL_law_601 : decode cL_law 601 = .ok (.aload_n 0, 1) := by decide +kernel
theorem dL_law_602 : decode cL_law 602 = .ok (.iload_n 3, 1) := by decide +kernel
theorem dL_law_603 : decode cL_law 603 = .ok (.iconst 1, 1) := by decide +kernel
theorem dL_law_604 : decode cL_law 604 = .ok (.iadd, 1) := by decide +kernel
theorem dL_law_605 : decode cL_law 605 = .ok (.iaload, 1) := by decide +kernel
theorem dL_law_606 : decode cL_law 606 = .ok (.invokevirtual 73, 3) := by decide +kernel
theorem dL_law_609 : decode cL_law 609 = .ok (.aload_n 2, 1) := by decide +kernel
theorem dL_law_610 : decode cL_law 610 = .ok (.aload_n 0, 1) := by decide +kernel
theorem dL_law_611 : decode cL_law 611 = .ok (.iload_n 3, 1) := by decide +kernel
theorem dL_law_612 : decode cL_law 612 = .ok (.iconst 1, 1) := by decide +kernel
theorem dL_law_613 : decode cL_law 613 = .ok (.iadd, 1) := by decide +kernel
theorem dL_law_614 : decode cL_law 614 = .ok (.iaload, 1) := by decide +kernel
theorem dL_law_615 : decode cL_law 615 = .ok (.invokevirtual 76, 3) := by decide +kernel
theorem dL_law_618 : decode cL_law 618 = .ok (.if_icmp .eq 452, 3) := by decide +kernel
theorem dL_law_621 : decode cL_law 621 = .ok (.iconst 0, 1) := by decide +kernel
theorem dL_law_622 : decode cL_law 622 = .ok (.ireturn, 1) := by decide +kernel
theorem dL_law_623 : decode cL_law 623 = .ok (.aload_n 1, 1) := by decide +kernel
theorem dL_law_624 : decode cL_law 624 = .ok (.aload_n 0, 1) := by decide +kernel
theorem dL_law_625 : decode cL_law 625 = .ok (.iload_n 3, 1) := by decide +kernel
theorem dL_law_626 : decode cL_law 626 = .ok (.iconst 1, 1) := by decide +kernel
theorem dL_law_627 : decode cL_law 627 = .ok (.iadd, 1) := by decide +kernel
theorem dL_law_628 : decode cL_law 628 = .ok (.iaload, 1) := by decide +kernel
theorem dL_law_629 : decode cL_law 629 = .ok (.invokevirtual 77, 3) := by decide +kernel
theorem dL_law_632 : decode cL_law 632 = .ok (.aload_n 2, 1) := by decide +kernel
theorem dL_law_633 : decode cL_law 633 = .ok (.aload_n 0, 1) := by decide +kernel
theorem dL_law_634 : decode cL_law 634 = .ok (.iload_n 3, 1) := by decide +kernel
theorem dL_law_635 : decode cL_law 635 = .ok (.iconst 1, 1) := by decide +kernel
theorem dL_law_636 : decode cL_law 636 = .ok (.iadd, 1) := by decide +kernel
theorem dL_law_637 : decode cL_law 637 = .ok (.iaload, 1) := by decide +kernel
theorem dL_law_638 : decode cL_law 638 = .ok (.invokevirtual 80, 3) := by decide +kernel
theorem dL_law_641 : decode cL_law 641 = .ok (.if_icmp .eq 429, 3) := by decide +kernel
theorem dL_law_644 : decode cL_law 644 = .ok (.iconst 0, 1) := by decide +kernel
theorem dL_law_645 : decode cL_law 645 = .ok (.ireturn, 1) := by decide +kernel
theorem dL_law_646 : decode cL_law 646 = .ok (.aload_n 1, 1) := by decide +kernel
theorem dL_law_647 : decode cL_law 647 = .ok (.aload_n 0, 1) := by decide +kernel
theorem dL_law_648 : decode cL_law 648 = .ok (.iload_n 3, 1) := by decide +kernel
theorem dL_law_649 : decode cL_law 649 = .ok (.iconst 1, 1) := by decide +kernel
theorem dL_law_650 : decode cL_law 650 = .ok (.iadd, 1) := by decide +kernel
theorem dL_law_651 : decode cL_law 651 = .ok (.iaload, 1) := by decide +kernel
theorem dL_law_652 : decode cL_law 652 = .ok (.invokevirtual 81, 3) := by decide +kernel
theorem dL_law_655 : decode cL_law 655 = .ok (.aload_n 2, 1) := by decide +kernel
theorem dL_law_656 : decode cL_law 656 = .ok (.aload_n 0, 1) := by decide +kernel
theorem dL_law_657 : decode cL_law 657 = .ok (.iload_n 3, 1) := by decide +kernel
theorem dL_law_658 : decode cL_law 658 = .ok (.iconst 1, 1) := by decide +kernel
theorem dL_law_659 : decode cL_law 659 = .ok (.iadd, 1) := by decide +kernel
theorem dL_law_660 : decode cL_law 660 = .ok (.iaload, 1) := by decide +kernel
theorem dL_law_661 : decode cL_law 661 = .ok (.invokevirtual 84, 3) := by decide +kernel
theorem dL_law_664 : decode cL_law 664 = .ok (.if_icmp .eq 406, 3) := by decide +kernel
theorem dL_law_667 : decode cL_law 667 = .ok (.iconst 0, 1) := by decide +kernel
theorem dL_law_668 : decode cL_law 668 = .ok (.ireturn, 1) := by decide +kernel
theorem dL_law_669 : decode cL_law 669 = .ok (.aload_n 1, 1) := by decide +kernel
theorem dL_law_670 : decode cL_law 670 = .ok (.aload_n 0, 1) := by decide +kernel
theorem dL_law_671 : decode cL_law 671 = .ok (.iload_n 3, 1) := by decide +kernel
theorem dL_law_672 : decode cL_law 672 = .ok (.iconst 1, 1) := by decide +kernel
theorem dL_law_673 : decode cL_law 673 = .ok (.iadd, 1) := by decide +kernel
theorem dL_law_674 : decode cL_law 674 = .ok (.iaload, 1) := by decide +kernel
theorem dL_law_675 : decode cL_law 675 = .ok (.invokevirtual 85, 3) := by decide +kernel
theorem dL_law_678 : decode cL_law 678 = .ok (.aload_n 2, 1) := by decide +kernel
theorem dL_law_679 : decode cL_law 679 = .ok (.aload_n 0, 1) := by decide +kernel
theorem dL_law_680 : decode cL_law 680 = .ok (.iload_n 3, 1) := by decide +kernel
theorem dL_law_681 : decode cL_law 681 = .ok (.iconst 1, 1) := by decide +kernel
theorem dL_law_682 : decode cL_law 682 = .ok (.iadd, 1) := by decide +kernel
theorem dL_law_683 : decode cL_law 683 = .ok (.iaload, 1) := by decide +kernel
theorem dL_law_684 : decode cL_law 684 = .ok (.invokevirtual 88, 3) := by decide +kernel
theorem dL_law_687 : decode cL_law 687 = .ok (.if_icmp .eq 383, 3) := by decide +kernel
theorem dL_law_690 : decode cL_law 690 = .ok (.iconst 0, 1) := by decide +kernel
theorem dL_law_691 : decode cL_law 691 = .ok (.ireturn, 1) := by decide +kernel
theorem dL_law_692 : decode cL_law 692 = .ok (.aload_n 1, 1) := by decide +kernel
theorem dL_law_693 : decode cL_law 693 = .ok (.aload_n 0, 1) := by decide +kernel
theorem dL_law_694 : decode cL_law 694 = .ok (.iload_n 3, 1) := by decide +kernel
theorem dL_law_695 : decode cL_law 695 = .ok (.iconst 1, 1) := by decide +kernel
theorem dL_law_696 : decode cL_law 696 = .ok (.iadd, 1) := by decide +kernel
theorem dL_law_697 : decode cL_law 697 = .ok (.iaload, 1) := by decide +kernel
theorem dL_law_698 : decode cL_law 698 = .ok (.aload_n 0, 1) := by decide +kernel
theorem dL_law_699 : decode cL_law 699 = .ok (.iload_n 3, 1) := by decide +kernel
theorem dL_law_700 : decode cL_law 700 = .ok (.iconst 2, 1) := by decide +kernel
theorem dL_law_701 : decode cL_law 701 = .ok (.iadd, 1) := by decide +kernel
theorem dL_law_702 : decode cL_law 702 = .ok (.iaload, 1) := by decide +kernel
theorem dL_law_703 : decode cL_law 703 = .ok (.invokevirtual 89, 3) := by decide +kernel
theorem dL_law_706 : decode cL_law 706 = .ok (.aload_n 2, 1) := by decide +kernel
theorem dL_law_707 : decode cL_law 707 = .ok (.aload_n 0, 1) := by decide +kernel
theorem dL_law_708 : decode cL_law 708 = .ok (.iload_n 3, 1) := by decide +kernel
theorem dL_law_709 : decode cL_law 709 = .ok (.iconst 1, 1) := by decide +kernel
theorem dL_law_710 : decode cL_law 710 = .ok (.iadd, 1) := by decide +kernel
theorem dL_law_711 : decode cL_law 711 = .ok (.iaload, 1) := by decide +kernel
theorem dL_law_712 : decode cL_law 712 = .ok (.aload_n 0, 1) := by decide +kernel
theorem dL_law_713 : decode cL_law 713 = .ok (.iload_n 3, 1) := by decide +kernel
theorem dL_law_714 : decode cL_law 714 = .ok (.iconst 2, 1) := by decide +kernel
theorem dL_law_715 : decode cL_law 715 = .ok (.iadd, 1) := by decide +kernel
theorem dL_law_716 : decode cL_law 716 = .ok (.iaload, 1) := by decide +kernel
theorem dL_law_717 : decode cL_law 717 = .ok (.invokevirtual 93, 3) := by decide +kernel
theorem dL_law_720 : decode cL_law 720 = .ok (.lcmp, 1) := by decide +kernel
theorem dL_law_721 : decode cL_law 721 = .ok (.ifCond .eq 349, 3) := by decide +kernel
theorem dL_law_724 : decode cL_law 724 = .ok (.iconst 0, 1) := by decide +kernel
theorem dL_law_725 : decode cL_law 725 = .ok (.ireturn, 1) := by decide +kernel
theorem dL_law_726 : decode cL_law 726 = .ok (.aload_n 1, 1) := by decide +kernel
theorem dL_law_727 : decode cL_law 727 = .ok (.aload_n 0, 1) := by decide +kernel
theorem dL_law_728 : decode cL_law 728 = .ok (.iload_n 3, 1) := by decide +kernel
theorem dL_law_729 : decode cL_law 729 = .ok (.iconst 1, 1) := by decide +kernel
theorem dL_law_730 : decode cL_law 730 = .ok (.iadd, 1) := by decide +kernel
theorem dL_law_731 : decode cL_law 731 = .ok (.iaload, 1) := by decide +kernel
theorem dL_law_732 : decode cL_law 732 = .ok (.aload_n 0, 1) := by decide +kernel
theorem dL_law_733 : decode cL_law 733 = .ok (.iload_n 3, 1) := by decide +kernel
theorem dL_law_734 : decode cL_law 734 = .ok (.iconst 2, 1) := by decide +kernel
theorem dL_law_735 : decode cL_law 735 = .ok (.iadd, 1) := by decide +kernel
theorem dL_law_736 : decode cL_law 736 = .ok (.iaload, 1) := by decide +kernel
theorem dL_law_737 : decode cL_law 737 = .ok (.aload_n 0, 1) := by decide +kernel
theorem dL_law_738 : decode cL_law 738 = .ok (.iload_n 3, 1) := by decide +kernel
theorem dL_law_739 : decode cL_law 739 = .ok (.iconst 3, 1) := by decide +kernel
theorem dL_law_740 : decode cL_law 740 = .ok (.iadd, 1) := by decide +kernel
theorem dL_law_741 : decode cL_law 741 = .ok (.iaload, 1) := by decide +kernel
theorem dL_law_742 : decode cL_law 742 = .ok (.invokevirtual 94, 3) := by decide +kernel
theorem dL_law_745 : decode cL_law 745 = .ok (.aload_n 2, 1) := by decide +kernel
theorem dL_law_746 : decode cL_law 746 = .ok (.aload_n 0, 1) := by decide +kernel
theorem dL_law_747 : decode cL_law 747 = .ok (.iload_n 3, 1) := by decide +kernel
theorem dL_law_748 : decode cL_law 748 = .ok (.iconst 1, 1) := by decide +kernel
theorem dL_law_749 : decode cL_law 749 = .ok (.iadd, 1) := by decide +kernel
theorem dL_law_750 : decode cL_law 750 = .ok (.iaload, 1) := by decide +kernel
theorem dL_law_751 : decode cL_law 751 = .ok (.aload_n 0, 1) := by decide +kernel
theorem dL_law_752 : decode cL_law 752 = .ok (.iload_n 3, 1) := by decide +kernel
theorem dL_law_753 : decode cL_law 753 = .ok (.iconst 2, 1) := by decide +kernel
theorem dL_law_754 : decode cL_law 754 = .ok (.iadd, 1) := by decide +kernel
theorem dL_law_755 : decode cL_law 755 = .ok (.iaload, 1) := by decide +kernel
theorem dL_law_756 : decode cL_law 756 = .ok (.aload_n 0, 1) := by decide +kernel
theorem dL_law_757 : decode cL_law 757 = .ok (.iload_n 3, 1) := by decide +kernel
theorem dL_law_758 : decode cL_law 758 = .ok (.iconst 3, 1) := by decide +kernel
theorem dL_law_759 : decode cL_law 759 = .ok (.iadd, 1) := by decide +kernel
theorem dL_law_760 : decode cL_law 760 = .ok (.iaload, 1) := by decide +kernel
theorem dL_law_761 : decode cL_law 761 = .ok (.invokevirtual 98, 3) := by decide +kernel
theorem dL_law_764 : decode cL_law 764 = .ok (.if_icmp .eq 306, 3) := by decide +kernel
theorem dL_law_767 : decode cL_law 767 = .ok (.iconst 0, 1) := by decide +kernel
theorem dL_law_768 : decode cL_law 768 = .ok (.ireturn, 1) := by decide +kernel
theorem dL_law_769 : decode cL_law 769 = .ok (.aload_n 1, 1) := by decide +kernel
theorem dL_law_770 : decode cL_law 770 = .ok (.aload_n 0, 1) := by decide +kernel
theorem dL_law_771 : decode cL_law 771 = .ok (.iload_n 3, 1) := by decide +kernel
theorem dL_law_772 : decode cL_law 772 = .ok (.iconst 1, 1) := by decide +kernel
theorem dL_law_773 : decode cL_law 773 = .ok (.iadd, 1) := by decide +kernel
theorem dL_law_774 : decode cL_law 774 = .ok (.iaload, 1) := by decide +kernel
theorem dL_law_775 : decode cL_law 775 = .ok (.invokevirtual 99, 3) := by decide +kernel
theorem dL_law_778 : decode cL_law 778 = .ok (.aload_n 2, 1) := by decide +kernel
theorem dL_law_779 : decode cL_law 779 = .ok (.aload_n 0, 1) := by decide +kernel
theorem dL_law_780 : decode cL_law 780 = .ok (.iload_n 3, 1) := by decide +kernel
theorem dL_law_781 : decode cL_law 781 = .ok (.iconst 1, 1) := by decide +kernel
theorem dL_law_782 : decode cL_law 782 = .ok (.iadd, 1) := by decide +kernel
theorem dL_law_783 : decode cL_law 783 = .ok (.iaload, 1) := by decide +kernel
theorem dL_law_784 : decode cL_law 784 = .ok (.invokevirtual 102, 3) := by decide +kernel
theorem dL_law_787 : decode cL_law 787 = .ok (.if_icmp .eq 283, 3) := by decide +kernel
theorem dL_law_790 : decode cL_law 790 = .ok (.iconst 0, 1) := by decide +kernel
theorem dL_law_791 : decode cL_law 791 = .ok (.ireturn, 1) := by decide +kernel
theorem dL_law_792 : decode cL_law 792 = .ok (.aload_n 1, 1) := by decide +kernel
theorem dL_law_793 : decode cL_law 793 = .ok (.aload_n 0, 1) := by decide +kernel
theorem dL_law_794 : decode cL_law 794 = .ok (.iload_n 3, 1) := by decide +kernel
theorem dL_law_795 : decode cL_law 795 = .ok (.iconst 1, 1) := by decide +kernel
theorem dL_law_796 : decode cL_law 796 = .ok (.iadd, 1) := by decide +kernel
theorem dL_law_797 : decode cL_law 797 = .ok (.iaload, 1) := by decide +kernel
theorem dL_law_798 : decode cL_law 798 = .ok (.aload_n 0, 1) := by decide +kernel
theorem dL_law_799 : decode cL_law 799 = .ok (.iload_n 3, 1) := by decide +kernel
theorem dL_law_800 : decode cL_law 800 = .ok (.iconst 2, 1) := by decide +kernel
theorem dL_law_801 : decode cL_law 801 = .ok (.iadd, 1) := by decide +kernel
theorem dL_law_802 : decode cL_law 802 = .ok (.iaload, 1) := by decide +kernel
theorem dL_law_803 : decode cL_law 803 = .ok (.aload_n 0, 1) := by decide +kernel
theorem dL_law_804 : decode cL_law 804 = .ok (.iload_n 3, 1) := by decide +kernel
theorem dL_law_805 : decode cL_law 805 = .ok (.iconst 3, 1) := by decide +kernel
theorem dL_law_806 : decode cL_law 806 = .ok (.iadd, 1) := by decide +kernel
theorem dL_law_807 : decode cL_law 807 = .ok (.iaload, 1) := by decide +kernel
theorem dL_law_808 : decode cL_law 808 = .ok (.invokevirtual 103, 3) := by decide +kernel
theorem dL_law_811 : decode cL_law 811 = .ok (.aload_n 2, 1) := by decide +kernel
theorem dL_law_812 : decode cL_law 812 = .ok (.aload_n 0, 1) := by decide +kernel
theorem dL_law_813 : decode cL_law 813 = .ok (.iload_n 3, 1) := by decide +kernel
theorem dL_law_814 : decode cL_law 814 = .ok (.iconst 1, 1) := by decide +kernel
theorem dL_law_815 : decode cL_law 815 = .ok (.iadd, 1) := by decide +kernel
theorem dL_law_816 : decode cL_law 816 = .ok (.iaload, 1) := by decide +kernel
theorem dL_law_817 : decode cL_law 817 = .ok (.aload_n 0, 1) := by decide +kernel
theorem dL_law_818 : decode cL_law 818 = .ok (.iload_n 3, 1) := by decide +kernel
theorem dL_law_819 : decode cL_law 819 = .ok (.iconst 2, 1) := by decide +kernel
theorem dL_law_820 : decode cL_law 820 = .ok (.iadd, 1) := by decide +kernel
theorem dL_law_821 : decode cL_law 821 = .ok (.iaload, 1) := by decide +kernel
theorem dL_law_822 : decode cL_law 822 = .ok (.aload_n 0, 1) := by decide +kernel
theorem dL_law_823 : decode cL_law 823 = .ok (.iload_n 3, 1) := by decide +kernel
theorem dL_law_824 : decode cL_law 824 = .ok (.iconst 3, 1) := by decide +kernel
theorem dL_law_825 : decode cL_law 825 = .ok (.iadd, 1) := by decide +kernel
theorem dL_law_826 : decode cL_law 826 = .ok (.iaload, 1) := by decide +kernel
theorem dL_law_827 : decode cL_law 827 = .ok (.invokevirtual 106, 3) := by decide +kernel
theorem dL_law_830 : decode cL_law 830 = .ok (.if_icmp .eq 240, 3) := by decide +kernel
theorem dL_law_833 : decode cL_law 833 = .ok (.iconst 0, 1) := by decide +kernel
theorem dL_law_834 : decode cL_law 834 = .ok (.ireturn, 1) := by decide +kernel
theorem dL_law_835 : decode cL_law 835 = .ok (.aload_n 1, 1) := by decide +kernel
theorem dL_law_836 : decode cL_law 836 = .ok (.aload_n 0, 1) := by decide +kernel
theorem dL_law_837 : decode cL_law 837 = .ok (.iload_n 3, 1) := by decide +kernel
theorem dL_law_838 : decode cL_law 838 = .ok (.iconst 1, 1) := by decide +kernel
theorem dL_law_839 : decode cL_law 839 = .ok (.iadd, 1) := by decide +kernel
theorem dL_law_840 : decode cL_law 840 = .ok (.iaload, 1) := by decide +kernel
theorem dL_law_841 : decode cL_law 841 = .ok (.aload_n 0, 1) := by decide +kernel
theorem dL_law_842 : decode cL_law 842 = .ok (.iload_n 3, 1) := by decide +kernel
theorem dL_law_843 : decode cL_law 843 = .ok (.iconst 2, 1) := by decide +kernel
theorem dL_law_844 : decode cL_law 844 = .ok (.iadd, 1) := by decide +kernel
theorem dL_law_845 : decode cL_law 845 = .ok (.iaload, 1) := by decide +kernel
theorem dL_law_846 : decode cL_law 846 = .ok (.aload_n 0, 1) := by decide +kernel
theorem dL_law_847 : decode cL_law 847 = .ok (.iload_n 3, 1) := by decide +kernel
theorem dL_law_848 : decode cL_law 848 = .ok (.iconst 3, 1) := by decide +kernel
theorem dL_law_849 : decode cL_law 849 = .ok (.iadd, 1) := by decide +kernel
theorem dL_law_850 : decode cL_law 850 = .ok (.iaload, 1) := by decide +kernel
theorem dL_law_851 : decode cL_law 851 = .ok (.invokevirtual 107, 3) := by decide +kernel
theorem dL_law_854 : decode cL_law 854 = .ok (.aload_n 2, 1) := by decide +kernel
theorem dL_law_855 : decode cL_law 855 = .ok (.aload_n 0, 1) := by decide +kernel
theorem dL_law_856 : decode cL_law 856 = .ok (.iload_n 3, 1) := by decide +kernel
theorem dL_law_857 : decode cL_law 857 = .ok (.iconst 1, 1) := by decide +kernel
theorem dL_law_858 : decode cL_law 858 = .ok (.iadd, 1) := by decide +kernel
theorem dL_law_859 : decode cL_law 859 = .ok (.iaload, 1) := by decide +kernel
theorem dL_law_860 : decode cL_law 860 = .ok (.aload_n 0, 1) := by decide +kernel
theorem dL_law_861 : decode cL_law 861 = .ok (.iload_n 3, 1) := by decide +kernel
theorem dL_law_862 : decode cL_law 862 = .ok (.iconst 2, 1) := by decide +kernel
theorem dL_law_863 : decode cL_law 863 = .ok (.iadd, 1) := by decide +kernel
theorem dL_law_864 : decode cL_law 864 = .ok (.iaload, 1) := by decide +kernel
theorem dL_law_865 : decode cL_law 865 = .ok (.aload_n 0, 1) := by decide +kernel
theorem dL_law_866 : decode cL_law 866 = .ok (.iload_n 3, 1) := by decide +kernel
theorem dL_law_867 : decode cL_law 867 = .ok (.iconst 3, 1) := by decide +kernel
theorem dL_law_868 : decode cL_law 868 = .ok (.iadd, 1) := by decide +kernel
theorem dL_law_869 : decode cL_law 869 = .ok (.iaload, 1) := by decide +kernel
theorem dL_law_870 : decode cL_law 870 = .ok (.invokevirtual 111, 3) := by decide +kernel
theorem dL_law_873 : decode cL_law 873 = .ok (.lcmp, 1) := by decide +kernel
theorem dL_law_874 : decode cL_law 874 = .ok (.ifCond .eq 196, 3) := by decide +kernel
theorem dL_law_877 : decode cL_law 877 = .ok (.iconst 0, 1) := by decide +kernel
theorem dL_law_878 : decode cL_law 878 = .ok (.ireturn, 1) := by decide +kernel
theorem dL_law_879 : decode cL_law 879 = .ok (.aload_n 1, 1) := by decide +kernel
theorem dL_law_880 : decode cL_law 880 = .ok (.aload_n 0, 1) := by decide +kernel
theorem dL_law_881 : decode cL_law 881 = .ok (.iload_n 3, 1) := by decide +kernel
theorem dL_law_882 : decode cL_law 882 = .ok (.iconst 1, 1) := by decide +kernel
theorem dL_law_883 : decode cL_law 883 = .ok (.iadd, 1) := by decide +kernel
theorem dL_law_884 : decode cL_law 884 = .ok (.iaload, 1) := by decide +kernel
theorem dL_law_885 : decode cL_law 885 = .ok (.aload_n 0, 1) := by decide +kernel
theorem dL_law_886 : decode cL_law 886 = .ok (.iload_n 3, 1) := by decide +kernel
theorem dL_law_887 : decode cL_law 887 = .ok (.iconst 2, 1) := by decide +kernel
theorem dL_law_888 : decode cL_law 888 = .ok (.iadd, 1) := by decide +kernel
theorem dL_law_889 : decode cL_law 889 = .ok (.iaload, 1) := by decide +kernel
theorem dL_law_890 : decode cL_law 890 = .ok (.aload_n 0, 1) := by decide +kernel
theorem dL_law_891 : decode cL_law 891 = .ok (.iload_n 3, 1) := by decide +kernel
theorem dL_law_892 : decode cL_law 892 = .ok (.iconst 3, 1) := by decide +kernel
theorem dL_law_893 : decode cL_law 893 = .ok (.iadd, 1) := by decide +kernel
theorem dL_law_894 : decode cL_law 894 = .ok (.iaload, 1) := by decide +kernel
theorem dL_law_895 : decode cL_law 895 = .ok (.aload_n 0, 1) := by decide +kernel
theorem dL_law_896 : decode cL_law 896 = .ok (.iload_n 3, 1) := by decide +kernel
theorem dL_law_897 : decode cL_law 897 = .ok (.iconst 4, 1) := by decide +kernel
theorem dL_law_898 : decode cL_law 898 = .ok (.iadd, 1) := by decide +kernel
theorem dL_law_899 : decode cL_law 899 = .ok (.iaload, 1) := by decide +kernel
theorem dL_law_900 : decode cL_law 900 = .ok (.aload_n 0, 1) := by decide +kernel
theorem dL_law_901 : decode cL_law 901 = .ok (.iload_n 3, 1) := by decide +kernel
theorem dL_law_902 : decode cL_law 902 = .ok (.iconst 5, 1) := by decide +kernel
theorem dL_law_903 : decode cL_law 903 = .ok (.iadd, 1) := by decide +kernel
theorem dL_law_904 : decode cL_law 904 = .ok (.iaload, 1) := by decide +kernel
theorem dL_law_905 : decode cL_law 905 = .ok (.invokevirtual 112, 3) := by decide +kernel
theorem dL_law_908 : decode cL_law 908 = .ok (.aload_n 2, 1) := by decide +kernel
theorem dL_law_909 : decode cL_law 909 = .ok (.aload_n 0, 1) := by decide +kernel
theorem dL_law_910 : decode cL_law 910 = .ok (.iload_n 3, 1) := by decide +kernel
theorem dL_law_911 : decode cL_law 911 = .ok (.iconst 1, 1) := by decide +kernel
theorem dL_law_912 : decode cL_law 912 = .ok (.iadd, 1) := by decide +kernel
theorem dL_law_913 : decode cL_law 913 = .ok (.iaload, 1) := by decide +kernel
theorem dL_law_914 : decode cL_law 914 = .ok (.aload_n 0, 1) := by decide +kernel
theorem dL_law_915 : decode cL_law 915 = .ok (.iload_n 3, 1) := by decide +kernel
theorem dL_law_916 : decode cL_law 916 = .ok (.iconst 2, 1) := by decide +kernel
theorem dL_law_917 : decode cL_law 917 = .ok (.iadd, 1) := by decide +kernel
theorem dL_law_918 : decode cL_law 918 = .ok (.iaload, 1) := by decide +kernel
theorem dL_law_919 : decode cL_law 919 = .ok (.aload_n 0, 1) := by decide +kernel
theorem dL_law_920 : decode cL_law 920 = .ok (.iload_n 3, 1) := by decide +kernel
theorem dL_law_921 : decode cL_law 921 = .ok (.iconst 3, 1) := by decide +kernel
theorem dL_law_922 : decode cL_law 922 = .ok (.iadd, 1) := by decide +kernel
theorem dL_law_923 : decode cL_law 923 = .ok (.iaload, 1) := by decide +kernel
theorem dL_law_924 : decode cL_law 924 = .ok (.aload_n 0, 1) := by decide +kernel
theorem dL_law_925 : decode cL_law 925 = .ok (.iload_n 3, 1) := by decide +kernel
theorem dL_law_926 : decode cL_law 926 = .ok (.iconst 4, 1) := by decide +kernel
theorem dL_law_927 : decode cL_law 927 = .ok (.iadd, 1) := by decide +kernel
theorem dL_law_928 : decode cL_law 928 = .ok (.iaload, 1) := by decide +kernel
theorem dL_law_929 : decode cL_law 929 = .ok (.aload_n 0, 1) := by decide +kernel
theorem dL_law_930 : decode cL_law 930 = .ok (.iload_n 3, 1) := by decide +kernel
theorem dL_law_931 : decode cL_law 931 = .ok (.iconst 5, 1) := by decide +kernel
theorem dL_law_932 : decode cL_law 932 = .ok (.iadd, 1) := by decide +kernel
theorem dL_law_933 : decode cL_law 933 = .ok (.iaload, 1) := by decide +kernel
theorem dL_law_934 : decode cL_law 934 = .ok (.invokevirtual 115, 3) := by decide +kernel
theorem dL_law_937 : decode cL_law 937 = .ok (.if_icmp .eq 133, 3) := by decide +kernel
theorem dL_law_940 : decode cL_law 940 = .ok (.iconst 0, 1) := by decide +kernel
theorem dL_law_941 : decode cL_law 941 = .ok (.ireturn, 1) := by decide +kernel
theorem dL_law_942 : decode cL_law 942 = .ok (.aload_n 1, 1) := by decide +kernel
theorem dL_law_943 : decode cL_law 943 = .ok (.aload_n 0, 1) := by decide +kernel
theorem dL_law_944 : decode cL_law 944 = .ok (.iload_n 3, 1) := by decide +kernel
theorem dL_law_945 : decode cL_law 945 = .ok (.iconst 1, 1) := by decide +kernel
theorem dL_law_946 : decode cL_law 946 = .ok (.iadd, 1) := by decide +kernel
theorem dL_law_947 : decode cL_law 947 = .ok (.iaload, 1) := by decide +kernel
theorem dL_law_948 : decode cL_law 948 = .ok (.invokevirtual 116, 3) := by decide +kernel
theorem dL_law_951 : decode cL_law 951 = .ok (.aload_n 2, 1) := by decide +kernel
theorem dL_law_952 : decode cL_law 952 = .ok (.aload_n 0, 1) := by decide +kernel
theorem dL_law_953 : decode cL_law 953 = .ok (.iload_n 3, 1) := by decide +kernel
theorem dL_law_954 : decode cL_law 954 = .ok (.iconst 1, 1) := by decide +kernel
theorem dL_law_955 : decode cL_law 955 = .ok (.iadd, 1) := by decide +kernel
theorem dL_law_956 : decode cL_law 956 = .ok (.iaload, 1) := by decide +kernel
theorem dL_law_957 : decode cL_law 957 = .ok (.invokevirtual 119, 3) := by decide +kernel
theorem dL_law_960 : decode cL_law 960 = .ok (.if_icmp .eq 110, 3) := by decide +kernel
theorem dL_law_963 : decode cL_law 963 = .ok (.iconst 0, 1) := by decide +kernel
theorem dL_law_964 : decode cL_law 964 = .ok (.ireturn, 1) := by decide +kernel
theorem dL_law_965 : decode cL_law 965 = .ok (.aload_n 1, 1) := by decide +kernel
theorem dL_law_966 : decode cL_law 966 = .ok (.aload_n 0, 1) := by decide +kernel
theorem dL_law_967 : decode cL_law 967 = .ok (.iload_n 3, 1) := by decide +kernel
theorem dL_law_968 : decode cL_law 968 = .ok (.iconst 1, 1) := by decide +kernel
theorem dL_law_969 : decode cL_law 969 = .ok (.iadd, 1) := by decide +kernel
theorem dL_law_970 : decode cL_law 970 = .ok (.iaload, 1) := by decide +kernel
theorem dL_law_971 : decode cL_law 971 = .ok (.invokevirtual 120, 3) := by decide +kernel
theorem dL_law_974 : decode cL_law 974 = .ok (.aload_n 2, 1) := by decide +kernel
theorem dL_law_975 : decode cL_law 975 = .ok (.aload_n 0, 1) := by decide +kernel
theorem dL_law_976 : decode cL_law 976 = .ok (.iload_n 3, 1) := by decide +kernel
theorem dL_law_977 : decode cL_law 977 = .ok (.iconst 1, 1) := by decide +kernel
theorem dL_law_978 : decode cL_law 978 = .ok (.iadd, 1) := by decide +kernel
theorem dL_law_979 : decode cL_law 979 = .ok (.iaload, 1) := by decide +kernel
theorem dL_law_980 : decode cL_law 980 = .ok (.invokevirtual 123, 3) := by decide +kernel
theorem dL_law_983 : decode cL_law 983 = .ok (.if_icmp .eq 87, 3) := by decide +kernel
theorem dL_law_986 : decode cL_law 986 = .ok (.iconst 0, 1) := by decide +kernel
theorem dL_law_987 : decode cL_law 987 = .ok (.ireturn, 1) := by decide +kernel
theorem dL_law_988 : decode cL_law 988 = .ok (.aload_n 1, 1) := by decide +kernel
theorem dL_law_989 : decode cL_law 989 = .ok (.aload_n 0, 1) := by decide +kernel
theorem dL_law_990 : decode cL_law 990 = .ok (.iload_n 3, 1) := by decide +kernel
theorem dL_law_991 : decode cL_law 991 = .ok (.iconst 1, 1) := by decide +kernel
theorem dL_law_992 : decode cL_law 992 = .ok (.iadd, 1) := by decide +kernel
theorem dL_law_993 : decode cL_law 993 = .ok (.iaload, 1) := by decide +kernel
theorem dL_law_994 : decode cL_law 994 = .ok (.aload_n 0, 1) := by decide +kernel
theorem dL_law_995 : decode cL_law 995 = .ok (.iload_n 3, 1) := by decide +kernel
theorem dL_law_996 : decode cL_law 996 = .ok (.iconst 2, 1) := by decide +kernel
theorem dL_law_997 : decode cL_law 997 = .ok (.iadd, 1) := by decide +kernel
theorem dL_law_998 : decode cL_law 998 = .ok (.iaload, 1) := by decide +kernel
theorem dL_law_999 : decode cL_law 999 = .ok (.invokevirtual 124, 3) := by decide +kernel
theorem dL_law_1002 : decode cL_law 1002 = .ok (.aload_n 2, 1) := by decide +kernel
theorem dL_law_1003 : decode cL_law 1003 = .ok (.aload_n 0, 1) := by decide +kernel
theorem dL_law_1004 : decode cL_law 1004 = .ok (.iload_n 3, 1) := by decide +kernel
theorem dL_law_1005 : decode cL_law 1005 = .ok (.iconst 1, 1) := by decide +kernel
theorem dL_law_1006 : decode cL_law 1006 = .ok (.iadd, 1) := by decide +kernel
theorem dL_law_1007 : decode cL_law 1007 = .ok (.iaload, 1) := by decide +kernel
theorem dL_law_1008 : decode cL_law 1008 = .ok (.aload_n 0, 1) := by decide +kernel
theorem dL_law_1009 : decode cL_law 1009 = .ok (.iload_n 3, 1) := by decide +kernel
theorem dL_law_1010 : decode cL_law 1010 = .ok (.iconst 2, 1) := by decide +kernel
theorem dL_law_1011 : decode cL_law 1011 = .ok (.iadd, 1) := by decide +kernel
theorem dL_law_1012 : decode cL_law 1012 = .ok (.iaload, 1) := by decide +kernel
theorem dL_law_1013 : decode cL_law 1013 = .ok (.invokevirtual 127, 3) := by decide +kernel
theorem dL_law_1016 : decode cL_law 1016 = .ok (.if_icmp .eq 54, 3) := by decide +kernel
theorem dL_law_1019 : decode cL_law 1019 = .ok (.iconst 0, 1) := by decide +kernel
theorem dL_law_1020 : decode cL_law 1020 = .ok (.ireturn, 1) := by decide +kernel
theorem dL_law_1021 : decode cL_law 1021 = .ok (.aload_n 1, 1) := by decide +kernel
theorem dL_law_1022 : decode cL_law 1022 = .ok (.invokevirtual 128, 3) := by decide +kernel
theorem dL_law_1025 : decode cL_law 1025 = .ok (.aload_n 2, 1) := by decide +kernel
theorem dL_law_1026 : decode cL_law 1026 = .ok (.invokevirtual 132, 3) := by decide +kernel
theorem dL_law_1029 : decode cL_law 1029 = .ok (.if_icmp .eq 41, 3) := by decide +kernel
theorem dL_law_1032 : decode cL_law 1032 = .ok (.iconst 0, 1) := by decide +kernel
theorem dL_law_1033 : decode cL_law 1033 = .ok (.ireturn, 1) := by decide +kernel
theorem dL_law_1034 : decode cL_law 1034 = .ok (.aload_n 1, 1) := by decide +kernel
theorem dL_law_1035 : decode cL_law 1035 = .ok (.invokevirtual 133, 3) := by decide +kernel
theorem dL_law_1038 : decode cL_law 1038 = .ok (.aload_n 2, 1) := by decide +kernel
theorem dL_law_1039 : decode cL_law 1039 = .ok (.invokevirtual 136, 3) := by decide +kernel
theorem dL_law_1042 : decode cL_law 1042 = .ok (.if_icmp .eq 28, 3) := by decide +kernel
theorem dL_law_1045 : decode cL_law 1045 = .ok (.iconst 0, 1) := by decide +kernel
theorem dL_law_1046 : decode cL_law 1046 = .ok (.ireturn, 1) := by decide +kernel
theorem dL_law_1047 : decode cL_law 1047 = .ok (.aload_n 1, 1) := by decide +kernel
theorem dL_law_1048 : decode cL_law 1048 = .ok (.aload_n 0, 1) := by decide +kernel
theorem dL_law_1049 : decode cL_law 1049 = .ok (.iload_n 3, 1) := by decide +kernel
theorem dL_law_1050 : decode cL_law 1050 = .ok (.iconst 1, 1) := by decide +kernel
theorem dL_law_1051 : decode cL_law 1051 = .ok (.iadd, 1) := by decide +kernel
theorem dL_law_1052 : decode cL_law 1052 = .ok (.iaload, 1) := by decide +kernel
theorem dL_law_1053 : decode cL_law 1053 = .ok (.invokevirtual 137, 3) := by decide +kernel
theorem dL_law_1056 : decode cL_law 1056 = .ok (.aload_n 2, 1) := by decide +kernel
theorem dL_law_1057 : decode cL_law 1057 = .ok (.aload_n 0, 1) := by decide +kernel
theorem dL_law_1058 : decode cL_law 1058 = .ok (.iload_n 3, 1) := by decide +kernel
theorem dL_law_1059 : decode cL_law 1059 = .ok (.iconst 1, 1) := by decide +kernel
theorem dL_law_1060 : decode cL_law 1060 = .ok (.iadd, 1) := by decide +kernel
theorem dL_law_1061 : decode cL_law 1061 = .ok (.iaload, 1) := by decide +kernel
theorem dL_law_1062 : decode cL_law 1062 = .ok (.invokevirtual 140, 3) := by decide +kernel
theorem dL_law_1065 : decode cL_law 1065 = .ok (.if_icmp .eq 5, 3) := by decide +kernel
theorem dL_law_1068 : decode cL_law 1068 = .ok (.iconst 0, 1) := by decide +kernel
theorem dL_law_1069 : decode cL_law 1069 = .ok (.ireturn, 1) := by decide +kernel
theorem dL_law_1070 : decode cL_law 1070 = .ok (.iinc 3 6, 3) := by decide +kernel
theorem dL_law_1073 : decode cL_law 1073 = .ok (.goto (-1055), 3) := by decide +kernel
theorem dL_law_1076 : decode cL_law 1076 = .ok (.iconst 1, 1) := by decide +kernel
theorem dL_law_1077 : decode cL_law 1077 = .ok (.ireturn, 1) := by decide +kernel
end
section
/-! THE WORLD of this claim: 47 cells, whose shapes never change once they are made; what they hold is one function of cell and place. -/
abbrev kS : Type := Nat → Nat → Int32
abbrev kE : Type := (Nat → ClassId) × (Nat → Nat → Nat) × ClassId × ClassId × (Nat → Nat)
abbrev eD (E : kE) : va_G := (E.1, E.2.1)
abbrev eA (E : kE) : ClassId := E.2.2.1
abbrev eS (E : kE) : ClassId := E.2.2.2.1
abbrev ead (E : kE) : Nat → Nat := E.2.2.2.2
abbrev kTys (E : kE) : List (ClassId × FieldType) := [(eA E, .int), (eS E, .object "NosePost$Sheet")]
/-- the shape of a cell: an int array's length, or an object's class (by its place in vwCl) and fields (a reference by its cell) -/
def wsh : Nat → Nat ⊕ (Nat × List (Option Nat))
  | 0 => .inr (3, [some 1, some 6, some 11, some 20, some 21, some 22, some 23, some 24, some 25, none, none, none, none])
  | 1 => .inr (0, [none, none, none, some 2, some 3, some 4, some 5])
  | 2 => .inl 6
  | 3 => .inl 6
  | 4 => .inl 6
  | 5 => .inl 6
  | 6 => .inr (0, [none, none, none, some 7, some 8, some 9, some 10])
  | 7 => .inl 6
  | 8 => .inl 6
  | 9 => .inl 6
  | 10 => .inl 6
  | 11 => .inr (9, [])
  | 12 => .inr (1, [none, none, none, some 16])
  | 13 => .inr (1, [none, none, none, some 17])
  | 14 => .inr (1, [none, none, none, some 18])
  | 15 => .inr (1, [none, none, none, some 19])
  | 16 => .inl 60
  | 17 => .inl 60
  | 18 => .inl 60
  | 19 => .inl 60
  | 20 => .inr (2, [none, none, none, none])
  | 21 => .inl 8
  | 22 => .inl 8
  | 23 => .inl 6
  | 24 => .inl 6
  | 25 => .inl 6
  | 26 => .inr (4, [none, none, none, none, none, some 27, some 28, some 29, some 30, none, none, some 31, some 32, some 33, some 34, none, none, some 35, some 36, some 37, some 38, some 39, some 40, none, some 41, some 42, some 43, some 44, some 45, some 46, none])
  | 40 => .inl 64
  | 41 => .inl 8
  | 42 => .inl 8
  | 43 => .inl 4
  | 44 => .inl 4
  | 45 => .inl 240
  | 46 => .inl 60
  | _ => .inl 6
def kfs (E : kE) (ρ : kS) (q : Nat) : Nat → List (Option Nat) → List Value
  | _, [] => []
  | j, some r :: t => .ref (ead E r) :: kfs E ρ q (j + 1) t
  | j, none :: t => .int (ρ q j) :: kfs E ρ q (j + 1) t
def kce (E : kE) (ρ : kS) (q : Nat) : va_E := if q = 11 then .inl (eS E, 4, .inr (.inr (.inr (.inr (fun i => some (ead E (12 + i))))))) else match wsh q with
  | .inl n => .inl (eA E, n, .inl (ρ q))
  | .inr o => .inr (o.1, kfs E ρ q 0 o.2)
def kwd (E : kE) (ρ : kS) : va_W := (List.range 47).map (fun q => (ead E q, kce E ρ q))
def kup (ρ : kS) (q k : Nat) (x : Int32) : kS := fun q' j => if q' = q ∧ j = k then x else ρ q' j
def cmb (σ τ : kS) : kS := fun q => if q < 26 then σ q else τ (q - 26)
theorem cmb_lo {σ τ : kS} {q : Nat} (h : q < 26) : cmb σ τ q = σ q := by simp [cmb, h]
theorem cmb_hi {σ τ : kS} (q : Nat) : cmb σ τ (26 + q) = τ q := by
  have h : ¬ 26 + q < 26 := by omega
  simp [cmb, h, Nat.add_sub_cancel_left]
theorem kup_lo {σ τ : kS} {q k : Nat} {x : Int32} (h : q < 26) : kup (cmb σ τ) q k x = cmb (kup σ q k x) τ := by
  funext q' j
  by_cases hq : q' < 26
  · simp [kup, cmb, hq]
  · have hne : ¬ q' = q := by omega
    simp [kup, cmb, hq, hne]
theorem kup_hi {σ τ : kS} {q k : Nat} {x : Int32} : kup (cmb σ τ) (26 + q) k x = cmb σ (kup τ q k x) := by
  funext q' j
  by_cases hq : q' < 26
  · have hne : ¬ q' = 26 + q := by omega
    simp [kup, cmb, hq, hne]
  · have e : (q' = 26 + q) = (q' - 26 = q) := propext (by omega)
    simp [kup, cmb, hq, e]
/-- a row replaced whole -/
def krow (ρ : kS) (q : Nat) (f : Nat → Int32) : kS := fun q' => if q' = q then f else ρ q'
theorem krow_lo {σ τ : kS} {q : Nat} {f : Nat → Int32} (h : q < 26) : krow (cmb σ τ) q f = cmb (krow σ q f) τ := by
  funext q'
  by_cases hq : q' < 26
  · simp [krow, cmb, hq]
  · have hne : ¬ q' = q := by omega
    simp [krow, cmb, hq, hne]
theorem kwd_at (E : kE) (ρ : kS) {q : Nat} (h : q < 47) : (kwd E ρ)[q]? = some (ead E q, kce E ρ q) := by
  unfold kwd
  rw [List.getElem?_map, List.getElem?_range h]
  rfl
theorem kwd_inv {E : kE} {ρ : kS} {q : Nat} {x : Nat × va_E} (h : (kwd E ρ)[q]? = some x) : q < 47 ∧ x.1 = ead E q := by
  have hl : q < (kwd E ρ).length := (List.getElem?_eq_some_iff.mp h).1
  have hl' : q < 47 := by simpa [kwd] using hl
  rw [kwd_at E ρ hl'] at h
  cases h
  exact ⟨hl', rfl⟩
theorem kwd_set (E : kE) {ρ ρ' : kS} {q : Nat} {x : va_E} (hq : q < 47) (hx : x = kce E ρ' q) (h : ∀ p, p ≠ q → ρ' p = ρ p) : (kwd E ρ).set q (ead E q, x) = kwd E ρ' := by
  subst hx
  apply List.ext_getElem?
  intro i
  by_cases hi : i < 47
  · by_cases hiq : i = q
    · subst hiq
      rw [List.getElem?_set_self (by simpa [kwd] using hi), kwd_at E ρ' hi]
    · rw [List.getElem?_set_ne (Ne.symm hiq), kwd_at E ρ hi, kwd_at E ρ' hi]
      have hk : kfs E ρ i = kfs E ρ' i := by
        funext j fs
        induction fs generalizing j with
        | nil => rfl
        | cons a t ih => cases a <;> simp [kfs, ih, h i hiq]
      simp only [kce, h i hiq, hk]
  · have h1 : ((kwd E ρ).set q (ead E q, kce E ρ' q))[i]? = none := by
      rw [List.getElem?_eq_none_iff]; simp [kwd]; omega
    have h2 : (kwd E ρ')[i]? = none := by
      rw [List.getElem?_eq_none_iff]; simp [kwd]; omega
    rw [h1, h2]
theorem kce_arr {E : kE} {ρ : kS} {q n : Nat} (h : wsh q = .inl n) : kce E ρ q = .inl (eA E, n, .inl (ρ q)) := by
  have hq : ¬ q = 11 := fun e => by subst e; cases h
  simp [kce, hq, h]
theorem kce_obj {E : kE} {ρ : kS} {q ci : Nat} {fs : List (Option Nat)} (h : wsh q = .inr (ci, fs)) (hc : ci ≠ 9) : kce E ρ q = .inr (ci, kfs E ρ q 0 fs) := by
  have hq : ¬ q = 11 := fun e => by subst e; cases h; exact hc rfl
  simp [kce, hq, h]
theorem kfs_int {E : kE} {ρ : kS} {q : Nat} : ∀ (fs : List (Option Nat)) (j k : Nat), fs[k]? = some none → (kfs E ρ q j fs)[k]? = some (.int (ρ q (j + k)))
  | [], _, _, h => by simp at h
  | some r :: t, j, 0, h => by simp at h
  | none :: t, j, 0, h => by simp [kfs]
  | some r :: t, j, k + 1, h => by
    have := kfs_int (E := E) (ρ := ρ) (q := q) t (j + 1) k (by simpa using h)
    simp only [kfs, List.getElem?_cons_succ, this]
    congr 3; omega
  | none :: t, j, k + 1, h => by
    have := kfs_int (E := E) (ρ := ρ) (q := q) t (j + 1) k (by simpa using h)
    simp only [kfs, List.getElem?_cons_succ, this]
    congr 3; omega
theorem kfs_ref {E : kE} {ρ : kS} {q r : Nat} : ∀ (fs : List (Option Nat)) (j k : Nat), fs[k]? = some (some r) → (kfs E ρ q j fs)[k]? = some (.ref (ead E r))
  | [], _, _, h => by simp at h
  | some r' :: t, j, 0, h => by simp at h; simp [kfs, h]
  | none :: t, j, 0, h => by simp at h
  | some r' :: t, j, k + 1, h => by
    have := kfs_ref (E := E) (ρ := ρ) (q := q) t (j + 1) k (by simpa using h)
    simp only [kfs, List.getElem?_cons_succ, this]
  | none :: t, j, k + 1, h => by
    have := kfs_ref (E := E) (ρ := ρ) (q := q) t (j + 1) k (by simpa using h)
    simp only [kfs, List.getElem?_cons_succ, this]
theorem kfs_len {E : kE} {ρ : kS} {q : Nat} : ∀ (fs : List (Option Nat)) (j : Nat), (kfs E ρ q j fs).length = fs.length
  | [], _ => rfl
  | some _ :: t, j => by simp [kfs, kfs_len t]
  | none :: t, j => by simp [kfs, kfs_len t]
theorem kfs_set {E : kE} {ρ : kS} {q : Nat} {x : Int32} : ∀ (fs : List (Option Nat)) (j k : Nat), fs[k]? = some none → (kfs E ρ q j fs).set k (.int x) = kfs E (kup ρ q (j + k) x) q j fs
  | [], _, _, h => by simp at h
  | some r :: t, j, 0, h => by simp at h
  | none :: t, j, 0, h => by
    have e : ∀ (fs : List (Option Nat)) (i : Nat), j < i → kfs E (kup ρ q j x) q i fs = kfs E ρ q i fs := by
      intro fs
      induction fs with
      | nil => intro i _; rfl
      | cons a t ih =>
        intro i hi
        have hne : ¬ i = j := by omega
        cases a <;> simp [kfs, ih (i + 1) (by omega), kup, hne]
    simp [kfs, e t (j + 1) (by omega), kup]
  | some r :: t, j, k + 1, h => by
    have := kfs_set (E := E) (ρ := ρ) (q := q) (x := x) t (j + 1) k (by simpa using h)
    have e : j + 1 + k = j + (k + 1) := by omega
    rw [e] at this
    simp only [kfs, List.set_cons_succ, this]
  | none :: t, j, k + 1, h => by
    have := kfs_set (E := E) (ρ := ρ) (q := q) (x := x) t (j + 1) k (by simpa using h)
    have e : j + 1 + k = j + (k + 1) := by omega
    rw [e] at this
    have hne : ¬ j = j + (k + 1) := by omega
    simp [kfs, this, kup, hne]
theorem kup_ne {ρ : kS} {q k p : Nat} {x : Int32} (h : p ≠ q) : kup ρ q k x p = ρ p := by
  funext j; simp [kup, h]
theorem kup_upd {ρ : kS} {q k : Nat} {x : Int32} : kup ρ q k x q = upd (ρ q) k x := by
  funext j; simp [kup, upd]
theorem krow_ne {ρ : kS} {q p : Nat} {f : Nat → Int32} (h : p ≠ q) : krow ρ q f p = ρ p := by simp [krow, h]
theorem krow_self {ρ : kS} {q : Nat} {f : Nat → Int32} : krow ρ q f q = f := by simp [krow]
-- shapes by name
abbrev xA (q n : Nat) : Prop := wsh q = .inl n ∧ q < 26
abbrev isM (q : Nat) : Prop := wsh q = .inr (0, [none, none, none, some (q + 1), some (q + 2), some (q + 3), some (q + 4)]) ∧ q < 26 ∧ xA (q + 1) 6 ∧ xA (q + 2) 6 ∧ xA (q + 3) 6 ∧ xA (q + 4) 6
abbrev isSh (q : Nat) : Prop := wsh q = .inr (1, [none, none, none, some (q + 4)]) ∧ q < 26 ∧ xA (q + 4) 60
theorem isM_1 : isM 1 := by decide +kernel
theorem isM_6 : isM 6 := by decide +kernel
theorem isSh_k : ∀ k, k < 4 → isSh (12 + k) := by decide +kernel
-- the words of the tables
theorem kgw {w : Cond} (h : w ∈ kBIG) : (w.onTables && w.keeps) = true ∨ ∃ ty, w = .arrayClass ty := good_of_word (kBIG_good h)
def wk (y : MethodName) (b : ByteArray) (n : Nat) (ret : Option FieldType) : List Cond := .code y b n ret :: kBIG
def rml (k : Nat) : Room := { frames := k, cells := 0, slots := 0, locals := 30 * k }
theorem kg_wk {y : MethodName} {b : ByteArray} {n : Nat} {ret : Option FieldType} (h : Cond.code y b n ret ∈ kBIG) : GoodIn kBIG (wk y b n ret) := fun w hw => by
  rcases List.mem_cons.mp hw with rfl | hw
  · exact ⟨h, kgw h⟩
  · exact ⟨hw, kgw hw⟩
theorem kg_V {own C : String} {i n : Nat} {y : MethodName} {b : ByteArray} {ret : Option FieldType} (h1 : Cond.methodLink own i y ∈ kBIG) (h2 : Cond.instanceMethod y ∈ kBIG) (h3 : Cond.selects C y y ∈ kBIG) (h4 : Cond.initialized C ∈ kBIG) (h5 : Cond.code y b n ret ∈ kBIG) : GoodIn kBIG (wsV own i C y (wk y b n ret)) := fun w hw => by
  rcases List.mem_append.mp hw with hw | hw
  · simp only [List.mem_cons, List.not_mem_nil, or_false] at hw
    rcases hw with rfl | rfl | rfl | rfl
    · exact ⟨h1, kgw h1⟩
    · exact ⟨h2, kgw h2⟩
    · exact ⟨h3, kgw h3⟩
    · exact ⟨h4, kgw h4⟩
  · exact kg_wk h5 w hw
theorem kg_S {own : String} {i n : Nat} {y : MethodName} {b : ByteArray} {ret : Option FieldType} (h1 : Cond.methodLink own i y ∈ kBIG) (h2 : Cond.static y ∈ kBIG) (h4 : Cond.initialized y.cls ∈ kBIG) (h5 : Cond.code y b n ret ∈ kBIG) : GoodIn kBIG (va_wsS own i y (wk y b n ret)) := fun w hw => by
  rcases List.mem_append.mp hw with hw | hw
  · simp only [List.mem_cons, List.not_mem_nil, or_false] at hw
    rcases hw with rfl | rfl | rfl
    · exact ⟨h1, kgw h1⟩
    · exact ⟨h2, kgw h2⟩
    · exact ⟨h4, kgw h4⟩
  · exact kg_wk h5 w hw
-- the world at a state, and in the middle of a method
def kInj (E : kE) : Prop := ∀ i j, i < 47 → j < 47 → ead E i = ead E j → i = j
def kNw (U : State) : Prop := va_Nw (.methodLinkNest "NosePost$Moor" 60 yX4_withOne "NosePost") U ∧ va_Nw (.methodLinkNest "NosePost$Tally" 24 yX4_withOne "NosePost") U ∧ va_Nw (.methodLinkNest "NosePost$Text" 18 yX4_isBelow "NosePost") U
theorem kNw.warm {s U : State} (hW : s.WarmedH U.vm) (h : kNw s) : kNw U := ⟨h.1.warmM hW, h.2.1.warmM hW, h.2.2.warmM hW⟩
theorem kNw.same {s U : State} (hW : s.vm = U.vm) (h : kNw s) : kNw U := ⟨h.1.same rfl hW, h.2.1.same rfl hW, h.2.2.same rfl hW⟩
def kA (E : kE) (sz : Nat) : Nat → Prop := fun a => (∃ k, k < 47 ∧ a = ead E k) ∨ sz ≤ a
def kWo (E : kE) (ρ : kS) (U : State) : Prop := va_P (eD E) vwCl (kwd E ρ) U.heap ∧ va_K (eD E) vwCl (kTys E) U ∧ kInj E ∧ kNw U
def kWS (E : kE) (s : State) (ρ : kS) (H : Heap) (locs : List Loc) : Prop := va_P (eD E) vwCl (kwd E ρ) H ∧ va_K (eD E) vwCl (kTys E) s ∧ kInj E ∧ va_S (kA E s.heap.size) s.heap H locs ∧ kNw s
theorem kD {E : kE} (h : kInj E) (sz : Nat) (ρ : kS) : va_D (kA E sz) (kwd E ρ) := by
  refine ⟨fun i j p q hi hj hpq => ?_, fun k q hk => ?_⟩
  · obtain ⟨h1, e1⟩ := kwd_inv hi
    obtain ⟨h2, e2⟩ := kwd_inv hj
    exact h i j h1 h2 (by rw [← e1, ← e2]; exact hpq)
  · obtain ⟨h1, e1⟩ := kwd_inv hk
    exact Or.inl ⟨k, h1, e1⟩
theorem kA_le {E : kE} {a b : Nat} (h : a ≤ b) : ∀ q, kA E b q → kA E a q := fun q hq => hq.elim Or.inl (fun hq => Or.inr (Nat.le_trans h hq))
def kpost (ret : Option FieldType) (r x : Int32) : Prop := x = r ∧ (ret = some .boolean → x = 0 ∨ x = 1)
def kMetI (l : Launch) (y : MethodName) (b : ByteArray) (n : Nat) (ret : Option FieldType) (lv : Nat) (E : kE) (As : List Value) (ρ : kS) (r : Int32) (ρ' : kS) : Prop :=
  ∀ sz : Nat, Met l y (wk y b n ret) (rml lv) (va_Pc As (fun U => U.heap.size = sz ∧ kWo E ρ U)) (va_Qi (fun x (_ : Unit) => kpost ret r x) (fun _ t => kWo E ρ' t) (kA E sz)) 0 0 (kA E sz)
def kMetL (l : Launch) (y : MethodName) (b : ByteArray) (n : Nat) (lv : Nat) (E : kE) (As : List Value) (ρ : kS) (r : Int64) (ρ' : kS) : Prop :=
  ∀ sz : Nat, Met l y (wk y b n (some .long)) (rml lv) (va_Pc As (fun U => U.heap.size = sz ∧ kWo E ρ U)) (va_Ql (fun x (_ : Unit) => x = r) (fun _ t => kWo E ρ' t) (kA E sz)) 0 0 (kA E sz)
def kMetV (l : Launch) (y : MethodName) (b : ByteArray) (n : Nat) (lv : Nat) (E : kE) (As : List Value) (ρ : kS) (ρ' : kS) : Prop :=
  ∀ sz : Nat, Met l y (wk y b n none) (rml lv) (va_Pc As (fun U => U.heap.size = sz ∧ kWo E ρ U)) (va_Qv (fun (_ : Unit) => True) (fun _ t => kWo E ρ' t) (kA E sz)) 0 0 (kA E sz)
def kRetI (p : Program) (l : Launch) (e : Env) (R : Room) (s : State) (m : MethodId) (args : Array Value) (below : List Frame) (meth : Method) (c : Code) (cc : ByteArray) (E : kE) (Q : State → Prop) (ret : Option FieldType) (r : Int32) (ρ' : kS) : Prop :=
  ∀ (pc : Nat) (ls : Array Slot) (H : Heap) (locs : List Loc), decode cc pc = .ok (.ireturn, 1) → kWS E s ρ' H locs → (ret = some .boolean → r = 0 ∨ r = 1) → W p l e R s m args below meth c H locs 0 0 Q (F0 m pc ls [.int r])
def kRetL (p : Program) (l : Launch) (e : Env) (R : Room) (s : State) (m : MethodId) (args : Array Value) (below : List Frame) (meth : Method) (c : Code) (cc : ByteArray) (E : kE) (Q : State → Prop) (r : Int64) (ρ' : kS) : Prop :=
  ∀ (pc : Nat) (ls : Array Slot) (H : Heap) (locs : List Loc), decode cc pc = .ok (.lreturn, 1) → kWS E s ρ' H locs → W p l e R s m args below meth c H locs 0 0 Q (F0 m pc ls [.long r])
def kRetV (p : Program) (l : Launch) (e : Env) (R : Room) (s : State) (m : MethodId) (args : Array Value) (below : List Frame) (meth : Method) (c : Code) (cc : ByteArray) (E : kE) (Q : State → Prop) (ρ' : kS) : Prop :=
  ∀ (pc : Nat) (ls : Array Slot) (H : Heap) (locs : List Loc), decode cc pc = .ok (.return_, 1) → kWS E s ρ' H locs → W p l e R s m args below meth c H locs 0 0 Q (F0 m pc ls [])
theorem kEntry {E : kE} {ρ : kS} {s : State} (h : kWo E ρ s) : kWS E s ρ s.heap [] := ⟨h.1, h.2.1, h.2.2.1, va_S.rf, h.2.2.2⟩
set_option maxHeartbeats 4000000 in
theorem kMetI.of {l : Launch} {y : MethodName} {b : ByteArray} {n : Nat} {ret : Option FieldType} {lv : Nat} {E : kE} {As : List Value} {ρ : kS} {r : Int32} {ρ' : kS} (hy : plainName y.cls = true) (hn : (lg_sl As).length ≤ n) (hret : ret = some .int ∨ ret = some .boolean)
    (body : ∀ (p : Program) (e : Env) (s : State) (m : MethodId) (args : Array Value) (below : List Frame) (meth : Method) (c : Code) (Q : State → Prop) (ls : Array Slot), CallFix p m c b n s args kBIG y.cls → kRetI p l e (rml lv) s m args below meth c b E Q ret r ρ' → kWS E s ρ s.heap [] → lv_has ls n (lv_args 0 As) → W p l e (rml lv) s m args below meth c s.heap [] 0 0 Q (F0 m 0 ls [])) : kMetI l y b n ret lv E As ρ r ρ' := by
  intro sz
  refine Met.ofW (cc := b) (maxL := n) (ret := ret) hy rfl ?_
  intro p e s m args below meth c s₁ B hml hv
  obtain ⟨rfl, hsz, hW⟩ := hv
  subst hsz
  have hts : ∀ w ∈ wk y b n ret, w.before As.toArray s = true := atoms_spec (ws := wk y b n ret) B.pre
  have hr := B.returns
  have hlocks := B.notSynchronized
  rw [lg_entry_eq]
  refine body p e s m As.toArray below meth c _ _ ⟨B.exec, B.bytes, hml, findClass_of_methodNamed B.named, fun w h => hts w (List.mem_cons_of_mem _ h)⟩ ?_ (kEntry hW) (lv_entry As hn)
  intro pc ls H locs hdg hw hz
  obtain ⟨hP, hK, hI, hS, hN⟩ := hw
  have hn2 : ∀ ty, ret = some ty → narrow ty (.int r) = .int r := by
    intro ty hty
    rcases hret with h | h
    · rw [h] at hty; cases hty; rfl
    · rcases hz h with rfl | rfl <;> (rw [h] at hty; cases hty; rfl)
  obtain ⟨ty, hty⟩ : ∃ ty, ret = some ty := by rcases hret with h | h <;> exact ⟨_, h⟩
  refine W.zret (ty := ty) B.exec B.bytes (by rw [hr, hty]) (hn2 ty hty) (fun t ht hWm => ⟨⟨r, (), rfl, ⟨rfl, hz⟩, ?_⟩, hS.F ht⟩) hS.2.2 hdg
  exact ⟨by rw [ht]; exact hP, va_K.moved hWm.alike hK, hI, hN.warm hWm⟩
set_option maxHeartbeats 4000000 in
theorem kMetL.of {l : Launch} {y : MethodName} {b : ByteArray} {n : Nat} {lv : Nat} {E : kE} {As : List Value} {ρ : kS} {r : Int64} {ρ' : kS} (hy : plainName y.cls = true) (hn : (lg_sl As).length ≤ n)
    (body : ∀ (p : Program) (e : Env) (s : State) (m : MethodId) (args : Array Value) (below : List Frame) (meth : Method) (c : Code) (Q : State → Prop) (ls : Array Slot), CallFix p m c b n s args kBIG y.cls → kRetL p l e (rml lv) s m args below meth c b E Q r ρ' → kWS E s ρ s.heap [] → lv_has ls n (lv_args 0 As) → W p l e (rml lv) s m args below meth c s.heap [] 0 0 Q (F0 m 0 ls [])) : kMetL l y b n lv E As ρ r ρ' := by
  intro sz
  refine Met.ofW (cc := b) (maxL := n) (ret := some .long) hy rfl ?_
  intro p e s m args below meth c s₁ B hml hv
  obtain ⟨rfl, hsz, hW⟩ := hv
  subst hsz
  have hts : ∀ w ∈ wk y b n (some .long), w.before As.toArray s = true := atoms_spec (ws := wk y b n (some .long)) B.pre
  have hr := B.returns
  have hlocks := B.notSynchronized
  rw [lg_entry_eq]
  refine body p e s m As.toArray below meth c _ _ ⟨B.exec, B.bytes, hml, findClass_of_methodNamed B.named, fun w h => hts w (List.mem_cons_of_mem _ h)⟩ ?_ (kEntry hW) (lv_entry As hn)
  intro pc ls H locs hdg hw
  obtain ⟨hP, hK, hI, hS, hN⟩ := hw
  refine W.lret B.exec B.bytes hr (fun t ht hWm => ⟨⟨r, (), rfl, rfl, ?_⟩, hS.F ht⟩) hS.2.2 hdg
  exact ⟨by rw [ht]; exact hP, va_K.moved hWm.alike hK, hI, hN.warm hWm⟩
set_option maxHeartbeats 4000000 in
theorem kMetV.of {l : Launch} {y : MethodName} {b : ByteArray} {n : Nat} {lv : Nat} {E : kE} {As : List Value} {ρ : kS} {ρ' : kS} (hy : plainName y.cls = true) (hn : (lg_sl As).length ≤ n)
    (body : ∀ (p : Program) (e : Env) (s : State) (m : MethodId) (args : Array Value) (below : List Frame) (meth : Method) (c : Code) (Q : State → Prop) (ls : Array Slot), CallFix p m c b n s args kBIG y.cls → kRetV p l e (rml lv) s m args below meth c b E Q ρ' → kWS E s ρ s.heap [] → lv_has ls n (lv_args 0 As) → W p l e (rml lv) s m args below meth c s.heap [] 0 0 Q (F0 m 0 ls [])) : kMetV l y b n lv E As ρ ρ' := by
  intro sz
  refine Met.ofW (cc := b) (maxL := n) (ret := none) hy rfl ?_
  intro p e s m args below meth c s₁ B hml hv
  obtain ⟨rfl, hsz, hW⟩ := hv
  subst hsz
  have hts : ∀ w ∈ wk y b n none, w.before As.toArray s = true := atoms_spec (ws := wk y b n none) B.pre
  have hr := B.returns
  have hlocks := B.notSynchronized
  rw [lg_entry_eq]
  refine body p e s m As.toArray below meth c _ _ ⟨B.exec, B.bytes, hml, findClass_of_methodNamed B.named, fun w h => hts w (List.mem_cons_of_mem _ h)⟩ ?_ (kEntry hW) (lv_entry As hn)
  intro pc ls H locs hdg hw
  obtain ⟨hP, hK, hI, hS, hN⟩ := hw
  refine W.vret B.exec B.bytes hr (fun t ht hWm => ⟨⟨(), rfl, trivial, ?_⟩, hS.F ht⟩) hS.2.2 hdg
  exact ⟨by rw [ht]; exact hP, va_K.moved hWm.alike hK, hI, hN.warm hWm⟩
end
section
/-! ROWS over the world: each turns W at an instruction into W at the next. -/
section KR
variable {p : Program} {l : Launch} {e : Env} {R : Room} {s : State} {m : MethodId} {args : Array Value} {below : List Frame} {meth : Method} {c : Code} {H : Heap} {locs : List Loc} {cells slots : Nat} {Q : State → Prop}
variable {cc : ByteArray} {pc : Nat} {ls : Array Slot} {rest : List Value} {E : kE} {σ τ ρ : kS} {nL : Nat} {own : String}
theorem kr_geti {index : Nat} (S : CallFix p m c cc nL s args kBIG own) (hw : kWS E s ρ H locs) {q ci : Nat} {fs : List (Option Nat)} (hq : wsh q = .inr (ci, fs)) (hN : q < 47) {C : String} {T : u_T} {N : Nat} (hc : vwCl[ci]? = some (C, T, N)) (hin : ∀ w ∈ u_ws C T N, w ∈ kBIG) (k : Nat) (hk : k < N) (hl : Cond.fieldLink own index (T k).1 (T k).2.1 (T k).2.2.1 ∈ kBIG) (hf : fs[k]? = some none) (hdg : decode cc pc = .ok (.getfield index, 3))
    (kk : W p l e R s m args below meth c H locs cells slots Q (F0 m (pc + 3) ls (.int (ρ q k) :: rest))) : W p l e R s m args below meth c H locs cells slots Q (F0 m pc ls (.ref (ead E q) :: rest)) := by
  have hci : ci ≠ 9 := fun h => by subst h; cases hc
  have h1 := kwd_at E ρ hN
  rw [kce_obj hq hci] at h1
  have h2 := kfs_int (E := E) (ρ := ρ) (q := q) fs 0 k hf
  rw [Nat.zero_add] at h2
  exact va_get S.1 S.2.1 S.2.2.2.2 hin S.2.2.2.1 hw.2.1 hw.1 q h1 hc k hk (S.2.2.2.2 _ hl) (fun _ h => h) h2 hdg kk
theorem kr_getr {index : Nat} (S : CallFix p m c cc nL s args kBIG own) (hw : kWS E s ρ H locs) {q ci r : Nat} {fs : List (Option Nat)} (hq : wsh q = .inr (ci, fs)) (hN : q < 47) {C : String} {T : u_T} {N : Nat} (hc : vwCl[ci]? = some (C, T, N)) (hin : ∀ w ∈ u_ws C T N, w ∈ kBIG) (k : Nat) (hk : k < N) (hl : Cond.fieldLink own index (T k).1 (T k).2.1 (T k).2.2.1 ∈ kBIG) (hf : fs[k]? = some (some r)) (hdg : decode cc pc = .ok (.getfield index, 3))
    (kk : W p l e R s m args below meth c H locs cells slots Q (F0 m (pc + 3) ls (.ref (ead E r) :: rest))) : W p l e R s m args below meth c H locs cells slots Q (F0 m pc ls (.ref (ead E q) :: rest)) := by
  have hci : ci ≠ 9 := fun h => by subst h; cases hc
  have h1 := kwd_at E ρ hN
  rw [kce_obj hq hci] at h1
  have h2 := kfs_ref (E := E) (ρ := ρ) (q := q) fs 0 k hf
  exact va_get S.1 S.2.1 S.2.2.2.2 hin S.2.2.2.1 hw.2.1 hw.1 q h1 hc k hk (S.2.2.2.2 _ hl) (fun _ h => h) h2 hdg kk
theorem kr_puti {index : Nat} (S : CallFix p m c cc nL s args kBIG own) (hw : kWS E s ρ H locs) {q ci : Nat} {fs : List (Option Nat)} (hq : wsh q = .inr (ci, fs)) (hN : q < 47) {C : String} {T : u_T} {N : Nat} (hc : vwCl[ci]? = some (C, T, N)) (hin : ∀ w ∈ u_ws C T N, w ∈ kBIG) (ty0 : Nat → FieldType) (hty : ∀ k, k < N → parseFieldDescriptor (T k).2.2.1 = some (ty0 k)) (hnm : ∀ a, a < N → ∀ b, b < N → a ≠ b → (T a).2.1 ≠ (T b).2.1) (k : Nat) (hk : k < N) (hl : Cond.fieldLink own index (T k).1 (T k).2.1 (T k).2.2.1 ∈ kBIG) (hf : fs[k]? = some none) (hfin : (T k).2.2.2 = false) {ty : FieldType} {x : Int32} (hd : parseFieldDescriptor (T k).2.2.1 = some ty) (hn : narrow ty (.int x) = .int x) (hfit : fits ty (.int x) = true) (hdg : decode cc pc = .ok (.putfield index, 3))
    (kk : ∀ (H1 : Heap) (locs1 : List Loc), kWS E s (kup ρ q k x) H1 locs1 → W p l e R s m args below meth c H1 locs1 cells slots Q (F0 m (pc + 3) ls rest)) : W p l e R s m args below meth c H locs cells slots Q (F0 m pc ls (.int x :: .ref (ead E q) :: rest)) := by
  have hci : ci ≠ 9 := fun h => by subst h; cases hc
  have h1 := kwd_at E ρ hN
  rw [kce_obj hq hci] at h1
  have hkf : k < (kfs E ρ q 0 fs).length := by rw [kfs_len]; exact (List.getElem?_eq_some_iff.mp hf).1
  refine va_put (D := eD E) (A := kA E s.heap.size) (v := .int x) (ty := ty) S.1 S.2.1 S.2.2.2.2 hin ty0 hty hnm S.2.2.2.1 hw.2.1 hw.1 (kD hw.2.2.1 _ _) hw.2.2.2.1 q h1 hc k hk (S.2.2.2.2 _ hl) (fun _ h => h) hfin hd hn hfit hkf hdg (fun H1 locs1 hP _ hS => ?_)
  refine kk H1 locs1 ⟨?_, hw.2.1, hw.2.2.1, hS, hw.2.2.2.2⟩
  have e := kfs_set (E := E) (ρ := ρ) (q := q) (x := x) fs 0 k hf
  rw [Nat.zero_add] at e
  rw [e, kwd_set E (ρ' := kup ρ q k x) hN (by rw [kce_obj hq hci]) (fun p' hp => kup_ne hp)] at hP
  exact hP
theorem kr_iald (S : CallFix p m c cc nL s args kBIG own) (hw : kWS E s ρ H locs) {q n : Nat} (hq : wsh q = .inl n) (hN : q < 47) {i : Int32} (hi : vp_in i n) (hdg : decode cc pc = .ok (.iaload, 1))
    (kk : W p l e R s m args below meth c H locs cells slots Q (F0 m (pc + 1) ls (.int (ρ q i.toNatClampNeg) :: rest))) : W p l e R s m args below meth c H locs cells slots Q (F0 m pc ls (.int i :: .ref (ead E q) :: rest)) := by
  have h1 := kwd_at E ρ hN
  rw [kce_arr hq] at h1
  exact va_iald S.1 S.2.1 hw.2.1 hw.1 q 0 h1 rfl hi hdg kk
theorem kr_iast (S : CallFix p m c cc nL s args kBIG own) (hw : kWS E s ρ H locs) {q n : Nat} (hq : wsh q = .inl n) (hN : q < 47) {i x : Int32} (hi : vp_in i n) (hdg : decode cc pc = .ok (.iastore, 1))
    (kk : ∀ (H1 : Heap) (locs1 : List Loc), kWS E s (kup ρ q i.toNatClampNeg x) H1 locs1 → W p l e R s m args below meth c H1 locs1 cells slots Q (F0 m (pc + 1) ls rest)) : W p l e R s m args below meth c H locs cells slots Q (F0 m pc ls (.int x :: .int i :: .ref (ead E q) :: rest)) := by
  have h1 := kwd_at E ρ hN
  rw [kce_arr hq] at h1
  refine va_iast (A := kA E s.heap.size) S.1 S.2.1 hw.2.1 hw.1 (kD hw.2.2.1 _ _) hw.2.2.2.1 q 0 h1 rfl hi hdg (fun H1 locs1 hP _ hS => ?_)
  refine kk H1 locs1 ⟨?_, hw.2.1, hw.2.2.1, hS, hw.2.2.2.2⟩
  rw [kwd_set E (ρ' := kup ρ q i.toNatClampNeg x) hN (by rw [kce_arr hq, kup_upd]) (fun p' hp => kup_ne hp)] at hP
  exact hP
theorem kr_aald (S : CallFix p m c cc nL s args kBIG own) (hw : kWS E s ρ H locs) {i : Int32} (hi : vp_in i 4) (hdg : decode cc pc = .ok (.aaload, 1))
    (kk : W p l e R s m args below meth c H locs cells slots Q (F0 m (pc + 1) ls (.ref (ead E (12 + i.toNatClampNeg)) :: rest))) : W p l e R s m args below meth c H locs cells slots Q (F0 m pc ls (.int i :: .ref (ead E 11) :: rest)) := by
  have h1 : (kwd E ρ)[11]? = some (ead E 11, .inl (eS E, 4, .inr (.inr (.inr (.inr (fun i => some (ead E (12 + i)))))))) := kwd_at E ρ (by decide)
  exact va_aldq S.1 S.2.1 hw.2.1 hw.1 11 1 h1 rfl hi hdg kk
-- calls
theorem kr_pre {As : List Value} (hw : kWS E s ρ H locs) : FrameBlind (va_Pc As (fun U => U.heap.size = H.size ∧ kWo E ρ U)) ∧ ∀ U : State, U.heap = H → s.WarmedH U.vm → va_Pc As (fun U => U.heap.size = H.size ∧ kWo E ρ U) As.toArray U := by
  refine ⟨fun a U g mk q => ?_, fun U hU hW => ⟨rfl, by rw [hU], by rw [hU]; exact hw.1, va_K.moved hW.alike hw.2.1, hw.2.2.1, hw.2.2.2.2.warm hW⟩⟩
  obtain ⟨h1, h2, h3, h4, h5, h6⟩ := q
  exact ⟨h1, h2, h3, va_K.moved (u := U) (U := U.calling g mk a) (Vm.Alike.refl U.vm) h4, h5, kNw.same rfl h6⟩
theorem kr_post {t : State} {H1 : Heap} {locs1 : List Loc} {ρ' : kS} (hw : kWS E s ρ H locs) (ht : t.heap = H1) (hvm : s.vm.Alike t.vm) (hB : kWo E ρ' t) (hS : va_S (kA E s.heap.size) s.heap H1 locs1) : kWS E s ρ' H1 locs1 :=
  ⟨by rw [← ht]; exact hB.1, va_K.moved hvm.symm hB.2.1, hw.2.2.1, hS, hw.2.2.2.2⟩
theorem kr_calli {mc : Nat} {y : MethodName} {b : ByteArray} {n lv : Nat} {ret : Option FieldType} {As : List Value} {r : Int32} {ρ' : kS} {a : Array Value} {st0 : List Value} (hw : kWS E s ρ H locs)
    (hr : va_Run p l e R s m args below meth c H locs cells slots 0 0 (F0 m pc ls st0) rest (va_Qi (fun x (_ : Unit) => kpost ret r x) (fun _ t => kWo E ρ' t) (kA E H.size) a) (kA E H.size))
    (kk : ∀ (H1 : Heap) (locs1 : List Loc), kWS E s ρ' H1 locs1 → (ret = some .boolean → r = 0 ∨ r = 1) → W p l e R s m args below meth c H1 locs1 cells slots Q (F0 m (pc + 3) ls (.int r :: rest))) : W p l e R s m args below meth c H locs cells slots Q (F0 m pc ls st0) := by
  have hle := kA_le (E := E) hw.2.2.2.1.1
  refine va_calli (A0 := kA E s.heap.size) (H0 := s.heap) hr hw.2.2.2.1 (fun q _ h => hle q h) hle (fun x u t H1 locs1 ht hvm hp hB _ _ hS => ?_)
  obtain ⟨rfl, hz⟩ := hp
  exact kk H1 locs1 (kr_post hw ht hvm hB hS) hz
theorem kr_calll {ρ' : kS} {r : Int64} {a : Array Value} {st0 : List Value} (hw : kWS E s ρ H locs)
    (hr : va_Run p l e R s m args below meth c H locs cells slots 0 0 (F0 m pc ls st0) rest (va_Ql (fun x (_ : Unit) => x = r) (fun _ t => kWo E ρ' t) (kA E H.size) a) (kA E H.size))
    (kk : ∀ (H1 : Heap) (locs1 : List Loc), kWS E s ρ' H1 locs1 → W p l e R s m args below meth c H1 locs1 cells slots Q (F0 m (pc + 3) ls (.long r :: rest))) : W p l e R s m args below meth c H locs cells slots Q (F0 m pc ls st0) := by
  have hle := kA_le (E := E) hw.2.2.2.1.1
  refine va_calll (A0 := kA E s.heap.size) (H0 := s.heap) hr hw.2.2.2.1 (fun q _ h => hle q h) hle (fun x u t H1 locs1 ht hvm hp hB _ _ hS => ?_)
  subst hp
  exact kk H1 locs1 (kr_post hw ht hvm hB hS)
theorem kr_callv {ρ' : kS} {a : Array Value} {st0 : List Value} (hw : kWS E s ρ H locs)
    (hr : va_Run p l e R s m args below meth c H locs cells slots 0 0 (F0 m pc ls st0) rest (va_Qv (fun (_ : Unit) => True) (fun _ t => kWo E ρ' t) (kA E H.size) a) (kA E H.size))
    (kk : ∀ (H1 : Heap) (locs1 : List Loc), kWS E s ρ' H1 locs1 → W p l e R s m args below meth c H1 locs1 cells slots Q (F0 m (pc + 3) ls rest)) : W p l e R s m args below meth c H locs cells slots Q (F0 m pc ls st0) := by
  have hle := kA_le (E := E) hw.2.2.2.1.1
  refine va_callv (A0 := kA E s.heap.size) (H0 := s.heap) hr hw.2.2.2.1 (fun q _ h => hle q h) hle (fun u t H1 locs1 ht hvm hp hB _ _ hS => ?_)
  exact kk H1 locs1 (kr_post hw ht hvm hB hS)
/-- what a call site of an instance method rests on -/
def kV (own C : String) (index : Nat) (y : MethodName) (b : ByteArray) (n : Nat) (ret : Option FieldType) (k : Nat) : Prop := GoodIn kBIG (wsV own index C y (wk y b n ret)) ∧ (y.cls = C ∧ y.cls ≠ "java/lang/invoke/MethodHandle" ∧ y.cls ≠ "java/lang/invoke/VarHandle" ∧ (parseMethodDescriptor y.desc).map (fun d => d.parameters.length) = some k)
def kSt (own : String) (index : Nat) (y : MethodName) (b : ByteArray) (n : Nat) (ret : Option FieldType) (k : Nat) : Prop := GoodIn kBIG (va_wsS own index y (wk y b n ret)) ∧ (y.cls ≠ "java/lang/invoke/MethodHandle" ∧ y.cls ≠ "java/lang/invoke/VarHandle" ∧ (parseMethodDescriptor y.desc).map (fun d => d.parameters.length) = some k)
def kNs (y : MethodName) (b : ByteArray) (n : Nat) (ret : Option FieldType) (k : Nat) : Prop := Cond.code y b n ret ∈ kBIG ∧ Cond.static y ∈ kBIG ∧ Cond.initialized y.cls ∈ kBIG ∧ (y.cls ≠ "java/lang/invoke/MethodHandle" ∧ y.cls ≠ "java/lang/invoke/VarHandle" ∧ (parseMethodDescriptor y.desc).map (fun d => d.parameters.length) = some k)
theorem kr_runV {C : String} {index : Nat} {y : MethodName} {b : ByteArray} {n k lv : Nat} {ret : Option FieldType} {As : List Value} {Qc : Array Value → State → Outcome → State → Prop} {T : u_T} {N ci q : Nat} {fs : List (Option Nat)} (S : CallFix p m c cc nL s args kBIG own) (hw : kWS E s ρ H locs)
    (hM : Met l y (wk y b n ret) (rml lv) (va_Pc (.ref (ead E q) :: As) (fun U => U.heap.size = H.size ∧ kWo E ρ U)) Qc 0 0 (kA E H.size)) (cw : kV own C index y b n ret k) (hR : lv + 1 ≤ R.frames ∧ 8 + (n + 11) + 30 * lv ≤ R.locals) (hq : wsh q = .inr (ci, fs)) (hN : q < 47) (hc : vwCl[ci]? = some (C, T, N))
    (hn : As.length = k) (hls : ls.size = nL) (st0 : List Value) (hst : st0 = As.reverse ++ .ref (ead E q) :: rest) (hW : (rest.map fun v => v.category).sum ≤ 8) (hdg : decode cc pc = .ok (.invokevirtual index, 3)) (hf : cells ≤ R.cells ∧ slots ≤ R.slots) :
    va_Run p l e R s m args below meth c H locs cells slots 0 0 (F0 m pc ls st0) rest (Qc (Value.ref (ead E q) :: As).toArray) (kA E H.size) := by
  have hci : ci ≠ 9 := fun h => by subst h; cases hc
  have h1 := kwd_at E ρ hN
  rw [kce_obj hq hci] at h1
  have hp := kr_pre (As := .ref (ead E q) :: As) hw
  exact va_runV S hM (cwV k S.2.2.2.2 cw.1 rfl rfl rfl cw.2 ⟨hR.1, hR.2⟩) ⟨hp.1, va_recv hw.2.1 hw.1 hc h1, hp.2⟩ rfl hn hls hst (lv_room hW) hdg hf
theorem kr_runS {index : Nat} {y : MethodName} {b : ByteArray} {n k lv : Nat} {ret : Option FieldType} {As : List Value} {Qc : Array Value → State → Outcome → State → Prop} (S : CallFix p m c cc nL s args kBIG own) (hw : kWS E s ρ H locs)
    (hM : Met l y (wk y b n ret) (rml lv) (va_Pc As (fun U => U.heap.size = H.size ∧ kWo E ρ U)) Qc 0 0 (kA E H.size)) (cw : kSt own index y b n ret k) (hR : lv + 1 ≤ R.frames ∧ 8 + (n + 11) + 30 * lv ≤ R.locals)
    (hn : As.length = k) (hls : ls.size = nL) (st0 : List Value) (hst : st0 = As.reverse ++ rest) (hW : (rest.map fun v => v.category).sum ≤ 8) (hdg : decode cc pc = .ok (.invokestatic index, 3)) (hf : cells ≤ R.cells ∧ slots ≤ R.slots) :
    va_Run p l e R s m args below meth c H locs cells slots 0 0 (F0 m pc ls st0) rest (Qc As.toArray) (kA E H.size) :=
  va_runS S hM (va_cwS k S.2.2.2.2 cw.1 rfl rfl rfl cw.2 ⟨hR.1, hR.2⟩) (kr_pre hw) rfl hn hls hst (lv_room hW) hdg hf
theorem kr_runN {index : Nat} {host : String} {y : MethodName} {b : ByteArray} {n k lv : Nat} {ret : Option FieldType} {As : List Value} {Qc : Array Value → State → Outcome → State → Prop} (S : CallFix p m c cc nL s args kBIG own) (hw : kWS E s ρ H locs) (hl : va_Nw (.methodLinkNest own index y host) s)
    (hM : Met l y (wk y b n ret) (rml lv) (va_Pc As (fun U => U.heap.size = H.size ∧ kWo E ρ U)) Qc 0 0 (kA E H.size)) (cw : kNs y b n ret k) (hR : lv + 1 ≤ R.frames ∧ 8 + (n + 11) + 30 * lv ≤ R.locals)
    (hn : As.length = k) (hls : ls.size = nL) (st0 : List Value) (hst : st0 = As.reverse ++ rest) (hW : (rest.map fun v => v.category).sum ≤ 8) (hdg : decode cc pc = .ok (.invokestatic index, 3)) (hf : cells ≤ R.cells ∧ slots ≤ R.slots) :
    va_Run p l e R s m args below meth c H locs cells slots 0 0 (F0 m pc ls st0) rest (Qc As.toArray) (kA E H.size) :=
  va_runSN S hM ⟨va_cnB k S.2.2.2.2 (kg_wk cw.1) rfl rfl rfl hl (S.2.2.2.2 _ cw.2.2.1) cw.2.2.2 ⟨hR.1, hR.2⟩, S.2.2.2.2 _ cw.2.1, trivial⟩ (kr_pre hw) rfl hn hls hst (lv_room hW) hdg hf
end KR
-- what the generated functions are made of
def klet {α β : Type} (v : α) (f : α → β) : β := f v
theorem klb {α β : Type} {v y : α} {f : α → Option β} {r : β} (h : klet v f = some r) (e : y = v) : f y = some r := by subst e; exact h
def kbi {σ β : Type} (o : Option (Int32 × σ)) (f : Int32 → σ → Option β) : Option β := match o with | none => none | some x => f x.1 x.2
def kbl {σ β : Type} (o : Option (Int64 × σ)) (f : Int64 → σ → Option β) : Option β := match o with | none => none | some x => f x.1 x.2
def kbv {σ β : Type} (o : Option σ) (f : σ → Option β) : Option β := match o with | none => none | some x => f x
theorem kbi_e {σ β : Type} {o : Option (Int32 × σ)} {f : Int32 → σ → Option β} {r : β} (h : kbi o f = some r) : ∃ x t, o = some (x, t) ∧ f x t = some r := by
  cases o with
  | none => cases h
  | some x => exact ⟨x.1, x.2, rfl, h⟩
theorem kbl_e {σ β : Type} {o : Option (Int64 × σ)} {f : Int64 → σ → Option β} {r : β} (h : kbl o f = some r) : ∃ x t, o = some (x, t) ∧ f x t = some r := by
  cases o with
  | none => cases h
  | some x => exact ⟨x.1, x.2, rfl, h⟩
theorem kbv_e {σ β : Type} {o : Option σ} {f : σ → Option β} {r : β} (h : kbv o f = some r) : ∃ t, o = some t ∧ f t = some r := by
  cases o with
  | none => cases h
  | some x => exact ⟨x, rfl, h⟩
abbrev inb (i : Int32) (n : Nat) : Prop := ¬ (i < 0 ∨ n ≤ i.toNatClampNeg)
theorem kit {α : Type} {c : Prop} [Decidable c] {a b : Option α} {r : α} (h : (if c then a else b) = some r) (hc : c) : a = some r := by rwa [if_pos hc] at h
theorem kif {α : Type} {c : Prop} [Decidable c] {a b : Option α} {r : α} (h : (if c then a else b) = some r) (hc : ¬ c) : b = some r := by rwa [if_neg hc] at h
theorem kin {α : Type} {c : Prop} [Decidable c] {a : Option α} {r : α} (h : (if c then a else none) = some r) : c ∧ a = some r := by
  by_cases hc : c
  · rw [if_pos hc] at h; exact ⟨hc, h⟩
  · rw [if_neg hc] at h; cases h
end
section
/-! rows over the two halves of the state, and the little facts that the laid walks use -/
theorem inb_lt {i : Int32} {n : Nat} (h : inb i n) : i.toNatClampNeg < n := Nat.not_le.mp (fun h2 => h (Or.inr h2))
theorem kret {α β : Type} {a c : α} {b d : β} (h : (some (a, b) : Option (α × β)) = some (c, d)) : c = a ∧ d = b := by cases h; exact ⟨rfl, rfl⟩
theorem kre {α : Type} {a b : α} (h : (some a : Option α) = some b) : b = a := by cases h; rfl
abbrev kcpy (sp dp n : Int32) (n0 n1 : Nat) : Prop := (¬ sp < 0 ∧ ¬ dp < 0) ∧ (¬ n < 0 ∧ sp.toNatClampNeg + n.toNatClampNeg ≤ n0) ∧ dp.toNatClampNeg + n.toNatClampNeg ≤ n1
section KR2
variable {p : Program} {l : Launch} {e : Env} {R : Room} {s : State} {m : MethodId} {args : Array Value} {below : List Frame} {meth : Method} {c : Code} {H : Heap} {locs : List Loc} {cells slots : Nat} {Q : State → Prop}
variable {cc : ByteArray} {pc : Nat} {ls : Array Slot} {rest : List Value} {E : kE} {σ ω : kS} {nL : Nat} {own : String}
theorem kx_iald (S : CallFix p m c cc nL s args kBIG own) (hw : kWS E s (cmb σ ω) H locs) {q n : Nat} (hq : wsh q = .inl n) (hN : q < 26) {i : Int32} (hi : inb i n) (hdg : decode cc pc = .ok (.iaload, 1))
    (kk : W p l e R s m args below meth c H locs cells slots Q (F0 m (pc + 1) ls (.int (σ q i.toNatClampNeg) :: rest))) : W p l e R s m args below meth c H locs cells slots Q (F0 m pc ls (.int i :: .ref (ead E q) :: rest)) :=
  kr_iald S hw hq (Nat.lt_trans hN (by decide)) hi hdg (by rw [cmb_lo hN]; exact kk)
theorem kx_iast (S : CallFix p m c cc nL s args kBIG own) (hw : kWS E s (cmb σ ω) H locs) {q n : Nat} (hq : wsh q = .inl n) (hN : q < 26) {i x : Int32} (hi : inb i n) (hdg : decode cc pc = .ok (.iastore, 1))
    (kk : ∀ (H1 : Heap) (locs1 : List Loc), kWS E s (cmb (kup σ q i.toNatClampNeg x) ω) H1 locs1 → W p l e R s m args below meth c H1 locs1 cells slots Q (F0 m (pc + 1) ls rest)) : W p l e R s m args below meth c H locs cells slots Q (F0 m pc ls (.int x :: .int i :: .ref (ead E q) :: rest)) :=
  kr_iast S hw hq (Nat.lt_trans hN (by decide)) hi hdg (fun H1 locs1 h => kk H1 locs1 (by rw [kup_lo hN] at h; exact h))
theorem km_iald (S : CallFix p m c cc nL s args kBIG own) (hw : kWS E s (cmb ω σ) H locs) {q n : Nat} (hq : wsh (26 + q) = .inl n) (hN : 26 + q < 47) {i : Int32} (hi : inb i n) (hdg : decode cc pc = .ok (.iaload, 1))
    (kk : W p l e R s m args below meth c H locs cells slots Q (F0 m (pc + 1) ls (.int (σ q i.toNatClampNeg) :: rest))) : W p l e R s m args below meth c H locs cells slots Q (F0 m pc ls (.int i :: .ref (ead E (26 + q)) :: rest)) :=
  kr_iald S hw hq hN hi hdg (by rw [cmb_hi]; exact kk)
theorem km_iast (S : CallFix p m c cc nL s args kBIG own) (hw : kWS E s (cmb ω σ) H locs) {q n : Nat} (hq : wsh (26 + q) = .inl n) (hN : 26 + q < 47) {i x : Int32} (hi : inb i n) (hdg : decode cc pc = .ok (.iastore, 1))
    (kk : ∀ (H1 : Heap) (locs1 : List Loc), kWS E s (cmb ω (kup σ q i.toNatClampNeg x)) H1 locs1 → W p l e R s m args below meth c H1 locs1 cells slots Q (F0 m (pc + 1) ls rest)) : W p l e R s m args below meth c H locs cells slots Q (F0 m pc ls (.int x :: .int i :: .ref (ead E (26 + q)) :: rest)) :=
  kr_iast S hw hq hN hi hdg (fun H1 locs1 h => kk H1 locs1 (by rw [kup_hi] at h; exact h))
theorem kx_copy {index q0 q1 n0 n1 : Nat} (S : CallFix p m c cc nL s args kBIG own) (hw : kWS E s (cmb σ ω) H locs) (hml : c.maxLocals = ls.size) (hl : Cond.methodLink own index arraycopyName ∈ kBIG) (h0 : xA q0 n0) (h1 : xA q1 n1) {sp dp n : Int32} (hc : kcpy sp dp n n0 n1) (hR : 1 ≤ R.frames) (hR2 : (rest.map fun v => v.category).sum + (nativeFrameWords "java/lang/System" "arraycopy" 5 + 11) ≤ R.locals) (hdg : decode cc pc = .ok (.invokestatic index, 3))
    (kk : ∀ (H1 : Heap) (locs1 : List Loc), kWS E s (cmb (krow σ q1 (va_cpy (σ q0) (σ q1) sp.toNatClampNeg dp.toNatClampNeg n.toNatClampNeg)) ω) H1 locs1 → W p l e R s m args below meth c H1 locs1 cells slots Q (F0 m (pc + 3) ls rest)) : W p l e R s m args below meth c H locs cells slots Q (F0 m pc ls (.int n :: .int dp :: .ref (ead E q1) :: .int sp :: .ref (ead E q0) :: rest)) := by
  obtain ⟨⟨c1, c2⟩, ⟨c3, c4⟩, c5⟩ := hc
  have hN0 : q0 < 47 := Nat.lt_trans h0.2 (by decide)
  have hN1 : q1 < 47 := Nat.lt_trans h1.2 (by decide)
  have e0 := kwd_at E (cmb σ ω) hN0
  rw [kce_arr h0.1, cmb_lo h0.2] at e0
  have e1 := kwd_at E (cmb σ ω) hN1
  rw [kce_arr h1.1, cmb_lo h1.2] at e1
  refine va_copyi (A := kA E s.heap.size) S.1 S.2.1 hml S.2.2.2.1 (S.2.2.2.2 _ hl) (S.2.2.2.2 _ q2_48) (S.2.2.2.2 _ q2_47) (S.2.2.2.2 _ q1_9) hw.2.1 hw.1 (kD hw.2.2.1 _ _) hw.2.2.2.1 q0 q1 0 0 e0 e1 rfl rfl rfl c1 c2 c3 c4 c5 (fun _ _ => rfl) hR hR2 hdg (fun H1 locs1 hP _ hS => ?_)
  refine kk H1 locs1 ⟨?_, hw.2.1, hw.2.2.1, hS, hw.2.2.2.2⟩
  rw [kwd_set E (ρ' := cmb (krow σ q1 (va_cpy (σ q0) (σ q1) sp.toNatClampNeg dp.toNatClampNeg n.toNatClampNeg)) ω) hN1 (by rw [kce_arr h1.1, cmb_lo h1.2, krow_self]) (fun p' hp => by rw [← krow_lo h1.2]; exact krow_ne hp)] at hP
  exact hP
end KR2
theorem ktv {x : Int32} {k : Int32} {z : Int} (h : ¬ x = k) (hz : k.toInt = z) : x.toInt ≠ z := fun e => h (Int32.toInt_inj.mp (by rw [e, hz]))
theorem ktab4 {x : Int32} (h0 : ¬ x = 0) (h1 : ¬ x = 1) (h2 : ¬ x = 2) (h3 : ¬ x = 3) : x.toInt < 0 ∨ 3 < x.toInt := by
  have := ktv h0 (z := 0) rfl; have := ktv h1 (z := 1) rfl; have := ktv h2 (z := 2) rfl; have := ktv h3 (z := 3) rfl
  omega
theorem ktab5 {x : Int32} (h0 : ¬ x = 0) (h1 : ¬ x = 1) (h2 : ¬ x = 2) (h3 : ¬ x = 3) (h4 : ¬ x = 4) : x.toInt < 0 ∨ 4 < x.toInt := by
  have := ktab4 h0 h1 h2 h3; have := ktv h4 (z := 4) rfl
  omega
theorem ktab7 {x : Int32} (h0 : ¬ x = 0) (h1 : ¬ x = 1) (h2 : ¬ x = 2) (h3 : ¬ x = 3) (h4 : ¬ x = 4) (h5 : ¬ x = 5) (h6 : ¬ x = 6) : x.toInt < 0 ∨ 6 < x.toInt := by
  have := ktab5 h0 h1 h2 h3 h4; have := ktv h5 (z := 5) rfl; have := ktv h6 (z := 6) rfl
  omega
theorem klk {x : Int32} {k : Int32} {z : Int} (h : ¬ x = k) (hz : k.toInt = z) : x.toInt ≠ z := ktv h hz
theorem klook2 {x a b : Int} {o1 o2 d : Int} (h1 : x ≠ a) (h2 : x ≠ b) : Op.lookupswitch.offset (#[(a, o1), (b, o2)] : Array (Int × Int)).toList d x = d := by
  have g1 : ¬ a = x := fun h => h1 h.symm
  have g2 : ¬ b = x := fun h => h2 h.symm
  simp [Op.lookupswitch.offset, g1, g2]
end
section
theorem gf_X0_9 {p : Program} {l : Launch} {e : Env} {R : Room} {s : State} {m : MethodId} {args : Array Value} {below : List Frame} {meth : Method} {c : Code} {H : Heap} {locs : List Loc} {cells slots : Nat} {Q : State → Prop} {cc : ByteArray} {pc : Nat} {ls : Array Slot} {rest : List Value} {E : kE} {σ ω : kS} {nL : Nat} (S : CallFix p m c cc nL s args kBIG RX0) (hw : kWS E s (cmb σ ω) H locs) {q : Nat} {fs : List (Option Nat)} (hq : wsh q = .inr (0, fs)) (hN : q < 26) {r : Nat} (hf : fs[3]? = some (some r)) (hdg : decode cc pc = .ok (.getfield 9, 3)) (kk : W p l e R s m args below meth c H locs cells slots Q (F0 m (pc + 3) ls (.ref (ead E r) :: rest))) : W p l e R s m args below meth c H locs cells slots Q (F0 m pc ls (.ref (ead E q) :: rest)) := kr_getr S hw hq (Nat.lt_trans hN (by decide)) rfl inX0 3 (by decide) q1_33 hf hdg kk
theorem gf_X0_15 {p : Program} {l : Launch} {e : Env} {R : Room} {s : State} {m : MethodId} {args : Array Value} {below : List Frame} {meth : Method} {c : Code} {H : Heap} {locs : List Loc} {cells slots : Nat} {Q : State → Prop} {cc : ByteArray} {pc : Nat} {ls : Array Slot} {rest : List Value} {E : kE} {σ ω : kS} {nL : Nat} (S : CallFix p m c cc nL s args kBIG RX0) (hw : kWS E s (cmb σ ω) H locs) {q : Nat} {fs : List (Option Nat)} (hq : wsh q = .inr (0, fs)) (hN : q < 26) {r : Nat} (hf : fs[4]? = some (some r)) (hdg : decode cc pc = .ok (.getfield 15, 3)) (kk : W p l e R s m args below meth c H locs cells slots Q (F0 m (pc + 3) ls (.ref (ead E r) :: rest))) : W p l e R s m args below meth c H locs cells slots Q (F0 m pc ls (.ref (ead E q) :: rest)) := kr_getr S hw hq (Nat.lt_trans hN (by decide)) rfl inX0 4 (by decide) q1_36 hf hdg kk
theorem gf_X0_18 {p : Program} {l : Launch} {e : Env} {R : Room} {s : State} {m : MethodId} {args : Array Value} {below : List Frame} {meth : Method} {c : Code} {H : Heap} {locs : List Loc} {cells slots : Nat} {Q : State → Prop} {cc : ByteArray} {pc : Nat} {ls : Array Slot} {rest : List Value} {E : kE} {σ ω : kS} {nL : Nat} (S : CallFix p m c cc nL s args kBIG RX0) (hw : kWS E s (cmb σ ω) H locs) {q : Nat} {fs : List (Option Nat)} (hq : wsh q = .inr (0, fs)) (hN : q < 26) {r : Nat} (hf : fs[5]? = some (some r)) (hdg : decode cc pc = .ok (.getfield 18, 3)) (kk : W p l e R s m args below meth c H locs cells slots Q (F0 m (pc + 3) ls (.ref (ead E r) :: rest))) : W p l e R s m args below meth c H locs cells slots Q (F0 m pc ls (.ref (ead E q) :: rest)) := kr_getr S hw hq (Nat.lt_trans hN (by decide)) rfl inX0 5 (by decide) q1_39 hf hdg kk
theorem gf_X0_21 {p : Program} {l : Launch} {e : Env} {R : Room} {s : State} {m : MethodId} {args : Array Value} {below : List Frame} {meth : Method} {c : Code} {H : Heap} {locs : List Loc} {cells slots : Nat} {Q : State → Prop} {cc : ByteArray} {pc : Nat} {ls : Array Slot} {rest : List Value} {E : kE} {σ ω : kS} {nL : Nat} (S : CallFix p m c cc nL s args kBIG RX0) (hw : kWS E s (cmb σ ω) H locs) {q : Nat} {fs : List (Option Nat)} (hq : wsh q = .inr (0, fs)) (hN : q < 26) {r : Nat} (hf : fs[6]? = some (some r)) (hdg : decode cc pc = .ok (.getfield 21, 3)) (kk : W p l e R s m args below meth c H locs cells slots Q (F0 m (pc + 3) ls (.ref (ead E r) :: rest))) : W p l e R s m args below meth c H locs cells slots Q (F0 m pc ls (.ref (ead E q) :: rest)) := kr_getr S hw hq (Nat.lt_trans hN (by decide)) rfl inX0 6 (by decide) q1_42 hf hdg kk
theorem gf_X0_24 {p : Program} {l : Launch} {e : Env} {R : Room} {s : State} {m : MethodId} {args : Array Value} {below : List Frame} {meth : Method} {c : Code} {H : Heap} {locs : List Loc} {cells slots : Nat} {Q : State → Prop} {cc : ByteArray} {pc : Nat} {ls : Array Slot} {rest : List Value} {E : kE} {σ ω : kS} {nL : Nat} (S : CallFix p m c cc nL s args kBIG RX0) (hw : kWS E s (cmb σ ω) H locs) {q : Nat} {fs : List (Option Nat)} (hq : wsh q = .inr (0, fs)) (hN : q < 26) (hf : fs[0]? = some none) (hdg : decode cc pc = .ok (.getfield 24, 3)) (kk : W p l e R s m args below meth c H locs cells slots Q (F0 m (pc + 3) ls (.int (σ q 0) :: rest))) : W p l e R s m args below meth c H locs cells slots Q (F0 m pc ls (.ref (ead E q) :: rest)) := kr_geti S hw hq (Nat.lt_trans hN (by decide)) rfl inX0 0 (by decide) q1_24 hf hdg (by rw [cmb_lo hN]; exact kk)
theorem gf_X0_28 {p : Program} {l : Launch} {e : Env} {R : Room} {s : State} {m : MethodId} {args : Array Value} {below : List Frame} {meth : Method} {c : Code} {H : Heap} {locs : List Loc} {cells slots : Nat} {Q : State → Prop} {cc : ByteArray} {pc : Nat} {ls : Array Slot} {rest : List Value} {E : kE} {σ ω : kS} {nL : Nat} (S : CallFix p m c cc nL s args kBIG RX0) (hw : kWS E s (cmb σ ω) H locs) {q : Nat} {fs : List (Option Nat)} (hq : wsh q = .inr (0, fs)) (hN : q < 26) (hf : fs[1]? = some none) (hdg : decode cc pc = .ok (.getfield 28, 3)) (kk : W p l e R s m args below meth c H locs cells slots Q (F0 m (pc + 3) ls (.int (σ q 1) :: rest))) : W p l e R s m args below meth c H locs cells slots Q (F0 m pc ls (.ref (ead E q) :: rest)) := kr_geti S hw hq (Nat.lt_trans hN (by decide)) rfl inX0 1 (by decide) q1_27 hf hdg (by rw [cmb_lo hN]; exact kk)
theorem gf_X0_31 {p : Program} {l : Launch} {e : Env} {R : Room} {s : State} {m : MethodId} {args : Array Value} {below : List Frame} {meth : Method} {c : Code} {H : Heap} {locs : List Loc} {cells slots : Nat} {Q : State → Prop} {cc : ByteArray} {pc : Nat} {ls : Array Slot} {rest : List Value} {E : kE} {σ ω : kS} {nL : Nat} (S : CallFix p m c cc nL s args kBIG RX0) (hw : kWS E s (cmb σ ω) H locs) {q : Nat} {fs : List (Option Nat)} (hq : wsh q = .inr (0, fs)) (hN : q < 26) (hf : fs[2]? = some none) (hdg : decode cc pc = .ok (.getfield 31, 3)) (kk : W p l e R s m args below meth c H locs cells slots Q (F0 m (pc + 3) ls (.int (σ q 2) :: rest))) : W p l e R s m args below meth c H locs cells slots Q (F0 m pc ls (.ref (ead E q) :: rest)) := kr_geti S hw hq (Nat.lt_trans hN (by decide)) rfl inX0 2 (by decide) q1_30 hf hdg (by rw [cmb_lo hN]; exact kk)
theorem gf_X1_9 {p : Program} {l : Launch} {e : Env} {R : Room} {s : State} {m : MethodId} {args : Array Value} {below : List Frame} {meth : Method} {c : Code} {H : Heap} {locs : List Loc} {cells slots : Nat} {Q : State → Prop} {cc : ByteArray} {pc : Nat} {ls : Array Slot} {rest : List Value} {E : kE} {σ ω : kS} {nL : Nat} (S : CallFix p m c cc nL s args kBIG RX1) (hw : kWS E s (cmb σ ω) H locs) {q : Nat} {fs : List (Option Nat)} (hq : wsh q = .inr (1, fs)) (hN : q < 26) {r : Nat} (hf : fs[3]? = some (some r)) (hdg : decode cc pc = .ok (.getfield 9, 3)) (kk : W p l e R s m args below meth c H locs cells slots Q (F0 m (pc + 3) ls (.ref (ead E r) :: rest))) : W p l e R s m args below meth c H locs cells slots Q (F0 m pc ls (.ref (ead E q) :: rest)) := kr_getr S hw hq (Nat.lt_trans hN (by decide)) rfl inX1 3 (by decide) q1_73 hf hdg kk
theorem gf_X1_15 {p : Program} {l : Launch} {e : Env} {R : Room} {s : State} {m : MethodId} {args : Array Value} {below : List Frame} {meth : Method} {c : Code} {H : Heap} {locs : List Loc} {cells slots : Nat} {Q : State → Prop} {cc : ByteArray} {pc : Nat} {ls : Array Slot} {rest : List Value} {E : kE} {σ ω : kS} {nL : Nat} (S : CallFix p m c cc nL s args kBIG RX1) (hw : kWS E s (cmb σ ω) H locs) {q : Nat} {fs : List (Option Nat)} (hq : wsh q = .inr (1, fs)) (hN : q < 26) (hf : fs[0]? = some none) (hdg : decode cc pc = .ok (.getfield 15, 3)) (kk : W p l e R s m args below meth c H locs cells slots Q (F0 m (pc + 3) ls (.int (σ q 0) :: rest))) : W p l e R s m args below meth c H locs cells slots Q (F0 m pc ls (.ref (ead E q) :: rest)) := kr_geti S hw hq (Nat.lt_trans hN (by decide)) rfl inX1 0 (by decide) q1_68 hf hdg (by rw [cmb_lo hN]; exact kk)
theorem gf_X1_19 {p : Program} {l : Launch} {e : Env} {R : Room} {s : State} {m : MethodId} {args : Array Value} {below : List Frame} {meth : Method} {c : Code} {H : Heap} {locs : List Loc} {cells slots : Nat} {Q : State → Prop} {cc : ByteArray} {pc : Nat} {ls : Array Slot} {rest : List Value} {E : kE} {σ ω : kS} {nL : Nat} (S : CallFix p m c cc nL s args kBIG RX1) (hw : kWS E s (cmb σ ω) H locs) {q : Nat} {fs : List (Option Nat)} (hq : wsh q = .inr (1, fs)) (hN : q < 26) (hf : fs[1]? = some none) (hdg : decode cc pc = .ok (.getfield 19, 3)) (kk : W p l e R s m args below meth c H locs cells slots Q (F0 m (pc + 3) ls (.int (σ q 1) :: rest))) : W p l e R s m args below meth c H locs cells slots Q (F0 m pc ls (.ref (ead E q) :: rest)) := kr_geti S hw hq (Nat.lt_trans hN (by decide)) rfl inX1 1 (by decide) q1_70 hf hdg (by rw [cmb_lo hN]; exact kk)
theorem gf_X1_23 {p : Program} {l : Launch} {e : Env} {R : Room} {s : State} {m : MethodId} {args : Array Value} {below : List Frame} {meth : Method} {c : Code} {H : Heap} {locs : List Loc} {cells slots : Nat} {Q : State → Prop} {cc : ByteArray} {pc : Nat} {ls : Array Slot} {rest : List Value} {E : kE} {σ ω : kS} {nL : Nat} (S : CallFix p m c cc nL s args kBIG RX1) (hw : kWS E s (cmb σ ω) H locs) {q : Nat} {fs : List (Option Nat)} (hq : wsh q = .inr (1, fs)) (hN : q < 26) (hf : fs[2]? = some none) (hdg : decode cc pc = .ok (.getfield 23, 3)) (kk : W p l e R s m args below meth c H locs cells slots Q (F0 m (pc + 3) ls (.int (σ q 2) :: rest))) : W p l e R s m args below meth c H locs cells slots Q (F0 m pc ls (.ref (ead E q) :: rest)) := kr_geti S hw hq (Nat.lt_trans hN (by decide)) rfl inX1 2 (by decide) q1_72 hf hdg (by rw [cmb_lo hN]; exact kk)
theorem gf_X2_9 {p : Program} {l : Launch} {e : Env} {R : Room} {s : State} {m : MethodId} {args : Array Value} {below : List Frame} {meth : Method} {c : Code} {H : Heap} {locs : List Loc} {cells slots : Nat} {Q : State → Prop} {cc : ByteArray} {pc : Nat} {ls : Array Slot} {rest : List Value} {E : kE} {σ ω : kS} {nL : Nat} (S : CallFix p m c cc nL s args kBIG RX2) (hw : kWS E s (cmb σ ω) H locs) {q : Nat} {fs : List (Option Nat)} (hq : wsh q = .inr (2, fs)) (hN : q < 26) (hf : fs[0]? = some none) (hdg : decode cc pc = .ok (.getfield 9, 3)) (kk : W p l e R s m args below meth c H locs cells slots Q (F0 m (pc + 3) ls (.int (σ q 0) :: rest))) : W p l e R s m args below meth c H locs cells slots Q (F0 m pc ls (.ref (ead E q) :: rest)) := kr_geti S hw hq (Nat.lt_trans hN (by decide)) rfl inX2 0 (by decide) q1_90 hf hdg (by rw [cmb_lo hN]; exact kk)
theorem gf_X2_15 {p : Program} {l : Launch} {e : Env} {R : Room} {s : State} {m : MethodId} {args : Array Value} {below : List Frame} {meth : Method} {c : Code} {H : Heap} {locs : List Loc} {cells slots : Nat} {Q : State → Prop} {cc : ByteArray} {pc : Nat} {ls : Array Slot} {rest : List Value} {E : kE} {σ ω : kS} {nL : Nat} (S : CallFix p m c cc nL s args kBIG RX2) (hw : kWS E s (cmb σ ω) H locs) {q : Nat} {fs : List (Option Nat)} (hq : wsh q = .inr (2, fs)) (hN : q < 26) (hf : fs[1]? = some none) (hdg : decode cc pc = .ok (.getfield 15, 3)) (kk : W p l e R s m args below meth c H locs cells slots Q (F0 m (pc + 3) ls (.int (σ q 1) :: rest))) : W p l e R s m args below meth c H locs cells slots Q (F0 m pc ls (.ref (ead E q) :: rest)) := kr_geti S hw hq (Nat.lt_trans hN (by decide)) rfl inX2 1 (by decide) q1_92 hf hdg (by rw [cmb_lo hN]; exact kk)
theorem gf_X2_18 {p : Program} {l : Launch} {e : Env} {R : Room} {s : State} {m : MethodId} {args : Array Value} {below : List Frame} {meth : Method} {c : Code} {H : Heap} {locs : List Loc} {cells slots : Nat} {Q : State → Prop} {cc : ByteArray} {pc : Nat} {ls : Array Slot} {rest : List Value} {E : kE} {σ ω : kS} {nL : Nat} (S : CallFix p m c cc nL s args kBIG RX2) (hw : kWS E s (cmb σ ω) H locs) {q : Nat} {fs : List (Option Nat)} (hq : wsh q = .inr (2, fs)) (hN : q < 26) (hf : fs[2]? = some none) (hdg : decode cc pc = .ok (.getfield 18, 3)) (kk : W p l e R s m args below meth c H locs cells slots Q (F0 m (pc + 3) ls (.int (σ q 2) :: rest))) : W p l e R s m args below meth c H locs cells slots Q (F0 m pc ls (.ref (ead E q) :: rest)) := kr_geti S hw hq (Nat.lt_trans hN (by decide)) rfl inX2 2 (by decide) q1_94 hf hdg (by rw [cmb_lo hN]; exact kk)
theorem gf_X2_21 {p : Program} {l : Launch} {e : Env} {R : Room} {s : State} {m : MethodId} {args : Array Value} {below : List Frame} {meth : Method} {c : Code} {H : Heap} {locs : List Loc} {cells slots : Nat} {Q : State → Prop} {cc : ByteArray} {pc : Nat} {ls : Array Slot} {rest : List Value} {E : kE} {σ ω : kS} {nL : Nat} (S : CallFix p m c cc nL s args kBIG RX2) (hw : kWS E s (cmb σ ω) H locs) {q : Nat} {fs : List (Option Nat)} (hq : wsh q = .inr (2, fs)) (hN : q < 26) (hf : fs[3]? = some none) (hdg : decode cc pc = .ok (.getfield 21, 3)) (kk : W p l e R s m args below meth c H locs cells slots Q (F0 m (pc + 3) ls (.int (σ q 3) :: rest))) : W p l e R s m args below meth c H locs cells slots Q (F0 m pc ls (.ref (ead E q) :: rest)) := kr_geti S hw hq (Nat.lt_trans hN (by decide)) rfl inX2 3 (by decide) q1_96 hf hdg (by rw [cmb_lo hN]; exact kk)
theorem gf_X3_30 {p : Program} {l : Launch} {e : Env} {R : Room} {s : State} {m : MethodId} {args : Array Value} {below : List Frame} {meth : Method} {c : Code} {H : Heap} {locs : List Loc} {cells slots : Nat} {Q : State → Prop} {cc : ByteArray} {pc : Nat} {ls : Array Slot} {rest : List Value} {E : kE} {σ ω : kS} {nL : Nat} (S : CallFix p m c cc nL s args kBIG RX3) (hw : kWS E s (cmb σ ω) H locs) {q : Nat} {fs : List (Option Nat)} (hq : wsh q = .inr (0, fs)) (hN : q < 26) (hf : fs[2]? = some none) (hdg : decode cc pc = .ok (.getfield 30, 3)) (kk : W p l e R s m args below meth c H locs cells slots Q (F0 m (pc + 3) ls (.int (σ q 2) :: rest))) : W p l e R s m args below meth c H locs cells slots Q (F0 m pc ls (.ref (ead E q) :: rest)) := kr_geti S hw hq (Nat.lt_trans hN (by decide)) rfl inX0 2 (by decide) q1_32 hf hdg (by rw [cmb_lo hN]; exact kk)
theorem gf_X3_33 {p : Program} {l : Launch} {e : Env} {R : Room} {s : State} {m : MethodId} {args : Array Value} {below : List Frame} {meth : Method} {c : Code} {H : Heap} {locs : List Loc} {cells slots : Nat} {Q : State → Prop} {cc : ByteArray} {pc : Nat} {ls : Array Slot} {rest : List Value} {E : kE} {σ ω : kS} {nL : Nat} (S : CallFix p m c cc nL s args kBIG RX3) (hw : kWS E s (cmb σ ω) H locs) {q : Nat} {fs : List (Option Nat)} (hq : wsh q = .inr (0, fs)) (hN : q < 26) {r : Nat} (hf : fs[3]? = some (some r)) (hdg : decode cc pc = .ok (.getfield 33, 3)) (kk : W p l e R s m args below meth c H locs cells slots Q (F0 m (pc + 3) ls (.ref (ead E r) :: rest))) : W p l e R s m args below meth c H locs cells slots Q (F0 m pc ls (.ref (ead E q) :: rest)) := kr_getr S hw hq (Nat.lt_trans hN (by decide)) rfl inX0 3 (by decide) q1_35 hf hdg kk
theorem gf_X3_41 {p : Program} {l : Launch} {e : Env} {R : Room} {s : State} {m : MethodId} {args : Array Value} {below : List Frame} {meth : Method} {c : Code} {H : Heap} {locs : List Loc} {cells slots : Nat} {Q : State → Prop} {cc : ByteArray} {pc : Nat} {ls : Array Slot} {rest : List Value} {E : kE} {σ ω : kS} {nL : Nat} (S : CallFix p m c cc nL s args kBIG RX3) (hw : kWS E s (cmb σ ω) H locs) {q : Nat} {fs : List (Option Nat)} (hq : wsh q = .inr (0, fs)) (hN : q < 26) {r : Nat} (hf : fs[4]? = some (some r)) (hdg : decode cc pc = .ok (.getfield 41, 3)) (kk : W p l e R s m args below meth c H locs cells slots Q (F0 m (pc + 3) ls (.ref (ead E r) :: rest))) : W p l e R s m args below meth c H locs cells slots Q (F0 m pc ls (.ref (ead E q) :: rest)) := kr_getr S hw hq (Nat.lt_trans hN (by decide)) rfl inX0 4 (by decide) q1_38 hf hdg kk
theorem gf_X3_44 {p : Program} {l : Launch} {e : Env} {R : Room} {s : State} {m : MethodId} {args : Array Value} {below : List Frame} {meth : Method} {c : Code} {H : Heap} {locs : List Loc} {cells slots : Nat} {Q : State → Prop} {cc : ByteArray} {pc : Nat} {ls : Array Slot} {rest : List Value} {E : kE} {σ ω : kS} {nL : Nat} (S : CallFix p m c cc nL s args kBIG RX3) (hw : kWS E s (cmb σ ω) H locs) {q : Nat} {fs : List (Option Nat)} (hq : wsh q = .inr (0, fs)) (hN : q < 26) {r : Nat} (hf : fs[5]? = some (some r)) (hdg : decode cc pc = .ok (.getfield 44, 3)) (kk : W p l e R s m args below meth c H locs cells slots Q (F0 m (pc + 3) ls (.ref (ead E r) :: rest))) : W p l e R s m args below meth c H locs cells slots Q (F0 m pc ls (.ref (ead E q) :: rest)) := kr_getr S hw hq (Nat.lt_trans hN (by decide)) rfl inX0 5 (by decide) q1_41 hf hdg kk
theorem gf_X3_47 {p : Program} {l : Launch} {e : Env} {R : Room} {s : State} {m : MethodId} {args : Array Value} {below : List Frame} {meth : Method} {c : Code} {H : Heap} {locs : List Loc} {cells slots : Nat} {Q : State → Prop} {cc : ByteArray} {pc : Nat} {ls : Array Slot} {rest : List Value} {E : kE} {σ ω : kS} {nL : Nat} (S : CallFix p m c cc nL s args kBIG RX3) (hw : kWS E s (cmb σ ω) H locs) {q : Nat} {fs : List (Option Nat)} (hq : wsh q = .inr (0, fs)) (hN : q < 26) {r : Nat} (hf : fs[6]? = some (some r)) (hdg : decode cc pc = .ok (.getfield 47, 3)) (kk : W p l e R s m args below meth c H locs cells slots Q (F0 m (pc + 3) ls (.ref (ead E r) :: rest))) : W p l e R s m args below meth c H locs cells slots Q (F0 m pc ls (.ref (ead E q) :: rest)) := kr_getr S hw hq (Nat.lt_trans hN (by decide)) rfl inX0 6 (by decide) q1_44 hf hdg kk
theorem gf_X4_12 {p : Program} {l : Launch} {e : Env} {R : Room} {s : State} {m : MethodId} {args : Array Value} {below : List Frame} {meth : Method} {c : Code} {H : Heap} {locs : List Loc} {cells slots : Nat} {Q : State → Prop} {cc : ByteArray} {pc : Nat} {ls : Array Slot} {rest : List Value} {E : kE} {σ ω : kS} {nL : Nat} (S : CallFix p m c cc nL s args kBIG RX4) (hw : kWS E s (cmb σ ω) H locs) {q : Nat} {fs : List (Option Nat)} (hq : wsh q = .inr (3, fs)) (hN : q < 26) {r : Nat} (hf : fs[0]? = some (some r)) (hdg : decode cc pc = .ok (.getfield 12, 3)) (kk : W p l e R s m args below meth c H locs cells slots Q (F0 m (pc + 3) ls (.ref (ead E r) :: rest))) : W p l e R s m args below meth c H locs cells slots Q (F0 m pc ls (.ref (ead E q) :: rest)) := kr_getr S hw hq (Nat.lt_trans hN (by decide)) rfl inX4 0 (by decide) q1_107 hf hdg kk
theorem gf_X4_18 {p : Program} {l : Launch} {e : Env} {R : Room} {s : State} {m : MethodId} {args : Array Value} {below : List Frame} {meth : Method} {c : Code} {H : Heap} {locs : List Loc} {cells slots : Nat} {Q : State → Prop} {cc : ByteArray} {pc : Nat} {ls : Array Slot} {rest : List Value} {E : kE} {σ ω : kS} {nL : Nat} (S : CallFix p m c cc nL s args kBIG RX4) (hw : kWS E s (cmb σ ω) H locs) {q : Nat} {fs : List (Option Nat)} (hq : wsh q = .inr (3, fs)) (hN : q < 26) {r : Nat} (hf : fs[1]? = some (some r)) (hdg : decode cc pc = .ok (.getfield 18, 3)) (kk : W p l e R s m args below meth c H locs cells slots Q (F0 m (pc + 3) ls (.ref (ead E r) :: rest))) : W p l e R s m args below meth c H locs cells slots Q (F0 m pc ls (.ref (ead E q) :: rest)) := kr_getr S hw hq (Nat.lt_trans hN (by decide)) rfl inX4 1 (by decide) q1_108 hf hdg kk
theorem gf_X4_23 {p : Program} {l : Launch} {e : Env} {R : Room} {s : State} {m : MethodId} {args : Array Value} {below : List Frame} {meth : Method} {c : Code} {H : Heap} {locs : List Loc} {cells slots : Nat} {Q : State → Prop} {cc : ByteArray} {pc : Nat} {ls : Array Slot} {rest : List Value} {E : kE} {σ ω : kS} {nL : Nat} (S : CallFix p m c cc nL s args kBIG RX4) (hw : kWS E s (cmb σ ω) H locs) {q : Nat} {fs : List (Option Nat)} (hq : wsh q = .inr (3, fs)) (hN : q < 26) {r : Nat} (hf : fs[2]? = some (some r)) (hdg : decode cc pc = .ok (.getfield 23, 3)) (kk : W p l e R s m args below meth c H locs cells slots Q (F0 m (pc + 3) ls (.ref (ead E r) :: rest))) : W p l e R s m args below meth c H locs cells slots Q (F0 m pc ls (.ref (ead E q) :: rest)) := kr_getr S hw hq (Nat.lt_trans hN (by decide)) rfl inX4 2 (by decide) q1_109 hf hdg kk
theorem gf_X4_31 {p : Program} {l : Launch} {e : Env} {R : Room} {s : State} {m : MethodId} {args : Array Value} {below : List Frame} {meth : Method} {c : Code} {H : Heap} {locs : List Loc} {cells slots : Nat} {Q : State → Prop} {cc : ByteArray} {pc : Nat} {ls : Array Slot} {rest : List Value} {E : kE} {σ ω : kS} {nL : Nat} (S : CallFix p m c cc nL s args kBIG RX4) (hw : kWS E s (cmb σ ω) H locs) {q : Nat} {fs : List (Option Nat)} (hq : wsh q = .inr (3, fs)) (hN : q < 26) {r : Nat} (hf : fs[3]? = some (some r)) (hdg : decode cc pc = .ok (.getfield 31, 3)) (kk : W p l e R s m args below meth c H locs cells slots Q (F0 m (pc + 3) ls (.ref (ead E r) :: rest))) : W p l e R s m args below meth c H locs cells slots Q (F0 m pc ls (.ref (ead E q) :: rest)) := kr_getr S hw hq (Nat.lt_trans hN (by decide)) rfl inX4 3 (by decide) q1_110 hf hdg kk
theorem gf_X4_35 {p : Program} {l : Launch} {e : Env} {R : Room} {s : State} {m : MethodId} {args : Array Value} {below : List Frame} {meth : Method} {c : Code} {H : Heap} {locs : List Loc} {cells slots : Nat} {Q : State → Prop} {cc : ByteArray} {pc : Nat} {ls : Array Slot} {rest : List Value} {E : kE} {σ ω : kS} {nL : Nat} (S : CallFix p m c cc nL s args kBIG RX4) (hw : kWS E s (cmb σ ω) H locs) {q : Nat} {fs : List (Option Nat)} (hq : wsh q = .inr (3, fs)) (hN : q < 26) {r : Nat} (hf : fs[4]? = some (some r)) (hdg : decode cc pc = .ok (.getfield 35, 3)) (kk : W p l e R s m args below meth c H locs cells slots Q (F0 m (pc + 3) ls (.ref (ead E r) :: rest))) : W p l e R s m args below meth c H locs cells slots Q (F0 m pc ls (.ref (ead E q) :: rest)) := kr_getr S hw hq (Nat.lt_trans hN (by decide)) rfl inX4 4 (by decide) q1_111 hf hdg kk
theorem gf_X4_39 {p : Program} {l : Launch} {e : Env} {R : Room} {s : State} {m : MethodId} {args : Array Value} {below : List Frame} {meth : Method} {c : Code} {H : Heap} {locs : List Loc} {cells slots : Nat} {Q : State → Prop} {cc : ByteArray} {pc : Nat} {ls : Array Slot} {rest : List Value} {E : kE} {σ ω : kS} {nL : Nat} (S : CallFix p m c cc nL s args kBIG RX4) (hw : kWS E s (cmb σ ω) H locs) {q : Nat} {fs : List (Option Nat)} (hq : wsh q = .inr (3, fs)) (hN : q < 26) {r : Nat} (hf : fs[5]? = some (some r)) (hdg : decode cc pc = .ok (.getfield 39, 3)) (kk : W p l e R s m args below meth c H locs cells slots Q (F0 m (pc + 3) ls (.ref (ead E r) :: rest))) : W p l e R s m args below meth c H locs cells slots Q (F0 m pc ls (.ref (ead E q) :: rest)) := kr_getr S hw hq (Nat.lt_trans hN (by decide)) rfl inX4 5 (by decide) q1_112 hf hdg kk
theorem gf_X4_42 {p : Program} {l : Launch} {e : Env} {R : Room} {s : State} {m : MethodId} {args : Array Value} {below : List Frame} {meth : Method} {c : Code} {H : Heap} {locs : List Loc} {cells slots : Nat} {Q : State → Prop} {cc : ByteArray} {pc : Nat} {ls : Array Slot} {rest : List Value} {E : kE} {σ ω : kS} {nL : Nat} (S : CallFix p m c cc nL s args kBIG RX4) (hw : kWS E s (cmb σ ω) H locs) {q : Nat} {fs : List (Option Nat)} (hq : wsh q = .inr (3, fs)) (hN : q < 26) {r : Nat} (hf : fs[6]? = some (some r)) (hdg : decode cc pc = .ok (.getfield 42, 3)) (kk : W p l e R s m args below meth c H locs cells slots Q (F0 m (pc + 3) ls (.ref (ead E r) :: rest))) : W p l e R s m args below meth c H locs cells slots Q (F0 m pc ls (.ref (ead E q) :: rest)) := kr_getr S hw hq (Nat.lt_trans hN (by decide)) rfl inX4 6 (by decide) q1_113 hf hdg kk
theorem gf_X4_45 {p : Program} {l : Launch} {e : Env} {R : Room} {s : State} {m : MethodId} {args : Array Value} {below : List Frame} {meth : Method} {c : Code} {H : Heap} {locs : List Loc} {cells slots : Nat} {Q : State → Prop} {cc : ByteArray} {pc : Nat} {ls : Array Slot} {rest : List Value} {E : kE} {σ ω : kS} {nL : Nat} (S : CallFix p m c cc nL s args kBIG RX4) (hw : kWS E s (cmb σ ω) H locs) {q : Nat} {fs : List (Option Nat)} (hq : wsh q = .inr (3, fs)) (hN : q < 26) {r : Nat} (hf : fs[7]? = some (some r)) (hdg : decode cc pc = .ok (.getfield 45, 3)) (kk : W p l e R s m args below meth c H locs cells slots Q (F0 m (pc + 3) ls (.ref (ead E r) :: rest))) : W p l e R s m args below meth c H locs cells slots Q (F0 m pc ls (.ref (ead E q) :: rest)) := kr_getr S hw hq (Nat.lt_trans hN (by decide)) rfl inX4 7 (by decide) q1_114 hf hdg kk
theorem gf_X4_48 {p : Program} {l : Launch} {e : Env} {R : Room} {s : State} {m : MethodId} {args : Array Value} {below : List Frame} {meth : Method} {c : Code} {H : Heap} {locs : List Loc} {cells slots : Nat} {Q : State → Prop} {cc : ByteArray} {pc : Nat} {ls : Array Slot} {rest : List Value} {E : kE} {σ ω : kS} {nL : Nat} (S : CallFix p m c cc nL s args kBIG RX4) (hw : kWS E s (cmb σ ω) H locs) {q : Nat} {fs : List (Option Nat)} (hq : wsh q = .inr (3, fs)) (hN : q < 26) {r : Nat} (hf : fs[8]? = some (some r)) (hdg : decode cc pc = .ok (.getfield 48, 3)) (kk : W p l e R s m args below meth c H locs cells slots Q (F0 m (pc + 3) ls (.ref (ead E r) :: rest))) : W p l e R s m args below meth c H locs cells slots Q (F0 m pc ls (.ref (ead E q) :: rest)) := kr_getr S hw hq (Nat.lt_trans hN (by decide)) rfl inX4 8 (by decide) q1_115 hf hdg kk
theorem gf_X4_51 {p : Program} {l : Launch} {e : Env} {R : Room} {s : State} {m : MethodId} {args : Array Value} {below : List Frame} {meth : Method} {c : Code} {H : Heap} {locs : List Loc} {cells slots : Nat} {Q : State → Prop} {cc : ByteArray} {pc : Nat} {ls : Array Slot} {rest : List Value} {E : kE} {σ ω : kS} {nL : Nat} (S : CallFix p m c cc nL s args kBIG RX4) (hw : kWS E s (cmb σ ω) H locs) {q : Nat} {fs : List (Option Nat)} (hq : wsh q = .inr (3, fs)) (hN : q < 26) (hf : fs[12]? = some none) (hdg : decode cc pc = .ok (.getfield 51, 3)) (kk : W p l e R s m args below meth c H locs cells slots Q (F0 m (pc + 3) ls (.int (σ q 12) :: rest))) : W p l e R s m args below meth c H locs cells slots Q (F0 m pc ls (.ref (ead E q) :: rest)) := kr_geti S hw hq (Nat.lt_trans hN (by decide)) rfl inX4 12 (by decide) q1_119 hf hdg (by rw [cmb_lo hN]; exact kk)
theorem gf_X4_73 {p : Program} {l : Launch} {e : Env} {R : Room} {s : State} {m : MethodId} {args : Array Value} {below : List Frame} {meth : Method} {c : Code} {H : Heap} {locs : List Loc} {cells slots : Nat} {Q : State → Prop} {cc : ByteArray} {pc : Nat} {ls : Array Slot} {rest : List Value} {E : kE} {σ ω : kS} {nL : Nat} (S : CallFix p m c cc nL s args kBIG RX4) (hw : kWS E s (cmb σ ω) H locs) {q : Nat} {fs : List (Option Nat)} (hq : wsh q = .inr (1, fs)) (hN : q < 26) {r : Nat} (hf : fs[3]? = some (some r)) (hdg : decode cc pc = .ok (.getfield 73, 3)) (kk : W p l e R s m args below meth c H locs cells slots Q (F0 m (pc + 3) ls (.ref (ead E r) :: rest))) : W p l e R s m args below meth c H locs cells slots Q (F0 m pc ls (.ref (ead E q) :: rest)) := kr_getr S hw hq (Nat.lt_trans hN (by decide)) rfl inX1 3 (by decide) q1_74 hf hdg kk
theorem gf_X4_86 {p : Program} {l : Launch} {e : Env} {R : Room} {s : State} {m : MethodId} {args : Array Value} {below : List Frame} {meth : Method} {c : Code} {H : Heap} {locs : List Loc} {cells slots : Nat} {Q : State → Prop} {cc : ByteArray} {pc : Nat} {ls : Array Slot} {rest : List Value} {E : kE} {σ ω : kS} {nL : Nat} (S : CallFix p m c cc nL s args kBIG RX4) (hw : kWS E s (cmb σ ω) H locs) {q : Nat} {fs : List (Option Nat)} (hq : wsh q = .inr (3, fs)) (hN : q < 26) (hf : fs[9]? = some none) (hdg : decode cc pc = .ok (.getfield 86, 3)) (kk : W p l e R s m args below meth c H locs cells slots Q (F0 m (pc + 3) ls (.int (σ q 9) :: rest))) : W p l e R s m args below meth c H locs cells slots Q (F0 m pc ls (.ref (ead E q) :: rest)) := kr_geti S hw hq (Nat.lt_trans hN (by decide)) rfl inX4 9 (by decide) q1_116 hf hdg (by rw [cmb_lo hN]; exact kk)
theorem gf_X4_89 {p : Program} {l : Launch} {e : Env} {R : Room} {s : State} {m : MethodId} {args : Array Value} {below : List Frame} {meth : Method} {c : Code} {H : Heap} {locs : List Loc} {cells slots : Nat} {Q : State → Prop} {cc : ByteArray} {pc : Nat} {ls : Array Slot} {rest : List Value} {E : kE} {σ ω : kS} {nL : Nat} (S : CallFix p m c cc nL s args kBIG RX4) (hw : kWS E s (cmb σ ω) H locs) {q : Nat} {fs : List (Option Nat)} (hq : wsh q = .inr (3, fs)) (hN : q < 26) (hf : fs[10]? = some none) (hdg : decode cc pc = .ok (.getfield 89, 3)) (kk : W p l e R s m args below meth c H locs cells slots Q (F0 m (pc + 3) ls (.int (σ q 10) :: rest))) : W p l e R s m args below meth c H locs cells slots Q (F0 m pc ls (.ref (ead E q) :: rest)) := kr_geti S hw hq (Nat.lt_trans hN (by decide)) rfl inX4 10 (by decide) q1_117 hf hdg (by rw [cmb_lo hN]; exact kk)
theorem gf_X4_92 {p : Program} {l : Launch} {e : Env} {R : Room} {s : State} {m : MethodId} {args : Array Value} {below : List Frame} {meth : Method} {c : Code} {H : Heap} {locs : List Loc} {cells slots : Nat} {Q : State → Prop} {cc : ByteArray} {pc : Nat} {ls : Array Slot} {rest : List Value} {E : kE} {σ ω : kS} {nL : Nat} (S : CallFix p m c cc nL s args kBIG RX4) (hw : kWS E s (cmb σ ω) H locs) {q : Nat} {fs : List (Option Nat)} (hq : wsh q = .inr (0, fs)) (hN : q < 26) (hf : fs[2]? = some none) (hdg : decode cc pc = .ok (.getfield 92, 3)) (kk : W p l e R s m args below meth c H locs cells slots Q (F0 m (pc + 3) ls (.int (σ q 2) :: rest))) : W p l e R s m args below meth c H locs cells slots Q (F0 m pc ls (.ref (ead E q) :: rest)) := kr_geti S hw hq (Nat.lt_trans hN (by decide)) rfl inX0 2 (by decide) q1_31 hf hdg (by rw [cmb_lo hN]; exact kk)
theorem gf_X4_98 {p : Program} {l : Launch} {e : Env} {R : Room} {s : State} {m : MethodId} {args : Array Value} {below : List Frame} {meth : Method} {c : Code} {H : Heap} {locs : List Loc} {cells slots : Nat} {Q : State → Prop} {cc : ByteArray} {pc : Nat} {ls : Array Slot} {rest : List Value} {E : kE} {σ ω : kS} {nL : Nat} (S : CallFix p m c cc nL s args kBIG RX4) (hw : kWS E s (cmb σ ω) H locs) {q : Nat} {fs : List (Option Nat)} (hq : wsh q = .inr (0, fs)) (hN : q < 26) {r : Nat} (hf : fs[3]? = some (some r)) (hdg : decode cc pc = .ok (.getfield 98, 3)) (kk : W p l e R s m args below meth c H locs cells slots Q (F0 m (pc + 3) ls (.ref (ead E r) :: rest))) : W p l e R s m args below meth c H locs cells slots Q (F0 m pc ls (.ref (ead E q) :: rest)) := kr_getr S hw hq (Nat.lt_trans hN (by decide)) rfl inX0 3 (by decide) q1_34 hf hdg kk
theorem gf_X4_101 {p : Program} {l : Launch} {e : Env} {R : Room} {s : State} {m : MethodId} {args : Array Value} {below : List Frame} {meth : Method} {c : Code} {H : Heap} {locs : List Loc} {cells slots : Nat} {Q : State → Prop} {cc : ByteArray} {pc : Nat} {ls : Array Slot} {rest : List Value} {E : kE} {σ ω : kS} {nL : Nat} (S : CallFix p m c cc nL s args kBIG RX4) (hw : kWS E s (cmb σ ω) H locs) {q : Nat} {fs : List (Option Nat)} (hq : wsh q = .inr (0, fs)) (hN : q < 26) {r : Nat} (hf : fs[4]? = some (some r)) (hdg : decode cc pc = .ok (.getfield 101, 3)) (kk : W p l e R s m args below meth c H locs cells slots Q (F0 m (pc + 3) ls (.ref (ead E r) :: rest))) : W p l e R s m args below meth c H locs cells slots Q (F0 m pc ls (.ref (ead E q) :: rest)) := kr_getr S hw hq (Nat.lt_trans hN (by decide)) rfl inX0 4 (by decide) q1_37 hf hdg kk
theorem gf_X4_104 {p : Program} {l : Launch} {e : Env} {R : Room} {s : State} {m : MethodId} {args : Array Value} {below : List Frame} {meth : Method} {c : Code} {H : Heap} {locs : List Loc} {cells slots : Nat} {Q : State → Prop} {cc : ByteArray} {pc : Nat} {ls : Array Slot} {rest : List Value} {E : kE} {σ ω : kS} {nL : Nat} (S : CallFix p m c cc nL s args kBIG RX4) (hw : kWS E s (cmb σ ω) H locs) {q : Nat} {fs : List (Option Nat)} (hq : wsh q = .inr (0, fs)) (hN : q < 26) {r : Nat} (hf : fs[5]? = some (some r)) (hdg : decode cc pc = .ok (.getfield 104, 3)) (kk : W p l e R s m args below meth c H locs cells slots Q (F0 m (pc + 3) ls (.ref (ead E r) :: rest))) : W p l e R s m args below meth c H locs cells slots Q (F0 m pc ls (.ref (ead E q) :: rest)) := kr_getr S hw hq (Nat.lt_trans hN (by decide)) rfl inX0 5 (by decide) q1_40 hf hdg kk
theorem gf_X4_107 {p : Program} {l : Launch} {e : Env} {R : Room} {s : State} {m : MethodId} {args : Array Value} {below : List Frame} {meth : Method} {c : Code} {H : Heap} {locs : List Loc} {cells slots : Nat} {Q : State → Prop} {cc : ByteArray} {pc : Nat} {ls : Array Slot} {rest : List Value} {E : kE} {σ ω : kS} {nL : Nat} (S : CallFix p m c cc nL s args kBIG RX4) (hw : kWS E s (cmb σ ω) H locs) {q : Nat} {fs : List (Option Nat)} (hq : wsh q = .inr (0, fs)) (hN : q < 26) {r : Nat} (hf : fs[6]? = some (some r)) (hdg : decode cc pc = .ok (.getfield 107, 3)) (kk : W p l e R s m args below meth c H locs cells slots Q (F0 m (pc + 3) ls (.ref (ead E r) :: rest))) : W p l e R s m args below meth c H locs cells slots Q (F0 m pc ls (.ref (ead E q) :: rest)) := kr_getr S hw hq (Nat.lt_trans hN (by decide)) rfl inX0 6 (by decide) q1_43 hf hdg kk
theorem gf_X4_123 {p : Program} {l : Launch} {e : Env} {R : Room} {s : State} {m : MethodId} {args : Array Value} {below : List Frame} {meth : Method} {c : Code} {H : Heap} {locs : List Loc} {cells slots : Nat} {Q : State → Prop} {cc : ByteArray} {pc : Nat} {ls : Array Slot} {rest : List Value} {E : kE} {σ ω : kS} {nL : Nat} (S : CallFix p m c cc nL s args kBIG RX4) (hw : kWS E s (cmb σ ω) H locs) {q : Nat} {fs : List (Option Nat)} (hq : wsh q = .inr (0, fs)) (hN : q < 26) (hf : fs[0]? = some none) (hdg : decode cc pc = .ok (.getfield 123, 3)) (kk : W p l e R s m args below meth c H locs cells slots Q (F0 m (pc + 3) ls (.int (σ q 0) :: rest))) : W p l e R s m args below meth c H locs cells slots Q (F0 m pc ls (.ref (ead E q) :: rest)) := kr_geti S hw hq (Nat.lt_trans hN (by decide)) rfl inX0 0 (by decide) q1_25 hf hdg (by rw [cmb_lo hN]; exact kk)
theorem gf_X4_126 {p : Program} {l : Launch} {e : Env} {R : Room} {s : State} {m : MethodId} {args : Array Value} {below : List Frame} {meth : Method} {c : Code} {H : Heap} {locs : List Loc} {cells slots : Nat} {Q : State → Prop} {cc : ByteArray} {pc : Nat} {ls : Array Slot} {rest : List Value} {E : kE} {σ ω : kS} {nL : Nat} (S : CallFix p m c cc nL s args kBIG RX4) (hw : kWS E s (cmb σ ω) H locs) {q : Nat} {fs : List (Option Nat)} (hq : wsh q = .inr (0, fs)) (hN : q < 26) (hf : fs[1]? = some none) (hdg : decode cc pc = .ok (.getfield 126, 3)) (kk : W p l e R s m args below meth c H locs cells slots Q (F0 m (pc + 3) ls (.int (σ q 1) :: rest))) : W p l e R s m args below meth c H locs cells slots Q (F0 m pc ls (.ref (ead E q) :: rest)) := kr_geti S hw hq (Nat.lt_trans hN (by decide)) rfl inX0 1 (by decide) q1_29 hf hdg (by rw [cmb_lo hN]; exact kk)
theorem gf_X4_183 {p : Program} {l : Launch} {e : Env} {R : Room} {s : State} {m : MethodId} {args : Array Value} {below : List Frame} {meth : Method} {c : Code} {H : Heap} {locs : List Loc} {cells slots : Nat} {Q : State → Prop} {cc : ByteArray} {pc : Nat} {ls : Array Slot} {rest : List Value} {E : kE} {σ ω : kS} {nL : Nat} (S : CallFix p m c cc nL s args kBIG RX4) (hw : kWS E s (cmb σ ω) H locs) {q : Nat} {fs : List (Option Nat)} (hq : wsh q = .inr (1, fs)) (hN : q < 26) (hf : fs[0]? = some none) (hdg : decode cc pc = .ok (.getfield 183, 3)) (kk : W p l e R s m args below meth c H locs cells slots Q (F0 m (pc + 3) ls (.int (σ q 0) :: rest))) : W p l e R s m args below meth c H locs cells slots Q (F0 m pc ls (.ref (ead E q) :: rest)) := kr_geti S hw hq (Nat.lt_trans hN (by decide)) rfl inX1 0 (by decide) q1_69 hf hdg (by rw [cmb_lo hN]; exact kk)
theorem gf_X4_193 {p : Program} {l : Launch} {e : Env} {R : Room} {s : State} {m : MethodId} {args : Array Value} {below : List Frame} {meth : Method} {c : Code} {H : Heap} {locs : List Loc} {cells slots : Nat} {Q : State → Prop} {cc : ByteArray} {pc : Nat} {ls : Array Slot} {rest : List Value} {E : kE} {σ ω : kS} {nL : Nat} (S : CallFix p m c cc nL s args kBIG RX4) (hw : kWS E s (cmb σ ω) H locs) {q : Nat} {fs : List (Option Nat)} (hq : wsh q = .inr (1, fs)) (hN : q < 26) (hf : fs[1]? = some none) (hdg : decode cc pc = .ok (.getfield 193, 3)) (kk : W p l e R s m args below meth c H locs cells slots Q (F0 m (pc + 3) ls (.int (σ q 1) :: rest))) : W p l e R s m args below meth c H locs cells slots Q (F0 m pc ls (.ref (ead E q) :: rest)) := kr_geti S hw hq (Nat.lt_trans hN (by decide)) rfl inX1 1 (by decide) q1_71 hf hdg (by rw [cmb_lo hN]; exact kk)
theorem gf_X4_215 {p : Program} {l : Launch} {e : Env} {R : Room} {s : State} {m : MethodId} {args : Array Value} {below : List Frame} {meth : Method} {c : Code} {H : Heap} {locs : List Loc} {cells slots : Nat} {Q : State → Prop} {cc : ByteArray} {pc : Nat} {ls : Array Slot} {rest : List Value} {E : kE} {σ ω : kS} {nL : Nat} (S : CallFix p m c cc nL s args kBIG RX4) (hw : kWS E s (cmb σ ω) H locs) {q : Nat} {fs : List (Option Nat)} (hq : wsh q = .inr (3, fs)) (hN : q < 26) (hf : fs[11]? = some none) (hdg : decode cc pc = .ok (.getfield 215, 3)) (kk : W p l e R s m args below meth c H locs cells slots Q (F0 m (pc + 3) ls (.int (σ q 11) :: rest))) : W p l e R s m args below meth c H locs cells slots Q (F0 m pc ls (.ref (ead E q) :: rest)) := kr_geti S hw hq (Nat.lt_trans hN (by decide)) rfl inX4 11 (by decide) q1_118 hf hdg (by rw [cmb_lo hN]; exact kk)
theorem gf_X4_225 {p : Program} {l : Launch} {e : Env} {R : Room} {s : State} {m : MethodId} {args : Array Value} {below : List Frame} {meth : Method} {c : Code} {H : Heap} {locs : List Loc} {cells slots : Nat} {Q : State → Prop} {cc : ByteArray} {pc : Nat} {ls : Array Slot} {rest : List Value} {E : kE} {σ ω : kS} {nL : Nat} (S : CallFix p m c cc nL s args kBIG RX4) (hw : kWS E s (cmb σ ω) H locs) {q : Nat} {fs : List (Option Nat)} (hq : wsh q = .inr (2, fs)) (hN : q < 26) (hf : fs[0]? = some none) (hdg : decode cc pc = .ok (.getfield 225, 3)) (kk : W p l e R s m args below meth c H locs cells slots Q (F0 m (pc + 3) ls (.int (σ q 0) :: rest))) : W p l e R s m args below meth c H locs cells slots Q (F0 m pc ls (.ref (ead E q) :: rest)) := kr_geti S hw hq (Nat.lt_trans hN (by decide)) rfl inX2 0 (by decide) q1_91 hf hdg (by rw [cmb_lo hN]; exact kk)
theorem gf_X4_228 {p : Program} {l : Launch} {e : Env} {R : Room} {s : State} {m : MethodId} {args : Array Value} {below : List Frame} {meth : Method} {c : Code} {H : Heap} {locs : List Loc} {cells slots : Nat} {Q : State → Prop} {cc : ByteArray} {pc : Nat} {ls : Array Slot} {rest : List Value} {E : kE} {σ ω : kS} {nL : Nat} (S : CallFix p m c cc nL s args kBIG RX4) (hw : kWS E s (cmb σ ω) H locs) {q : Nat} {fs : List (Option Nat)} (hq : wsh q = .inr (2, fs)) (hN : q < 26) (hf : fs[1]? = some none) (hdg : decode cc pc = .ok (.getfield 228, 3)) (kk : W p l e R s m args below meth c H locs cells slots Q (F0 m (pc + 3) ls (.int (σ q 1) :: rest))) : W p l e R s m args below meth c H locs cells slots Q (F0 m pc ls (.ref (ead E q) :: rest)) := kr_geti S hw hq (Nat.lt_trans hN (by decide)) rfl inX2 1 (by decide) q1_93 hf hdg (by rw [cmb_lo hN]; exact kk)
theorem gf_X4_231 {p : Program} {l : Launch} {e : Env} {R : Room} {s : State} {m : MethodId} {args : Array Value} {below : List Frame} {meth : Method} {c : Code} {H : Heap} {locs : List Loc} {cells slots : Nat} {Q : State → Prop} {cc : ByteArray} {pc : Nat} {ls : Array Slot} {rest : List Value} {E : kE} {σ ω : kS} {nL : Nat} (S : CallFix p m c cc nL s args kBIG RX4) (hw : kWS E s (cmb σ ω) H locs) {q : Nat} {fs : List (Option Nat)} (hq : wsh q = .inr (2, fs)) (hN : q < 26) (hf : fs[2]? = some none) (hdg : decode cc pc = .ok (.getfield 231, 3)) (kk : W p l e R s m args below meth c H locs cells slots Q (F0 m (pc + 3) ls (.int (σ q 2) :: rest))) : W p l e R s m args below meth c H locs cells slots Q (F0 m pc ls (.ref (ead E q) :: rest)) := kr_geti S hw hq (Nat.lt_trans hN (by decide)) rfl inX2 2 (by decide) q1_95 hf hdg (by rw [cmb_lo hN]; exact kk)
theorem gf_X4_234 {p : Program} {l : Launch} {e : Env} {R : Room} {s : State} {m : MethodId} {args : Array Value} {below : List Frame} {meth : Method} {c : Code} {H : Heap} {locs : List Loc} {cells slots : Nat} {Q : State → Prop} {cc : ByteArray} {pc : Nat} {ls : Array Slot} {rest : List Value} {E : kE} {σ ω : kS} {nL : Nat} (S : CallFix p m c cc nL s args kBIG RX4) (hw : kWS E s (cmb σ ω) H locs) {q : Nat} {fs : List (Option Nat)} (hq : wsh q = .inr (2, fs)) (hN : q < 26) (hf : fs[3]? = some none) (hdg : decode cc pc = .ok (.getfield 234, 3)) (kk : W p l e R s m args below meth c H locs cells slots Q (F0 m (pc + 3) ls (.int (σ q 3) :: rest))) : W p l e R s m args below meth c H locs cells slots Q (F0 m pc ls (.ref (ead E q) :: rest)) := kr_geti S hw hq (Nat.lt_trans hN (by decide)) rfl inX2 3 (by decide) q1_97 hf hdg (by rw [cmb_lo hN]; exact kk)
theorem gf_X5_7 {p : Program} {l : Launch} {e : Env} {R : Room} {s : State} {m : MethodId} {args : Array Value} {below : List Frame} {meth : Method} {c : Code} {H : Heap} {locs : List Loc} {cells slots : Nat} {Q : State → Prop} {cc : ByteArray} {pc : Nat} {ls : Array Slot} {rest : List Value} {E : kE} {σ ω : kS} {nL : Nat} (S : CallFix p m c cc nL s args kBIG RX5) (hw : kWS E s (cmb ω σ) H locs) (hdg : decode cc pc = .ok (.getfield 7, 3)) (kk : W p l e R s m args below meth c H locs cells slots Q (F0 m (pc + 3) ls (.ref (ead E 27) :: rest))) : W p l e R s m args below meth c H locs cells slots Q (F0 m pc ls (.ref (ead E 26) :: rest)) := kr_getr (q := 26) S hw rfl (by decide) rfl inX5 5 (by decide) q2_218 rfl hdg kk
theorem gf_X5_13 {p : Program} {l : Launch} {e : Env} {R : Room} {s : State} {m : MethodId} {args : Array Value} {below : List Frame} {meth : Method} {c : Code} {H : Heap} {locs : List Loc} {cells slots : Nat} {Q : State → Prop} {cc : ByteArray} {pc : Nat} {ls : Array Slot} {rest : List Value} {E : kE} {σ ω : kS} {nL : Nat} (S : CallFix p m c cc nL s args kBIG RX5) (hw : kWS E s (cmb ω σ) H locs) (hdg : decode cc pc = .ok (.getfield 13, 3)) (kk : W p l e R s m args below meth c H locs cells slots Q (F0 m (pc + 3) ls (.ref (ead E 28) :: rest))) : W p l e R s m args below meth c H locs cells slots Q (F0 m pc ls (.ref (ead E 26) :: rest)) := kr_getr (q := 26) S hw rfl (by decide) rfl inX5 6 (by decide) q2_219 rfl hdg kk
theorem gf_X5_16 {p : Program} {l : Launch} {e : Env} {R : Room} {s : State} {m : MethodId} {args : Array Value} {below : List Frame} {meth : Method} {c : Code} {H : Heap} {locs : List Loc} {cells slots : Nat} {Q : State → Prop} {cc : ByteArray} {pc : Nat} {ls : Array Slot} {rest : List Value} {E : kE} {σ ω : kS} {nL : Nat} (S : CallFix p m c cc nL s args kBIG RX5) (hw : kWS E s (cmb ω σ) H locs) (hdg : decode cc pc = .ok (.getfield 16, 3)) (kk : W p l e R s m args below meth c H locs cells slots Q (F0 m (pc + 3) ls (.ref (ead E 29) :: rest))) : W p l e R s m args below meth c H locs cells slots Q (F0 m pc ls (.ref (ead E 26) :: rest)) := kr_getr (q := 26) S hw rfl (by decide) rfl inX5 7 (by decide) q2_220 rfl hdg kk
theorem gf_X5_19 {p : Program} {l : Launch} {e : Env} {R : Room} {s : State} {m : MethodId} {args : Array Value} {below : List Frame} {meth : Method} {c : Code} {H : Heap} {locs : List Loc} {cells slots : Nat} {Q : State → Prop} {cc : ByteArray} {pc : Nat} {ls : Array Slot} {rest : List Value} {E : kE} {σ ω : kS} {nL : Nat} (S : CallFix p m c cc nL s args kBIG RX5) (hw : kWS E s (cmb ω σ) H locs) (hdg : decode cc pc = .ok (.getfield 19, 3)) (kk : W p l e R s m args below meth c H locs cells slots Q (F0 m (pc + 3) ls (.ref (ead E 30) :: rest))) : W p l e R s m args below meth c H locs cells slots Q (F0 m pc ls (.ref (ead E 26) :: rest)) := kr_getr (q := 26) S hw rfl (by decide) rfl inX5 8 (by decide) q2_221 rfl hdg kk
theorem gf_X5_22 {p : Program} {l : Launch} {e : Env} {R : Room} {s : State} {m : MethodId} {args : Array Value} {below : List Frame} {meth : Method} {c : Code} {H : Heap} {locs : List Loc} {cells slots : Nat} {Q : State → Prop} {cc : ByteArray} {pc : Nat} {ls : Array Slot} {rest : List Value} {E : kE} {σ ω : kS} {nL : Nat} (S : CallFix p m c cc nL s args kBIG RX5) (hw : kWS E s (cmb ω σ) H locs) (hdg : decode cc pc = .ok (.getfield 22, 3)) (kk : W p l e R s m args below meth c H locs cells slots Q (F0 m (pc + 3) ls (.ref (ead E 31) :: rest))) : W p l e R s m args below meth c H locs cells slots Q (F0 m pc ls (.ref (ead E 26) :: rest)) := kr_getr (q := 26) S hw rfl (by decide) rfl inX5 11 (by decide) q2_224 rfl hdg kk
theorem gf_X5_25 {p : Program} {l : Launch} {e : Env} {R : Room} {s : State} {m : MethodId} {args : Array Value} {below : List Frame} {meth : Method} {c : Code} {H : Heap} {locs : List Loc} {cells slots : Nat} {Q : State → Prop} {cc : ByteArray} {pc : Nat} {ls : Array Slot} {rest : List Value} {E : kE} {σ ω : kS} {nL : Nat} (S : CallFix p m c cc nL s args kBIG RX5) (hw : kWS E s (cmb ω σ) H locs) (hdg : decode cc pc = .ok (.getfield 25, 3)) (kk : W p l e R s m args below meth c H locs cells slots Q (F0 m (pc + 3) ls (.ref (ead E 32) :: rest))) : W p l e R s m args below meth c H locs cells slots Q (F0 m pc ls (.ref (ead E 26) :: rest)) := kr_getr (q := 26) S hw rfl (by decide) rfl inX5 12 (by decide) q2_225 rfl hdg kk
theorem gf_X5_28 {p : Program} {l : Launch} {e : Env} {R : Room} {s : State} {m : MethodId} {args : Array Value} {below : List Frame} {meth : Method} {c : Code} {H : Heap} {locs : List Loc} {cells slots : Nat} {Q : State → Prop} {cc : ByteArray} {pc : Nat} {ls : Array Slot} {rest : List Value} {E : kE} {σ ω : kS} {nL : Nat} (S : CallFix p m c cc nL s args kBIG RX5) (hw : kWS E s (cmb ω σ) H locs) (hdg : decode cc pc = .ok (.getfield 28, 3)) (kk : W p l e R s m args below meth c H locs cells slots Q (F0 m (pc + 3) ls (.ref (ead E 33) :: rest))) : W p l e R s m args below meth c H locs cells slots Q (F0 m pc ls (.ref (ead E 26) :: rest)) := kr_getr (q := 26) S hw rfl (by decide) rfl inX5 13 (by decide) q2_226 rfl hdg kk
theorem gf_X5_31 {p : Program} {l : Launch} {e : Env} {R : Room} {s : State} {m : MethodId} {args : Array Value} {below : List Frame} {meth : Method} {c : Code} {H : Heap} {locs : List Loc} {cells slots : Nat} {Q : State → Prop} {cc : ByteArray} {pc : Nat} {ls : Array Slot} {rest : List Value} {E : kE} {σ ω : kS} {nL : Nat} (S : CallFix p m c cc nL s args kBIG RX5) (hw : kWS E s (cmb ω σ) H locs) (hdg : decode cc pc = .ok (.getfield 31, 3)) (kk : W p l e R s m args below meth c H locs cells slots Q (F0 m (pc + 3) ls (.ref (ead E 34) :: rest))) : W p l e R s m args below meth c H locs cells slots Q (F0 m pc ls (.ref (ead E 26) :: rest)) := kr_getr (q := 26) S hw rfl (by decide) rfl inX5 14 (by decide) q2_227 rfl hdg kk
theorem gf_X5_34 {p : Program} {l : Launch} {e : Env} {R : Room} {s : State} {m : MethodId} {args : Array Value} {below : List Frame} {meth : Method} {c : Code} {H : Heap} {locs : List Loc} {cells slots : Nat} {Q : State → Prop} {cc : ByteArray} {pc : Nat} {ls : Array Slot} {rest : List Value} {E : kE} {σ ω : kS} {nL : Nat} (S : CallFix p m c cc nL s args kBIG RX5) (hw : kWS E s (cmb ω σ) H locs) (hdg : decode cc pc = .ok (.getfield 34, 3)) (kk : W p l e R s m args below meth c H locs cells slots Q (F0 m (pc + 3) ls (.ref (ead E 35) :: rest))) : W p l e R s m args below meth c H locs cells slots Q (F0 m pc ls (.ref (ead E 26) :: rest)) := kr_getr (q := 26) S hw rfl (by decide) rfl inX5 17 (by decide) q2_230 rfl hdg kk
theorem gf_X5_37 {p : Program} {l : Launch} {e : Env} {R : Room} {s : State} {m : MethodId} {args : Array Value} {below : List Frame} {meth : Method} {c : Code} {H : Heap} {locs : List Loc} {cells slots : Nat} {Q : State → Prop} {cc : ByteArray} {pc : Nat} {ls : Array Slot} {rest : List Value} {E : kE} {σ ω : kS} {nL : Nat} (S : CallFix p m c cc nL s args kBIG RX5) (hw : kWS E s (cmb ω σ) H locs) (hdg : decode cc pc = .ok (.getfield 37, 3)) (kk : W p l e R s m args below meth c H locs cells slots Q (F0 m (pc + 3) ls (.ref (ead E 36) :: rest))) : W p l e R s m args below meth c H locs cells slots Q (F0 m pc ls (.ref (ead E 26) :: rest)) := kr_getr (q := 26) S hw rfl (by decide) rfl inX5 18 (by decide) q2_231 rfl hdg kk
theorem gf_X5_40 {p : Program} {l : Launch} {e : Env} {R : Room} {s : State} {m : MethodId} {args : Array Value} {below : List Frame} {meth : Method} {c : Code} {H : Heap} {locs : List Loc} {cells slots : Nat} {Q : State → Prop} {cc : ByteArray} {pc : Nat} {ls : Array Slot} {rest : List Value} {E : kE} {σ ω : kS} {nL : Nat} (S : CallFix p m c cc nL s args kBIG RX5) (hw : kWS E s (cmb ω σ) H locs) (hdg : decode cc pc = .ok (.getfield 40, 3)) (kk : W p l e R s m args below meth c H locs cells slots Q (F0 m (pc + 3) ls (.ref (ead E 37) :: rest))) : W p l e R s m args below meth c H locs cells slots Q (F0 m pc ls (.ref (ead E 26) :: rest)) := kr_getr (q := 26) S hw rfl (by decide) rfl inX5 19 (by decide) q2_232 rfl hdg kk
theorem gf_X5_43 {p : Program} {l : Launch} {e : Env} {R : Room} {s : State} {m : MethodId} {args : Array Value} {below : List Frame} {meth : Method} {c : Code} {H : Heap} {locs : List Loc} {cells slots : Nat} {Q : State → Prop} {cc : ByteArray} {pc : Nat} {ls : Array Slot} {rest : List Value} {E : kE} {σ ω : kS} {nL : Nat} (S : CallFix p m c cc nL s args kBIG RX5) (hw : kWS E s (cmb ω σ) H locs) (hdg : decode cc pc = .ok (.getfield 43, 3)) (kk : W p l e R s m args below meth c H locs cells slots Q (F0 m (pc + 3) ls (.ref (ead E 38) :: rest))) : W p l e R s m args below meth c H locs cells slots Q (F0 m pc ls (.ref (ead E 26) :: rest)) := kr_getr (q := 26) S hw rfl (by decide) rfl inX5 20 (by decide) q2_233 rfl hdg kk
theorem gf_X5_46 {p : Program} {l : Launch} {e : Env} {R : Room} {s : State} {m : MethodId} {args : Array Value} {below : List Frame} {meth : Method} {c : Code} {H : Heap} {locs : List Loc} {cells slots : Nat} {Q : State → Prop} {cc : ByteArray} {pc : Nat} {ls : Array Slot} {rest : List Value} {E : kE} {σ ω : kS} {nL : Nat} (S : CallFix p m c cc nL s args kBIG RX5) (hw : kWS E s (cmb ω σ) H locs) (hdg : decode cc pc = .ok (.getfield 46, 3)) (kk : W p l e R s m args below meth c H locs cells slots Q (F0 m (pc + 3) ls (.ref (ead E 39) :: rest))) : W p l e R s m args below meth c H locs cells slots Q (F0 m pc ls (.ref (ead E 26) :: rest)) := kr_getr (q := 26) S hw rfl (by decide) rfl inX5 21 (by decide) q2_234 rfl hdg kk
theorem gf_X5_49 {p : Program} {l : Launch} {e : Env} {R : Room} {s : State} {m : MethodId} {args : Array Value} {below : List Frame} {meth : Method} {c : Code} {H : Heap} {locs : List Loc} {cells slots : Nat} {Q : State → Prop} {cc : ByteArray} {pc : Nat} {ls : Array Slot} {rest : List Value} {E : kE} {σ ω : kS} {nL : Nat} (S : CallFix p m c cc nL s args kBIG RX5) (hw : kWS E s (cmb ω σ) H locs) (hdg : decode cc pc = .ok (.getfield 49, 3)) (kk : W p l e R s m args below meth c H locs cells slots Q (F0 m (pc + 3) ls (.ref (ead E 40) :: rest))) : W p l e R s m args below meth c H locs cells slots Q (F0 m pc ls (.ref (ead E 26) :: rest)) := kr_getr (q := 26) S hw rfl (by decide) rfl inX5 22 (by decide) q2_235 rfl hdg kk
theorem gf_X5_52 {p : Program} {l : Launch} {e : Env} {R : Room} {s : State} {m : MethodId} {args : Array Value} {below : List Frame} {meth : Method} {c : Code} {H : Heap} {locs : List Loc} {cells slots : Nat} {Q : State → Prop} {cc : ByteArray} {pc : Nat} {ls : Array Slot} {rest : List Value} {E : kE} {σ ω : kS} {nL : Nat} (S : CallFix p m c cc nL s args kBIG RX5) (hw : kWS E s (cmb ω σ) H locs) (hdg : decode cc pc = .ok (.getfield 52, 3)) (kk : W p l e R s m args below meth c H locs cells slots Q (F0 m (pc + 3) ls (.ref (ead E 41) :: rest))) : W p l e R s m args below meth c H locs cells slots Q (F0 m pc ls (.ref (ead E 26) :: rest)) := kr_getr (q := 26) S hw rfl (by decide) rfl inX5 24 (by decide) q2_237 rfl hdg kk
theorem gf_X5_55 {p : Program} {l : Launch} {e : Env} {R : Room} {s : State} {m : MethodId} {args : Array Value} {below : List Frame} {meth : Method} {c : Code} {H : Heap} {locs : List Loc} {cells slots : Nat} {Q : State → Prop} {cc : ByteArray} {pc : Nat} {ls : Array Slot} {rest : List Value} {E : kE} {σ ω : kS} {nL : Nat} (S : CallFix p m c cc nL s args kBIG RX5) (hw : kWS E s (cmb ω σ) H locs) (hdg : decode cc pc = .ok (.getfield 55, 3)) (kk : W p l e R s m args below meth c H locs cells slots Q (F0 m (pc + 3) ls (.ref (ead E 42) :: rest))) : W p l e R s m args below meth c H locs cells slots Q (F0 m pc ls (.ref (ead E 26) :: rest)) := kr_getr (q := 26) S hw rfl (by decide) rfl inX5 25 (by decide) q2_238 rfl hdg kk
theorem gf_X5_58 {p : Program} {l : Launch} {e : Env} {R : Room} {s : State} {m : MethodId} {args : Array Value} {below : List Frame} {meth : Method} {c : Code} {H : Heap} {locs : List Loc} {cells slots : Nat} {Q : State → Prop} {cc : ByteArray} {pc : Nat} {ls : Array Slot} {rest : List Value} {E : kE} {σ ω : kS} {nL : Nat} (S : CallFix p m c cc nL s args kBIG RX5) (hw : kWS E s (cmb ω σ) H locs) (hdg : decode cc pc = .ok (.getfield 58, 3)) (kk : W p l e R s m args below meth c H locs cells slots Q (F0 m (pc + 3) ls (.ref (ead E 43) :: rest))) : W p l e R s m args below meth c H locs cells slots Q (F0 m pc ls (.ref (ead E 26) :: rest)) := kr_getr (q := 26) S hw rfl (by decide) rfl inX5 26 (by decide) q2_239 rfl hdg kk
theorem gf_X5_61 {p : Program} {l : Launch} {e : Env} {R : Room} {s : State} {m : MethodId} {args : Array Value} {below : List Frame} {meth : Method} {c : Code} {H : Heap} {locs : List Loc} {cells slots : Nat} {Q : State → Prop} {cc : ByteArray} {pc : Nat} {ls : Array Slot} {rest : List Value} {E : kE} {σ ω : kS} {nL : Nat} (S : CallFix p m c cc nL s args kBIG RX5) (hw : kWS E s (cmb ω σ) H locs) (hdg : decode cc pc = .ok (.getfield 61, 3)) (kk : W p l e R s m args below meth c H locs cells slots Q (F0 m (pc + 3) ls (.ref (ead E 44) :: rest))) : W p l e R s m args below meth c H locs cells slots Q (F0 m pc ls (.ref (ead E 26) :: rest)) := kr_getr (q := 26) S hw rfl (by decide) rfl inX5 27 (by decide) q3_0 rfl hdg kk
theorem gf_X5_64 {p : Program} {l : Launch} {e : Env} {R : Room} {s : State} {m : MethodId} {args : Array Value} {below : List Frame} {meth : Method} {c : Code} {H : Heap} {locs : List Loc} {cells slots : Nat} {Q : State → Prop} {cc : ByteArray} {pc : Nat} {ls : Array Slot} {rest : List Value} {E : kE} {σ ω : kS} {nL : Nat} (S : CallFix p m c cc nL s args kBIG RX5) (hw : kWS E s (cmb ω σ) H locs) (hdg : decode cc pc = .ok (.getfield 64, 3)) (kk : W p l e R s m args below meth c H locs cells slots Q (F0 m (pc + 3) ls (.ref (ead E 45) :: rest))) : W p l e R s m args below meth c H locs cells slots Q (F0 m pc ls (.ref (ead E 26) :: rest)) := kr_getr (q := 26) S hw rfl (by decide) rfl inX5 28 (by decide) q3_1 rfl hdg kk
theorem gf_X5_67 {p : Program} {l : Launch} {e : Env} {R : Room} {s : State} {m : MethodId} {args : Array Value} {below : List Frame} {meth : Method} {c : Code} {H : Heap} {locs : List Loc} {cells slots : Nat} {Q : State → Prop} {cc : ByteArray} {pc : Nat} {ls : Array Slot} {rest : List Value} {E : kE} {σ ω : kS} {nL : Nat} (S : CallFix p m c cc nL s args kBIG RX5) (hw : kWS E s (cmb ω σ) H locs) (hdg : decode cc pc = .ok (.getfield 67, 3)) (kk : W p l e R s m args below meth c H locs cells slots Q (F0 m (pc + 3) ls (.ref (ead E 46) :: rest))) : W p l e R s m args below meth c H locs cells slots Q (F0 m pc ls (.ref (ead E 26) :: rest)) := kr_getr (q := 26) S hw rfl (by decide) rfl inX5 29 (by decide) q3_2 rfl hdg kk
theorem gf_X5_72 {p : Program} {l : Launch} {e : Env} {R : Room} {s : State} {m : MethodId} {args : Array Value} {below : List Frame} {meth : Method} {c : Code} {H : Heap} {locs : List Loc} {cells slots : Nat} {Q : State → Prop} {cc : ByteArray} {pc : Nat} {ls : Array Slot} {rest : List Value} {E : kE} {σ ω : kS} {nL : Nat} (S : CallFix p m c cc nL s args kBIG RX5) (hw : kWS E s (cmb ω σ) H locs) (hdg : decode cc pc = .ok (.getfield 72, 3)) (kk : W p l e R s m args below meth c H locs cells slots Q (F0 m (pc + 3) ls (.int (σ 0 0) :: rest))) : W p l e R s m args below meth c H locs cells slots Q (F0 m pc ls (.ref (ead E 26) :: rest)) := kr_geti (q := 26) S hw rfl (by decide) rfl inX5 0 (by decide) q2_213 rfl hdg kk
theorem gf_X5_80 {p : Program} {l : Launch} {e : Env} {R : Room} {s : State} {m : MethodId} {args : Array Value} {below : List Frame} {meth : Method} {c : Code} {H : Heap} {locs : List Loc} {cells slots : Nat} {Q : State → Prop} {cc : ByteArray} {pc : Nat} {ls : Array Slot} {rest : List Value} {E : kE} {σ ω : kS} {nL : Nat} (S : CallFix p m c cc nL s args kBIG RX5) (hw : kWS E s (cmb ω σ) H locs) (hdg : decode cc pc = .ok (.getfield 80, 3)) (kk : W p l e R s m args below meth c H locs cells slots Q (F0 m (pc + 3) ls (.int (σ 0 1) :: rest))) : W p l e R s m args below meth c H locs cells slots Q (F0 m pc ls (.ref (ead E 26) :: rest)) := kr_geti (q := 26) S hw rfl (by decide) rfl inX5 1 (by decide) q2_214 rfl hdg kk
theorem gf_X5_87 {p : Program} {l : Launch} {e : Env} {R : Room} {s : State} {m : MethodId} {args : Array Value} {below : List Frame} {meth : Method} {c : Code} {H : Heap} {locs : List Loc} {cells slots : Nat} {Q : State → Prop} {cc : ByteArray} {pc : Nat} {ls : Array Slot} {rest : List Value} {E : kE} {σ ω : kS} {nL : Nat} (S : CallFix p m c cc nL s args kBIG RX5) (hw : kWS E s (cmb ω σ) H locs) (hdg : decode cc pc = .ok (.getfield 87, 3)) (kk : W p l e R s m args below meth c H locs cells slots Q (F0 m (pc + 3) ls (.int (σ 0 9) :: rest))) : W p l e R s m args below meth c H locs cells slots Q (F0 m pc ls (.ref (ead E 26) :: rest)) := kr_geti (q := 26) S hw rfl (by decide) rfl inX5 9 (by decide) q2_222 rfl hdg kk
theorem gf_X5_94 {p : Program} {l : Launch} {e : Env} {R : Room} {s : State} {m : MethodId} {args : Array Value} {below : List Frame} {meth : Method} {c : Code} {H : Heap} {locs : List Loc} {cells slots : Nat} {Q : State → Prop} {cc : ByteArray} {pc : Nat} {ls : Array Slot} {rest : List Value} {E : kE} {σ ω : kS} {nL : Nat} (S : CallFix p m c cc nL s args kBIG RX5) (hw : kWS E s (cmb ω σ) H locs) (hdg : decode cc pc = .ok (.getfield 94, 3)) (kk : W p l e R s m args below meth c H locs cells slots Q (F0 m (pc + 3) ls (.int (σ 0 10) :: rest))) : W p l e R s m args below meth c H locs cells slots Q (F0 m pc ls (.ref (ead E 26) :: rest)) := kr_geti (q := 26) S hw rfl (by decide) rfl inX5 10 (by decide) q2_223 rfl hdg kk
theorem gf_X5_101 {p : Program} {l : Launch} {e : Env} {R : Room} {s : State} {m : MethodId} {args : Array Value} {below : List Frame} {meth : Method} {c : Code} {H : Heap} {locs : List Loc} {cells slots : Nat} {Q : State → Prop} {cc : ByteArray} {pc : Nat} {ls : Array Slot} {rest : List Value} {E : kE} {σ ω : kS} {nL : Nat} (S : CallFix p m c cc nL s args kBIG RX5) (hw : kWS E s (cmb ω σ) H locs) (hdg : decode cc pc = .ok (.getfield 101, 3)) (kk : W p l e R s m args below meth c H locs cells slots Q (F0 m (pc + 3) ls (.int (σ 0 15) :: rest))) : W p l e R s m args below meth c H locs cells slots Q (F0 m pc ls (.ref (ead E 26) :: rest)) := kr_geti (q := 26) S hw rfl (by decide) rfl inX5 15 (by decide) q2_228 rfl hdg kk
theorem gf_X5_104 {p : Program} {l : Launch} {e : Env} {R : Room} {s : State} {m : MethodId} {args : Array Value} {below : List Frame} {meth : Method} {c : Code} {H : Heap} {locs : List Loc} {cells slots : Nat} {Q : State → Prop} {cc : ByteArray} {pc : Nat} {ls : Array Slot} {rest : List Value} {E : kE} {σ ω : kS} {nL : Nat} (S : CallFix p m c cc nL s args kBIG RX5) (hw : kWS E s (cmb ω σ) H locs) (hdg : decode cc pc = .ok (.getfield 104, 3)) (kk : W p l e R s m args below meth c H locs cells slots Q (F0 m (pc + 3) ls (.int (σ 0 16) :: rest))) : W p l e R s m args below meth c H locs cells slots Q (F0 m pc ls (.ref (ead E 26) :: rest)) := kr_geti (q := 26) S hw rfl (by decide) rfl inX5 16 (by decide) q2_229 rfl hdg kk
theorem gf_X5_135 {p : Program} {l : Launch} {e : Env} {R : Room} {s : State} {m : MethodId} {args : Array Value} {below : List Frame} {meth : Method} {c : Code} {H : Heap} {locs : List Loc} {cells slots : Nat} {Q : State → Prop} {cc : ByteArray} {pc : Nat} {ls : Array Slot} {rest : List Value} {E : kE} {σ ω : kS} {nL : Nat} (S : CallFix p m c cc nL s args kBIG RX5) (hw : kWS E s (cmb ω σ) H locs) (hdg : decode cc pc = .ok (.getfield 135, 3)) (kk : W p l e R s m args below meth c H locs cells slots Q (F0 m (pc + 3) ls (.int (σ 0 2) :: rest))) : W p l e R s m args below meth c H locs cells slots Q (F0 m pc ls (.ref (ead E 26) :: rest)) := kr_geti (q := 26) S hw rfl (by decide) rfl inX5 2 (by decide) q2_215 rfl hdg kk
theorem gf_X5_138 {p : Program} {l : Launch} {e : Env} {R : Room} {s : State} {m : MethodId} {args : Array Value} {below : List Frame} {meth : Method} {c : Code} {H : Heap} {locs : List Loc} {cells slots : Nat} {Q : State → Prop} {cc : ByteArray} {pc : Nat} {ls : Array Slot} {rest : List Value} {E : kE} {σ ω : kS} {nL : Nat} (S : CallFix p m c cc nL s args kBIG RX5) (hw : kWS E s (cmb ω σ) H locs) (hdg : decode cc pc = .ok (.getfield 138, 3)) (kk : W p l e R s m args below meth c H locs cells slots Q (F0 m (pc + 3) ls (.int (σ 0 3) :: rest))) : W p l e R s m args below meth c H locs cells slots Q (F0 m pc ls (.ref (ead E 26) :: rest)) := kr_geti (q := 26) S hw rfl (by decide) rfl inX5 3 (by decide) q2_216 rfl hdg kk
theorem gf_X5_141 {p : Program} {l : Launch} {e : Env} {R : Room} {s : State} {m : MethodId} {args : Array Value} {below : List Frame} {meth : Method} {c : Code} {H : Heap} {locs : List Loc} {cells slots : Nat} {Q : State → Prop} {cc : ByteArray} {pc : Nat} {ls : Array Slot} {rest : List Value} {E : kE} {σ ω : kS} {nL : Nat} (S : CallFix p m c cc nL s args kBIG RX5) (hw : kWS E s (cmb ω σ) H locs) (hdg : decode cc pc = .ok (.getfield 141, 3)) (kk : W p l e R s m args below meth c H locs cells slots Q (F0 m (pc + 3) ls (.int (σ 0 4) :: rest))) : W p l e R s m args below meth c H locs cells slots Q (F0 m pc ls (.ref (ead E 26) :: rest)) := kr_geti (q := 26) S hw rfl (by decide) rfl inX5 4 (by decide) q2_217 rfl hdg kk
theorem gf_X5_144 {p : Program} {l : Launch} {e : Env} {R : Room} {s : State} {m : MethodId} {args : Array Value} {below : List Frame} {meth : Method} {c : Code} {H : Heap} {locs : List Loc} {cells slots : Nat} {Q : State → Prop} {cc : ByteArray} {pc : Nat} {ls : Array Slot} {rest : List Value} {E : kE} {σ ω : kS} {nL : Nat} (S : CallFix p m c cc nL s args kBIG RX5) (hw : kWS E s (cmb ω σ) H locs) (hdg : decode cc pc = .ok (.getfield 144, 3)) (kk : W p l e R s m args below meth c H locs cells slots Q (F0 m (pc + 3) ls (.int (σ 0 23) :: rest))) : W p l e R s m args below meth c H locs cells slots Q (F0 m pc ls (.ref (ead E 26) :: rest)) := kr_geti (q := 26) S hw rfl (by decide) rfl inX5 23 (by decide) q2_236 rfl hdg kk
theorem gf_X5_246 {p : Program} {l : Launch} {e : Env} {R : Room} {s : State} {m : MethodId} {args : Array Value} {below : List Frame} {meth : Method} {c : Code} {H : Heap} {locs : List Loc} {cells slots : Nat} {Q : State → Prop} {cc : ByteArray} {pc : Nat} {ls : Array Slot} {rest : List Value} {E : kE} {σ ω : kS} {nL : Nat} (S : CallFix p m c cc nL s args kBIG RX5) (hw : kWS E s (cmb ω σ) H locs) (hdg : decode cc pc = .ok (.getfield 246, 3)) (kk : W p l e R s m args below meth c H locs cells slots Q (F0 m (pc + 3) ls (.int (σ 0 30) :: rest))) : W p l e R s m args below meth c H locs cells slots Q (F0 m pc ls (.ref (ead E 26) :: rest)) := kr_geti (q := 26) S hw rfl (by decide) rfl inX5 30 (by decide) q3_3 rfl hdg kk
theorem pf_X0_24 {p : Program} {l : Launch} {e : Env} {R : Room} {s : State} {m : MethodId} {args : Array Value} {below : List Frame} {meth : Method} {c : Code} {H : Heap} {locs : List Loc} {cells slots : Nat} {Q : State → Prop} {cc : ByteArray} {pc : Nat} {ls : Array Slot} {rest : List Value} {E : kE} {σ ω : kS} {nL : Nat} {x : Int32} (S : CallFix p m c cc nL s args kBIG RX0) (hw : kWS E s (cmb σ ω) H locs) {q : Nat} {fs : List (Option Nat)} (hq : wsh q = .inr (0, fs)) (hN : q < 26) (hf : fs[0]? = some none) (hdg : decode cc pc = .ok (.putfield 24, 3)) (kk : ∀ (H1 : Heap) (locs1 : List Loc), kWS E s (cmb (kup σ q 0 x) ω) H1 locs1 → W p l e R s m args below meth c H1 locs1 cells slots Q (F0 m (pc + 3) ls rest)) : W p l e R s m args below meth c H locs cells slots Q (F0 m pc ls (.int x :: .ref (ead E q) :: rest)) := kr_puti S hw hq (Nat.lt_trans hN (by decide)) rfl inX0 tyX0 tyX0_ok nmX0 0 (by decide) q1_24 hf rfl (ty := .int) rfl rfl rfl hdg (fun H1 locs1 h => kk H1 locs1 (by rw [kup_lo hN] at h; exact h))
theorem pf_X0_28 {p : Program} {l : Launch} {e : Env} {R : Room} {s : State} {m : MethodId} {args : Array Value} {below : List Frame} {meth : Method} {c : Code} {H : Heap} {locs : List Loc} {cells slots : Nat} {Q : State → Prop} {cc : ByteArray} {pc : Nat} {ls : Array Slot} {rest : List Value} {E : kE} {σ ω : kS} {nL : Nat} {x : Int32} (S : CallFix p m c cc nL s args kBIG RX0) (hw : kWS E s (cmb σ ω) H locs) {q : Nat} {fs : List (Option Nat)} (hq : wsh q = .inr (0, fs)) (hN : q < 26) (hf : fs[1]? = some none) (hdg : decode cc pc = .ok (.putfield 28, 3)) (kk : ∀ (H1 : Heap) (locs1 : List Loc), kWS E s (cmb (kup σ q 1 x) ω) H1 locs1 → W p l e R s m args below meth c H1 locs1 cells slots Q (F0 m (pc + 3) ls rest)) : W p l e R s m args below meth c H locs cells slots Q (F0 m pc ls (.int x :: .ref (ead E q) :: rest)) := kr_puti S hw hq (Nat.lt_trans hN (by decide)) rfl inX0 tyX0 tyX0_ok nmX0 1 (by decide) q1_27 hf rfl (ty := .int) rfl rfl rfl hdg (fun H1 locs1 h => kk H1 locs1 (by rw [kup_lo hN] at h; exact h))
theorem pf_X0_31 {p : Program} {l : Launch} {e : Env} {R : Room} {s : State} {m : MethodId} {args : Array Value} {below : List Frame} {meth : Method} {c : Code} {H : Heap} {locs : List Loc} {cells slots : Nat} {Q : State → Prop} {cc : ByteArray} {pc : Nat} {ls : Array Slot} {rest : List Value} {E : kE} {σ ω : kS} {nL : Nat} {x : Int32} (S : CallFix p m c cc nL s args kBIG RX0) (hw : kWS E s (cmb σ ω) H locs) {q : Nat} {fs : List (Option Nat)} (hq : wsh q = .inr (0, fs)) (hN : q < 26) (hf : fs[2]? = some none) (hdg : decode cc pc = .ok (.putfield 31, 3)) (kk : ∀ (H1 : Heap) (locs1 : List Loc), kWS E s (cmb (kup σ q 2 x) ω) H1 locs1 → W p l e R s m args below meth c H1 locs1 cells slots Q (F0 m (pc + 3) ls rest)) : W p l e R s m args below meth c H locs cells slots Q (F0 m pc ls (.int x :: .ref (ead E q) :: rest)) := kr_puti S hw hq (Nat.lt_trans hN (by decide)) rfl inX0 tyX0 tyX0_ok nmX0 2 (by decide) q1_30 hf rfl (ty := .int) rfl rfl rfl hdg (fun H1 locs1 h => kk H1 locs1 (by rw [kup_lo hN] at h; exact h))
theorem pf_X1_15 {p : Program} {l : Launch} {e : Env} {R : Room} {s : State} {m : MethodId} {args : Array Value} {below : List Frame} {meth : Method} {c : Code} {H : Heap} {locs : List Loc} {cells slots : Nat} {Q : State → Prop} {cc : ByteArray} {pc : Nat} {ls : Array Slot} {rest : List Value} {E : kE} {σ ω : kS} {nL : Nat} {x : Int32} (S : CallFix p m c cc nL s args kBIG RX1) (hw : kWS E s (cmb σ ω) H locs) {q : Nat} {fs : List (Option Nat)} (hq : wsh q = .inr (1, fs)) (hN : q < 26) (hf : fs[0]? = some none) (hn : narrow .boolean (.int x) = .int x) (hfit : fits .boolean (.int x) = true) (hdg : decode cc pc = .ok (.putfield 15, 3)) (kk : ∀ (H1 : Heap) (locs1 : List Loc), kWS E s (cmb (kup σ q 0 x) ω) H1 locs1 → W p l e R s m args below meth c H1 locs1 cells slots Q (F0 m (pc + 3) ls rest)) : W p l e R s m args below meth c H locs cells slots Q (F0 m pc ls (.int x :: .ref (ead E q) :: rest)) := kr_puti S hw hq (Nat.lt_trans hN (by decide)) rfl inX1 tyX1 tyX1_ok nmX1 0 (by decide) q1_68 hf rfl (ty := .boolean) rfl hn hfit hdg (fun H1 locs1 h => kk H1 locs1 (by rw [kup_lo hN] at h; exact h))
theorem pf_X1_19 {p : Program} {l : Launch} {e : Env} {R : Room} {s : State} {m : MethodId} {args : Array Value} {below : List Frame} {meth : Method} {c : Code} {H : Heap} {locs : List Loc} {cells slots : Nat} {Q : State → Prop} {cc : ByteArray} {pc : Nat} {ls : Array Slot} {rest : List Value} {E : kE} {σ ω : kS} {nL : Nat} {x : Int32} (S : CallFix p m c cc nL s args kBIG RX1) (hw : kWS E s (cmb σ ω) H locs) {q : Nat} {fs : List (Option Nat)} (hq : wsh q = .inr (1, fs)) (hN : q < 26) (hf : fs[1]? = some none) (hdg : decode cc pc = .ok (.putfield 19, 3)) (kk : ∀ (H1 : Heap) (locs1 : List Loc), kWS E s (cmb (kup σ q 1 x) ω) H1 locs1 → W p l e R s m args below meth c H1 locs1 cells slots Q (F0 m (pc + 3) ls rest)) : W p l e R s m args below meth c H locs cells slots Q (F0 m pc ls (.int x :: .ref (ead E q) :: rest)) := kr_puti S hw hq (Nat.lt_trans hN (by decide)) rfl inX1 tyX1 tyX1_ok nmX1 1 (by decide) q1_70 hf rfl (ty := .int) rfl rfl rfl hdg (fun H1 locs1 h => kk H1 locs1 (by rw [kup_lo hN] at h; exact h))
theorem pf_X1_23 {p : Program} {l : Launch} {e : Env} {R : Room} {s : State} {m : MethodId} {args : Array Value} {below : List Frame} {meth : Method} {c : Code} {H : Heap} {locs : List Loc} {cells slots : Nat} {Q : State → Prop} {cc : ByteArray} {pc : Nat} {ls : Array Slot} {rest : List Value} {E : kE} {σ ω : kS} {nL : Nat} {x : Int32} (S : CallFix p m c cc nL s args kBIG RX1) (hw : kWS E s (cmb σ ω) H locs) {q : Nat} {fs : List (Option Nat)} (hq : wsh q = .inr (1, fs)) (hN : q < 26) (hf : fs[2]? = some none) (hdg : decode cc pc = .ok (.putfield 23, 3)) (kk : ∀ (H1 : Heap) (locs1 : List Loc), kWS E s (cmb (kup σ q 2 x) ω) H1 locs1 → W p l e R s m args below meth c H1 locs1 cells slots Q (F0 m (pc + 3) ls rest)) : W p l e R s m args below meth c H locs cells slots Q (F0 m pc ls (.int x :: .ref (ead E q) :: rest)) := kr_puti S hw hq (Nat.lt_trans hN (by decide)) rfl inX1 tyX1 tyX1_ok nmX1 2 (by decide) q1_72 hf rfl (ty := .int) rfl rfl rfl hdg (fun H1 locs1 h => kk H1 locs1 (by rw [kup_lo hN] at h; exact h))
theorem pf_X2_9 {p : Program} {l : Launch} {e : Env} {R : Room} {s : State} {m : MethodId} {args : Array Value} {below : List Frame} {meth : Method} {c : Code} {H : Heap} {locs : List Loc} {cells slots : Nat} {Q : State → Prop} {cc : ByteArray} {pc : Nat} {ls : Array Slot} {rest : List Value} {E : kE} {σ ω : kS} {nL : Nat} {x : Int32} (S : CallFix p m c cc nL s args kBIG RX2) (hw : kWS E s (cmb σ ω) H locs) {q : Nat} {fs : List (Option Nat)} (hq : wsh q = .inr (2, fs)) (hN : q < 26) (hf : fs[0]? = some none) (hdg : decode cc pc = .ok (.putfield 9, 3)) (kk : ∀ (H1 : Heap) (locs1 : List Loc), kWS E s (cmb (kup σ q 0 x) ω) H1 locs1 → W p l e R s m args below meth c H1 locs1 cells slots Q (F0 m (pc + 3) ls rest)) : W p l e R s m args below meth c H locs cells slots Q (F0 m pc ls (.int x :: .ref (ead E q) :: rest)) := kr_puti S hw hq (Nat.lt_trans hN (by decide)) rfl inX2 tyX2 tyX2_ok nmX2 0 (by decide) q1_90 hf rfl (ty := .int) rfl rfl rfl hdg (fun H1 locs1 h => kk H1 locs1 (by rw [kup_lo hN] at h; exact h))
theorem pf_X2_15 {p : Program} {l : Launch} {e : Env} {R : Room} {s : State} {m : MethodId} {args : Array Value} {below : List Frame} {meth : Method} {c : Code} {H : Heap} {locs : List Loc} {cells slots : Nat} {Q : State → Prop} {cc : ByteArray} {pc : Nat} {ls : Array Slot} {rest : List Value} {E : kE} {σ ω : kS} {nL : Nat} {x : Int32} (S : CallFix p m c cc nL s args kBIG RX2) (hw : kWS E s (cmb σ ω) H locs) {q : Nat} {fs : List (Option Nat)} (hq : wsh q = .inr (2, fs)) (hN : q < 26) (hf : fs[1]? = some none) (hdg : decode cc pc = .ok (.putfield 15, 3)) (kk : ∀ (H1 : Heap) (locs1 : List Loc), kWS E s (cmb (kup σ q 1 x) ω) H1 locs1 → W p l e R s m args below meth c H1 locs1 cells slots Q (F0 m (pc + 3) ls rest)) : W p l e R s m args below meth c H locs cells slots Q (F0 m pc ls (.int x :: .ref (ead E q) :: rest)) := kr_puti S hw hq (Nat.lt_trans hN (by decide)) rfl inX2 tyX2 tyX2_ok nmX2 1 (by decide) q1_92 hf rfl (ty := .int) rfl rfl rfl hdg (fun H1 locs1 h => kk H1 locs1 (by rw [kup_lo hN] at h; exact h))
theorem pf_X2_18 {p : Program} {l : Launch} {e : Env} {R : Room} {s : State} {m : MethodId} {args : Array Value} {below : List Frame} {meth : Method} {c : Code} {H : Heap} {locs : List Loc} {cells slots : Nat} {Q : State → Prop} {cc : ByteArray} {pc : Nat} {ls : Array Slot} {rest : List Value} {E : kE} {σ ω : kS} {nL : Nat} {x : Int32} (S : CallFix p m c cc nL s args kBIG RX2) (hw : kWS E s (cmb σ ω) H locs) {q : Nat} {fs : List (Option Nat)} (hq : wsh q = .inr (2, fs)) (hN : q < 26) (hf : fs[2]? = some none) (hdg : decode cc pc = .ok (.putfield 18, 3)) (kk : ∀ (H1 : Heap) (locs1 : List Loc), kWS E s (cmb (kup σ q 2 x) ω) H1 locs1 → W p l e R s m args below meth c H1 locs1 cells slots Q (F0 m (pc + 3) ls rest)) : W p l e R s m args below meth c H locs cells slots Q (F0 m pc ls (.int x :: .ref (ead E q) :: rest)) := kr_puti S hw hq (Nat.lt_trans hN (by decide)) rfl inX2 tyX2 tyX2_ok nmX2 2 (by decide) q1_94 hf rfl (ty := .int) rfl rfl rfl hdg (fun H1 locs1 h => kk H1 locs1 (by rw [kup_lo hN] at h; exact h))
theorem pf_X2_21 {p : Program} {l : Launch} {e : Env} {R : Room} {s : State} {m : MethodId} {args : Array Value} {below : List Frame} {meth : Method} {c : Code} {H : Heap} {locs : List Loc} {cells slots : Nat} {Q : State → Prop} {cc : ByteArray} {pc : Nat} {ls : Array Slot} {rest : List Value} {E : kE} {σ ω : kS} {nL : Nat} {x : Int32} (S : CallFix p m c cc nL s args kBIG RX2) (hw : kWS E s (cmb σ ω) H locs) {q : Nat} {fs : List (Option Nat)} (hq : wsh q = .inr (2, fs)) (hN : q < 26) (hf : fs[3]? = some none) (hdg : decode cc pc = .ok (.putfield 21, 3)) (kk : ∀ (H1 : Heap) (locs1 : List Loc), kWS E s (cmb (kup σ q 3 x) ω) H1 locs1 → W p l e R s m args below meth c H1 locs1 cells slots Q (F0 m (pc + 3) ls rest)) : W p l e R s m args below meth c H locs cells slots Q (F0 m pc ls (.int x :: .ref (ead E q) :: rest)) := kr_puti S hw hq (Nat.lt_trans hN (by decide)) rfl inX2 tyX2 tyX2_ok nmX2 3 (by decide) q1_96 hf rfl (ty := .int) rfl rfl rfl hdg (fun H1 locs1 h => kk H1 locs1 (by rw [kup_lo hN] at h; exact h))
theorem pf_X3_21 {p : Program} {l : Launch} {e : Env} {R : Room} {s : State} {m : MethodId} {args : Array Value} {below : List Frame} {meth : Method} {c : Code} {H : Heap} {locs : List Loc} {cells slots : Nat} {Q : State → Prop} {cc : ByteArray} {pc : Nat} {ls : Array Slot} {rest : List Value} {E : kE} {σ ω : kS} {nL : Nat} {x : Int32} (S : CallFix p m c cc nL s args kBIG RX3) (hw : kWS E s (cmb σ ω) H locs) {q : Nat} {fs : List (Option Nat)} (hq : wsh q = .inr (0, fs)) (hN : q < 26) (hf : fs[0]? = some none) (hdg : decode cc pc = .ok (.putfield 21, 3)) (kk : ∀ (H1 : Heap) (locs1 : List Loc), kWS E s (cmb (kup σ q 0 x) ω) H1 locs1 → W p l e R s m args below meth c H1 locs1 cells slots Q (F0 m (pc + 3) ls rest)) : W p l e R s m args below meth c H locs cells slots Q (F0 m pc ls (.int x :: .ref (ead E q) :: rest)) := kr_puti S hw hq (Nat.lt_trans hN (by decide)) rfl inX0 tyX0 tyX0_ok nmX0 0 (by decide) q1_26 hf rfl (ty := .int) rfl rfl rfl hdg (fun H1 locs1 h => kk H1 locs1 (by rw [kup_lo hN] at h; exact h))
theorem pf_X3_27 {p : Program} {l : Launch} {e : Env} {R : Room} {s : State} {m : MethodId} {args : Array Value} {below : List Frame} {meth : Method} {c : Code} {H : Heap} {locs : List Loc} {cells slots : Nat} {Q : State → Prop} {cc : ByteArray} {pc : Nat} {ls : Array Slot} {rest : List Value} {E : kE} {σ ω : kS} {nL : Nat} {x : Int32} (S : CallFix p m c cc nL s args kBIG RX3) (hw : kWS E s (cmb σ ω) H locs) {q : Nat} {fs : List (Option Nat)} (hq : wsh q = .inr (0, fs)) (hN : q < 26) (hf : fs[1]? = some none) (hdg : decode cc pc = .ok (.putfield 27, 3)) (kk : ∀ (H1 : Heap) (locs1 : List Loc), kWS E s (cmb (kup σ q 1 x) ω) H1 locs1 → W p l e R s m args below meth c H1 locs1 cells slots Q (F0 m (pc + 3) ls rest)) : W p l e R s m args below meth c H locs cells slots Q (F0 m pc ls (.int x :: .ref (ead E q) :: rest)) := kr_puti S hw hq (Nat.lt_trans hN (by decide)) rfl inX0 tyX0 tyX0_ok nmX0 1 (by decide) q1_28 hf rfl (ty := .int) rfl rfl rfl hdg (fun H1 locs1 h => kk H1 locs1 (by rw [kup_lo hN] at h; exact h))
theorem pf_X3_30 {p : Program} {l : Launch} {e : Env} {R : Room} {s : State} {m : MethodId} {args : Array Value} {below : List Frame} {meth : Method} {c : Code} {H : Heap} {locs : List Loc} {cells slots : Nat} {Q : State → Prop} {cc : ByteArray} {pc : Nat} {ls : Array Slot} {rest : List Value} {E : kE} {σ ω : kS} {nL : Nat} {x : Int32} (S : CallFix p m c cc nL s args kBIG RX3) (hw : kWS E s (cmb σ ω) H locs) {q : Nat} {fs : List (Option Nat)} (hq : wsh q = .inr (0, fs)) (hN : q < 26) (hf : fs[2]? = some none) (hdg : decode cc pc = .ok (.putfield 30, 3)) (kk : ∀ (H1 : Heap) (locs1 : List Loc), kWS E s (cmb (kup σ q 2 x) ω) H1 locs1 → W p l e R s m args below meth c H1 locs1 cells slots Q (F0 m (pc + 3) ls rest)) : W p l e R s m args below meth c H locs cells slots Q (F0 m pc ls (.int x :: .ref (ead E q) :: rest)) := kr_puti S hw hq (Nat.lt_trans hN (by decide)) rfl inX0 tyX0 tyX0_ok nmX0 2 (by decide) q1_32 hf rfl (ty := .int) rfl rfl rfl hdg (fun H1 locs1 h => kk H1 locs1 (by rw [kup_lo hN] at h; exact h))
theorem pf_X4_51 {p : Program} {l : Launch} {e : Env} {R : Room} {s : State} {m : MethodId} {args : Array Value} {below : List Frame} {meth : Method} {c : Code} {H : Heap} {locs : List Loc} {cells slots : Nat} {Q : State → Prop} {cc : ByteArray} {pc : Nat} {ls : Array Slot} {rest : List Value} {E : kE} {σ ω : kS} {nL : Nat} {x : Int32} (S : CallFix p m c cc nL s args kBIG RX4) (hw : kWS E s (cmb σ ω) H locs) {q : Nat} {fs : List (Option Nat)} (hq : wsh q = .inr (3, fs)) (hN : q < 26) (hf : fs[12]? = some none) (hdg : decode cc pc = .ok (.putfield 51, 3)) (kk : ∀ (H1 : Heap) (locs1 : List Loc), kWS E s (cmb (kup σ q 12 x) ω) H1 locs1 → W p l e R s m args below meth c H1 locs1 cells slots Q (F0 m (pc + 3) ls rest)) : W p l e R s m args below meth c H locs cells slots Q (F0 m pc ls (.int x :: .ref (ead E q) :: rest)) := kr_puti S hw hq (Nat.lt_trans hN (by decide)) rfl inX4 tyX4 tyX4_ok nmX4 12 (by decide) q1_119 hf rfl (ty := .int) rfl rfl rfl hdg (fun H1 locs1 h => kk H1 locs1 (by rw [kup_lo hN] at h; exact h))
theorem pf_X4_86 {p : Program} {l : Launch} {e : Env} {R : Room} {s : State} {m : MethodId} {args : Array Value} {below : List Frame} {meth : Method} {c : Code} {H : Heap} {locs : List Loc} {cells slots : Nat} {Q : State → Prop} {cc : ByteArray} {pc : Nat} {ls : Array Slot} {rest : List Value} {E : kE} {σ ω : kS} {nL : Nat} {x : Int32} (S : CallFix p m c cc nL s args kBIG RX4) (hw : kWS E s (cmb σ ω) H locs) {q : Nat} {fs : List (Option Nat)} (hq : wsh q = .inr (3, fs)) (hN : q < 26) (hf : fs[9]? = some none) (hdg : decode cc pc = .ok (.putfield 86, 3)) (kk : ∀ (H1 : Heap) (locs1 : List Loc), kWS E s (cmb (kup σ q 9 x) ω) H1 locs1 → W p l e R s m args below meth c H1 locs1 cells slots Q (F0 m (pc + 3) ls rest)) : W p l e R s m args below meth c H locs cells slots Q (F0 m pc ls (.int x :: .ref (ead E q) :: rest)) := kr_puti S hw hq (Nat.lt_trans hN (by decide)) rfl inX4 tyX4 tyX4_ok nmX4 9 (by decide) q1_116 hf rfl (ty := .int) rfl rfl rfl hdg (fun H1 locs1 h => kk H1 locs1 (by rw [kup_lo hN] at h; exact h))
theorem pf_X4_89 {p : Program} {l : Launch} {e : Env} {R : Room} {s : State} {m : MethodId} {args : Array Value} {below : List Frame} {meth : Method} {c : Code} {H : Heap} {locs : List Loc} {cells slots : Nat} {Q : State → Prop} {cc : ByteArray} {pc : Nat} {ls : Array Slot} {rest : List Value} {E : kE} {σ ω : kS} {nL : Nat} {x : Int32} (S : CallFix p m c cc nL s args kBIG RX4) (hw : kWS E s (cmb σ ω) H locs) {q : Nat} {fs : List (Option Nat)} (hq : wsh q = .inr (3, fs)) (hN : q < 26) (hf : fs[10]? = some none) (hdg : decode cc pc = .ok (.putfield 89, 3)) (kk : ∀ (H1 : Heap) (locs1 : List Loc), kWS E s (cmb (kup σ q 10 x) ω) H1 locs1 → W p l e R s m args below meth c H1 locs1 cells slots Q (F0 m (pc + 3) ls rest)) : W p l e R s m args below meth c H locs cells slots Q (F0 m pc ls (.int x :: .ref (ead E q) :: rest)) := kr_puti S hw hq (Nat.lt_trans hN (by decide)) rfl inX4 tyX4 tyX4_ok nmX4 10 (by decide) q1_117 hf rfl (ty := .int) rfl rfl rfl hdg (fun H1 locs1 h => kk H1 locs1 (by rw [kup_lo hN] at h; exact h))
theorem pf_X4_123 {p : Program} {l : Launch} {e : Env} {R : Room} {s : State} {m : MethodId} {args : Array Value} {below : List Frame} {meth : Method} {c : Code} {H : Heap} {locs : List Loc} {cells slots : Nat} {Q : State → Prop} {cc : ByteArray} {pc : Nat} {ls : Array Slot} {rest : List Value} {E : kE} {σ ω : kS} {nL : Nat} {x : Int32} (S : CallFix p m c cc nL s args kBIG RX4) (hw : kWS E s (cmb σ ω) H locs) {q : Nat} {fs : List (Option Nat)} (hq : wsh q = .inr (0, fs)) (hN : q < 26) (hf : fs[0]? = some none) (hdg : decode cc pc = .ok (.putfield 123, 3)) (kk : ∀ (H1 : Heap) (locs1 : List Loc), kWS E s (cmb (kup σ q 0 x) ω) H1 locs1 → W p l e R s m args below meth c H1 locs1 cells slots Q (F0 m (pc + 3) ls rest)) : W p l e R s m args below meth c H locs cells slots Q (F0 m pc ls (.int x :: .ref (ead E q) :: rest)) := kr_puti S hw hq (Nat.lt_trans hN (by decide)) rfl inX0 tyX0 tyX0_ok nmX0 0 (by decide) q1_25 hf rfl (ty := .int) rfl rfl rfl hdg (fun H1 locs1 h => kk H1 locs1 (by rw [kup_lo hN] at h; exact h))
theorem pf_X4_126 {p : Program} {l : Launch} {e : Env} {R : Room} {s : State} {m : MethodId} {args : Array Value} {below : List Frame} {meth : Method} {c : Code} {H : Heap} {locs : List Loc} {cells slots : Nat} {Q : State → Prop} {cc : ByteArray} {pc : Nat} {ls : Array Slot} {rest : List Value} {E : kE} {σ ω : kS} {nL : Nat} {x : Int32} (S : CallFix p m c cc nL s args kBIG RX4) (hw : kWS E s (cmb σ ω) H locs) {q : Nat} {fs : List (Option Nat)} (hq : wsh q = .inr (0, fs)) (hN : q < 26) (hf : fs[1]? = some none) (hdg : decode cc pc = .ok (.putfield 126, 3)) (kk : ∀ (H1 : Heap) (locs1 : List Loc), kWS E s (cmb (kup σ q 1 x) ω) H1 locs1 → W p l e R s m args below meth c H1 locs1 cells slots Q (F0 m (pc + 3) ls rest)) : W p l e R s m args below meth c H locs cells slots Q (F0 m pc ls (.int x :: .ref (ead E q) :: rest)) := kr_puti S hw hq (Nat.lt_trans hN (by decide)) rfl inX0 tyX0 tyX0_ok nmX0 1 (by decide) q1_29 hf rfl (ty := .int) rfl rfl rfl hdg (fun H1 locs1 h => kk H1 locs1 (by rw [kup_lo hN] at h; exact h))
theorem pf_X4_183 {p : Program} {l : Launch} {e : Env} {R : Room} {s : State} {m : MethodId} {args : Array Value} {below : List Frame} {meth : Method} {c : Code} {H : Heap} {locs : List Loc} {cells slots : Nat} {Q : State → Prop} {cc : ByteArray} {pc : Nat} {ls : Array Slot} {rest : List Value} {E : kE} {σ ω : kS} {nL : Nat} {x : Int32} (S : CallFix p m c cc nL s args kBIG RX4) (hw : kWS E s (cmb σ ω) H locs) {q : Nat} {fs : List (Option Nat)} (hq : wsh q = .inr (1, fs)) (hN : q < 26) (hf : fs[0]? = some none) (hn : narrow .boolean (.int x) = .int x) (hfit : fits .boolean (.int x) = true) (hdg : decode cc pc = .ok (.putfield 183, 3)) (kk : ∀ (H1 : Heap) (locs1 : List Loc), kWS E s (cmb (kup σ q 0 x) ω) H1 locs1 → W p l e R s m args below meth c H1 locs1 cells slots Q (F0 m (pc + 3) ls rest)) : W p l e R s m args below meth c H locs cells slots Q (F0 m pc ls (.int x :: .ref (ead E q) :: rest)) := kr_puti S hw hq (Nat.lt_trans hN (by decide)) rfl inX1 tyX1 tyX1_ok nmX1 0 (by decide) q1_69 hf rfl (ty := .boolean) rfl hn hfit hdg (fun H1 locs1 h => kk H1 locs1 (by rw [kup_lo hN] at h; exact h))
theorem pf_X4_215 {p : Program} {l : Launch} {e : Env} {R : Room} {s : State} {m : MethodId} {args : Array Value} {below : List Frame} {meth : Method} {c : Code} {H : Heap} {locs : List Loc} {cells slots : Nat} {Q : State → Prop} {cc : ByteArray} {pc : Nat} {ls : Array Slot} {rest : List Value} {E : kE} {σ ω : kS} {nL : Nat} {x : Int32} (S : CallFix p m c cc nL s args kBIG RX4) (hw : kWS E s (cmb σ ω) H locs) {q : Nat} {fs : List (Option Nat)} (hq : wsh q = .inr (3, fs)) (hN : q < 26) (hf : fs[11]? = some none) (hdg : decode cc pc = .ok (.putfield 215, 3)) (kk : ∀ (H1 : Heap) (locs1 : List Loc), kWS E s (cmb (kup σ q 11 x) ω) H1 locs1 → W p l e R s m args below meth c H1 locs1 cells slots Q (F0 m (pc + 3) ls rest)) : W p l e R s m args below meth c H locs cells slots Q (F0 m pc ls (.int x :: .ref (ead E q) :: rest)) := kr_puti S hw hq (Nat.lt_trans hN (by decide)) rfl inX4 tyX4 tyX4_ok nmX4 11 (by decide) q1_118 hf rfl (ty := .int) rfl rfl rfl hdg (fun H1 locs1 h => kk H1 locs1 (by rw [kup_lo hN] at h; exact h))
theorem pf_X5_72 {p : Program} {l : Launch} {e : Env} {R : Room} {s : State} {m : MethodId} {args : Array Value} {below : List Frame} {meth : Method} {c : Code} {H : Heap} {locs : List Loc} {cells slots : Nat} {Q : State → Prop} {cc : ByteArray} {pc : Nat} {ls : Array Slot} {rest : List Value} {E : kE} {σ ω : kS} {nL : Nat} {x : Int32} (S : CallFix p m c cc nL s args kBIG RX5) (hw : kWS E s (cmb ω σ) H locs) (hdg : decode cc pc = .ok (.putfield 72, 3)) (kk : ∀ (H1 : Heap) (locs1 : List Loc), kWS E s (cmb ω (kup σ 0 0 x)) H1 locs1 → W p l e R s m args below meth c H1 locs1 cells slots Q (F0 m (pc + 3) ls rest)) : W p l e R s m args below meth c H locs cells slots Q (F0 m pc ls (.int x :: .ref (ead E 26) :: rest)) := kr_puti (q := 26) S hw rfl (by decide) rfl inX5 tyX5 tyX5_ok nmX5 0 (by decide) q2_213 rfl rfl (ty := .int) rfl rfl rfl hdg (fun H1 locs1 h => kk H1 locs1 (by rw [show (26 : Nat) = 26 + 0 from rfl, kup_hi] at h; exact h))
theorem pf_X5_80 {p : Program} {l : Launch} {e : Env} {R : Room} {s : State} {m : MethodId} {args : Array Value} {below : List Frame} {meth : Method} {c : Code} {H : Heap} {locs : List Loc} {cells slots : Nat} {Q : State → Prop} {cc : ByteArray} {pc : Nat} {ls : Array Slot} {rest : List Value} {E : kE} {σ ω : kS} {nL : Nat} {x : Int32} (S : CallFix p m c cc nL s args kBIG RX5) (hw : kWS E s (cmb ω σ) H locs) (hdg : decode cc pc = .ok (.putfield 80, 3)) (kk : ∀ (H1 : Heap) (locs1 : List Loc), kWS E s (cmb ω (kup σ 0 1 x)) H1 locs1 → W p l e R s m args below meth c H1 locs1 cells slots Q (F0 m (pc + 3) ls rest)) : W p l e R s m args below meth c H locs cells slots Q (F0 m pc ls (.int x :: .ref (ead E 26) :: rest)) := kr_puti (q := 26) S hw rfl (by decide) rfl inX5 tyX5 tyX5_ok nmX5 1 (by decide) q2_214 rfl rfl (ty := .int) rfl rfl rfl hdg (fun H1 locs1 h => kk H1 locs1 (by rw [show (26 : Nat) = 26 + 0 from rfl, kup_hi] at h; exact h))
theorem pf_X5_87 {p : Program} {l : Launch} {e : Env} {R : Room} {s : State} {m : MethodId} {args : Array Value} {below : List Frame} {meth : Method} {c : Code} {H : Heap} {locs : List Loc} {cells slots : Nat} {Q : State → Prop} {cc : ByteArray} {pc : Nat} {ls : Array Slot} {rest : List Value} {E : kE} {σ ω : kS} {nL : Nat} {x : Int32} (S : CallFix p m c cc nL s args kBIG RX5) (hw : kWS E s (cmb ω σ) H locs) (hdg : decode cc pc = .ok (.putfield 87, 3)) (kk : ∀ (H1 : Heap) (locs1 : List Loc), kWS E s (cmb ω (kup σ 0 9 x)) H1 locs1 → W p l e R s m args below meth c H1 locs1 cells slots Q (F0 m (pc + 3) ls rest)) : W p l e R s m args below meth c H locs cells slots Q (F0 m pc ls (.int x :: .ref (ead E 26) :: rest)) := kr_puti (q := 26) S hw rfl (by decide) rfl inX5 tyX5 tyX5_ok nmX5 9 (by decide) q2_222 rfl rfl (ty := .int) rfl rfl rfl hdg (fun H1 locs1 h => kk H1 locs1 (by rw [show (26 : Nat) = 26 + 0 from rfl, kup_hi] at h; exact h))
theorem pf_X5_94 {p : Program} {l : Launch} {e : Env} {R : Room} {s : State} {m : MethodId} {args : Array Value} {below : List Frame} {meth : Method} {c : Code} {H : Heap} {locs : List Loc} {cells slots : Nat} {Q : State → Prop} {cc : ByteArray} {pc : Nat} {ls : Array Slot} {rest : List Value} {E : kE} {σ ω : kS} {nL : Nat} {x : Int32} (S : CallFix p m c cc nL s args kBIG RX5) (hw : kWS E s (cmb ω σ) H locs) (hdg : decode cc pc = .ok (.putfield 94, 3)) (kk : ∀ (H1 : Heap) (locs1 : List Loc), kWS E s (cmb ω (kup σ 0 10 x)) H1 locs1 → W p l e R s m args below meth c H1 locs1 cells slots Q (F0 m (pc + 3) ls rest)) : W p l e R s m args below meth c H locs cells slots Q (F0 m pc ls (.int x :: .ref (ead E 26) :: rest)) := kr_puti (q := 26) S hw rfl (by decide) rfl inX5 tyX5 tyX5_ok nmX5 10 (by decide) q2_223 rfl rfl (ty := .int) rfl rfl rfl hdg (fun H1 locs1 h => kk H1 locs1 (by rw [show (26 : Nat) = 26 + 0 from rfl, kup_hi] at h; exact h))
theorem pf_X5_101 {p : Program} {l : Launch} {e : Env} {R : Room} {s : State} {m : MethodId} {args : Array Value} {below : List Frame} {meth : Method} {c : Code} {H : Heap} {locs : List Loc} {cells slots : Nat} {Q : State → Prop} {cc : ByteArray} {pc : Nat} {ls : Array Slot} {rest : List Value} {E : kE} {σ ω : kS} {nL : Nat} {x : Int32} (S : CallFix p m c cc nL s args kBIG RX5) (hw : kWS E s (cmb ω σ) H locs) (hdg : decode cc pc = .ok (.putfield 101, 3)) (kk : ∀ (H1 : Heap) (locs1 : List Loc), kWS E s (cmb ω (kup σ 0 15 x)) H1 locs1 → W p l e R s m args below meth c H1 locs1 cells slots Q (F0 m (pc + 3) ls rest)) : W p l e R s m args below meth c H locs cells slots Q (F0 m pc ls (.int x :: .ref (ead E 26) :: rest)) := kr_puti (q := 26) S hw rfl (by decide) rfl inX5 tyX5 tyX5_ok nmX5 15 (by decide) q2_228 rfl rfl (ty := .int) rfl rfl rfl hdg (fun H1 locs1 h => kk H1 locs1 (by rw [show (26 : Nat) = 26 + 0 from rfl, kup_hi] at h; exact h))
theorem pf_X5_104 {p : Program} {l : Launch} {e : Env} {R : Room} {s : State} {m : MethodId} {args : Array Value} {below : List Frame} {meth : Method} {c : Code} {H : Heap} {locs : List Loc} {cells slots : Nat} {Q : State → Prop} {cc : ByteArray} {pc : Nat} {ls : Array Slot} {rest : List Value} {E : kE} {σ ω : kS} {nL : Nat} {x : Int32} (S : CallFix p m c cc nL s args kBIG RX5) (hw : kWS E s (cmb ω σ) H locs) (hdg : decode cc pc = .ok (.putfield 104, 3)) (kk : ∀ (H1 : Heap) (locs1 : List Loc), kWS E s (cmb ω (kup σ 0 16 x)) H1 locs1 → W p l e R s m args below meth c H1 locs1 cells slots Q (F0 m (pc + 3) ls rest)) : W p l e R s m args below meth c H locs cells slots Q (F0 m pc ls (.int x :: .ref (ead E 26) :: rest)) := kr_puti (q := 26) S hw rfl (by decide) rfl inX5 tyX5 tyX5_ok nmX5 16 (by decide) q2_229 rfl rfl (ty := .int) rfl rfl rfl hdg (fun H1 locs1 h => kk H1 locs1 (by rw [show (26 : Nat) = 26 + 0 from rfl, kup_hi] at h; exact h))
theorem pf_X5_135 {p : Program} {l : Launch} {e : Env} {R : Room} {s : State} {m : MethodId} {args : Array Value} {below : List Frame} {meth : Method} {c : Code} {H : Heap} {locs : List Loc} {cells slots : Nat} {Q : State → Prop} {cc : ByteArray} {pc : Nat} {ls : Array Slot} {rest : List Value} {E : kE} {σ ω : kS} {nL : Nat} {x : Int32} (S : CallFix p m c cc nL s args kBIG RX5) (hw : kWS E s (cmb ω σ) H locs) (hdg : decode cc pc = .ok (.putfield 135, 3)) (kk : ∀ (H1 : Heap) (locs1 : List Loc), kWS E s (cmb ω (kup σ 0 2 x)) H1 locs1 → W p l e R s m args below meth c H1 locs1 cells slots Q (F0 m (pc + 3) ls rest)) : W p l e R s m args below meth c H locs cells slots Q (F0 m pc ls (.int x :: .ref (ead E 26) :: rest)) := kr_puti (q := 26) S hw rfl (by decide) rfl inX5 tyX5 tyX5_ok nmX5 2 (by decide) q2_215 rfl rfl (ty := .int) rfl rfl rfl hdg (fun H1 locs1 h => kk H1 locs1 (by rw [show (26 : Nat) = 26 + 0 from rfl, kup_hi] at h; exact h))
theorem pf_X5_138 {p : Program} {l : Launch} {e : Env} {R : Room} {s : State} {m : MethodId} {args : Array Value} {below : List Frame} {meth : Method} {c : Code} {H : Heap} {locs : List Loc} {cells slots : Nat} {Q : State → Prop} {cc : ByteArray} {pc : Nat} {ls : Array Slot} {rest : List Value} {E : kE} {σ ω : kS} {nL : Nat} {x : Int32} (S : CallFix p m c cc nL s args kBIG RX5) (hw : kWS E s (cmb ω σ) H locs) (hdg : decode cc pc = .ok (.putfield 138, 3)) (kk : ∀ (H1 : Heap) (locs1 : List Loc), kWS E s (cmb ω (kup σ 0 3 x)) H1 locs1 → W p l e R s m args below meth c H1 locs1 cells slots Q (F0 m (pc + 3) ls rest)) : W p l e R s m args below meth c H locs cells slots Q (F0 m pc ls (.int x :: .ref (ead E 26) :: rest)) := kr_puti (q := 26) S hw rfl (by decide) rfl inX5 tyX5 tyX5_ok nmX5 3 (by decide) q2_216 rfl rfl (ty := .int) rfl rfl rfl hdg (fun H1 locs1 h => kk H1 locs1 (by rw [show (26 : Nat) = 26 + 0 from rfl, kup_hi] at h; exact h))
theorem pf_X5_141 {p : Program} {l : Launch} {e : Env} {R : Room} {s : State} {m : MethodId} {args : Array Value} {below : List Frame} {meth : Method} {c : Code} {H : Heap} {locs : List Loc} {cells slots : Nat} {Q : State → Prop} {cc : ByteArray} {pc : Nat} {ls : Array Slot} {rest : List Value} {E : kE} {σ ω : kS} {nL : Nat} {x : Int32} (S : CallFix p m c cc nL s args kBIG RX5) (hw : kWS E s (cmb ω σ) H locs) (hdg : decode cc pc = .ok (.putfield 141, 3)) (kk : ∀ (H1 : Heap) (locs1 : List Loc), kWS E s (cmb ω (kup σ 0 4 x)) H1 locs1 → W p l e R s m args below meth c H1 locs1 cells slots Q (F0 m (pc + 3) ls rest)) : W p l e R s m args below meth c H locs cells slots Q (F0 m pc ls (.int x :: .ref (ead E 26) :: rest)) := kr_puti (q := 26) S hw rfl (by decide) rfl inX5 tyX5 tyX5_ok nmX5 4 (by decide) q2_217 rfl rfl (ty := .int) rfl rfl rfl hdg (fun H1 locs1 h => kk H1 locs1 (by rw [show (26 : Nat) = 26 + 0 from rfl, kup_hi] at h; exact h))
theorem pf_X5_144 {p : Program} {l : Launch} {e : Env} {R : Room} {s : State} {m : MethodId} {args : Array Value} {below : List Frame} {meth : Method} {c : Code} {H : Heap} {locs : List Loc} {cells slots : Nat} {Q : State → Prop} {cc : ByteArray} {pc : Nat} {ls : Array Slot} {rest : List Value} {E : kE} {σ ω : kS} {nL : Nat} {x : Int32} (S : CallFix p m c cc nL s args kBIG RX5) (hw : kWS E s (cmb ω σ) H locs) (hdg : decode cc pc = .ok (.putfield 144, 3)) (kk : ∀ (H1 : Heap) (locs1 : List Loc), kWS E s (cmb ω (kup σ 0 23 x)) H1 locs1 → W p l e R s m args below meth c H1 locs1 cells slots Q (F0 m (pc + 3) ls rest)) : W p l e R s m args below meth c H locs cells slots Q (F0 m pc ls (.int x :: .ref (ead E 26) :: rest)) := kr_puti (q := 26) S hw rfl (by decide) rfl inX5 tyX5 tyX5_ok nmX5 23 (by decide) q2_236 rfl rfl (ty := .int) rfl rfl rfl hdg (fun H1 locs1 h => kk H1 locs1 (by rw [show (26 : Nat) = 26 + 0 from rfl, kup_hi] at h; exact h))
theorem pf_X5_246 {p : Program} {l : Launch} {e : Env} {R : Room} {s : State} {m : MethodId} {args : Array Value} {below : List Frame} {meth : Method} {c : Code} {H : Heap} {locs : List Loc} {cells slots : Nat} {Q : State → Prop} {cc : ByteArray} {pc : Nat} {ls : Array Slot} {rest : List Value} {E : kE} {σ ω : kS} {nL : Nat} {x : Int32} (S : CallFix p m c cc nL s args kBIG RX5) (hw : kWS E s (cmb ω σ) H locs) (hdg : decode cc pc = .ok (.putfield 246, 3)) (kk : ∀ (H1 : Heap) (locs1 : List Loc), kWS E s (cmb ω (kup σ 0 30 x)) H1 locs1 → W p l e R s m args below meth c H1 locs1 cells slots Q (F0 m (pc + 3) ls rest)) : W p l e R s m args below meth c H locs cells slots Q (F0 m pc ls (.int x :: .ref (ead E 26) :: rest)) := kr_puti (q := 26) S hw rfl (by decide) rfl inX5 tyX5 tyX5_ok nmX5 30 (by decide) q3_3 rfl rfl (ty := .int) rfl rfl rfl hdg (fun H1 locs1 h => kk H1 locs1 (by rw [show (26 : Nat) = 26 + 0 from rfl, kup_hi] at h; exact h))
theorem cv_X0_40 : kSt RX0 40 yJ6_bitCount_0f7a4 cJ6_bitCount_0f7a4 1 (some .int) 1 := ⟨kg_S q1_197 q1_198 q1_7 q1_199, by decide +kernel⟩
theorem cv_X0_51 : kV RX0 RX0 51 yX0_distanceOf cX0_distanceOf 2 (some .int) 1 := ⟨kg_V q1_207 q1_208 q1_209 q1_2 q1_210, by decide +kernel⟩
theorem cv_X0_54 : kV RX0 RX0 54 yX0_scentOf cX0_scentOf 3 (some .int) 1 := ⟨kg_V q1_214 q1_194 q1_195 q1_2 q1_196, by decide +kernel⟩
theorem cv_X0_57 : kV RX0 RX0 57 yX0_goesTo cX0_goesTo 8 (some .int) 1 := ⟨kg_V q2_11 q1_216 q1_217 q1_2 q1_218, by decide +kernel⟩
theorem cv_X0_60 : kNs yX4_withOne cX4_withOne 2 (some .int) 2 := ⟨q2_26, q2_25, q1_1, by decide +kernel⟩
theorem cv_X2_24 : kNs yX4_withOne cX4_withOne 2 (some .int) 2 := ⟨q2_26, q2_25, q1_1, by decide +kernel⟩
theorem cv_X3_11 : kSt RX3 11 yX3_goesOnWith cX3_goesOnWith 2 (some .boolean) 2 := ⟨kg_S q1_172 q1_173 q1_6 q1_174, by decide +kernel⟩
theorem cv_X3_15 : kSt RX3 15 yX3_isDigitBelow cX3_isDigitBelow 2 (some .boolean) 2 := ⟨kg_S q1_175 q1_176 q1_6 q1_177, by decide +kernel⟩
theorem cv_X3_18 : kNs yX4_isBelow cX4_isBelow 2 (some .boolean) 2 := ⟨q1_156, q1_155, q1_1, by decide +kernel⟩
theorem cv_X3_37 : kSt RX3 37 yX3_kindOf cX3_kindOf 1 (some .int) 1 := ⟨kg_S q1_182 q1_183 q1_6 q1_184, by decide +kernel⟩
theorem cv_X4_55 : kSt RX4 55 yX4_isSheet cX4_isSheet 1 (some .boolean) 1 := ⟨kg_S q1_151 q1_152 q1_1 q1_153, by decide +kernel⟩
theorem cv_X4_59 : kSt RX4 59 yX4_isBelow cX4_isBelow 2 (some .boolean) 2 := ⟨kg_S q1_154 q1_155 q1_1 q1_156, by decide +kernel⟩
theorem cv_X4_63 : kV RX4 RX1 63 yX1_faultAs cX1_faultAs 2 (some .int) 1 := ⟨kg_V q1_157 q1_158 q1_159 q1_3 q1_160, by decide +kernel⟩
theorem cv_X4_67 : kV RX4 RX1 67 yX1_spans cX1_spans 3 (some .boolean) 2 := ⟨kg_V q1_161 q1_162 q1_163 q1_3 q1_164, by decide +kernel⟩
theorem cv_X4_70 : kV RX4 RX4 70 yX4_faulted cX4_faulted 2 (some .int) 1 := ⟨kg_V q1_165 q1_167 q0_0 q1_1 q1_168, by decide +kernel⟩
theorem cv_X4_76 : kSt RX4 76 yX3_firstFault cX3_firstFault 4 (some .int) 3 := ⟨kg_S q1_169 q1_170 q1_6 q1_171, by decide +kernel⟩
theorem cv_X4_82 : kSt RX4 82 yX3_fill cX3_fill 6 none 4 := ⟨kg_S q1_179 q1_180 q1_6 q1_181, by decide +kernel⟩
theorem cv_X4_95 : kV RX4 RX4 95 yX4_isPerson cX4_isPerson 2 (some .boolean) 1 := ⟨kg_V q1_189 q1_191 q0_1 q1_1 q1_192, by decide +kernel⟩
theorem cv_X4_110 : kV RX4 RX0 110 yX0_scentOf cX0_scentOf 3 (some .int) 1 := ⟨kg_V q1_193 q1_194 q1_195 q1_2 q1_196, by decide +kernel⟩
theorem cv_X4_113 : kV RX4 RX0 113 yX0_isSmelt cX0_isSmelt 2 (some .boolean) 1 := ⟨kg_V q1_203 q1_204 q1_205 q1_2 q1_206, by decide +kernel⟩
theorem cv_X4_116 : kV RX4 RX0 116 yX0_goesTo cX0_goesTo 8 (some .int) 1 := ⟨kg_V q1_215 q1_216 q1_217 q1_2 q1_218, by decide +kernel⟩
theorem cv_X4_119 : kV RX4 RX4 119 yX4_hasNoMoor cX4_hasNoMoor 1 (some .boolean) 0 := ⟨kg_V q1_223 q1_225 q0_2 q1_1 q1_226, by decide +kernel⟩
theorem cv_X4_129 : kV RX4 RX4 129 yX4_becomes cX4_becomes 6 (some .int) 4 := ⟨kg_V q1_235 q1_237 q0_3 q1_1 q1_238, by decide +kernel⟩
theorem cv_X4_133 : kV RX4 RX0 133 yX0_deliver cX0_deliver 3 (some .int) 1 := ⟨kg_V q2_7 q2_8 q2_9 q1_2 q2_10, by decide +kernel⟩
theorem cv_X4_136 : kV RX4 RX0 136 yX0_whoseCome cX0_whoseCome 3 (some .int) 0 := ⟨kg_V q2_16 q2_17 q2_18 q1_2 q2_19, by decide +kernel⟩
theorem cv_X4_140 : kV RX4 RX0 140 yX0_whoGetOne cX0_whoGetOne 3 (some .int) 0 := ⟨kg_V q2_20 q2_21 q2_22 q1_2 q2_23, by decide +kernel⟩
theorem cv_X4_143 : kSt RX4 143 yX4_isOfRound cX4_isOfRound 1 (some .boolean) 1 := ⟨kg_S q2_31 q2_32 q1_1 q2_33, by decide +kernel⟩
theorem cv_X4_146 : kV RX4 RX4 146 yX4_refusalOfPairs cX4_refusalOfPairs 6 (some .int) 3 := ⟨kg_V q2_34 q2_36 q0_4 q1_1 q2_37, by decide +kernel⟩
theorem cv_X4_149 : kV RX4 RX4 149 yX4_play cX4_play 7 none 3 := ⟨kg_V q2_38 q2_40 q0_5 q1_1 q2_41, by decide +kernel⟩
theorem cv_X4_153 : kV RX4 RX4 153 yX4_ofRound cX4_ofRound 2 (some .int) 1 := ⟨kg_V q2_58 q2_60 q0_6 q1_1 q2_61, by decide +kernel⟩
theorem cv_X4_156 : kV RX4 RX0 156 yX0_become cX0_become 2 none 1 := ⟨kg_V q2_42 q2_43 q2_44 q1_2 q2_45, by decide +kernel⟩
theorem cv_X4_160 : kSt RX4 160 yJ6_bitCount_0f7a4 cJ6_bitCount_0f7a4 1 (some .int) 1 := ⟨kg_S q2_70 q1_198 q1_7 q1_199, by decide +kernel⟩
theorem cv_X4_165 : kV RX4 RX4 165 yX4_findBestOrder cX4_findBestOrder 4 (some .int) 0 := ⟨kg_V q2_75 q2_77 q0_7 q1_1 q2_78, by decide +kernel⟩
theorem cv_X4_168 : kSt RX4 168 yX4_contains cX4_contains 2 (some .boolean) 2 := ⟨kg_S q2_83 q2_84 q1_1 q2_85, by decide +kernel⟩
theorem cv_X4_171 : kV RX4 RX4 171 yX4_bySuchReadings cX4_bySuchReadings 6 (some .int) 3 := ⟨kg_V q2_110 q2_112 q0_9 q1_1 q2_113, by decide +kernel⟩
theorem cv_X4_176 : kV RX4 RX4 176 yX4_smellsByWhichItComes cX4_smellsByWhichItComes 4 (some .int) 1 := ⟨kg_V q2_131 q2_133 q0_11 q1_1 q2_134, by decide +kernel⟩
theorem cv_X4_179 : kV RX4 RX1 179 yX1_begin cX1_begin 4 none 2 := ⟨kg_V q2_139 q2_140 q2_141 q1_3 q2_142, by decide +kernel⟩
theorem cv_X4_187 : kV RX4 RX1 187 yX1_hasCell cX1_hasCell 2 (some .boolean) 1 := ⟨kg_V q2_151 q2_152 q2_153 q1_3 q2_154, by decide +kernel⟩
theorem cv_X4_190 : kV RX4 RX1 190 yX1_write cX1_write 3 none 2 := ⟨kg_V q2_155 q2_156 q2_157 q1_3 q2_158, by decide +kernel⟩
theorem cv_X4_202 : kV RX4 RX4 202 yX4_toldByReeking cX4_toldByReeking 3 (some .int) 1 := ⟨kg_V q2_171 q2_173 q0_12 q1_1 q2_174, by decide +kernel⟩
theorem cv_X4_205 : kV RX4 RX4 205 yX4_toldByRank cX4_toldByRank 2 (some .int) 1 := ⟨kg_V q2_179 q2_181 q0_14 q1_1 q2_182, by decide +kernel⟩
theorem cv_X4_208 : kV RX4 RX4 208 yX4_toldByPlain cX4_toldByPlain 2 (some .int) 1 := ⟨kg_V q2_183 q2_185 q0_15 q1_1 q2_186, by decide +kernel⟩
theorem cv_X4_211 : kV RX4 RX4 211 yX4_begins cX4_begins 2 none 1 := ⟨kg_V q2_175 q2_177 q0_13 q1_1 q2_178, by decide +kernel⟩
theorem cv_X4_218 : kV RX4 RX2 218 yX2_clear cX2_clear 1 none 0 := ⟨kg_V q2_49 q2_50 q2_51 q1_4 q2_52, by decide +kernel⟩
theorem cv_X4_221 : kV RX4 RX2 221 yX2_add cX2_add 4 none 3 := ⟨kg_V q2_53 q2_54 q2_55 q1_4 q2_56, by decide +kernel⟩
theorem cv_X4_237 : kV RX4 RX4 237 yX4_comingInTriedOrder cX4_comingInTriedOrder 6 (some .int) 0 := ⟨kg_V q2_79 q2_81 q0_8 q1_1 q2_82, by decide +kernel⟩
theorem cv_X4_240 : kSt RX4 240 yX4_stepToNextRow cX4_stepToNextRow 6 (some .boolean) 2 := ⟨kg_S q2_88 q2_89 q1_1 q2_90, by decide +kernel⟩
theorem cv_X4_244 : kSt RX4 244 yX4_withOne cX4_withOne 2 (some .int) 2 := ⟨kg_S q2_86 q2_25 q1_1 q2_26, by decide +kernel⟩
theorem cv_X4_248 : kSt RX4 248 yX4_swap cX4_swap 4 none 3 := ⟨kg_S q2_91 q2_92 q1_1 q2_93, by decide +kernel⟩
theorem cv_X4_251 : kV RX4 RX4 251 yX4_readingsHoldInDraft cX4_readingsHoldInDraft 2 (some .boolean) 0 := ⟨kg_V q2_114 q2_116 q0_10 q1_1 q2_117, by decide +kernel⟩
theorem cv_X5_76 : kSt RX5 76 yX5_lost cX5_lost 0 (some .long) 0 := ⟨kg_S q4_32 q4_33 q1_5 q4_34, by decide +kernel⟩
theorem cv_X5_83 : kSt RX5 83 yX5_in cX5_in 6 (some .boolean) 3 := ⟨kg_S q3_75 q3_76 q1_5 q3_77, by decide +kernel⟩
theorem cv_X5_90 : kV RX5 RX5 90 yX5_codeAt cX5_codeAt 3 (some .int) 2 := ⟨kg_V q3_98 q3_100 q0_20 q1_5 q3_101, by decide +kernel⟩
theorem cv_X5_97 : kV RX5 RX5 97 yX5_figure cX5_figure 7 (some .int) 4 := ⟨kg_V q3_102 q3_104 q0_21 q1_5 q3_105, by decide +kernel⟩
theorem cv_X5_107 : kV RX5 RX5 107 yX5_readsPerson cX5_readsPerson 7 (some .boolean) 2 := ⟨kg_V q3_106 q3_108 q0_22 q1_5 q3_109, by decide +kernel⟩
theorem cv_X5_111 : kV RX5 RX5 111 yX5_failed cX5_failed 2 (some .int) 1 := ⟨kg_V q3_87 q3_89 q0_18 q1_5 q3_90, by decide +kernel⟩
theorem cv_X5_115 : kSt RX5 115 yX5_isBeyond cX5_isBeyond 4 (some .boolean) 3 := ⟨kg_S q3_91 q3_92 q1_5 q3_93, by decide +kernel⟩
theorem cv_X5_119 : kSt RX5 119 yX5_noSheet cX5_noSheet 1 (some .boolean) 1 := ⟨kg_S q3_71 q3_72 q1_5 q3_73, by decide +kernel⟩
theorem cv_X5_123 : kV RX5 RX5 123 yX5_refused cX5_refused 2 (some .int) 1 := ⟨kg_V q3_78 q3_80 q0_16 q1_5 q3_81, by decide +kernel⟩
theorem cv_X5_128 : kV RX5 RX5 128 yX5_cellsBarred cX5_cellsBarred 6 (some .int) 4 := ⟨kg_V q3_83 q3_85 q0_17 q1_5 q3_86, by decide +kernel⟩
theorem cv_X5_132 : kV RX5 RX5 132 yX5_readsMoor cX5_readsMoor 4 (some .boolean) 2 := ⟨kg_V q3_94 q3_96 q0_19 q1_5 q3_97, by decide +kernel⟩
theorem cv_X5_147 : kSt RX5 147 yX5_bits cX5_bits 3 (some .int) 1 := ⟨kg_S q3_122 q3_123 q1_5 q3_124, by decide +kernel⟩
theorem cv_X5_150 : kSt RX5 150 yX5_apart cX5_apart 2 (some .int) 2 := ⟨kg_S q3_133 q3_134 q1_5 q3_135, by decide +kernel⟩
theorem cv_X5_153 : kV RX5 RX5 153 yX5_wayTo cX5_wayTo 2 (some .int) 1 := ⟨kg_V q3_129 q3_131 q0_26 q1_5 q3_132, by decide +kernel⟩
theorem cv_X5_156 : kV RX5 RX5 156 yX5_scentOf cX5_scentOf 3 (some .int) 1 := ⟨kg_V q3_118 q3_120 q0_24 q1_5 q3_121, by decide +kernel⟩
theorem cv_X5_159 : kV RX5 RX5 159 yX5_isSmelt cX5_isSmelt 2 (some .boolean) 1 := ⟨kg_V q3_125 q3_127 q0_25 q1_5 q3_128, by decide +kernel⟩
theorem cv_X5_162 : kV RX5 RX5 162 yX5_noPerson cX5_noPerson 2 (some .boolean) 1 := ⟨kg_V q3_114 q3_116 q0_23 q1_5 q3_117, by decide +kernel⟩
theorem cv_X5_165 : kV RX5 RX5 165 yX5_goesTo cX5_goesTo 7 (some .int) 1 := ⟨kg_V q3_136 q3_138 q0_27 q1_5 q3_139, by decide +kernel⟩
theorem cv_X5_174 : kV RX5 RX5 174 yX5_sent cX5_sent 3 (some .int) 1 := ⟨kg_V q3_162 q3_164 q0_28 q1_5 q3_165, by decide +kernel⟩
theorem cv_X5_187 : kV RX5 RX5 187 yX5_pairsBarred cX5_pairsBarred 5 (some .int) 2 := ⟨kg_V q3_177 q3_179 q0_29 q1_5 q3_180, by decide +kernel⟩
theorem cv_X5_190 : kV RX5 RX5 190 yX5_keepAll cX5_keepAll 2 none 0 := ⟨kg_V q3_183 q3_185 q0_30 q1_5 q3_186, by decide +kernel⟩
theorem cv_X5_193 : kV RX5 RX5 193 yX5_roundBy cX5_roundBy 12 (some .int) 3 := ⟨kg_V q3_187 q3_189 q0_31 q1_5 q3_190, by decide +kernel⟩
theorem cv_X5_197 : kV RX5 RX5 197 yX5_bringBack cX5_bringBack 2 none 0 := ⟨kg_V q3_191 q3_193 q0_32 q1_5 q3_194, by decide +kernel⟩
theorem cv_X5_200 : kV RX5 RX5 200 yX5_comeNow cX5_comeNow 3 (some .int) 0 := ⟨kg_V q3_203 q3_205 q0_33 q1_5 q3_206, by decide +kernel⟩
theorem cv_X5_204 : kV RX5 RX5 204 yX5_exchange cX5_exchange 4 none 2 := ⟨kg_V q3_225 q3_227 q0_37 q1_5 q3_228, by decide +kernel⟩
theorem cv_X5_208 : kV RX5 RX5 208 yX5_comeInOrder cX5_comeInOrder 3 (some .int) 0 := ⟨kg_V q3_217 q3_219 q0_35 q1_5 q3_220, by decide +kernel⟩
theorem cv_X5_211 : kV RX5 RX5 211 yX5_nextOrder cX5_nextOrder 5 (some .boolean) 0 := ⟨kg_V q3_221 q3_223 q0_36 q1_5 q3_224, by decide +kernel⟩
theorem cv_X5_219 : kV RX5 RX5 219 yX5_bestOrder cX5_bestOrder 5 (some .int) 0 := ⟨kg_V q3_213 q3_215 q0_34 q1_5 q3_216, by decide +kernel⟩
theorem cv_X5_222 : kSt RX5 222 yX5_isIn cX5_isIn 2 (some .boolean) 2 := ⟨kg_S q4_1 q4_2 q1_5 q4_3, by decide +kernel⟩
theorem cv_X5_225 : kV RX5 RX5 225 yX5_asMet cX5_asMet 3 none 1 := ⟨kg_V q3_237 q3_239 q0_39 q1_5 q4_0, by decide +kernel⟩
theorem cv_X5_229 : kV RX5 RX5 229 yX5_spreads cX5_spreads 6 none 1 := ⟨kg_V q3_233 q3_235 q0_38 q1_5 q3_236, by decide +kernel⟩
theorem cv_X5_232 : kV RX5 RX5 232 yX5_areSo cX5_areSo 3 (some .boolean) 0 := ⟨kg_V q4_16 q4_18 q0_40 q1_5 q4_19, by decide +kernel⟩
theorem cv_X5_235 : kSt RX5 235 yX5_share cX5_share 11 (some .long) 3 := ⟨kg_S q4_36 q4_37 q1_5 q4_38, by decide +kernel⟩
theorem cv_X5_239 : kV RX5 RX5 239 yX5_noCell cX5_noCell 3 (some .int) 2 := ⟨kg_V q4_51 q4_53 q0_41 q1_5 q4_54, by decide +kernel⟩
theorem cv_X5_242 : kV RX5 RX5 242 yX5_failedLong cX5_failedLong 2 (some .long) 1 := ⟨kg_V q4_59 q4_61 q0_42 q1_5 q4_62, by decide +kernel⟩
theorem cv_X5_249 : kV RX5 RX5 249 yX5_traced cX5_traced 2 none 1 := ⟨kg_V q4_71 q4_73 q0_43 q1_5 q4_74, by decide +kernel⟩
end
section
/-! what the methods of the class compute, laid by program out of the bytecode -/
def fX0_become (q0 : Nat) (q1 : Nat) (σ : kS) : Option kS :=
  if kcpy (0 : Int32) (0 : Int32) (6 : Int32) 6 6 then
  if kcpy (0 : Int32) (0 : Int32) (6 : Int32) 6 6 then
  if kcpy (0 : Int32) (0 : Int32) (6 : Int32) 6 6 then
  if kcpy (0 : Int32) (0 : Int32) (6 : Int32) 6 6 then
  some (krow (krow (krow (krow (kup (kup (kup σ q0 0 (σ q1 0)) q0 1 ((kup σ q0 0 (σ q1 0)) q1 1)) q0 2 ((kup (kup σ q0 0 (σ q1 0)) q0 1 ((kup σ q0 0 (σ q1 0)) q1 1)) q1 2)) (q0 + 1) (va_cpy ((kup (kup (kup σ q0 0 (σ q1 0)) q0 1 ((kup σ q0 0 (σ q1 0)) q1 1)) q0 2 ((kup (kup σ q0 0 (σ q1 0)) q0 1 ((kup σ q0 0 (σ q1 0)) q1 1)) q1 2)) (q1 + 1)) ((kup (kup (kup σ q0 0 (σ q1 0)) q0 1 ((kup σ q0 0 (σ q1 0)) q1 1)) q0 2 ((kup (kup σ q0 0 (σ q1 0)) q0 1 ((kup σ q0 0 (σ q1 0)) q1 1)) q1 2)) (q0 + 1)) (Int32.toNatClampNeg (0 : Int32)) (Int32.toNatClampNeg (0 : Int32)) (Int32.toNatClampNeg (6 : Int32)))) (q0 + 2) (va_cpy ((krow (kup (kup (kup σ q0 0 (σ q1 0)) q0 1 ((kup σ q0 0 (σ q1 0)) q1 1)) q0 2 ((kup (kup σ q0 0 (σ q1 0)) q0 1 ((kup σ q0 0 (σ q1 0)) q1 1)) q1 2)) (q0 + 1) (va_cpy ((kup (kup (kup σ q0 0 (σ q1 0)) q0 1 ((kup σ q0 0 (σ q1 0)) q1 1)) q0 2 ((kup (kup σ q0 0 (σ q1 0)) q0 1 ((kup σ q0 0 (σ q1 0)) q1 1)) q1 2)) (q1 + 1)) ((kup (kup (kup σ q0 0 (σ q1 0)) q0 1 ((kup σ q0 0 (σ q1 0)) q1 1)) q0 2 ((kup (kup σ q0 0 (σ q1 0)) q0 1 ((kup σ q0 0 (σ q1 0)) q1 1)) q1 2)) (q0 + 1)) (Int32.toNatClampNeg (0 : Int32)) (Int32.toNatClampNeg (0 : Int32)) (Int32.toNatClampNeg (6 : Int32)))) (q1 + 2)) ((krow (kup (kup (kup σ q0 0 (σ q1 0)) q0 1 ((kup σ q0 0 (σ q1 0)) q1 1)) q0 2 ((kup (kup σ q0 0 (σ q1 0)) q0 1 ((kup σ q0 0 (σ q1 0)) q1 1)) q1 2)) (q0 + 1) (va_cpy ((kup (kup (kup σ q0 0 (σ q1 0)) q0 1 ((kup σ q0 0 (σ q1 0)) q1 1)) q0 2 ((kup (kup σ q0 0 (σ q1 0)) q0 1 ((kup σ q0 0 (σ q1 0)) q1 1)) q1 2)) (q1 + 1)) ((kup (kup (kup σ q0 0 (σ q1 0)) q0 1 ((kup σ q0 0 (σ q1 0)) q1 1)) q0 2 ((kup (kup σ q0 0 (σ q1 0)) q0 1 ((kup σ q0 0 (σ q1 0)) q1 1)) q1 2)) (q0 + 1)) (Int32.toNatClampNeg (0 : Int32)) (Int32.toNatClampNeg (0 : Int32)) (Int32.toNatClampNeg (6 : Int32)))) (q0 + 2)) (Int32.toNatClampNeg (0 : Int32)) (Int32.toNatClampNeg (0 : Int32)) (Int32.toNatClampNeg (6 : Int32)))) (q0 + 3) (va_cpy ((krow (krow (kup (kup (kup σ q0 0 (σ q1 0)) q0 1 ((kup σ q0 0 (σ q1 0)) q1 1)) q0 2 ((kup (kup σ q0 0 (σ q1 0)) q0 1 ((kup σ q0 0 (σ q1 0)) q1 1)) q1 2)) (q0 + 1) (va_cpy ((kup (kup (kup σ q0 0 (σ q1 0)) q0 1 ((kup σ q0 0 (σ q1 0)) q1 1)) q0 2 ((kup (kup σ q0 0 (σ q1 0)) q0 1 ((kup σ q0 0 (σ q1 0)) q1 1)) q1 2)) (q1 + 1)) ((kup (kup (kup σ q0 0 (σ q1 0)) q0 1 ((kup σ q0 0 (σ q1 0)) q1 1)) q0 2 ((kup (kup σ q0 0 (σ q1 0)) q0 1 ((kup σ q0 0 (σ q1 0)) q1 1)) q1 2)) (q0 + 1)) (Int32.toNatClampNeg (0 : Int32)) (Int32.toNatClampNeg (0 : Int32)) (Int32.toNatClampNeg (6 : Int32)))) (q0 + 2) (va_cpy ((krow (kup (kup (kup σ q0 0 (σ q1 0)) q0 1 ((kup σ q0 0 (σ q1 0)) q1 1)) q0 2 ((kup (kup σ q0 0 (σ q1 0)) q0 1 ((kup σ q0 0 (σ q1 0)) q1 1)) q1 2)) (q0 + 1) (va_cpy ((kup (kup (kup σ q0 0 (σ q1 0)) q0 1 ((kup σ q0 0 (σ q1 0)) q1 1)) q0 2 ((kup (kup σ q0 0 (σ q1 0)) q0 1 ((kup σ q0 0 (σ q1 0)) q1 1)) q1 2)) (q1 + 1)) ((kup (kup (kup σ q0 0 (σ q1 0)) q0 1 ((kup σ q0 0 (σ q1 0)) q1 1)) q0 2 ((kup (kup σ q0 0 (σ q1 0)) q0 1 ((kup σ q0 0 (σ q1 0)) q1 1)) q1 2)) (q0 + 1)) (Int32.toNatClampNeg (0 : Int32)) (Int32.toNatClampNeg (0 : Int32)) (Int32.toNatClampNeg (6 : Int32)))) (q1 + 2)) ((krow (kup (kup (kup σ q0 0 (σ q1 0)) q0 1 ((kup σ q0 0 (σ q1 0)) q1 1)) q0 2 ((kup (kup σ q0 0 (σ q1 0)) q0 1 ((kup σ q0 0 (σ q1 0)) q1 1)) q1 2)) (q0 + 1) (va_cpy ((kup (kup (kup σ q0 0 (σ q1 0)) q0 1 ((kup σ q0 0 (σ q1 0)) q1 1)) q0 2 ((kup (kup σ q0 0 (σ q1 0)) q0 1 ((kup σ q0 0 (σ q1 0)) q1 1)) q1 2)) (q1 + 1)) ((kup (kup (kup σ q0 0 (σ q1 0)) q0 1 ((kup σ q0 0 (σ q1 0)) q1 1)) q0 2 ((kup (kup σ q0 0 (σ q1 0)) q0 1 ((kup σ q0 0 (σ q1 0)) q1 1)) q1 2)) (q0 + 1)) (Int32.toNatClampNeg (0 : Int32)) (Int32.toNatClampNeg (0 : Int32)) (Int32.toNatClampNeg (6 : Int32)))) (q0 + 2)) (Int32.toNatClampNeg (0 : Int32)) (Int32.toNatClampNeg (0 : Int32)) (Int32.toNatClampNeg (6 : Int32)))) (q1 + 3)) ((krow (krow (kup (kup (kup σ q0 0 (σ q1 0)) q0 1 ((kup σ q0 0 (σ q1 0)) q1 1)) q0 2 ((kup (kup σ q0 0 (σ q1 0)) q0 1 ((kup σ q0 0 (σ q1 0)) q1 1)) q1 2)) (q0 + 1) (va_cpy ((kup (kup (kup σ q0 0 (σ q1 0)) q0 1 ((kup σ q0 0 (σ q1 0)) q1 1)) q0 2 ((kup (kup σ q0 0 (σ q1 0)) q0 1 ((kup σ q0 0 (σ q1 0)) q1 1)) q1 2)) (q1 + 1)) ((kup (kup (kup σ q0 0 (σ q1 0)) q0 1 ((kup σ q0 0 (σ q1 0)) q1 1)) q0 2 ((kup (kup σ q0 0 (σ q1 0)) q0 1 ((kup σ q0 0 (σ q1 0)) q1 1)) q1 2)) (q0 + 1)) (Int32.toNatClampNeg (0 : Int32)) (Int32.toNatClampNeg (0 : Int32)) (Int32.toNatClampNeg (6 : Int32)))) (q0 + 2) (va_cpy ((krow (kup (kup (kup σ q0 0 (σ q1 0)) q0 1 ((kup σ q0 0 (σ q1 0)) q1 1)) q0 2 ((kup (kup σ q0 0 (σ q1 0)) q0 1 ((kup σ q0 0 (σ q1 0)) q1 1)) q1 2)) (q0 + 1) (va_cpy ((kup (kup (kup σ q0 0 (σ q1 0)) q0 1 ((kup σ q0 0 (σ q1 0)) q1 1)) q0 2 ((kup (kup σ q0 0 (σ q1 0)) q0 1 ((kup σ q0 0 (σ q1 0)) q1 1)) q1 2)) (q1 + 1)) ((kup (kup (kup σ q0 0 (σ q1 0)) q0 1 ((kup σ q0 0 (σ q1 0)) q1 1)) q0 2 ((kup (kup σ q0 0 (σ q1 0)) q0 1 ((kup σ q0 0 (σ q1 0)) q1 1)) q1 2)) (q0 + 1)) (Int32.toNatClampNeg (0 : Int32)) (Int32.toNatClampNeg (0 : Int32)) (Int32.toNatClampNeg (6 : Int32)))) (q1 + 2)) ((krow (kup (kup (kup σ q0 0 (σ q1 0)) q0 1 ((kup σ q0 0 (σ q1 0)) q1 1)) q0 2 ((kup (kup σ q0 0 (σ q1 0)) q0 1 ((kup σ q0 0 (σ q1 0)) q1 1)) q1 2)) (q0 + 1) (va_cpy ((kup (kup (kup σ q0 0 (σ q1 0)) q0 1 ((kup σ q0 0 (σ q1 0)) q1 1)) q0 2 ((kup (kup σ q0 0 (σ q1 0)) q0 1 ((kup σ q0 0 (σ q1 0)) q1 1)) q1 2)) (q1 + 1)) ((kup (kup (kup σ q0 0 (σ q1 0)) q0 1 ((kup σ q0 0 (σ q1 0)) q1 1)) q0 2 ((kup (kup σ q0 0 (σ q1 0)) q0 1 ((kup σ q0 0 (σ q1 0)) q1 1)) q1 2)) (q0 + 1)) (Int32.toNatClampNeg (0 : Int32)) (Int32.toNatClampNeg (0 : Int32)) (Int32.toNatClampNeg (6 : Int32)))) (q0 + 2)) (Int32.toNatClampNeg (0 : Int32)) (Int32.toNatClampNeg (0 : Int32)) (Int32.toNatClampNeg (6 : Int32)))) (q0 + 3)) (Int32.toNatClampNeg (0 : Int32)) (Int32.toNatClampNeg (0 : Int32)) (Int32.toNatClampNeg (6 : Int32)))) (q0 + 4) (va_cpy ((krow (krow (krow (kup (kup (kup σ q0 0 (σ q1 0)) q0 1 ((kup σ q0 0 (σ q1 0)) q1 1)) q0 2 ((kup (kup σ q0 0 (σ q1 0)) q0 1 ((kup σ q0 0 (σ q1 0)) q1 1)) q1 2)) (q0 + 1) (va_cpy ((kup (kup (kup σ q0 0 (σ q1 0)) q0 1 ((kup σ q0 0 (σ q1 0)) q1 1)) q0 2 ((kup (kup σ q0 0 (σ q1 0)) q0 1 ((kup σ q0 0 (σ q1 0)) q1 1)) q1 2)) (q1 + 1)) ((kup (kup (kup σ q0 0 (σ q1 0)) q0 1 ((kup σ q0 0 (σ q1 0)) q1 1)) q0 2 ((kup (kup σ q0 0 (σ q1 0)) q0 1 ((kup σ q0 0 (σ q1 0)) q1 1)) q1 2)) (q0 + 1)) (Int32.toNatClampNeg (0 : Int32)) (Int32.toNatClampNeg (0 : Int32)) (Int32.toNatClampNeg (6 : Int32)))) (q0 + 2) (va_cpy ((krow (kup (kup (kup σ q0 0 (σ q1 0)) q0 1 ((kup σ q0 0 (σ q1 0)) q1 1)) q0 2 ((kup (kup σ q0 0 (σ q1 0)) q0 1 ((kup σ q0 0 (σ q1 0)) q1 1)) q1 2)) (q0 + 1) (va_cpy ((kup (kup (kup σ q0 0 (σ q1 0)) q0 1 ((kup σ q0 0 (σ q1 0)) q1 1)) q0 2 ((kup (kup σ q0 0 (σ q1 0)) q0 1 ((kup σ q0 0 (σ q1 0)) q1 1)) q1 2)) (q1 + 1)) ((kup (kup (kup σ q0 0 (σ q1 0)) q0 1 ((kup σ q0 0 (σ q1 0)) q1 1)) q0 2 ((kup (kup σ q0 0 (σ q1 0)) q0 1 ((kup σ q0 0 (σ q1 0)) q1 1)) q1 2)) (q0 + 1)) (Int32.toNatClampNeg (0 : Int32)) (Int32.toNatClampNeg (0 : Int32)) (Int32.toNatClampNeg (6 : Int32)))) (q1 + 2)) ((krow (kup (kup (kup σ q0 0 (σ q1 0)) q0 1 ((kup σ q0 0 (σ q1 0)) q1 1)) q0 2 ((kup (kup σ q0 0 (σ q1 0)) q0 1 ((kup σ q0 0 (σ q1 0)) q1 1)) q1 2)) (q0 + 1) (va_cpy ((kup (kup (kup σ q0 0 (σ q1 0)) q0 1 ((kup σ q0 0 (σ q1 0)) q1 1)) q0 2 ((kup (kup σ q0 0 (σ q1 0)) q0 1 ((kup σ q0 0 (σ q1 0)) q1 1)) q1 2)) (q1 + 1)) ((kup (kup (kup σ q0 0 (σ q1 0)) q0 1 ((kup σ q0 0 (σ q1 0)) q1 1)) q0 2 ((kup (kup σ q0 0 (σ q1 0)) q0 1 ((kup σ q0 0 (σ q1 0)) q1 1)) q1 2)) (q0 + 1)) (Int32.toNatClampNeg (0 : Int32)) (Int32.toNatClampNeg (0 : Int32)) (Int32.toNatClampNeg (6 : Int32)))) (q0 + 2)) (Int32.toNatClampNeg (0 : Int32)) (Int32.toNatClampNeg (0 : Int32)) (Int32.toNatClampNeg (6 : Int32)))) (q0 + 3) (va_cpy ((krow (krow (kup (kup (kup σ q0 0 (σ q1 0)) q0 1 ((kup σ q0 0 (σ q1 0)) q1 1)) q0 2 ((kup (kup σ q0 0 (σ q1 0)) q0 1 ((kup σ q0 0 (σ q1 0)) q1 1)) q1 2)) (q0 + 1) (va_cpy ((kup (kup (kup σ q0 0 (σ q1 0)) q0 1 ((kup σ q0 0 (σ q1 0)) q1 1)) q0 2 ((kup (kup σ q0 0 (σ q1 0)) q0 1 ((kup σ q0 0 (σ q1 0)) q1 1)) q1 2)) (q1 + 1)) ((kup (kup (kup σ q0 0 (σ q1 0)) q0 1 ((kup σ q0 0 (σ q1 0)) q1 1)) q0 2 ((kup (kup σ q0 0 (σ q1 0)) q0 1 ((kup σ q0 0 (σ q1 0)) q1 1)) q1 2)) (q0 + 1)) (Int32.toNatClampNeg (0 : Int32)) (Int32.toNatClampNeg (0 : Int32)) (Int32.toNatClampNeg (6 : Int32)))) (q0 + 2) (va_cpy ((krow (kup (kup (kup σ q0 0 (σ q1 0)) q0 1 ((kup σ q0 0 (σ q1 0)) q1 1)) q0 2 ((kup (kup σ q0 0 (σ q1 0)) q0 1 ((kup σ q0 0 (σ q1 0)) q1 1)) q1 2)) (q0 + 1) (va_cpy ((kup (kup (kup σ q0 0 (σ q1 0)) q0 1 ((kup σ q0 0 (σ q1 0)) q1 1)) q0 2 ((kup (kup σ q0 0 (σ q1 0)) q0 1 ((kup σ q0 0 (σ q1 0)) q1 1)) q1 2)) (q1 + 1)) ((kup (kup (kup σ q0 0 (σ q1 0)) q0 1 ((kup σ q0 0 (σ q1 0)) q1 1)) q0 2 ((kup (kup σ q0 0 (σ q1 0)) q0 1 ((kup σ q0 0 (σ q1 0)) q1 1)) q1 2)) (q0 + 1)) (Int32.toNatClampNeg (0 : Int32)) (Int32.toNatClampNeg (0 : Int32)) (Int32.toNatClampNeg (6 : Int32)))) (q1 + 2)) ((krow (kup (kup (kup σ q0 0 (σ q1 0)) q0 1 ((kup σ q0 0 (σ q1 0)) q1 1)) q0 2 ((kup (kup σ q0 0 (σ q1 0)) q0 1 ((kup σ q0 0 (σ q1 0)) q1 1)) q1 2)) (q0 + 1) (va_cpy ((kup (kup (kup σ q0 0 (σ q1 0)) q0 1 ((kup σ q0 0 (σ q1 0)) q1 1)) q0 2 ((kup (kup σ q0 0 (σ q1 0)) q0 1 ((kup σ q0 0 (σ q1 0)) q1 1)) q1 2)) (q1 + 1)) ((kup (kup (kup σ q0 0 (σ q1 0)) q0 1 ((kup σ q0 0 (σ q1 0)) q1 1)) q0 2 ((kup (kup σ q0 0 (σ q1 0)) q0 1 ((kup σ q0 0 (σ q1 0)) q1 1)) q1 2)) (q0 + 1)) (Int32.toNatClampNeg (0 : Int32)) (Int32.toNatClampNeg (0 : Int32)) (Int32.toNatClampNeg (6 : Int32)))) (q0 + 2)) (Int32.toNatClampNeg (0 : Int32)) (Int32.toNatClampNeg (0 : Int32)) (Int32.toNatClampNeg (6 : Int32)))) (q1 + 3)) ((krow (krow (kup (kup (kup σ q0 0 (σ q1 0)) q0 1 ((kup σ q0 0 (σ q1 0)) q1 1)) q0 2 ((kup (kup σ q0 0 (σ q1 0)) q0 1 ((kup σ q0 0 (σ q1 0)) q1 1)) q1 2)) (q0 + 1) (va_cpy ((kup (kup (kup σ q0 0 (σ q1 0)) q0 1 ((kup σ q0 0 (σ q1 0)) q1 1)) q0 2 ((kup (kup σ q0 0 (σ q1 0)) q0 1 ((kup σ q0 0 (σ q1 0)) q1 1)) q1 2)) (q1 + 1)) ((kup (kup (kup σ q0 0 (σ q1 0)) q0 1 ((kup σ q0 0 (σ q1 0)) q1 1)) q0 2 ((kup (kup σ q0 0 (σ q1 0)) q0 1 ((kup σ q0 0 (σ q1 0)) q1 1)) q1 2)) (q0 + 1)) (Int32.toNatClampNeg (0 : Int32)) (Int32.toNatClampNeg (0 : Int32)) (Int32.toNatClampNeg (6 : Int32)))) (q0 + 2) (va_cpy ((krow (kup (kup (kup σ q0 0 (σ q1 0)) q0 1 ((kup σ q0 0 (σ q1 0)) q1 1)) q0 2 ((kup (kup σ q0 0 (σ q1 0)) q0 1 ((kup σ q0 0 (σ q1 0)) q1 1)) q1 2)) (q0 + 1) (va_cpy ((kup (kup (kup σ q0 0 (σ q1 0)) q0 1 ((kup σ q0 0 (σ q1 0)) q1 1)) q0 2 ((kup (kup σ q0 0 (σ q1 0)) q0 1 ((kup σ q0 0 (σ q1 0)) q1 1)) q1 2)) (q1 + 1)) ((kup (kup (kup σ q0 0 (σ q1 0)) q0 1 ((kup σ q0 0 (σ q1 0)) q1 1)) q0 2 ((kup (kup σ q0 0 (σ q1 0)) q0 1 ((kup σ q0 0 (σ q1 0)) q1 1)) q1 2)) (q0 + 1)) (Int32.toNatClampNeg (0 : Int32)) (Int32.toNatClampNeg (0 : Int32)) (Int32.toNatClampNeg (6 : Int32)))) (q1 + 2)) ((krow (kup (kup (kup σ q0 0 (σ q1 0)) q0 1 ((kup σ q0 0 (σ q1 0)) q1 1)) q0 2 ((kup (kup σ q0 0 (σ q1 0)) q0 1 ((kup σ q0 0 (σ q1 0)) q1 1)) q1 2)) (q0 + 1) (va_cpy ((kup (kup (kup σ q0 0 (σ q1 0)) q0 1 ((kup σ q0 0 (σ q1 0)) q1 1)) q0 2 ((kup (kup σ q0 0 (σ q1 0)) q0 1 ((kup σ q0 0 (σ q1 0)) q1 1)) q1 2)) (q1 + 1)) ((kup (kup (kup σ q0 0 (σ q1 0)) q0 1 ((kup σ q0 0 (σ q1 0)) q1 1)) q0 2 ((kup (kup σ q0 0 (σ q1 0)) q0 1 ((kup σ q0 0 (σ q1 0)) q1 1)) q1 2)) (q0 + 1)) (Int32.toNatClampNeg (0 : Int32)) (Int32.toNatClampNeg (0 : Int32)) (Int32.toNatClampNeg (6 : Int32)))) (q0 + 2)) (Int32.toNatClampNeg (0 : Int32)) (Int32.toNatClampNeg (0 : Int32)) (Int32.toNatClampNeg (6 : Int32)))) (q0 + 3)) (Int32.toNatClampNeg (0 : Int32)) (Int32.toNatClampNeg (0 : Int32)) (Int32.toNatClampNeg (6 : Int32)))) (q1 + 4)) ((krow (krow (krow (kup (kup (kup σ q0 0 (σ q1 0)) q0 1 ((kup σ q0 0 (σ q1 0)) q1 1)) q0 2 ((kup (kup σ q0 0 (σ q1 0)) q0 1 ((kup σ q0 0 (σ q1 0)) q1 1)) q1 2)) (q0 + 1) (va_cpy ((kup (kup (kup σ q0 0 (σ q1 0)) q0 1 ((kup σ q0 0 (σ q1 0)) q1 1)) q0 2 ((kup (kup σ q0 0 (σ q1 0)) q0 1 ((kup σ q0 0 (σ q1 0)) q1 1)) q1 2)) (q1 + 1)) ((kup (kup (kup σ q0 0 (σ q1 0)) q0 1 ((kup σ q0 0 (σ q1 0)) q1 1)) q0 2 ((kup (kup σ q0 0 (σ q1 0)) q0 1 ((kup σ q0 0 (σ q1 0)) q1 1)) q1 2)) (q0 + 1)) (Int32.toNatClampNeg (0 : Int32)) (Int32.toNatClampNeg (0 : Int32)) (Int32.toNatClampNeg (6 : Int32)))) (q0 + 2) (va_cpy ((krow (kup (kup (kup σ q0 0 (σ q1 0)) q0 1 ((kup σ q0 0 (σ q1 0)) q1 1)) q0 2 ((kup (kup σ q0 0 (σ q1 0)) q0 1 ((kup σ q0 0 (σ q1 0)) q1 1)) q1 2)) (q0 + 1) (va_cpy ((kup (kup (kup σ q0 0 (σ q1 0)) q0 1 ((kup σ q0 0 (σ q1 0)) q1 1)) q0 2 ((kup (kup σ q0 0 (σ q1 0)) q0 1 ((kup σ q0 0 (σ q1 0)) q1 1)) q1 2)) (q1 + 1)) ((kup (kup (kup σ q0 0 (σ q1 0)) q0 1 ((kup σ q0 0 (σ q1 0)) q1 1)) q0 2 ((kup (kup σ q0 0 (σ q1 0)) q0 1 ((kup σ q0 0 (σ q1 0)) q1 1)) q1 2)) (q0 + 1)) (Int32.toNatClampNeg (0 : Int32)) (Int32.toNatClampNeg (0 : Int32)) (Int32.toNatClampNeg (6 : Int32)))) (q1 + 2)) ((krow (kup (kup (kup σ q0 0 (σ q1 0)) q0 1 ((kup σ q0 0 (σ q1 0)) q1 1)) q0 2 ((kup (kup σ q0 0 (σ q1 0)) q0 1 ((kup σ q0 0 (σ q1 0)) q1 1)) q1 2)) (q0 + 1) (va_cpy ((kup (kup (kup σ q0 0 (σ q1 0)) q0 1 ((kup σ q0 0 (σ q1 0)) q1 1)) q0 2 ((kup (kup σ q0 0 (σ q1 0)) q0 1 ((kup σ q0 0 (σ q1 0)) q1 1)) q1 2)) (q1 + 1)) ((kup (kup (kup σ q0 0 (σ q1 0)) q0 1 ((kup σ q0 0 (σ q1 0)) q1 1)) q0 2 ((kup (kup σ q0 0 (σ q1 0)) q0 1 ((kup σ q0 0 (σ q1 0)) q1 1)) q1 2)) (q0 + 1)) (Int32.toNatClampNeg (0 : Int32)) (Int32.toNatClampNeg (0 : Int32)) (Int32.toNatClampNeg (6 : Int32)))) (q0 + 2)) (Int32.toNatClampNeg (0 : Int32)) (Int32.toNatClampNeg (0 : Int32)) (Int32.toNatClampNeg (6 : Int32)))) (q0 + 3) (va_cpy ((krow (krow (kup (kup (kup σ q0 0 (σ q1 0)) q0 1 ((kup σ q0 0 (σ q1 0)) q1 1)) q0 2 ((kup (kup σ q0 0 (σ q1 0)) q0 1 ((kup σ q0 0 (σ q1 0)) q1 1)) q1 2)) (q0 + 1) (va_cpy ((kup (kup (kup σ q0 0 (σ q1 0)) q0 1 ((kup σ q0 0 (σ q1 0)) q1 1)) q0 2 ((kup (kup σ q0 0 (σ q1 0)) q0 1 ((kup σ q0 0 (σ q1 0)) q1 1)) q1 2)) (q1 + 1)) ((kup (kup (kup σ q0 0 (σ q1 0)) q0 1 ((kup σ q0 0 (σ q1 0)) q1 1)) q0 2 ((kup (kup σ q0 0 (σ q1 0)) q0 1 ((kup σ q0 0 (σ q1 0)) q1 1)) q1 2)) (q0 + 1)) (Int32.toNatClampNeg (0 : Int32)) (Int32.toNatClampNeg (0 : Int32)) (Int32.toNatClampNeg (6 : Int32)))) (q0 + 2) (va_cpy ((krow (kup (kup (kup σ q0 0 (σ q1 0)) q0 1 ((kup σ q0 0 (σ q1 0)) q1 1)) q0 2 ((kup (kup σ q0 0 (σ q1 0)) q0 1 ((kup σ q0 0 (σ q1 0)) q1 1)) q1 2)) (q0 + 1) (va_cpy ((kup (kup (kup σ q0 0 (σ q1 0)) q0 1 ((kup σ q0 0 (σ q1 0)) q1 1)) q0 2 ((kup (kup σ q0 0 (σ q1 0)) q0 1 ((kup σ q0 0 (σ q1 0)) q1 1)) q1 2)) (q1 + 1)) ((kup (kup (kup σ q0 0 (σ q1 0)) q0 1 ((kup σ q0 0 (σ q1 0)) q1 1)) q0 2 ((kup (kup σ q0 0 (σ q1 0)) q0 1 ((kup σ q0 0 (σ q1 0)) q1 1)) q1 2)) (q0 + 1)) (Int32.toNatClampNeg (0 : Int32)) (Int32.toNatClampNeg (0 : Int32)) (Int32.toNatClampNeg (6 : Int32)))) (q1 + 2)) ((krow (kup (kup (kup σ q0 0 (σ q1 0)) q0 1 ((kup σ q0 0 (σ q1 0)) q1 1)) q0 2 ((kup (kup σ q0 0 (σ q1 0)) q0 1 ((kup σ q0 0 (σ q1 0)) q1 1)) q1 2)) (q0 + 1) (va_cpy ((kup (kup (kup σ q0 0 (σ q1 0)) q0 1 ((kup σ q0 0 (σ q1 0)) q1 1)) q0 2 ((kup (kup σ q0 0 (σ q1 0)) q0 1 ((kup σ q0 0 (σ q1 0)) q1 1)) q1 2)) (q1 + 1)) ((kup (kup (kup σ q0 0 (σ q1 0)) q0 1 ((kup σ q0 0 (σ q1 0)) q1 1)) q0 2 ((kup (kup σ q0 0 (σ q1 0)) q0 1 ((kup σ q0 0 (σ q1 0)) q1 1)) q1 2)) (q0 + 1)) (Int32.toNatClampNeg (0 : Int32)) (Int32.toNatClampNeg (0 : Int32)) (Int32.toNatClampNeg (6 : Int32)))) (q0 + 2)) (Int32.toNatClampNeg (0 : Int32)) (Int32.toNatClampNeg (0 : Int32)) (Int32.toNatClampNeg (6 : Int32)))) (q1 + 3)) ((krow (krow (kup (kup (kup σ q0 0 (σ q1 0)) q0 1 ((kup σ q0 0 (σ q1 0)) q1 1)) q0 2 ((kup (kup σ q0 0 (σ q1 0)) q0 1 ((kup σ q0 0 (σ q1 0)) q1 1)) q1 2)) (q0 + 1) (va_cpy ((kup (kup (kup σ q0 0 (σ q1 0)) q0 1 ((kup σ q0 0 (σ q1 0)) q1 1)) q0 2 ((kup (kup σ q0 0 (σ q1 0)) q0 1 ((kup σ q0 0 (σ q1 0)) q1 1)) q1 2)) (q1 + 1)) ((kup (kup (kup σ q0 0 (σ q1 0)) q0 1 ((kup σ q0 0 (σ q1 0)) q1 1)) q0 2 ((kup (kup σ q0 0 (σ q1 0)) q0 1 ((kup σ q0 0 (σ q1 0)) q1 1)) q1 2)) (q0 + 1)) (Int32.toNatClampNeg (0 : Int32)) (Int32.toNatClampNeg (0 : Int32)) (Int32.toNatClampNeg (6 : Int32)))) (q0 + 2) (va_cpy ((krow (kup (kup (kup σ q0 0 (σ q1 0)) q0 1 ((kup σ q0 0 (σ q1 0)) q1 1)) q0 2 ((kup (kup σ q0 0 (σ q1 0)) q0 1 ((kup σ q0 0 (σ q1 0)) q1 1)) q1 2)) (q0 + 1) (va_cpy ((kup (kup (kup σ q0 0 (σ q1 0)) q0 1 ((kup σ q0 0 (σ q1 0)) q1 1)) q0 2 ((kup (kup σ q0 0 (σ q1 0)) q0 1 ((kup σ q0 0 (σ q1 0)) q1 1)) q1 2)) (q1 + 1)) ((kup (kup (kup σ q0 0 (σ q1 0)) q0 1 ((kup σ q0 0 (σ q1 0)) q1 1)) q0 2 ((kup (kup σ q0 0 (σ q1 0)) q0 1 ((kup σ q0 0 (σ q1 0)) q1 1)) q1 2)) (q0 + 1)) (Int32.toNatClampNeg (0 : Int32)) (Int32.toNatClampNeg (0 : Int32)) (Int32.toNatClampNeg (6 : Int32)))) (q1 + 2)) ((krow (kup (kup (kup σ q0 0 (σ q1 0)) q0 1 ((kup σ q0 0 (σ q1 0)) q1 1)) q0 2 ((kup (kup σ q0 0 (σ q1 0)) q0 1 ((kup σ q0 0 (σ q1 0)) q1 1)) q1 2)) (q0 + 1) (va_cpy ((kup (kup (kup σ q0 0 (σ q1 0)) q0 1 ((kup σ q0 0 (σ q1 0)) q1 1)) q0 2 ((kup (kup σ q0 0 (σ q1 0)) q0 1 ((kup σ q0 0 (σ q1 0)) q1 1)) q1 2)) (q1 + 1)) ((kup (kup (kup σ q0 0 (σ q1 0)) q0 1 ((kup σ q0 0 (σ q1 0)) q1 1)) q0 2 ((kup (kup σ q0 0 (σ q1 0)) q0 1 ((kup σ q0 0 (σ q1 0)) q1 1)) q1 2)) (q0 + 1)) (Int32.toNatClampNeg (0 : Int32)) (Int32.toNatClampNeg (0 : Int32)) (Int32.toNatClampNeg (6 : Int32)))) (q0 + 2)) (Int32.toNatClampNeg (0 : Int32)) (Int32.toNatClampNeg (0 : Int32)) (Int32.toNatClampNeg (6 : Int32)))) (q0 + 3)) (Int32.toNatClampNeg (0 : Int32)) (Int32.toNatClampNeg (0 : Int32)) (Int32.toNatClampNeg (6 : Int32)))) (q0 + 4)) (Int32.toNatClampNeg (0 : Int32)) (Int32.toNatClampNeg (0 : Int32)) (Int32.toNatClampNeg (6 : Int32))))
  else none
  else none
  else none
  else none
def fJ6_bitCount_0f7a4 (a0 : Int32) (σ : kS) : Option (Int32 × kS) :=
  klet (a0 - (((Int32.toUInt32 a0 >>> (Int32.toUInt32 (1 : Int32) &&& Int32.toUInt32 31)).toInt32) &&& 1431655765)) fun v1 =>
  klet ((v1 &&& 858993459) + (((Int32.toUInt32 v1 >>> (Int32.toUInt32 (2 : Int32) &&& Int32.toUInt32 31)).toInt32) &&& 858993459)) fun v2 =>
  klet ((v2 + ((Int32.toUInt32 v2 >>> (Int32.toUInt32 (4 : Int32) &&& Int32.toUInt32 31)).toInt32)) &&& 252645135) fun v3 =>
  klet (v3 + ((Int32.toUInt32 v3 >>> (Int32.toUInt32 (8 : Int32) &&& Int32.toUInt32 31)).toInt32)) fun v4 =>
  klet (v4 + ((Int32.toUInt32 v4 >>> (Int32.toUInt32 (16 : Int32) &&& Int32.toUInt32 31)).toInt32)) fun v5 =>
  some (v5 &&& 63, σ)
def fX0_scentOf (q0 : Nat) (a1 : Int32) (σ : kS) : Option (Int32 × kS) :=
  if inb a1 6 then
  kbi (fJ6_bitCount_0f7a4 (σ (q0 + 2) (Int32.toNatClampNeg a1)) σ) fun r4 σ3 =>
  if inb a1 6 then
  if (σ3 (q0 + 1) (Int32.toNatClampNeg a1)) = 1 then
    some (r4 + 1, σ3)
  else
    if (σ3 (q0 + 1) (Int32.toNatClampNeg a1)) = 2 then
      some (2 * (r4 + 1), σ3)
    else
      some (r4, σ3)
  else none
  else none
def fX0_distanceOf (q0 : Nat) (a1 : Int32) (σ : kS) : Option (Int32 × kS) :=
  if inb a1 6 then
  some ((if 0 ≤ ((σ (q0 + 4) (Int32.toNatClampNeg a1)) - (σ q0 0)) then ((σ (q0 + 4) (Int32.toNatClampNeg a1)) - (σ q0 0)) else 0 - ((σ (q0 + 4) (Int32.toNatClampNeg a1)) - (σ q0 0))), σ)
  else none
def fX0_isSmelt (q0 : Nat) (a1 : Int32) (σ : kS) : Option (Int32 × kS) :=
  kbi (fX0_distanceOf q0 a1 σ) fun r3 σ2 =>
  kbi (fX0_scentOf q0 a1 σ2) fun r6 σ5 =>
  if r6 < r3 then
    some (0, σ5)
  else
    some (1, σ5)
def fX0_goesTo_L11  : Nat → Nat → Int32 → Int32 → Int32 → Int32 → Int32 → kS → Option (Int32 × kS)
  | 0, _, _, _, _, _, _, _ => none
  | n + 1, q0, a1, a2, a3, a4, a5, σ =>
    if (σ q0 2) ≤ a5 then
      some (a2, σ)
    else
      if inb a5 6 then
      if inb a1 6 then
      kbi (fJ6_bitCount_0f7a4 ((σ (q0 + 2) (Int32.toNatClampNeg a5)) ^^^ (σ (q0 + 3) (Int32.toNatClampNeg a1))) σ) fun r6 σ5 =>
      kbi (fX0_distanceOf q0 a5 σ5) fun r9 σ8 =>
      if (σ8 q0 1) < r6 then
        klet (a5 + 1) fun v11 =>
        fX0_goesTo_L11 n q0 a1 a2 a3 a4 v11 σ8
      else
        kbi (fX0_scentOf q0 a5 σ8) fun r14 σ13 =>
        if r9 ≤ r14 then
          if a2 = (-9) then
            klet (a5 + 1) fun v17 =>
            fX0_goesTo_L11 n q0 a1 a5 r6 r9 v17 σ13
          else
            if r6 < a3 then
              klet (a5 + 1) fun v19 =>
              fX0_goesTo_L11 n q0 a1 a5 r6 r9 v19 σ13
            else
              if r6 = a3 then
                if a4 ≤ r9 then
                  klet (a5 + 1) fun v23 =>
                  fX0_goesTo_L11 n q0 a1 a2 a3 a4 v23 σ13
                else
                  klet (a5 + 1) fun v24 =>
                  fX0_goesTo_L11 n q0 a1 a5 r6 r9 v24 σ13
              else
                klet (a5 + 1) fun v21 =>
                fX0_goesTo_L11 n q0 a1 a2 a3 a4 v21 σ13
        else
          klet (a5 + 1) fun v25 =>
          fX0_goesTo_L11 n q0 a1 a2 a3 a4 v25 σ13
      else none
      else none
def fX0_goesTo (q0 : Nat) (a1 : Int32) (σ : kS) : Option (Int32 × kS) :=
  fX0_goesTo_L11 1000 q0 a1 (-9) 0 0 0 σ
def fX0_deliver (q0 : Nat) (a1 : Int32) (σ : kS) : Option (Int32 × kS) :=
  kbi (fX0_goesTo q0 a1 σ) fun r3 σ2 =>
  if r3 = (-9) then
    some (r3, σ2)
  else
    if inb r3 6 then
    if inb r3 6 then
    some (r3, kup σ2 (q0 + 3) (Int32.toNatClampNeg r3) (σ2 (q0 + 2) (Int32.toNatClampNeg r3)))
    else none
    else none
def fX0_whoseCome_L4  : Nat → Nat → Int32 → Int32 → kS → Option (Int32 × kS)
  | 0, _, _, _, _ => none
  | n + 1, q0, a1, a2, σ =>
    if (σ q0 2) ≤ a2 then
      some (a1, σ)
    else
      kbi (fX0_goesTo q0 a2 σ) fun r4 σ3 =>
      if r4 = a2 then
        klet (a1 ||| ((1 : Int32) <<< (a2 &&& 31))) fun v7 =>
        klet (a2 + 1) fun v8 =>
        fX0_whoseCome_L4 n q0 v7 v8 σ3
      else
        klet (a2 + 1) fun v6 =>
        fX0_whoseCome_L4 n q0 a1 v6 σ3
def fX0_whoseCome (q0 : Nat) (σ : kS) : Option (Int32 × kS) :=
  fX0_whoseCome_L4 1000 q0 0 0 σ
def fX4_withOne (a0 : Int32) (a1 : Int32) (σ : kS) : Option (Int32 × kS) :=
  if a1 = (-9) then
    some (a0, σ)
  else
    some (a0 ||| ((1 : Int32) <<< (a1 &&& 31)), σ)
def fX0_whoGetOne_L4  : Nat → Nat → Int32 → Int32 → kS → Option (Int32 × kS)
  | 0, _, _, _, _ => none
  | n + 1, q0, a1, a2, σ =>
    if (σ q0 2) ≤ a2 then
      some (a1, σ)
    else
      kbi (fX0_goesTo q0 a2 σ) fun r4 σ3 =>
      kbi (fX4_withOne a1 r4 σ3) fun r7 σ6 =>
      klet (a2 + 1) fun v8 =>
      fX0_whoGetOne_L4 n q0 r7 v8 σ6
def fX0_whoGetOne (q0 : Nat) (σ : kS) : Option (Int32 × kS) :=
  fX0_whoGetOne_L4 1000 q0 0 0 σ
def fX1_begin_L17  : Nat → Nat → Int32 → kS → Option kS
  | 0, _, _, _ => none
  | n + 1, q0, a3, σ =>
    if 60 ≤ a3 then
      some σ
    else
      if inb a3 60 then
      klet (a3 + 1) fun v3 =>
      fX1_begin_L17 n q0 v3 (kup σ (q0 + 4) (Int32.toNatClampNeg a3) 0)
      else none
def fX1_begin (q0 : Nat) (a1 : Int32) (a2 : Int32) (σ : kS) : Option kS :=
  fX1_begin_L17 1000 q0 0 (kup (kup (kup σ q0 0 1) q0 1 a1) q0 2 a2)
def fX1_faultAs (q0 : Nat) (a1 : Int32) (σ : kS) : Option (Int32 × kS) :=
  if (σ q0 0) = 0 then
    some (1, σ)
  else
    if (σ q0 1) = a1 then
      some (0, σ)
    else
      some (2, σ)
def fX1_hasCell (q0 : Nat) (a1 : Int32) (σ : kS) : Option (Int32 × kS) :=
  if a1 < 0 then
    some (0, σ)
  else
    if (σ q0 2) ≤ a1 then
      some (0, σ)
    else
      some (1, σ)
def fX1_spans (q0 : Nat) (a1 : Int32) (a2 : Int32) (σ : kS) : Option (Int32 × kS) :=
  if a1 < 0 then
    some (0, σ)
  else
    if (σ q0 2) < a1 then
      some (0, σ)
    else
      if a2 < 0 then
        some (0, σ)
      else
        if ((σ q0 2) - a1) < a2 then
          some (0, σ)
        else
          some (1, σ)
def fX1_write (q0 : Nat) (a1 : Int32) (a2 : Int32) (σ : kS) : Option kS :=
  if (σ q0 1) = 0 then
    if inb a1 60 then
    some (kup σ (q0 + 4) (Int32.toNatClampNeg a1) ((Int32.toInt8 a2).toInt32))
    else none
  else
    if (σ q0 1) = 1 then
      if inb a1 60 then
      some (kup σ (q0 + 4) (Int32.toNatClampNeg a1) ((Int32.toInt16 a2).toInt32))
      else none
    else
      if inb a1 60 then
      some (kup σ (q0 + 4) (Int32.toNatClampNeg a1) a2)
      else none
def fX2_clear  (σ : kS) : Option kS :=
  some (kup (kup (kup (kup σ 20 0 0) 20 1 (-9)) 20 2 0) 20 3 0)
def fX2_add_J32  (a3 : Int32) (σ : kS) : Option kS :=
    if a3 = (-9) then
      kbi (fX4_withOne ((kup σ 20 3 ((σ 20 3) + 1)) 20 2) a3 (kup σ 20 3 ((σ 20 3) + 1))) fun r9 σ8 =>
      some (kup σ8 20 2 r9)
    else
      kbi (fX4_withOne (σ 20 2) a3 σ) fun r6 σ5 =>
      some (kup σ5 20 2 r6)
def fX2_add (a1 : Int32) (a2 : Int32) (a3 : Int32) (σ : kS) : Option kS :=
  if a3 = a2 then
    fX2_add_J32 a3 (kup σ 20 0 ((σ 20 0) + 1))
  else
    if (σ 20 1) = (-9) then
      fX2_add_J32 a3 (kup σ 20 1 a1)
    else
      fX2_add_J32 a3 σ
def fX4_isBelow (a0 : Int32) (a1 : Int32) (σ : kS) : Option (Int32 × kS) :=
  if a0 < 0 then
    some (0, σ)
  else
    if a1 ≤ a0 then
      some (0, σ)
    else
      some (1, σ)
def fX3_isDigitBelow (a0 : Int32) (a1 : Int32) (σ : kS) : Option (Int32 × kS) :=
  kbi (fX4_isBelow (a0 - 48) a1 σ) fun r3 σ2 =>
  some (r3, σ2)
def fX3_goesOnWith (a0 : Int32) (a1 : Int32) (σ : kS) : Option (Int32 × kS) :=
  if a0 < 33 then
    if 3 ≤ a0 then
      if ((a0 - 3) - (a0 - 3) / 5 * 5) = 0 then
        if a1 = 59 then
          some (1, σ)
        else
          some (0, σ)
      else
        if ((a0 - 3) - (a0 - 3) / 5 * 5) = 1 then
          if a1 = 112 then
            some (1, σ)
          else
            if a1 = 114 then
              some (1, σ)
            else
              if a1 = 107 then
                some (1, σ)
              else
                some (0, σ)
        else
          if ((a0 - 3) - (a0 - 3) / 5 * 5) = 2 then
            kbi (fX3_isDigitBelow a1 (8 : Int32) σ) fun r12 σ11 =>
            some (r12, σ11)
          else
            if ((a0 - 3) - (a0 - 3) / 5 * 5) = 3 then
              kbi (fX3_isDigitBelow a1 (8 : Int32) σ) fun r17 σ16 =>
              some (r17, σ16)
            else
              if ((a0 - 3) - (a0 - 3) / 5 * 5) = 4 then
                kbi (fX3_isDigitBelow a1 (10 : Int32) σ) fun r22 σ21 =>
                some (r22, σ21)
              else
                kbi (fX3_isDigitBelow a1 (8 : Int32) σ) fun r26 σ25 =>
                some (r26, σ25)
    else
      if a0 = 0 then
        if a1 = 100 then
          some (1, σ)
        else
          some (0, σ)
      else
        if a0 = 1 then
          kbi (fX3_isDigitBelow a1 (10 : Int32) σ) fun r36 σ35 =>
          some (r36, σ35)
        else
          kbi (fX3_isDigitBelow a1 (4 : Int32) σ) fun r32 σ31 =>
          some (r32, σ31)
  else
    some (0, σ)
def fX3_firstFault_L2  : Nat → Nat → Int32 → Int32 → Int32 → kS → Option (Int32 × kS)
  | 0, _, _, _, _, _ => none
  | n + 1, q0, a1, a2, a3, σ =>
    if a2 ≤ a3 then
      if a2 < 13 then
        some (a2, σ)
      else
        if ((a2 - 3) - (a2 - 3) / 5 * 5) = 0 then
          some ((-9), σ)
        else
          some (a2, σ)
    else
      if inb (a1 + a3) 60 then
      kbi (fX3_goesOnWith a3 (σ q0 (Int32.toNatClampNeg (a1 + a3))) σ) fun r7 σ6 =>
      if r7 = 0 then
        some (a3, σ6)
      else
        klet (a3 + 1) fun v10 =>
        fX3_firstFault_L2 n q0 a1 a2 v10 σ6
      else none
def fX3_firstFault (q0 : Nat) (a1 : Int32) (a2 : Int32) (σ : kS) : Option (Int32 × kS) :=
  fX3_firstFault_L2 1000 q0 a1 a2 0 σ
def fX3_kindOf (a0 : Int32) (σ : kS) : Option (Int32 × kS) :=
  if a0 = 107 then
    some (2, σ)
  else
    if a0 = 114 then
      some (1, σ)
    else
      some (0, σ)
def fX3_fill_L36  : Nat → Nat → Nat → Int32 → Int32 → kS → Option kS
  | 0, _, _, _, _, _ => none
  | n + 1, q0, q1, a2, a4, σ =>
    if (σ q0 2) ≤ a4 then
      some σ
    else
      klet ((a2 + 3) + (5 * a4)) fun v4 =>
      if inb (v4 + 1) 60 then
      kbi (fX3_kindOf (σ q1 (Int32.toNatClampNeg (v4 + 1))) σ) fun r8 σ7 =>
      if inb a4 6 then
      if inb (v4 + 2) 60 then
      if inb a4 6 then
      if inb (v4 + 3) 60 then
      if inb a4 6 then
      if inb (v4 + 4) 60 then
      if inb a4 6 then
      klet (a4 + 1) fun v16 =>
      fX3_fill_L36 n q0 q1 a2 v16 (kup (kup (kup (kup σ7 (q0 + 1) (Int32.toNatClampNeg a4) r8) (q0 + 2) (Int32.toNatClampNeg a4) (((kup σ7 (q0 + 1) (Int32.toNatClampNeg a4) r8) q1 (Int32.toNatClampNeg (v4 + 2))) - 48)) (q0 + 3) (Int32.toNatClampNeg a4) (((kup (kup σ7 (q0 + 1) (Int32.toNatClampNeg a4) r8) (q0 + 2) (Int32.toNatClampNeg a4) (((kup σ7 (q0 + 1) (Int32.toNatClampNeg a4) r8) q1 (Int32.toNatClampNeg (v4 + 2))) - 48)) q1 (Int32.toNatClampNeg (v4 + 3))) - 48)) (q0 + 4) (Int32.toNatClampNeg a4) (((kup (kup (kup σ7 (q0 + 1) (Int32.toNatClampNeg a4) r8) (q0 + 2) (Int32.toNatClampNeg a4) (((kup σ7 (q0 + 1) (Int32.toNatClampNeg a4) r8) q1 (Int32.toNatClampNeg (v4 + 2))) - 48)) (q0 + 3) (Int32.toNatClampNeg a4) (((kup (kup σ7 (q0 + 1) (Int32.toNatClampNeg a4) r8) (q0 + 2) (Int32.toNatClampNeg a4) (((kup σ7 (q0 + 1) (Int32.toNatClampNeg a4) r8) q1 (Int32.toNatClampNeg (v4 + 2))) - 48)) q1 (Int32.toNatClampNeg (v4 + 3))) - 48)) q1 (Int32.toNatClampNeg (v4 + 4))) - 48))
      else none
      else none
      else none
      else none
      else none
      else none
      else none
      else none
def fX3_fill (q0 : Nat) (q1 : Nat) (a2 : Int32) (a3 : Int32) (σ : kS) : Option kS :=
  if inb (a2 + 1) 60 then
  if inb (a2 + 2) 60 then
  fX3_fill_L36 1000 q0 q1 a2 0 (kup (kup (kup σ q0 0 ((σ q1 (Int32.toNatClampNeg (a2 + 1))) - 48)) q0 1 (((kup σ q0 0 ((σ q1 (Int32.toNatClampNeg (a2 + 1))) - 48)) q1 (Int32.toNatClampNeg (a2 + 2))) - 48)) q0 2 ((a3 - 3) / 5))
  else none
  else none
def fX4_isSheet (a0 : Int32) (σ : kS) : Option (Int32 × kS) :=
  kbi (fX4_isBelow a0 (4 : Int32) σ) fun r3 σ2 =>
  some (r3, σ2)
def fX4_faulted (a1 : Int32) (σ : kS) : Option (Int32 × kS) :=
  some ((-10) - a1, kup σ 0 12 a1)
def fX4_moor_J73  (a3 : Int32) (a4 : Int32) (q5 : Nat) (a6 : Int32) (σ : kS) : Option (Int32 × kS) :=
    if a6 = 0 then
      kbi (fX3_firstFault (q5 + 4) a3 a4 σ) fun r39 σ38 =>
      if r39 = (-9) then
        kbv (fX3_fill 1 (q5 + 4) a3 a4 σ38) fun σ42 =>
        some ((kup (kup σ42 0 9 0) 0 10 0) 1 2, kup (kup σ42 0 9 0) 0 10 0)
      else
        some ((-100) - r39, σ38)
    else
      kbi (fX4_faulted a6 σ) fun r45 σ44 =>
      some (r45, σ44)
def fX4_moor (a1 : Int32) (a2 : Int32) (a3 : Int32) (a4 : Int32) (σ : kS) : Option (Int32 × kS) :=
  kbi (fX4_isSheet a1 (kup σ 0 12 0)) fun r3 σ2 =>
  if r3 = 0 then
    some ((-1), σ2)
  else
    kbi (fX4_isBelow a2 (3 : Int32) σ2) fun r8 σ7 =>
    if r8 = 0 then
      some ((-2), σ7)
    else
      if inb a1 4 then
      kbi (fX1_faultAs (12 + Int32.toNatClampNeg a1) a2 σ7) fun r15 σ14 =>
      if r15 = 0 then
        if 0 ≤ a4 then
          if r15 = 0 then
            kbi (fX1_spans (12 + Int32.toNatClampNeg a1) a3 a4 σ14) fun r27 σ26 =>
            if r27 = 0 then
              fX4_moor_J73 a3 a4 (12 + Int32.toNatClampNeg a1) 3 σ26
            else
              fX4_moor_J73 a3 a4 (12 + Int32.toNatClampNeg a1) r15 σ26
          else
            fX4_moor_J73 a3 a4 (12 + Int32.toNatClampNeg a1) r15 σ14
        else
          if (4 : Int32) = 0 then
            kbi (fX1_spans (12 + Int32.toNatClampNeg a1) a3 a4 σ14) fun r33 σ32 =>
            if r33 = 0 then
              fX4_moor_J73 a3 a4 (12 + Int32.toNatClampNeg a1) 3 σ32
            else
              fX4_moor_J73 a3 a4 (12 + Int32.toNatClampNeg a1) 4 σ32
          else
            fX4_moor_J73 a3 a4 (12 + Int32.toNatClampNeg a1) 4 σ14
      else
        if r15 = 0 then
          kbi (fX1_spans (12 + Int32.toNatClampNeg a1) a3 a4 σ14) fun r20 σ19 =>
          if r20 = 0 then
            fX4_moor_J73 a3 a4 (12 + Int32.toNatClampNeg a1) 3 σ19
          else
            fX4_moor_J73 a3 a4 (12 + Int32.toNatClampNeg a1) r15 σ19
        else
          fX4_moor_J73 a3 a4 (12 + Int32.toNatClampNeg a1) r15 σ14
      else none
def fX4_isPerson (a1 : Int32) (σ : kS) : Option (Int32 × kS) :=
  kbi (fX4_isBelow a1 (σ 1 2) σ) fun r3 σ2 =>
  some (r3, σ2)
def fX4_ofPerson (a1 : Int32) (a2 : Int32) (σ : kS) : Option (Int32 × kS) :=
  kbi (fX4_isPerson a1 σ) fun r3 σ2 =>
  if r3 = 0 then
    some ((-1), σ2)
  else
    if a2 = 0 then
      if inb a1 6 then
      some (σ2 2 (Int32.toNatClampNeg a1), σ2)
      else none
    else
      if a2 = 1 then
        if inb a1 6 then
        some (σ2 3 (Int32.toNatClampNeg a1), σ2)
        else none
      else
        if a2 = 2 then
          if inb a1 6 then
          some (σ2 4 (Int32.toNatClampNeg a1), σ2)
          else none
        else
          if a2 = 3 then
            if inb a1 6 then
            some (σ2 5 (Int32.toNatClampNeg a1), σ2)
            else none
          else
            if a2 = 4 then
              kbi (fX0_scentOf 1 a1 σ2) fun r17 σ16 =>
              some (r17, σ16)
            else
              if a2 = 5 then
                kbi (fX0_isSmelt 1 a1 σ2) fun r21 σ20 =>
                if r21 = 0 then
                  some (0, σ20)
                else
                  some (1, σ20)
              else
                if a2 = 6 then
                  kbi (fX0_goesTo 1 a1 σ2) fun r27 σ26 =>
                  some (r27, σ26)
                else
                  some ((-2), σ2)
def fX4_hasNoMoor  (σ : kS) : Option (Int32 × kS) :=
  if (σ 1 2) = 0 then
    some (1, σ)
  else
    some (0, σ)
def fX4_post (a1 : Int32) (σ : kS) : Option (Int32 × kS) :=
  kbi (fX4_hasNoMoor σ) fun r3 σ2 =>
  if r3 = 0 then
    kbi (fX4_isBelow a1 (10 : Int32) σ2) fun r8 σ7 =>
    if r8 = 0 then
      some ((-2), σ7)
    else
      klet (σ7 1 0) fun v11 =>
      some (v11, kup σ7 1 0 a1)
  else
    some ((-3), σ2)
def fX4_lax (a1 : Int32) (σ : kS) : Option (Int32 × kS) :=
  kbi (fX4_hasNoMoor σ) fun r3 σ2 =>
  if r3 = 0 then
    kbi (fX4_isBelow a1 (4 : Int32) σ2) fun r8 σ7 =>
    if r8 = 0 then
      some ((-2), σ7)
    else
      klet (σ7 1 1) fun v11 =>
      some (v11, kup σ7 1 1 a1)
  else
    some ((-3), σ2)
def fX4_becomes (q1 : Nat) (a2 : Int32) (a3 : Int32) (a4 : Int32) (σ : kS) : Option (Int32 × kS) :=
  kbi (fX4_isPerson a2 σ) fun r3 σ2 =>
  if r3 = 0 then
    some ((-1), σ2)
  else
    kbi (fX4_isBelow a3 a4 σ2) fun r8 σ7 =>
    if r8 = 0 then
      some ((-2), σ7)
    else
      if inb a2 6 then
      klet (σ7 q1 (Int32.toNatClampNeg a2)) fun v12 =>
      if inb a2 6 then
      some (v12, kup σ7 q1 (Int32.toNatClampNeg a2) a3)
      else none
      else none
def fX4_bathe (a1 : Int32) (a2 : Int32) (σ : kS) : Option (Int32 × kS) :=
  kbi (fX4_becomes 3 a1 a2 (8 : Int32) σ) fun r3 σ2 =>
  some (r3, σ2)
def fX4_moves (a1 : Int32) (a2 : Int32) (σ : kS) : Option (Int32 × kS) :=
  kbi (fX4_becomes 5 a1 a2 (10 : Int32) σ) fun r3 σ2 =>
  some (r3, σ2)
def fX4_send (a1 : Int32) (σ : kS) : Option (Int32 × kS) :=
  kbi (fX4_isPerson a1 σ) fun r3 σ2 =>
  if r3 = 0 then
    some ((-1), σ2)
  else
    kbi (fX0_deliver 1 a1 (kup σ2 0 10 ((σ2 0 10) + 1))) fun r8 σ7 =>
    some (r8, σ7)
def fX4_comes (a1 : Int32) (σ : kS) : Option (Int32 × kS) :=
  kbi (fX4_hasNoMoor σ) fun r3 σ2 =>
  if r3 = 0 then
    if a1 = 0 then
      kbi (fX0_whoseCome 1 σ2) fun r9 σ8 =>
      some (r9, σ8)
    else
      if a1 = 1 then
        kbi (fX0_whoGetOne 1 σ2) fun r13 σ12 =>
        some (r13, σ12)
      else
        some ((-2), σ2)
  else
    some ((-3), σ2)
def fX4_isOfRound (a0 : Int32) (σ : kS) : Option (Int32 × kS) :=
  kbi (fX4_isBelow a0 (4 : Int32) σ) fun r3 σ2 =>
  if r3 = 0 then
    kbi (fX4_isBelow (a0 - 10) (6 : Int32) σ2) fun r8 σ7 =>
    if r8 = 0 then
      some (0, σ7)
    else
      some (1, σ7)
  else
    some (1, σ2)
def fX4_refusalOfPairs_J47 (k3 : Nat → Int32 → Int32 → Int32 → kS → Option (Int32 × kS)) (q1 : Nat) (a2 : Int32) (a3 : Int32) (a4 : Int32) (σ : kS) : Option (Int32 × kS) :=
    if inb (a2 + (2 * a4)) 60 then
    kbi (fX4_isPerson (σ q1 (Int32.toNatClampNeg (a2 + (2 * a4)))) σ) fun r17 σ16 =>
    if r17 = 0 then
      some ((-1), σ16)
    else
      klet (a4 + 1) fun v20 =>
      k3 q1 a2 a3 v20 σ16
    else none
def fX4_refusalOfPairs_L3  : Nat → Nat → Int32 → Int32 → Int32 → kS → Option (Int32 × kS)
  | 0, _, _, _, _, _ => none
  | n + 1, q1, a2, a3, a4, σ =>
    if a3 ≤ a4 then
      some (0, σ)
    else
      if inb ((a2 + (2 * a4)) + 1) 60 then
      klet (σ q1 (Int32.toNatClampNeg ((a2 + (2 * a4)) + 1))) fun v3 =>
      kbi (fX4_isBelow v3 (9 : Int32) σ) fun r6 σ5 =>
      if r6 = 0 then
        kbi (fX4_isBelow (v3 - 10) (10 : Int32) σ5) fun r11 σ10 =>
        if r11 = 0 then
          some ((-2), σ10)
        else
          fX4_refusalOfPairs_J47 (fX4_refusalOfPairs_L3 n) q1 a2 a3 a4 σ10
      else
        fX4_refusalOfPairs_J47 (fX4_refusalOfPairs_L3 n) q1 a2 a3 a4 σ5
      else none
def fX4_refusalOfPairs (q1 : Nat) (a2 : Int32) (a3 : Int32) (σ : kS) : Option (Int32 × kS) :=
  fX4_refusalOfPairs_L3 1000 q1 a2 a3 0 σ
def fX4_play_L21  : Nat → Nat → Int32 → Int32 → Int32 → kS → Option kS
  | 0, _, _, _, _, _ => none
  | n + 1, q1, a2, a3, a4, σ =>
    if a3 ≤ a4 then
      some σ
    else
      if inb (a2 + (2 * a4)) 60 then
      klet (σ q1 (Int32.toNatClampNeg (a2 + (2 * a4)))) fun v7 =>
      if inb ((a2 + (2 * a4)) + 1) 60 then
      klet (σ q1 (Int32.toNatClampNeg ((a2 + (2 * a4)) + 1))) fun v9 =>
      if 8 ≤ v9 then
        if v9 = 8 then
          kbi (fX0_deliver 6 v7 σ) fun r16 σ15 =>
          kbv (fX2_add a4 v7 r16 σ15) fun σ18 =>
          klet (a4 + 1) fun v19 =>
          fX4_play_L21 n q1 a2 a3 v19 σ18
        else
          if inb v7 6 then
          klet (a4 + 1) fun v13 =>
          fX4_play_L21 n q1 a2 a3 v13 (kup σ 10 (Int32.toNatClampNeg v7) (v9 - 10))
          else none
      else
        if inb v7 6 then
        klet (a4 + 1) fun v21 =>
        fX4_play_L21 n q1 a2 a3 v21 (kup σ 8 (Int32.toNatClampNeg v7) v9)
        else none
      else none
      else none
def fX4_play (q1 : Nat) (a2 : Int32) (a3 : Int32) (σ : kS) : Option kS :=
  kbv (fX0_become 6 1 σ) fun σ2 =>
  kbv (fX2_clear σ2) fun σ4 =>
  fX4_play_L21 1000 q1 a2 a3 0 σ4
def fX4_ofRound (a1 : Int32) (σ : kS) : Option (Int32 × kS) :=
  if a1 = 0 then
    some (σ 20 0, σ)
  else
    if a1 = 1 then
      some (σ 20 1, σ)
    else
      if a1 = 2 then
        some (σ 20 2, σ)
      else
        if a1 = 3 then
          some (σ 20 3, σ)
        else
          kbi (fX4_isPerson (a1 - 10) σ) fun r7 σ6 =>
          if r7 = 0 then
            some ((-9), σ6)
          else
            if inb (a1 - 10) 6 then
            some (σ6 9 (Int32.toNatClampNeg (a1 - 10)), σ6)
            else none
def fX4_round_J90  (a3 : Int32) (a4 : Int32) (a5 : Int32) (q6 : Nat) (a7 : Int32) (σ : kS) : Option (Int32 × kS) :=
    if a7 = 0 then
      kbi (fX4_refusalOfPairs (q6 + 4) a3 a4 σ) fun r40 σ39 =>
      if r40 = 0 then
        kbv (fX4_play (q6 + 4) a3 a4 σ39) fun σ43 =>
        kbi (fX4_ofRound a5 σ43) fun r46 σ45 =>
        some (r46, σ45)
      else
        some (r40, σ39)
    else
      kbi (fX4_faulted a7 σ) fun r49 σ48 =>
      some (r49, σ48)
def fX4_round (a1 : Int32) (a2 : Int32) (a3 : Int32) (a4 : Int32) (a5 : Int32) (σ : kS) : Option (Int32 × kS) :=
  kbi (fX4_isSheet a1 (kup σ 0 12 0)) fun r3 σ2 =>
  if r3 = 0 then
    some ((-1), σ2)
  else
    kbi (fX4_isBelow a2 (3 : Int32) σ2) fun r8 σ7 =>
    if r8 = 0 then
      some ((-2), σ7)
    else
      kbi (fX4_isBelow a4 (21 : Int32) σ7) fun r13 σ12 =>
      if r13 = 0 then
        some ((-2), σ12)
      else
        kbi (fX4_isOfRound a5 σ12) fun r18 σ17 =>
        if r18 = 0 then
          some ((-2), σ17)
        else
          kbi (fX4_hasNoMoor σ17) fun r23 σ22 =>
          if r23 = 0 then
            if inb a1 4 then
            kbi (fX1_faultAs (12 + Int32.toNatClampNeg a1) a2 σ22) fun r30 σ29 =>
            if r30 = 0 then
              kbi (fX1_spans (12 + Int32.toNatClampNeg a1) a3 (2 * a4) σ29) fun r34 σ33 =>
              if r34 = 0 then
                fX4_round_J90 a3 a4 a5 (12 + Int32.toNatClampNeg a1) 3 σ33
              else
                fX4_round_J90 a3 a4 a5 (12 + Int32.toNatClampNeg a1) r30 σ33
            else
              fX4_round_J90 a3 a4 a5 (12 + Int32.toNatClampNeg a1) r30 σ29
            else none
          else
            some ((-3), σ22)
def fX4_strict_L23  : Nat → Int32 → Int32 → kS → Option (Int32 × kS)
  | 0, _, _, _ => none
  | n + 1, a1, a2, σ =>
    if 4 ≤ a2 then
      some ((-9), σ)
    else
      kbi (fX0_goesTo 6 a1 (kup σ 6 1 a2)) fun r11 σ10 =>
      if r11 = a1 then
        some (a2, σ10)
      else
        klet (a2 + 1) fun v13 =>
        fX4_strict_L23 n a1 v13 σ10
def fX4_strict (a1 : Int32) (σ : kS) : Option (Int32 × kS) :=
  kbi (fX4_isPerson a1 σ) fun r3 σ2 =>
  if r3 = 0 then
    some ((-1), σ2)
  else
    kbv (fX0_become 6 1 σ2) fun σ7 =>
    fX4_strict_L23 1000 a1 0 σ7
def fX4_site_L39  : Nat → Int32 → Int32 → Int32 → Int32 → kS → Option (Int32 × kS)
  | 0, _, _, _, _, _ => none
  | n + 1, a1, a2, a3, a4, σ =>
    if 10 ≤ a4 then
      if a1 = 0 then
        some (a2, σ)
      else
        some (a3, σ)
    else
      kbi (fX0_whoseCome 6 (kup σ 6 0 a4)) fun r17 σ16 =>
      kbi (fJ6_bitCount_0f7a4 r17 σ16) fun r20 σ19 =>
      if r20 ≤ a3 then
        klet (a4 + 1) fun v22 =>
        fX4_site_L39 n a1 a2 a3 v22 σ19
      else
        klet (a4 + 1) fun v23 =>
        fX4_site_L39 n a1 a4 r20 v23 σ19
def fX4_site (a1 : Int32) (σ : kS) : Option (Int32 × kS) :=
  kbi (fX4_hasNoMoor σ) fun r3 σ2 =>
  if r3 = 0 then
    kbi (fX4_isBelow a1 (2 : Int32) σ2) fun r8 σ7 =>
    if r8 = 0 then
      some ((-2), σ7)
    else
      kbv (fX0_become 6 1 σ7) fun σ12 =>
      fX4_site_L39 1000 a1 0 (-1) 0 σ12
  else
    some ((-3), σ2)
def fX4_contains (a0 : Int32) (a1 : Int32) (σ : kS) : Option (Int32 × kS) :=
  if ((a0 >>> (a1 &&& 31)) &&& 1) = 0 then
    some (0, σ)
  else
    some (1, σ)
def fX4_comingInTriedOrder_J46 (k6 : Int32 → Int32 → Int32 → kS → Option (Int32 × kS)) (a1 : Int32) (a2 : Int32) (a3 : Int32) (a4 : Int32) (as0 : Int32) (σ : kS) : Option (Int32 × kS) :=
    if as0 = a4 then
      klet (a2 + 1) fun v15 =>
      kbi (fX4_withOne a1 as0 σ) fun r18 σ17 =>
      klet (a3 + 1) fun v19 =>
      k6 r18 v15 v19 σ17
    else
      kbi (fX4_withOne a1 as0 σ) fun r13 σ12 =>
      klet (a3 + 1) fun v14 =>
      k6 r13 a2 v14 σ12
def fX4_comingInTriedOrder_L6  : Nat → Int32 → Int32 → Int32 → kS → Option (Int32 × kS)
  | 0, _, _, _, _ => none
  | n + 1, a1, a2, a3, σ =>
    if (σ 1 2) ≤ a3 then
      some (a2, σ)
    else
      if inb a3 6 then
      klet (σ 24 (Int32.toNatClampNeg a3)) fun v3 =>
      kbi (fX4_contains a1 v3 σ) fun r6 σ5 =>
      if r6 = 0 then
        if inb v3 6 then
        fX4_comingInTriedOrder_J46 (fX4_comingInTriedOrder_L6 n) a1 a2 a3 v3 (σ5 23 (Int32.toNatClampNeg v3)) σ5
        else none
      else
        fX4_comingInTriedOrder_J46 (fX4_comingInTriedOrder_L6 n) a1 a2 a3 v3 v3 σ5
      else none
def fX4_comingInTriedOrder  (σ : kS) : Option (Int32 × kS) :=
  fX4_comingInTriedOrder_L6 1000 0 0 0 σ
def fX4_swap (q0 : Nat) (a1 : Int32) (a2 : Int32) (σ : kS) : Option kS :=
  if inb a1 6 then
  klet (σ q0 (Int32.toNatClampNeg a1)) fun v2 =>
  if inb a2 6 then
  if inb a1 6 then
  if inb a2 6 then
  some (kup (kup σ q0 (Int32.toNatClampNeg a1) (σ q0 (Int32.toNatClampNeg a2))) q0 (Int32.toNatClampNeg a2) v2)
  else none
  else none
  else none
  else none
def fX4_stepToNextRow_L73  : Nat → Nat → Int32 → Int32 → kS → Option (Int32 × kS)
  | 0, _, _, _, _ => none
  | n + 1, q0, a4, a5, σ =>
    if a5 ≤ a4 then
      some (1, σ)
    else
      kbv (fX4_swap q0 a4 a5 σ) fun σ26 =>
      klet (a4 + 1) fun v27 =>
      klet (a5 + (-1)) fun v28 =>
      fX4_stepToNextRow_L73 n q0 v27 v28 σ26
def fX4_stepToNextRow_L35  : Nat → Nat → Int32 → Int32 → Int32 → kS → Option (Int32 × kS)
  | 0, _, _, _, _, _ => none
  | n + 1, q0, a1, a2, a3, σ =>
    if a3 ≤ (a2 + 1) then
      kbv (fX4_swap q0 a2 a3 σ) fun σ13 =>
      klet (a2 + 1) fun v14 =>
      klet (a1 - 1) fun v15 =>
      fX4_stepToNextRow_L73 1000 q0 v14 v15 σ13
    else
      if inb a3 6 then
      if inb a2 6 then
      if (σ q0 (Int32.toNatClampNeg a2)) ≤ (σ q0 (Int32.toNatClampNeg a3)) then
        kbv (fX4_swap q0 a2 a3 σ) fun σ20 =>
        klet (a2 + 1) fun v21 =>
        klet (a1 - 1) fun v22 =>
        fX4_stepToNextRow_L73 1000 q0 v21 v22 σ20
      else
        klet (a3 + (-1)) fun v23 =>
        fX4_stepToNextRow_L35 n q0 a1 a2 v23 σ
      else none
      else none
def fX4_stepToNextRow_L4  : Nat → Nat → Int32 → Int32 → kS → Option (Int32 × kS)
  | 0, _, _, _, _ => none
  | n + 1, q0, a1, a2, σ =>
    if a2 < 0 then
      if 0 ≤ a2 then
        klet (a1 - 1) fun v4 =>
        fX4_stepToNextRow_L35 1000 q0 a1 a2 v4 σ
      else
        some (0, σ)
    else
      if inb a2 6 then
      if inb (a2 + 1) 6 then
      if (σ q0 (Int32.toNatClampNeg a2)) ≤ (σ q0 (Int32.toNatClampNeg (a2 + 1))) then
        if 0 ≤ a2 then
          klet (a1 - 1) fun v9 =>
          fX4_stepToNextRow_L35 1000 q0 a1 a2 v9 σ
        else
          some (0, σ)
      else
        klet (a2 + (-1)) fun v10 =>
        fX4_stepToNextRow_L4 n q0 a1 v10 σ
      else none
      else none
def fX4_stepToNextRow (q0 : Nat) (a1 : Int32) (σ : kS) : Option (Int32 × kS) :=
  klet (a1 - 2) fun v1 =>
  fX4_stepToNextRow_L4 1000 q0 a1 v1 σ
def fX4_findBestOrder_L44  : Nat → Int32 → Int32 → kS → Option (Int32 × kS)
  | 0, _, _, _ => none
  | n + 1, a1, a2, σ =>
    if 720 ≤ a2 then
      some (a1, σ)
    else
      if (σ 1 2) ≤ a1 then
        some (a1, σ)
      else
        kbi (fX4_comingInTriedOrder σ) fun r12 σ11 =>
        if r12 ≤ a1 then
          kbi (fX4_stepToNextRow 24 (σ11 1 2) σ11) fun r16 σ15 =>
          if r16 = 0 then
            some (a1, σ15)
          else
            klet (a2 + 1) fun v19 =>
            fX4_findBestOrder_L44 n a1 v19 σ15
        else
          if kcpy (0 : Int32) (0 : Int32) (6 : Int32) 6 6 then
          kbi (fX4_stepToNextRow 24 ((krow σ11 25 (va_cpy (σ11 24) (σ11 25) (Int32.toNatClampNeg (0 : Int32)) (Int32.toNatClampNeg (0 : Int32)) (Int32.toNatClampNeg (6 : Int32)))) 1 2) (krow σ11 25 (va_cpy (σ11 24) (σ11 25) (Int32.toNatClampNeg (0 : Int32)) (Int32.toNatClampNeg (0 : Int32)) (Int32.toNatClampNeg (6 : Int32))))) fun r23 σ22 =>
          if r23 = 0 then
            some (r12, σ22)
          else
            klet (a2 + 1) fun v26 =>
            fX4_findBestOrder_L44 n r12 v26 σ22
          else none
def fX4_findBestOrder_L2  : Nat → Int32 → kS → Option (Int32 × kS)
  | 0, _, _ => none
  | n + 1, a1, σ =>
    if (σ 1 2) ≤ a1 then
      fX4_findBestOrder_L44 1000 (-1) 0 σ
    else
      if inb a1 6 then
      kbi (fX0_goesTo 1 a1 (kup σ 24 (Int32.toNatClampNeg a1) a1)) fun r5 σ4 =>
      if inb a1 6 then
      klet (a1 + 1) fun v7 =>
      fX4_findBestOrder_L2 n v7 (kup σ4 23 (Int32.toNatClampNeg a1) r5)
      else none
      else none
def fX4_findBestOrder  (σ : kS) : Option (Int32 × kS) :=
  fX4_findBestOrder_L2 1000 0 σ
def fX4_order (a1 : Int32) (σ : kS) : Option (Int32 × kS) :=
  kbi (fX4_hasNoMoor σ) fun r3 σ2 =>
  if r3 = 0 then
    if a1 < (-1) then
      some ((-2), σ2)
    else
      if a1 < 6 then
        if a1 < (σ2 1 2) then
          kbi (fX4_findBestOrder σ2) fun r11 σ10 =>
          if 0 ≤ a1 then
            if inb a1 6 then
            some (σ10 25 (Int32.toNatClampNeg a1), σ10)
            else none
          else
            some (r11, σ10)
        else
          some ((-9), σ2)
      else
        some ((-2), σ2)
  else
    some ((-3), σ2)
def fX4_ahead (a1 : Int32) (σ : kS) : Option (Int32 × kS) :=
  kbi (fX4_isPerson a1 σ) fun r3 σ2 =>
  if r3 = 0 then
    some ((-1), σ2)
  else
    kbi (fX0_goesTo 1 a1 σ2) fun r8 σ7 =>
    if r8 = a1 then
      some (0, σ7)
    else
      kbi (fX0_whoGetOne 1 σ7) fun r12 σ11 =>
      kbi (fX4_contains r12 a1 σ11) fun r15 σ14 =>
      if r15 = 0 then
        some ((-9), σ14)
      else
        some (1, σ14)
def fX4_reading_J26  (a1 : Int32) (a2 : Int32) (σ : kS) : Option (Int32 × kS) :=
    if (σ 0 9) < 8 then
      if inb (σ 0 9) 8 then
      if inb ((kup σ 21 (Int32.toNatClampNeg (σ 0 9)) a1) 0 9) 8 then
      some (((kup (kup (kup σ 21 (Int32.toNatClampNeg (σ 0 9)) a1) 22 (Int32.toNatClampNeg ((kup σ 21 (Int32.toNatClampNeg (σ 0 9)) a1) 0 9)) a2) 0 9 (((kup (kup σ 21 (Int32.toNatClampNeg (σ 0 9)) a1) 22 (Int32.toNatClampNeg ((kup σ 21 (Int32.toNatClampNeg (σ 0 9)) a1) 0 9)) a2) 0 9) + 1)) 0 9) - 1, kup (kup (kup σ 21 (Int32.toNatClampNeg (σ 0 9)) a1) 22 (Int32.toNatClampNeg ((kup σ 21 (Int32.toNatClampNeg (σ 0 9)) a1) 0 9)) a2) 0 9 (((kup (kup σ 21 (Int32.toNatClampNeg (σ 0 9)) a1) 22 (Int32.toNatClampNeg ((kup σ 21 (Int32.toNatClampNeg (σ 0 9)) a1) 0 9)) a2) 0 9) + 1))
      else none
      else none
    else
      some ((-4), σ)
def fX4_reading (a1 : Int32) (a2 : Int32) (σ : kS) : Option (Int32 × kS) :=
  kbi (fX4_isPerson a1 σ) fun r3 σ2 =>
  if r3 = 0 then
    some ((-1), σ2)
  else
    kbi (fX4_isPerson a2 σ2) fun r8 σ7 =>
    if r8 = 0 then
      if a2 = (-9) then
        fX4_reading_J26 a1 a2 σ7
      else
        some ((-1), σ7)
    else
      fX4_reading_J26 a1 a2 σ7
def fX4_back (a1 : Int32) (σ : kS) : Option (Int32 × kS) :=
  if a1 < 0 then
    some ((-2), σ)
  else
    if a1 ≤ (σ 0 9) then
      some ((kup σ 0 9 ((σ 0 9) - a1)) 0 9, kup σ 0 9 ((σ 0 9) - a1))
    else
      some ((-2), σ)
def fX4_readingsHoldInDraft_L2  : Nat → Int32 → kS → Option (Int32 × kS)
  | 0, _, _ => none
  | n + 1, a1, σ =>
    if (σ 0 9) ≤ a1 then
      some (1, σ)
    else
      if inb a1 8 then
      kbi (fX0_goesTo 6 (σ 21 (Int32.toNatClampNeg a1)) σ) fun r5 σ4 =>
      if inb a1 8 then
      if r5 = (σ4 22 (Int32.toNatClampNeg a1)) then
        klet (a1 + 1) fun v8 =>
        fX4_readingsHoldInDraft_L2 n v8 σ4
      else
        some (0, σ4)
      else none
      else none
def fX4_readingsHoldInDraft  (σ : kS) : Option (Int32 × kS) :=
  fX4_readingsHoldInDraft_L2 1000 0 σ
def fX4_bySuchReadings_L27  : Nat → Nat → Int32 → Int32 → Int32 → Int32 → kS → Option (Int32 × kS)
  | 0, _, _, _, _, _, _ => none
  | n + 1, q1, a2, a3, a4, a5, σ =>
    if a3 ≤ a5 then
      some (a4, σ)
    else
      if inb a2 6 then
      kbi (fX4_readingsHoldInDraft (kup σ q1 (Int32.toNatClampNeg a2) a5)) fun r12 σ11 =>
      if r12 = 0 then
        klet (a5 + 1) fun v15 =>
        fX4_bySuchReadings_L27 n q1 a2 a3 a4 v15 σ11
      else
        klet (a4 ||| ((1 : Int32) <<< (a5 &&& 31))) fun v16 =>
        klet (a5 + 1) fun v17 =>
        fX4_bySuchReadings_L27 n q1 a2 a3 v16 v17 σ11
      else none
def fX4_bySuchReadings (q1 : Nat) (a2 : Int32) (a3 : Int32) (σ : kS) : Option (Int32 × kS) :=
  kbi (fX4_isPerson a2 σ) fun r3 σ2 =>
  if r3 = 0 then
    some ((-1), σ2)
  else
    kbv (fX0_become 6 1 σ2) fun σ7 =>
    fX4_bySuchReadings_L27 1000 q1 a2 a3 0 0 σ7
def fX4_smells (a1 : Int32) (σ : kS) : Option (Int32 × kS) :=
  kbi (fX4_bySuchReadings 8 a1 (8 : Int32) σ) fun r3 σ2 =>
  some (r3, σ2)
def fX4_pasts (a1 : Int32) (σ : kS) : Option (Int32 × kS) :=
  kbi (fX4_bySuchReadings 9 a1 (8 : Int32) σ) fun r3 σ2 =>
  some (r3, σ2)
def fX4_kinds (a1 : Int32) (σ : kS) : Option (Int32 × kS) :=
  kbi (fX4_bySuchReadings 7 a1 (3 : Int32) σ) fun r3 σ2 =>
  some (r3, σ2)
def fX4_smellsByWhichItComes_L15  : Nat → Int32 → Int32 → Int32 → kS → Option (Int32 × kS)
  | 0, _, _, _, _ => none
  | n + 1, a1, a2, a3, σ =>
    if 8 ≤ a3 then
      some (a2, σ)
    else
      if inb a1 6 then
      kbi (fX0_goesTo 6 a1 (kup σ 8 (Int32.toNatClampNeg a1) a3)) fun r7 σ6 =>
      if r7 = a1 then
        klet (a2 + 1) fun v10 =>
        klet (a3 + 1) fun v11 =>
        fX4_smellsByWhichItComes_L15 n a1 v10 v11 σ6
      else
        klet (a3 + 1) fun v9 =>
        fX4_smellsByWhichItComes_L15 n a1 a2 v9 σ6
      else none
def fX4_smellsByWhichItComes (a1 : Int32) (σ : kS) : Option (Int32 × kS) :=
  kbv (fX0_become 6 1 σ) fun σ2 =>
  fX4_smellsByWhichItComes_L15 1000 a1 0 0 σ2
def fX4_odds_L30  : Nat → Int32 → Int32 → Int32 → kS → Option (Int64 × kS)
  | 0, _, _, _, _ => none
  | n + 1, a2, a3, a4, σ =>
    if a4 ≤ 1 then
      if a2 = 0 then
        some (Int32.toInt64 a3, σ)
      else
        some (Int32.toInt64 a4, σ)
    else
      if (a3 - a3 / 2 * 2) = 0 then
        klet (a3 / 2) fun v18 =>
        klet (a4 / 2) fun v19 =>
        fX4_odds_L30 n a2 v18 v19 σ
      else
        if a2 = 0 then
          some (Int32.toInt64 a3, σ)
        else
          some (Int32.toInt64 a4, σ)
def fX4_odds (a1 : Int32) (a2 : Int32) (σ : kS) : Option (Int64 × kS) :=
  kbi (fX4_isPerson a1 σ) fun r3 σ2 =>
  if r3 = 0 then
    some ((-9223372036854775808), σ2)
  else
    kbi (fX4_isBelow a2 (2 : Int32) σ2) fun r8 σ7 =>
    if r8 = 0 then
      some ((-9223372036854775808), σ7)
    else
      kbi (fX4_smellsByWhichItComes a1 σ7) fun r13 σ12 =>
      fX4_odds_L30 1000 a2 r13 8 σ12
def fX4_sheet (a1 : Int32) (a2 : Int32) (a3 : Int32) (σ : kS) : Option (Int32 × kS) :=
  kbi (fX4_isSheet a1 (kup σ 0 12 0)) fun r3 σ2 =>
  if r3 = 0 then
    some ((-1), σ2)
  else
    kbi (fX4_isBelow a2 (3 : Int32) σ2) fun r8 σ7 =>
    if r8 = 0 then
      some ((-2), σ7)
    else
      if a3 ≤ 60 then
        if 0 ≤ a3 then
          if inb a1 4 then
          kbv (fX1_begin (12 + Int32.toNatClampNeg a1) a2 a3 σ7) fun σ16 =>
          some (1, σ16)
          else none
        else
          kbi (fX4_faulted (4 : Int32) σ7) fun r19 σ18 =>
          some (r19, σ18)
      else
        some ((-2), σ7)
def fX4_lose (a1 : Int32) (σ : kS) : Option (Int32 × kS) :=
  kbi (fX4_isSheet a1 σ) fun r3 σ2 =>
  if r3 = 0 then
    some ((-1), σ2)
  else
    if inb a1 4 then
    klet (σ2 (12 + Int32.toNatClampNeg a1) 0) fun v8 =>
    if inb a1 4 then
    if v8 = 0 then
      some (0, kup σ2 (12 + Int32.toNatClampNeg a1) 0 0)
    else
      some (1, kup σ2 (12 + Int32.toNatClampNeg a1) 0 0)
    else none
    else none
def fX4_put (a1 : Int32) (a2 : Int32) (a3 : Int32) (σ : kS) : Option (Int32 × kS) :=
  kbi (fX4_isSheet a1 (kup σ 0 12 0)) fun r3 σ2 =>
  if r3 = 0 then
    some ((-1), σ2)
  else
    if inb a1 4 then
    if (σ2 (12 + Int32.toNatClampNeg a1) 0) = 0 then
      kbi (fX4_faulted (1 : Int32) σ2) fun r21 σ20 =>
      some (r21, σ20)
    else
      kbi (fX1_hasCell (12 + Int32.toNatClampNeg a1) a2 σ2) fun r11 σ10 =>
      if r11 = 0 then
        kbi (fX4_faulted (3 : Int32) σ10) fun r18 σ17 =>
        some (r18, σ17)
      else
        kbv (fX1_write (12 + Int32.toNatClampNeg a1) a2 a3 σ10) fun σ15 =>
        some (1, σ15)
    else none
def fX4_cell (a1 : Int32) (a2 : Int32) (a3 : Int32) (σ : kS) : Option (Int64 × kS) :=
  kbi (fX4_isSheet a1 (kup σ 0 12 0)) fun r3 σ2 =>
  if r3 = 0 then
    some ((-9223372036854775808), σ2)
  else
    kbi (fX4_isBelow a3 (3 : Int32) σ2) fun r8 σ7 =>
    if r8 = 0 then
      some ((-9223372036854775808), σ7)
    else
      if inb a1 4 then
      kbi (fX1_faultAs (12 + Int32.toNatClampNeg a1) a3 σ7) fun r15 σ14 =>
      if ((kup σ14 0 12 r15) 0 12) = 0 then
        kbi (fX1_hasCell (12 + Int32.toNatClampNeg a1) a2 (kup σ14 0 12 r15)) fun r21 σ20 =>
        if r21 = 0 then
          if ((kup σ20 0 12 3) 0 12) = 0 then
            if inb a2 60 then
            some (Int32.toInt64 ((kup σ20 0 12 3) (12 + Int32.toNatClampNeg a1 + 4) (Int32.toNatClampNeg a2)), kup σ20 0 12 3)
            else none
          else
            some ((-9223372036854775808), kup σ20 0 12 3)
        else
          if (σ20 0 12) = 0 then
            if inb a2 60 then
            some (Int32.toInt64 (σ20 (12 + Int32.toNatClampNeg a1 + 4) (Int32.toNatClampNeg a2)), σ20)
            else none
          else
            some ((-9223372036854775808), σ20)
      else
        if ((kup σ14 0 12 r15) 0 12) = 0 then
          if inb a2 60 then
          some (Int32.toInt64 ((kup σ14 0 12 r15) (12 + Int32.toNatClampNeg a1 + 4) (Int32.toNatClampNeg a2)), kup σ14 0 12 r15)
          else none
        else
          some ((-9223372036854775808), kup σ14 0 12 r15)
      else none
def fX4_copy (a1 : Int32) (a2 : Int32) (a3 : Int32) (a4 : Int32) (a5 : Int32) (σ : kS) : Option (Int32 × kS) :=
  kbi (fX4_isSheet a1 (kup σ 0 12 0)) fun r3 σ2 =>
  if r3 = 0 then
    some ((-1), σ2)
  else
    kbi (fX4_isSheet a3 σ2) fun r8 σ7 =>
    if r8 = 0 then
      some ((-1), σ7)
    else
      if inb a1 4 then
      if inb a3 4 then
      if (σ7 (12 + Int32.toNatClampNeg a1) 0) = 0 then
        kbi (fX4_faulted (1 : Int32) σ7) fun r18 σ17 =>
        some (r18, σ17)
      else
        if (σ7 (12 + Int32.toNatClampNeg a3) 0) = 0 then
          kbi (fX4_faulted (1 : Int32) σ7) fun r43 σ42 =>
          some (r43, σ42)
        else
          if (σ7 (12 + Int32.toNatClampNeg a1) 1) = (σ7 (12 + Int32.toNatClampNeg a3) 1) then
            kbi (fX1_spans (12 + Int32.toNatClampNeg a1) a2 a5 σ7) fun r23 σ22 =>
            if r23 = 0 then
              kbi (fX4_faulted (3 : Int32) σ22) fun r28 σ27 =>
              some (r28, σ27)
            else
              kbi (fX1_spans (12 + Int32.toNatClampNeg a3) a4 a5 σ22) fun r31 σ30 =>
              if r31 = 0 then
                kbi (fX4_faulted (3 : Int32) σ30) fun r37 σ36 =>
                some (r37, σ36)
              else
                if kcpy a2 a4 a5 60 60 then
                some (a5, krow σ30 (12 + Int32.toNatClampNeg a3 + 4) (va_cpy (σ30 (12 + Int32.toNatClampNeg a1 + 4)) (σ30 (12 + Int32.toNatClampNeg a3 + 4)) (Int32.toNatClampNeg a2) (Int32.toNatClampNeg a4) (Int32.toNatClampNeg a5)))
                else none
          else
            kbi (fX4_faulted (2 : Int32) σ7) fun r40 σ39 =>
            some (r40, σ39)
      else none
      else none
def fX4_begins (a1 : Int32) (σ : kS) : Option kS :=
  some (kup σ 0 11 ((31 * (σ 0 11)) + a1))
def fX4_toldByPlain (a1 : Int32) (σ : kS) : Option (Int32 × kS) :=
  kbv (fX4_begins (1 : Int32) σ) fun σ2 =>
  if inb a1 6 then
  some (σ2 3 (Int32.toNatClampNeg a1), σ2)
  else none
def fX4_toldByRank (a1 : Int32) (σ : kS) : Option (Int32 × kS) :=
  kbv (fX4_begins (2 : Int32) σ) fun σ2 =>
  kbi (fX4_toldByPlain a1 σ2) fun r5 σ4 =>
  some (r5 + 100, σ4)
def fX4_toldByReeking (a1 : Int32) (σ : kS) : Option (Int32 × kS) :=
  kbv (fX4_begins (3 : Int32) σ) fun σ2 =>
  kbi (fX4_toldByRank a1 σ2) fun r5 σ4 =>
  kbi (fX4_toldByPlain a1 σ4) fun r8 σ7 =>
  some (r5 + r8, σ7)
def fX4_tell (a1 : Int32) (σ : kS) : Option (Int32 × kS) :=
  kbi (fX4_isPerson a1 σ) fun r3 σ2 =>
  if r3 = 0 then
    some ((-1), σ2)
  else
    if inb a1 6 then
    if (σ2 2 (Int32.toNatClampNeg a1)) = 1 then
      kbi (fX4_toldByRank a1 σ2) fun r10 σ9 =>
      some (r10, σ9)
    else
      if (σ2 2 (Int32.toNatClampNeg a1)) = 2 then
        kbi (fX4_toldByReeking a1 σ2) fun r14 σ13 =>
        some (r14, σ13)
      else
        kbi (fX4_toldByPlain a1 σ2) fun r17 σ16 =>
        some (r17, σ16)
    else none
def fX4_whistle (a1 : Int32) (σ : kS) : Option (Int32 × kS) :=
  kbi (fX4_isPerson a1 σ) fun r3 σ2 =>
  if r3 = 0 then
    some ((-1), σ2)
  else
    if inb a1 6 then
    if (σ2 2 (Int32.toNatClampNeg a1)) = 2 then
      kbv (fX4_begins (5 : Int32) σ2) fun σ11 =>
      some (70, σ11)
    else
      kbv (fX4_begins (4 : Int32) σ2) fun σ9 =>
      some (a1, σ9)
    else none
def fX4_as (a1 : Int32) (a2 : Int32) (σ : kS) : Option (Int32 × kS) :=
  kbi (fX4_isPerson a1 (kup σ 0 12 0)) fun r3 σ2 =>
  if r3 = 0 then
    some ((-1), σ2)
  else
    kbi (fX4_isBelow a2 (3 : Int32) σ2) fun r8 σ7 =>
    if r8 = 0 then
      some ((-2), σ7)
    else
      if inb a1 6 then
      if (σ7 2 (Int32.toNatClampNeg a1)) < a2 then
        kbi (fX4_faulted (2 : Int32) σ7) fun r15 σ14 =>
        some (r15, σ14)
      else
        some (1, σ7)
      else none
def fX4_trace  (σ : kS) : Option (Int32 × kS) :=
  some (σ 0 11, σ)
def fX4_fault  (σ : kS) : Option (Int32 × kS) :=
  some (σ 0 12, σ)
def fX4_many (a1 : Int32) (σ : kS) : Option (Int32 × kS) :=
  if a1 = 0 then
    some (σ 1 2, σ)
  else
    if a1 = 1 then
      some (σ 1 0, σ)
    else
      if a1 = 2 then
        some (σ 1 1, σ)
      else
        if a1 = 3 then
          some (σ 0 10, σ)
        else
          if a1 = 4 then
            some (σ 0 9, σ)
          else
            some ((-2), σ)
end
section
/-! what the methods of the reference compute, laid by program out of the bytecode -/
def fX5_in (a0 : Int64) (a2 : Int64) (a4 : Int64) (σ : kS) : Option (Int32 × kS) :=
  if (lg_cmp a0 a2) < 0 then
    some (0, σ)
  else
    if 0 < (lg_cmp a0 a4) then
      some (0, σ)
    else
      some (1, σ)
def fX5_lost  (σ : kS) : Option (Int64 × kS) :=
  some ((-9223372036854775808), σ)
def fX5_isIn (a0 : Int32) (a1 : Int32) (σ : kS) : Option (Int32 × kS) :=
  if ((a0 >>> (a1 &&& 31)) &&& 1) = 1 then
    some (1, σ)
  else
    some (0, σ)
def fX5_bits_L4  : Nat → Int32 → Int32 → kS → Option (Int32 × kS)
  | 0, _, _, _ => none
  | n + 1, a1, a2, σ =>
    if a2 ≤ 0 then
      some (a1, σ)
    else
      klet (a1 + (a2 &&& 1)) fun v2 =>
      klet (a2 >>> ((1 : Int32) &&& 31)) fun v3 =>
      fX5_bits_L4 n v2 v3 σ
def fX5_bits (a0 : Int32) (σ : kS) : Option (Int32 × kS) :=
  fX5_bits_L4 1000 0 a0 σ
def fX5_apart (a0 : Int32) (a1 : Int32) (σ : kS) : Option (Int32 × kS) :=
  if a0 ≤ a1 then
    some (a1 - a0, σ)
  else
    some (a0 - a1, σ)
def fX5_share_L6  : Nat → Int64 → Int64 → Int32 → Int64 → Int64 → kS → Option (Int64 × kS)
  | 0, _, _, _, _, _, _ => none
  | n + 1, a0, a2, a4, a5, a7, σ =>
    if (lg_cmp a7 0) = 0 then
      if a4 = 0 then
        if ¬ a5 = 0 then
        some (a0 / a5, σ)
        else none
      else
        if ¬ a5 = 0 then
        some (a2 / a5, σ)
        else none
    else
      if ¬ a7 = 0 then
      klet (a5 - a5 / a7 * a7) fun v6 =>
      fX5_share_L6 n a0 a2 a4 a7 v6 σ
      else none
def fX5_share (a0 : Int64) (a2 : Int64) (a4 : Int32) (σ : kS) : Option (Int64 × kS) :=
  fX5_share_L6 1000 a0 a2 a4 a0 a2 σ
def fX5_refused (a1 : Int32) (σ : kS) : Option (Int32 × kS) :=
  some (a1, kup σ 0 0 0)
def fX5_failed (a1 : Int32) (σ : kS) : Option (Int32 × kS) :=
  some ((-10) - a1, kup σ 0 0 a1)
def fX5_failedLong (a1 : Int32) (σ : kS) : Option (Int64 × kS) :=
  kbl (fX5_lost (kup σ 0 0 a1)) fun r3 σ2 =>
  some (r3, σ2)
def fX5_noPerson (a1 : Int32) (σ : kS) : Option (Int32 × kS) :=
  kbi (fX5_in (Int32.toInt64 a1) (0 : Int64) ((Int32.toInt64 (σ 0 1)) - 1) σ) fun r3 σ2 =>
  if r3 = 0 then
    some (1, σ2)
  else
    some (0, σ2)
def fX5_codeAt (a1 : Int32) (a2 : Int32) (σ : kS) : Option (Int32 × kS) :=
  if a2 ≤ (σ 0 9) then
    some ((-9), σ)
  else
    if inb (a1 + (σ 0 9)) 240 then
    some (σ 19 (Int32.toNatClampNeg (a1 + (σ 0 9))), σ)
    else none
def fX5_figure_J18  (a4 : Int32) (as0 : Int32) (σ : kS) : Option (Int32 × kS) :=
    kbi (fX5_in (Int32.toInt64 as0) (0 : Int64) (Int32.toInt64 a4) σ) fun r7 σ6 =>
    if r7 = 0 then
      if r7 = 0 then
        some ((-9), kup σ6 0 9 ((σ6 0 9) + 0))
      else
        some (as0, kup σ6 0 9 ((σ6 0 9) + 0))
    else
      if r7 = 0 then
        some ((-9), kup σ6 0 9 ((σ6 0 9) + 1))
      else
        some (as0, kup σ6 0 9 ((σ6 0 9) + 1))
def fX5_figure (a1 : Int32) (a2 : Int32) (a3 : Int32) (a4 : Int32) (σ : kS) : Option (Int32 × kS) :=
  if 0 ≤ a3 then
    kbi (fX5_codeAt a1 a2 σ) fun r4 σ3 =>
    fX5_figure_J18 a4 (r4 - 48) σ3
  else
    fX5_figure_J18 a4 (-9) σ
def fX5_readsPerson_J133  (a4 : Int32) (a5 : Int32) (a6 : Int32) (as2 : Int32) (as1 : Int32) (σ : kS) : Option (Int32 × kS) :=
    if inb as1 6 then
    if inb ((kup σ 5 (Int32.toNatClampNeg as1) as2) 0 10) 6 then
    if inb ((kup (kup σ 5 (Int32.toNatClampNeg as1) as2) 6 (Int32.toNatClampNeg ((kup σ 5 (Int32.toNatClampNeg as1) as2) 0 10)) a4) 0 10) 6 then
    if inb ((kup (kup (kup σ 5 (Int32.toNatClampNeg as1) as2) 6 (Int32.toNatClampNeg ((kup σ 5 (Int32.toNatClampNeg as1) as2) 0 10)) a4) 7 (Int32.toNatClampNeg ((kup (kup σ 5 (Int32.toNatClampNeg as1) as2) 6 (Int32.toNatClampNeg ((kup σ 5 (Int32.toNatClampNeg as1) as2) 0 10)) a4) 0 10)) a5) 0 10) 6 then
    if a6 < 0 then
      some (0, kup (kup (kup (kup (kup σ 5 (Int32.toNatClampNeg as1) as2) 6 (Int32.toNatClampNeg ((kup σ 5 (Int32.toNatClampNeg as1) as2) 0 10)) a4) 7 (Int32.toNatClampNeg ((kup (kup σ 5 (Int32.toNatClampNeg as1) as2) 6 (Int32.toNatClampNeg ((kup σ 5 (Int32.toNatClampNeg as1) as2) 0 10)) a4) 0 10)) a5) 8 (Int32.toNatClampNeg ((kup (kup (kup σ 5 (Int32.toNatClampNeg as1) as2) 6 (Int32.toNatClampNeg ((kup σ 5 (Int32.toNatClampNeg as1) as2) 0 10)) a4) 7 (Int32.toNatClampNeg ((kup (kup σ 5 (Int32.toNatClampNeg as1) as2) 6 (Int32.toNatClampNeg ((kup σ 5 (Int32.toNatClampNeg as1) as2) 0 10)) a4) 0 10)) a5) 0 10)) a6) 0 10 (((kup (kup (kup (kup σ 5 (Int32.toNatClampNeg as1) as2) 6 (Int32.toNatClampNeg ((kup σ 5 (Int32.toNatClampNeg as1) as2) 0 10)) a4) 7 (Int32.toNatClampNeg ((kup (kup σ 5 (Int32.toNatClampNeg as1) as2) 6 (Int32.toNatClampNeg ((kup σ 5 (Int32.toNatClampNeg as1) as2) 0 10)) a4) 0 10)) a5) 8 (Int32.toNatClampNeg ((kup (kup (kup σ 5 (Int32.toNatClampNeg as1) as2) 6 (Int32.toNatClampNeg ((kup σ 5 (Int32.toNatClampNeg as1) as2) 0 10)) a4) 7 (Int32.toNatClampNeg ((kup (kup σ 5 (Int32.toNatClampNeg as1) as2) 6 (Int32.toNatClampNeg ((kup σ 5 (Int32.toNatClampNeg as1) as2) 0 10)) a4) 0 10)) a5) 0 10)) a6) 0 10) + 1))
    else
      some (1, kup (kup (kup (kup (kup σ 5 (Int32.toNatClampNeg as1) as2) 6 (Int32.toNatClampNeg ((kup σ 5 (Int32.toNatClampNeg as1) as2) 0 10)) a4) 7 (Int32.toNatClampNeg ((kup (kup σ 5 (Int32.toNatClampNeg as1) as2) 6 (Int32.toNatClampNeg ((kup σ 5 (Int32.toNatClampNeg as1) as2) 0 10)) a4) 0 10)) a5) 8 (Int32.toNatClampNeg ((kup (kup (kup σ 5 (Int32.toNatClampNeg as1) as2) 6 (Int32.toNatClampNeg ((kup σ 5 (Int32.toNatClampNeg as1) as2) 0 10)) a4) 7 (Int32.toNatClampNeg ((kup (kup σ 5 (Int32.toNatClampNeg as1) as2) 6 (Int32.toNatClampNeg ((kup σ 5 (Int32.toNatClampNeg as1) as2) 0 10)) a4) 0 10)) a5) 0 10)) a6) 0 10 (((kup (kup (kup (kup σ 5 (Int32.toNatClampNeg as1) as2) 6 (Int32.toNatClampNeg ((kup σ 5 (Int32.toNatClampNeg as1) as2) 0 10)) a4) 7 (Int32.toNatClampNeg ((kup (kup σ 5 (Int32.toNatClampNeg as1) as2) 6 (Int32.toNatClampNeg ((kup σ 5 (Int32.toNatClampNeg as1) as2) 0 10)) a4) 0 10)) a5) 8 (Int32.toNatClampNeg ((kup (kup (kup σ 5 (Int32.toNatClampNeg as1) as2) 6 (Int32.toNatClampNeg ((kup σ 5 (Int32.toNatClampNeg as1) as2) 0 10)) a4) 7 (Int32.toNatClampNeg ((kup (kup σ 5 (Int32.toNatClampNeg as1) as2) 6 (Int32.toNatClampNeg ((kup σ 5 (Int32.toNatClampNeg as1) as2) 0 10)) a4) 0 10)) a5) 0 10)) a6) 0 10) + 1))
    else none
    else none
    else none
    else none
def fX5_readsPerson_J59  (a1 : Int32) (a2 : Int32) (a3 : Int32) (σ : kS) : Option (Int32 × kS) :=
    kbi (fX5_figure a1 a2 (0 : Int32) (7 : Int32) (kup σ 0 9 ((σ 0 9) + 1))) fun r14 σ13 =>
    kbi (fX5_figure a1 a2 r14 (7 : Int32) σ13) fun r17 σ16 =>
    kbi (fX5_figure a1 a2 r17 (9 : Int32) σ16) fun r20 σ19 =>
    if a3 = 112 then
      fX5_readsPerson_J133 r14 r17 r20 0 (σ19 0 10) σ19
    else
      if a3 = 114 then
        fX5_readsPerson_J133 r14 r17 r20 1 (σ19 0 10) σ19
      else
        fX5_readsPerson_J133 r14 r17 r20 2 (σ19 0 10) σ19
def fX5_readsPerson (a1 : Int32) (a2 : Int32) (σ : kS) : Option (Int32 × kS) :=
  if (σ 0 10) = 6 then
    some (0, σ)
  else
    kbi (fX5_codeAt a1 a2 σ) fun r4 σ3 =>
    if r4 = 59 then
      kbi (fX5_codeAt a1 a2 (kup σ3 0 9 ((σ3 0 9) + 1))) fun r8 σ7 =>
      if r8 = 112 then
        fX5_readsPerson_J59 a1 a2 r8 σ7
      else
        if r8 = 114 then
          fX5_readsPerson_J59 a1 a2 r8 σ7
        else
          if r8 = 107 then
            fX5_readsPerson_J59 a1 a2 r8 σ7
          else
            some (0, σ7)
    else
      some (0, σ3)
def fX5_readsMoor_L74  : Nat → Int32 → Int32 → Int32 → kS → Option (Int32 × kS)
  | 0, _, _, _, _ => none
  | n + 1, a1, a2, a3, σ =>
    if a3 = 0 then
      some (a3, σ)
    else
      if (σ 0 10) < 2 then
        kbi (fX5_readsPerson a1 a2 σ) fun r16 σ15 =>
        fX5_readsMoor_L74 n a1 a2 r16 σ15
      else
        if a2 ≤ (σ 0 9) then
          some (a3, σ)
        else
          kbi (fX5_readsPerson a1 a2 σ) fun r21 σ20 =>
          fX5_readsMoor_L74 n a1 a2 r21 σ20
def fX5_readsMoor (a1 : Int32) (a2 : Int32) (σ : kS) : Option (Int32 × kS) :=
  kbi (fX5_codeAt a1 a2 (kup (kup σ 0 9 0) 0 10 0)) fun r3 σ2 =>
  if r3 = 100 then
    kbi (fX5_figure a1 a2 (0 : Int32) (9 : Int32) (kup σ2 0 9 ((σ2 0 9) + 1))) fun r7 σ6 =>
    kbi (fX5_figure a1 a2 ((kup σ6 0 15 r7) 0 15) (3 : Int32) (kup σ6 0 15 r7)) fun r10 σ9 =>
    if ((kup σ9 0 16 r10) 0 16) < 0 then
      fX5_readsMoor_L74 1000 a1 a2 0 (kup σ9 0 16 r10)
    else
      fX5_readsMoor_L74 1000 a1 a2 1 (kup σ9 0 16 r10)
  else
    some (0, σ2)
def fX5_isBeyond (a0 : Int32) (a1 : Int64) (a3 : Int32) (σ : kS) : Option (Int32 × kS) :=
  if a0 < 0 then
    some (1, σ)
  else
    if (lg_cmp a1 0) < 0 then
      some (1, σ)
    else
      if (lg_cmp ((Int32.toInt64 a0) + a1) (Int32.toInt64 a3)) ≤ 0 then
        some (0, σ)
      else
        some (1, σ)
def fX5_cellsBarred_J25  (a1 : Int32) (a3 : Int32) (a4 : Int64) (σ : kS) : Option (Int32 × kS) :=
    if inb a1 4 then
    if 0 ≤ (σ 17 (Int32.toNatClampNeg a1)) then
      if 0 ≤ (lg_cmp a4 0) then
        if inb a1 4 then
        kbi (fX5_isBeyond a3 a4 (σ 17 (Int32.toNatClampNeg a1)) σ) fun r14 σ13 =>
        if r14 = 0 then
          some (0, σ13)
        else
          kbi (fX5_failed (3 : Int32) σ13) fun r19 σ18 =>
          some (r19, σ18)
        else none
      else
        kbi (fX5_failed (4 : Int32) σ) fun r22 σ21 =>
        some (r22, σ21)
    else
      kbi (fX5_failed (1 : Int32) σ) fun r25 σ24 =>
      some (r25, σ24)
    else none
def fX5_cellsBarred (a1 : Int32) (a2 : Int32) (a3 : Int32) (a4 : Int64) (σ : kS) : Option (Int32 × kS) :=
  if inb a1 4 then
  if (σ 17 (Int32.toNatClampNeg a1)) < 0 then
    fX5_cellsBarred_J25 a1 a3 a4 σ
  else
    if inb a1 4 then
    if (σ 18 (Int32.toNatClampNeg a1)) = a2 then
      fX5_cellsBarred_J25 a1 a3 a4 σ
    else
      kbi (fX5_failed (2 : Int32) σ) fun r7 σ6 =>
      some (r7, σ6)
    else none
  else none
def fX5_noSheet (a0 : Int32) (σ : kS) : Option (Int32 × kS) :=
  kbi (fX5_in (Int32.toInt64 a0) (0 : Int64) (3 : Int64) σ) fun r3 σ2 =>
  if r3 = 0 then
    some (1, σ2)
  else
    some (0, σ2)
def fX5_moor_L111  : Nat → Int32 → kS → Option (Int32 × kS)
  | 0, _, _ => none
  | n + 1, a6, σ =>
    if (σ 0 1) ≤ a6 then
      kbi (fX5_refused ((kup σ 0 23 0) 0 1) (kup σ 0 23 0)) fun r32 σ31 =>
      some (r32, σ31)
    else
      if inb a6 6 then
      if inb a6 6 then
      if inb a6 6 then
      if inb a6 6 then
      if inb a6 6 then
      if inb a6 6 then
      if inb a6 6 then
      if inb a6 6 then
      klet (a6 + 1) fun v41 =>
      fX5_moor_L111 n v41 (kup (kup (kup (kup σ 1 (Int32.toNatClampNeg a6) (σ 5 (Int32.toNatClampNeg a6))) 2 (Int32.toNatClampNeg a6) ((kup σ 1 (Int32.toNatClampNeg a6) (σ 5 (Int32.toNatClampNeg a6))) 6 (Int32.toNatClampNeg a6))) 3 (Int32.toNatClampNeg a6) ((kup (kup σ 1 (Int32.toNatClampNeg a6) (σ 5 (Int32.toNatClampNeg a6))) 2 (Int32.toNatClampNeg a6) ((kup σ 1 (Int32.toNatClampNeg a6) (σ 5 (Int32.toNatClampNeg a6))) 6 (Int32.toNatClampNeg a6))) 7 (Int32.toNatClampNeg a6))) 4 (Int32.toNatClampNeg a6) ((kup (kup (kup σ 1 (Int32.toNatClampNeg a6) (σ 5 (Int32.toNatClampNeg a6))) 2 (Int32.toNatClampNeg a6) ((kup σ 1 (Int32.toNatClampNeg a6) (σ 5 (Int32.toNatClampNeg a6))) 6 (Int32.toNatClampNeg a6))) 3 (Int32.toNatClampNeg a6) ((kup (kup σ 1 (Int32.toNatClampNeg a6) (σ 5 (Int32.toNatClampNeg a6))) 2 (Int32.toNatClampNeg a6) ((kup σ 1 (Int32.toNatClampNeg a6) (σ 5 (Int32.toNatClampNeg a6))) 6 (Int32.toNatClampNeg a6))) 7 (Int32.toNatClampNeg a6))) 8 (Int32.toNatClampNeg a6)))
      else none
      else none
      else none
      else none
      else none
      else none
      else none
      else none
def fX5_moor (a1 : Int32) (a2 : Int32) (a3 : Int32) (a4 : Int32) (σ : kS) : Option (Int32 × kS) :=
  kbi (fX5_noSheet a1 σ) fun r3 σ2 =>
  if r3 = 0 then
    kbi (fX5_in (Int32.toInt64 a2) (0 : Int64) (2 : Int64) σ2) fun r8 σ7 =>
    if r8 = 0 then
      kbi (fX5_refused ((-2) : Int32) σ7) fun r25 σ24 =>
      some (r25, σ24)
    else
      kbi (fX5_cellsBarred a1 a2 a3 (Int32.toInt64 a4) σ7) fun r13 σ12 =>
      if 0 ≤ r13 then
        kbi (fX5_readsMoor ((60 * a1) + a3) a4 σ12) fun r17 σ16 =>
        if r17 = 0 then
          kbi (fX5_refused ((-100) - (σ16 0 9)) σ16) fun r22 σ21 =>
          some (r22, σ21)
        else
          fX5_moor_L111 1000 0 (kup (kup (kup (kup σ16 0 1 (σ16 0 10)) 0 2 ((kup σ16 0 1 (σ16 0 10)) 0 15)) 0 3 ((kup (kup σ16 0 1 (σ16 0 10)) 0 2 ((kup σ16 0 1 (σ16 0 10)) 0 15)) 0 16)) 0 4 0)
      else
        some (r13, σ12)
  else
    kbi (fX5_refused ((-1) : Int32) σ2) fun r28 σ27 =>
    some (r28, σ27)
def fX5_scentOf (a1 : Int32) (σ : kS) : Option (Int32 × kS) :=
  if inb a1 6 then
  kbi (fX5_bits (σ 2 (Int32.toNatClampNeg a1)) σ) fun r4 σ3 =>
  if inb a1 6 then
  if (σ3 1 (Int32.toNatClampNeg a1)) = 0 then
    some (r4, σ3)
  else
    if inb a1 6 then
    if (σ3 1 (Int32.toNatClampNeg a1)) = 1 then
      some (r4 + 1, σ3)
    else
      some ((2 * r4) + 2, σ3)
    else none
  else none
  else none
def fX5_wayTo (a1 : Int32) (σ : kS) : Option (Int32 × kS) :=
  if inb a1 6 then
  kbi (fX5_apart (σ 4 (Int32.toNatClampNeg a1)) (σ 0 2) σ) fun r4 σ3 =>
  some (r4, σ3)
  else none
def fX5_isSmelt (a1 : Int32) (σ : kS) : Option (Int32 × kS) :=
  kbi (fX5_wayTo a1 σ) fun r3 σ2 =>
  kbi (fX5_scentOf a1 σ2) fun r6 σ5 =>
  if r6 < r3 then
    some (0, σ5)
  else
    some (1, σ5)
def fX5_goesTo_J103 (k13 : Int32 → Int32 → Int32 → Int32 → kS → Option (Int32 × kS)) (a1 : Int32) (a3 : Int32) (a4 : Int32) (a5 : Int32) (as0 : Int32) (σ : kS) : Option (Int32 × kS) :=
    if a3 ≤ a5 then
      klet (a4 + 1) fun v31 =>
      k13 a1 as0 a3 v31 σ
    else
      klet (a4 + 1) fun v32 =>
      k13 a1 as0 a5 v32 σ
def fX5_goesTo_J53 (k13 : Int32 → Int32 → Int32 → Int32 → kS → Option (Int32 × kS)) (a1 : Int32) (a2 : Int32) (a3 : Int32) (a4 : Int32) (as0 : Int32) (σ : kS) : Option (Int32 × kS) :=
    if a2 < 0 then
      if as0 < a3 then
        fX5_goesTo_J103 k13 a1 a3 a4 as0 a4 σ
      else
        if (0 : Int32) = 0 then
          fX5_goesTo_J103 k13 a1 a3 a4 as0 a2 σ
        else
          fX5_goesTo_J103 k13 a1 a3 a4 as0 a4 σ
    else
      if as0 = a3 then
        kbi (fX5_wayTo a4 σ) fun r21 σ20 =>
        kbi (fX5_wayTo a2 σ20) fun r24 σ23 =>
        if r24 ≤ r21 then
          if as0 < a3 then
            fX5_goesTo_J103 k13 a1 a3 a4 as0 a4 σ23
          else
            if (0 : Int32) = 0 then
              fX5_goesTo_J103 k13 a1 a3 a4 as0 a2 σ23
            else
              fX5_goesTo_J103 k13 a1 a3 a4 as0 a4 σ23
        else
          if as0 < a3 then
            fX5_goesTo_J103 k13 a1 a3 a4 as0 a4 σ23
          else
            if (1 : Int32) = 0 then
              fX5_goesTo_J103 k13 a1 a3 a4 as0 a2 σ23
            else
              fX5_goesTo_J103 k13 a1 a3 a4 as0 a4 σ23
      else
        if as0 < a3 then
          fX5_goesTo_J103 k13 a1 a3 a4 as0 a4 σ
        else
          if (0 : Int32) = 0 then
            fX5_goesTo_J103 k13 a1 a3 a4 as0 a2 σ
          else
            fX5_goesTo_J103 k13 a1 a3 a4 as0 a4 σ
def fX5_goesTo_L13  : Nat → Int32 → Int32 → Int32 → Int32 → kS → Option (Int32 × kS)
  | 0, _, _, _, _, _ => none
  | n + 1, a1, a2, a3, a4, σ =>
    if (σ 0 1) ≤ a4 then
      some (a2, σ)
    else
      kbi (fX5_isSmelt a4 σ) fun r5 σ4 =>
      if r5 = 0 then
        fX5_goesTo_J53 (fX5_goesTo_L13 n) a1 a2 a3 a4 9 σ4
      else
        if inb a4 6 then
        if inb a1 6 then
        kbi (fX5_bits ((σ4 2 (Int32.toNatClampNeg a4)) ^^^ (σ4 3 (Int32.toNatClampNeg a1))) σ4) fun r12 σ11 =>
        fX5_goesTo_J53 (fX5_goesTo_L13 n) a1 a2 a3 a4 r12 σ11
        else none
        else none
def fX5_goesTo (a1 : Int32) (σ : kS) : Option (Int32 × kS) :=
  klet ((σ 0 3) + 1) fun v1 =>
  fX5_goesTo_L13 1000 a1 (-9) v1 0 σ
def fX5_ofPerson (a1 : Int32) (a2 : Int32) (σ : kS) : Option (Int32 × kS) :=
  kbi (fX5_noPerson a1 σ) fun r3 σ2 =>
  if r3 = 0 then
    if a2 = 0 then
      if inb a1 6 then
      some (σ2 1 (Int32.toNatClampNeg a1), σ2)
      else none
    else
      if a2 = 1 then
        if inb a1 6 then
        some (σ2 2 (Int32.toNatClampNeg a1), σ2)
        else none
      else
        if a2 = 2 then
          if inb a1 6 then
          some (σ2 3 (Int32.toNatClampNeg a1), σ2)
          else none
        else
          if a2 = 3 then
            if inb a1 6 then
            some (σ2 4 (Int32.toNatClampNeg a1), σ2)
            else none
          else
            if a2 = 4 then
              kbi (fX5_scentOf a1 σ2) fun r17 σ16 =>
              some (r17, σ16)
            else
              if a2 = 5 then
                kbi (fX5_isSmelt a1 σ2) fun r21 σ20 =>
                if r21 = 0 then
                  some (0, σ20)
                else
                  some (1, σ20)
              else
                if a2 = 6 then
                  kbi (fX5_goesTo a1 σ2) fun r27 σ26 =>
                  some (r27, σ26)
                else
                  some ((-2), σ2)
  else
    some ((-1), σ2)
def fX5_post (a1 : Int32) (σ : kS) : Option (Int32 × kS) :=
  if (σ 0 1) = 0 then
    some ((-3), σ)
  else
    kbi (fX5_in (Int32.toInt64 a1) (0 : Int64) (9 : Int64) σ) fun r4 σ3 =>
    if r4 = 0 then
      some ((-2), σ3)
    else
      klet (σ3 0 2) fun v7 =>
      some (v7, kup σ3 0 2 a1)
def fX5_lax (a1 : Int32) (σ : kS) : Option (Int32 × kS) :=
  if (σ 0 1) = 0 then
    some ((-3), σ)
  else
    kbi (fX5_in (Int32.toInt64 a1) (0 : Int64) (3 : Int64) σ) fun r4 σ3 =>
    if r4 = 0 then
      some ((-2), σ3)
    else
      klet (σ3 0 3) fun v7 =>
      some (v7, kup σ3 0 3 a1)
def fX5_bathe (a1 : Int32) (a2 : Int32) (σ : kS) : Option (Int32 × kS) :=
  kbi (fX5_noPerson a1 σ) fun r3 σ2 =>
  if r3 = 0 then
    kbi (fX5_in (Int32.toInt64 a2) (0 : Int64) (7 : Int64) σ2) fun r8 σ7 =>
    if r8 = 0 then
      some ((-2), σ7)
    else
      if inb a1 6 then
      klet (σ7 2 (Int32.toNatClampNeg a1)) fun v12 =>
      if inb a1 6 then
      some (v12, kup σ7 2 (Int32.toNatClampNeg a1) a2)
      else none
      else none
  else
    some ((-1), σ2)
def fX5_moves (a1 : Int32) (a2 : Int32) (σ : kS) : Option (Int32 × kS) :=
  kbi (fX5_noPerson a1 σ) fun r3 σ2 =>
  if r3 = 0 then
    kbi (fX5_in (Int32.toInt64 a2) (0 : Int64) (9 : Int64) σ2) fun r8 σ7 =>
    if r8 = 0 then
      some ((-2), σ7)
    else
      if inb a1 6 then
      klet (σ7 4 (Int32.toNatClampNeg a1)) fun v12 =>
      if inb a1 6 then
      some (v12, kup σ7 4 (Int32.toNatClampNeg a1) a2)
      else none
      else none
  else
    some ((-1), σ2)
def fX5_sent (a1 : Int32) (σ : kS) : Option (Int32 × kS) :=
  kbi (fX5_goesTo a1 σ) fun r3 σ2 =>
  if r3 < 0 then
    some (r3, σ2)
  else
    if inb r3 6 then
    if inb r3 6 then
    some (r3, kup σ2 3 (Int32.toNatClampNeg r3) (σ2 2 (Int32.toNatClampNeg r3)))
    else none
    else none
def fX5_send (a1 : Int32) (σ : kS) : Option (Int32 × kS) :=
  kbi (fX5_noPerson a1 σ) fun r3 σ2 =>
  if r3 = 0 then
    kbi (fX5_sent a1 (kup σ2 0 4 ((σ2 0 4) + 1))) fun r8 σ7 =>
    some (r8, σ7)
  else
    some ((-1), σ2)
def fX5_comes_J63 (k30 : Int32 → Int32 → Int32 → Int32 → kS → Option (Int32 × kS)) (a1 : Int32) (a3 : Int32) (a4 : Int32) (a5 : Int32) (as1 : Int32) (as0 : Int32) (σ : kS) : Option (Int32 × kS) :=
    klet (as0 ||| as1) fun v13 =>
    if 0 ≤ a5 then
      klet (a3 ||| ((1 : Int32) <<< (a5 &&& 31))) fun v15 =>
      klet (a4 + 1) fun v16 =>
      k30 a1 v13 v15 v16 σ
    else
      klet (a3 ||| 0) fun v17 =>
      klet (a4 + 1) fun v18 =>
      k30 a1 v13 v17 v18 σ
def fX5_comes_L30  : Nat → Int32 → Int32 → Int32 → Int32 → kS → Option (Int32 × kS)
  | 0, _, _, _, _, _ => none
  | n + 1, a1, a2, a3, a4, σ =>
    if (σ 0 1) ≤ a4 then
      if a1 = 0 then
        some (a2, σ)
      else
        some (a3, σ)
    else
      kbi (fX5_goesTo a4 σ) fun r11 σ10 =>
      if r11 = a4 then
        fX5_comes_J63 (fX5_comes_L30 n) a1 a3 a4 r11 ((1 : Int32) <<< (a4 &&& 31)) a2 σ10
      else
        fX5_comes_J63 (fX5_comes_L30 n) a1 a3 a4 r11 0 a2 σ10
def fX5_comes (a1 : Int32) (σ : kS) : Option (Int32 × kS) :=
  if (σ 0 1) = 0 then
    some ((-3), σ)
  else
    kbi (fX5_in (Int32.toInt64 a1) (0 : Int64) (1 : Int64) σ) fun r4 σ3 =>
    if r4 = 0 then
      some ((-2), σ3)
    else
      fX5_comes_L30 1000 a1 0 0 0 σ3
def fX5_keepAll_L2  : Nat → Int32 → kS → Option kS
  | 0, _, _ => none
  | n + 1, a1, σ =>
    if (σ 0 1) ≤ a1 then
      some σ
    else
      if inb a1 6 then
      if inb a1 6 then
      if inb a1 6 then
      if inb a1 6 then
      if inb a1 6 then
      if inb a1 6 then
      klet (a1 + 1) fun v8 =>
      fX5_keepAll_L2 n v8 (kup (kup (kup σ 9 (Int32.toNatClampNeg a1) (σ 2 (Int32.toNatClampNeg a1))) 10 (Int32.toNatClampNeg a1) ((kup σ 9 (Int32.toNatClampNeg a1) (σ 2 (Int32.toNatClampNeg a1))) 3 (Int32.toNatClampNeg a1))) 11 (Int32.toNatClampNeg a1) ((kup (kup σ 9 (Int32.toNatClampNeg a1) (σ 2 (Int32.toNatClampNeg a1))) 10 (Int32.toNatClampNeg a1) ((kup σ 9 (Int32.toNatClampNeg a1) (σ 2 (Int32.toNatClampNeg a1))) 3 (Int32.toNatClampNeg a1))) 4 (Int32.toNatClampNeg a1)))
      else none
      else none
      else none
      else none
      else none
      else none
def fX5_keepAll  (σ : kS) : Option kS :=
  fX5_keepAll_L2 1000 0 σ
def fX5_bringBack_L2  : Nat → Int32 → kS → Option kS
  | 0, _, _ => none
  | n + 1, a1, σ =>
    if (σ 0 1) ≤ a1 then
      some σ
    else
      if inb a1 6 then
      if inb a1 6 then
      if inb a1 6 then
      if inb a1 6 then
      if inb a1 6 then
      if inb a1 6 then
      klet (a1 + 1) fun v8 =>
      fX5_bringBack_L2 n v8 (kup (kup (kup σ 2 (Int32.toNatClampNeg a1) (σ 9 (Int32.toNatClampNeg a1))) 3 (Int32.toNatClampNeg a1) ((kup σ 2 (Int32.toNatClampNeg a1) (σ 9 (Int32.toNatClampNeg a1))) 10 (Int32.toNatClampNeg a1))) 4 (Int32.toNatClampNeg a1) ((kup (kup σ 2 (Int32.toNatClampNeg a1) (σ 9 (Int32.toNatClampNeg a1))) 3 (Int32.toNatClampNeg a1) ((kup σ 2 (Int32.toNatClampNeg a1) (σ 9 (Int32.toNatClampNeg a1))) 10 (Int32.toNatClampNeg a1))) 11 (Int32.toNatClampNeg a1)))
      else none
      else none
      else none
      else none
      else none
      else none
def fX5_bringBack  (σ : kS) : Option kS :=
  fX5_bringBack_L2 1000 0 σ
def fX5_pairsBarred_J52 (k2 : Int32 → Int32 → Int32 → kS → Option (Int32 × kS)) (a1 : Int32) (a2 : Int32) (a3 : Int32) (σ : kS) : Option (Int32 × kS) :=
    if inb (a1 + (2 * a3)) 240 then
    kbi (fX5_noPerson (σ 19 (Int32.toNatClampNeg (a1 + (2 * a3)))) σ) fun r17 σ16 =>
    if r17 = 0 then
      klet (a3 + 1) fun v20 =>
      k2 a1 a2 v20 σ16
    else
      some ((-1), σ16)
    else none
def fX5_pairsBarred_L2  : Nat → Int32 → Int32 → Int32 → kS → Option (Int32 × kS)
  | 0, _, _, _, _ => none
  | n + 1, a1, a2, a3, σ =>
    if a2 ≤ a3 then
      some (0, σ)
    else
      if inb ((a1 + (2 * a3)) + 1) 240 then
      klet (σ 19 (Int32.toNatClampNeg ((a1 + (2 * a3)) + 1))) fun v3 =>
      kbi (fX5_in (Int32.toInt64 v3) (0 : Int64) (8 : Int64) σ) fun r6 σ5 =>
      if r6 = 0 then
        kbi (fX5_in (Int32.toInt64 v3) (10 : Int64) (19 : Int64) σ5) fun r11 σ10 =>
        if r11 = 0 then
          some ((-2), σ10)
        else
          fX5_pairsBarred_J52 (fX5_pairsBarred_L2 n) a1 a2 a3 σ10
      else
        fX5_pairsBarred_J52 (fX5_pairsBarred_L2 n) a1 a2 a3 σ5
      else none
def fX5_pairsBarred (a1 : Int32) (a2 : Int32) (σ : kS) : Option (Int32 × kS) :=
  fX5_pairsBarred_L2 1000 a1 a2 0 σ
def fX5_roundBy_J118 (k16 : Int32 → Int32 → Int32 → Int32 → Int32 → Int32 → Int32 → Int32 → kS → Option (Int32 × kS)) (a1 : Int32) (a2 : Int32) (a3 : Int32) (a4 : Int32) (a5 : Int32) (a7 : Int32) (a8 : Int32) (a11 : Int32) (as1 : Int32) (as0 : Int32) (σ : kS) : Option (Int32 × kS) :=
    klet (as0 ||| as1) fun v32 =>
    if 0 ≤ a11 then
      klet (a7 + 0) fun v34 =>
      klet (a8 + 1) fun v35 =>
      k16 a1 a2 a3 a4 a5 v32 v34 v35 σ
    else
      klet (a7 + 1) fun v36 =>
      klet (a8 + 1) fun v37 =>
      k16 a1 a2 a3 a4 a5 v32 v36 v37 σ
def fX5_roundBy_J79 (k16 : Int32 → Int32 → Int32 → Int32 → Int32 → Int32 → Int32 → Int32 → kS → Option (Int32 × kS)) (a1 : Int32) (a2 : Int32) (a3 : Int32) (a5 : Int32) (a6 : Int32) (a7 : Int32) (a8 : Int32) (a9 : Int32) (a11 : Int32) (as1 : Int32) (as0 : Int32) (σ : kS) : Option (Int32 × kS) :=
    klet (as0 + as1) fun v26 =>
    if 0 ≤ a5 then
      if 0 ≤ a11 then
        fX5_roundBy_J118 k16 a1 a2 a3 v26 a5 a7 a8 a11 ((1 : Int32) <<< (a11 &&& 31)) a6 σ
      else
        fX5_roundBy_J118 k16 a1 a2 a3 v26 a5 a7 a8 a11 0 a6 σ
    else
      if a11 = a9 then
        if 0 ≤ a11 then
          fX5_roundBy_J118 k16 a1 a2 a3 v26 a5 a7 a8 a11 ((1 : Int32) <<< (a11 &&& 31)) a6 σ
        else
          fX5_roundBy_J118 k16 a1 a2 a3 v26 a5 a7 a8 a11 0 a6 σ
      else
        if 0 ≤ a11 then
          fX5_roundBy_J118 k16 a1 a2 a3 v26 a8 a7 a8 a11 ((1 : Int32) <<< (a11 &&& 31)) a6 σ
        else
          fX5_roundBy_J118 k16 a1 a2 a3 v26 a8 a7 a8 a11 0 a6 σ
def fX5_roundBy_L16  : Nat → Int32 → Int32 → Int32 → Int32 → Int32 → Int32 → Int32 → Int32 → kS → Option (Int32 × kS)
  | 0, _, _, _, _, _, _, _, _, _ => none
  | n + 1, a1, a2, a3, a4, a5, a6, a7, a8, σ =>
    if a2 ≤ a8 then
      if a3 < 10 then
        if a3 = 0 then
          some (a4, σ)
        else
          if a3 = 1 then
            some (a5, σ)
          else
            if a3 = 2 then
              some (a6, σ)
            else
              some (a7, σ)
      else
        kbi (fX5_noPerson (a3 - 10) σ) fun r8 σ7 =>
        if r8 = 0 then
          if inb (a3 - 10) 6 then
          some (σ7 3 (Int32.toNatClampNeg (a3 - 10)), σ7)
          else none
        else
          some ((-9), σ7)
    else
      if inb (a1 + (2 * a8)) 240 then
      klet (σ 19 (Int32.toNatClampNeg (a1 + (2 * a8)))) fun v13 =>
      if inb ((a1 + (2 * a8)) + 1) 240 then
      klet (σ 19 (Int32.toNatClampNeg ((a1 + (2 * a8)) + 1))) fun v15 =>
      if v15 = 8 then
        kbi (fX5_sent v13 σ) fun r24 σ23 =>
        if r24 = v13 then
          fX5_roundBy_J79 (fX5_roundBy_L16 n) a1 a2 a3 a5 a6 a7 a8 v13 r24 1 a4 σ23
        else
          fX5_roundBy_J79 (fX5_roundBy_L16 n) a1 a2 a3 a5 a6 a7 a8 v13 r24 0 a4 σ23
      else
        if 8 ≤ v15 then
          if inb v13 6 then
          klet (a8 + 1) fun v19 =>
          fX5_roundBy_L16 n a1 a2 a3 a4 a5 a6 a7 v19 (kup σ 4 (Int32.toNatClampNeg v13) (v15 - 10))
          else none
        else
          if inb v13 6 then
          klet (a8 + 1) fun v21 =>
          fX5_roundBy_L16 n a1 a2 a3 a4 a5 a6 a7 v21 (kup σ 2 (Int32.toNatClampNeg v13) v15)
          else none
      else none
      else none
def fX5_roundBy (a1 : Int32) (a2 : Int32) (a3 : Int32) (σ : kS) : Option (Int32 × kS) :=
  fX5_roundBy_L16 1000 a1 a2 a3 0 (-9) 0 0 0 σ
def fX5_round_J73  (a1 : Int32) (a2 : Int32) (a3 : Int32) (a4 : Int32) (a5 : Int32) (σ : kS) : Option (Int32 × kS) :=
    if (σ 0 1) = 0 then
      kbi (fX5_refused ((-3) : Int32) σ) fun r62 σ61 =>
      some (r62, σ61)
    else
      kbi (fX5_cellsBarred a1 a2 a3 (2 * (Int32.toInt64 a4)) σ) fun r41 σ40 =>
      if 0 ≤ r41 then
        kbi (fX5_pairsBarred ((60 * a1) + a3) a4 σ40) fun r45 σ44 =>
        if 0 ≤ r45 then
          kbv (fX5_keepAll σ44) fun σ48 =>
          kbi (fX5_roundBy ((60 * a1) + a3) a4 a5 σ48) fun r51 σ50 =>
          kbv (fX5_bringBack σ50) fun σ53 =>
          kbi (fX5_refused r51 σ53) fun r56 σ55 =>
          some (r56, σ55)
        else
          kbi (fX5_refused r45 σ44) fun r59 σ58 =>
          some (r59, σ58)
      else
        some (r41, σ40)
def fX5_round (a1 : Int32) (a2 : Int32) (a3 : Int32) (a4 : Int32) (a5 : Int32) (σ : kS) : Option (Int32 × kS) :=
  kbi (fX5_noSheet a1 σ) fun r3 σ2 =>
  if r3 = 0 then
    kbi (fX5_in (Int32.toInt64 a2) (0 : Int64) (2 : Int64) σ2) fun r8 σ7 =>
    if r8 = 0 then
      kbi (fX5_refused ((-2) : Int32) σ7) fun r13 σ12 =>
      some (r13, σ12)
    else
      kbi (fX5_in (Int32.toInt64 a4) (0 : Int64) (20 : Int64) σ7) fun r16 σ15 =>
      if r16 = 0 then
        kbi (fX5_refused ((-2) : Int32) σ15) fun r21 σ20 =>
        some (r21, σ20)
      else
        kbi (fX5_in (Int32.toInt64 a5) (0 : Int64) (3 : Int64) σ15) fun r24 σ23 =>
        if r24 = 0 then
          kbi (fX5_in (Int32.toInt64 a5) (10 : Int64) (15 : Int64) σ23) fun r29 σ28 =>
          if r29 = 0 then
            kbi (fX5_refused ((-2) : Int32) σ28) fun r34 σ33 =>
            some (r34, σ33)
          else
            fX5_round_J73 a1 a2 a3 a4 a5 σ28
        else
          fX5_round_J73 a1 a2 a3 a4 a5 σ23
  else
    kbi (fX5_refused ((-1) : Int32) σ2) fun r37 σ36 =>
    some (r37, σ36)
def fX5_strict_L21  : Nat → Int32 → Int32 → Int32 → Int32 → kS → Option (Int32 × kS)
  | 0, _, _, _, _, _ => none
  | n + 1, a1, a2, a3, a4, σ =>
    if a4 < 0 then
      some (a3, kup σ 0 3 a2)
    else
      kbi (fX5_goesTo a1 (kup σ 0 3 a4)) fun r10 σ9 =>
      if r10 = a1 then
        klet (a4 + (-1)) fun v13 =>
        fX5_strict_L21 n a1 a2 a4 v13 σ9
      else
        klet (a4 + (-1)) fun v12 =>
        fX5_strict_L21 n a1 a2 a3 v12 σ9
def fX5_strict (a1 : Int32) (σ : kS) : Option (Int32 × kS) :=
  kbi (fX5_noPerson a1 σ) fun r3 σ2 =>
  if r3 = 0 then
    klet (σ2 0 3) fun v6 =>
    fX5_strict_L21 1000 a1 v6 (-9) 3 σ2
  else
    some ((-1), σ2)
def fX5_comeNow_L4  : Nat → Int32 → Int32 → kS → Option (Int32 × kS)
  | 0, _, _, _ => none
  | n + 1, a1, a2, σ =>
    if (σ 0 1) ≤ a2 then
      some (a1, σ)
    else
      kbi (fX5_goesTo a2 σ) fun r4 σ3 =>
      if r4 = a2 then
        klet (a1 + 1) fun v8 =>
        klet (a2 + 1) fun v9 =>
        fX5_comeNow_L4 n v8 v9 σ3
      else
        klet (a1 + 0) fun v6 =>
        klet (a2 + 1) fun v7 =>
        fX5_comeNow_L4 n v6 v7 σ3
def fX5_comeNow  (σ : kS) : Option (Int32 × kS) :=
  fX5_comeNow_L4 1000 0 0 σ
def fX5_site_J70 (k38 : Int32 → Int32 → Int32 → Int32 → Int32 → kS → Option (Int32 × kS)) (a1 : Int32) (a2 : Int32) (a4 : Int32) (a5 : Int32) (a6 : Int32) (as0 : Int32) (σ : kS) : Option (Int32 × kS) :=
    if a6 ≤ a4 then
      klet (a5 + 1) fun v15 =>
      k38 a1 a2 as0 a4 v15 σ
    else
      klet (a5 + 1) fun v16 =>
      k38 a1 a2 as0 a6 v16 σ
def fX5_site_L38  : Nat → Int32 → Int32 → Int32 → Int32 → Int32 → kS → Option (Int32 × kS)
  | 0, _, _, _, _, _, _ => none
  | n + 1, a1, a2, a3, a4, a5, σ =>
    if 10 ≤ a5 then
      if a1 = 0 then
        some (a3, kup σ 0 2 a2)
      else
        some (a4, kup σ 0 2 a2)
    else
      kbi (fX5_comeNow (kup σ 0 2 a5)) fun r12 σ11 =>
      if r12 ≤ a4 then
        fX5_site_J70 (fX5_site_L38 n) a1 a2 a4 a5 r12 a3 σ11
      else
        fX5_site_J70 (fX5_site_L38 n) a1 a2 a4 a5 r12 a5 σ11
def fX5_site (a1 : Int32) (σ : kS) : Option (Int32 × kS) :=
  if (σ 0 1) = 0 then
    some ((-3), σ)
  else
    kbi (fX5_in (Int32.toInt64 a1) (0 : Int64) (1 : Int64) σ) fun r4 σ3 =>
    if r4 = 0 then
      some ((-2), σ3)
    else
      klet (σ3 0 2) fun v7 =>
      fX5_site_L38 1000 a1 v7 (-9) (-9) 0 σ3
def fX5_exchange (a1 : Int32) (a2 : Int32) (σ : kS) : Option kS :=
  if inb a1 6 then
  klet (σ 12 (Int32.toNatClampNeg a1)) fun v2 =>
  if inb a2 6 then
  if inb a1 6 then
  if inb a2 6 then
  some (kup (kup σ 12 (Int32.toNatClampNeg a1) (σ 12 (Int32.toNatClampNeg a2))) 12 (Int32.toNatClampNeg a2) v2)
  else none
  else none
  else none
  else none
def fX5_nextOrder_L86  : Nat → Int32 → Int32 → kS → Option (Int32 × kS)
  | 0, _, _, _ => none
  | n + 1, a3, a4, σ =>
    if a4 ≤ a3 then
      some (1, σ)
    else
      kbv (fX5_exchange a3 a4 σ) fun σ21 =>
      klet (a3 + 1) fun v22 =>
      klet (a4 + (-1)) fun v23 =>
      fX5_nextOrder_L86 n v22 v23 σ21
def fX5_nextOrder_L47  : Nat → Int32 → Int32 → kS → Option (Int32 × kS)
  | 0, _, _, _ => none
  | n + 1, a1, a2, σ =>
    if inb a2 6 then
    if inb a1 6 then
    if (σ 12 (Int32.toNatClampNeg a1)) ≤ (σ 12 (Int32.toNatClampNeg a2)) then
      kbv (fX5_exchange a1 a2 σ) fun σ15 =>
      klet (a1 + 1) fun v16 =>
      klet ((σ15 0 1) - 1) fun v17 =>
      fX5_nextOrder_L86 1000 v16 v17 σ15
    else
      klet (a2 + (-1)) fun v18 =>
      fX5_nextOrder_L47 n a1 v18 σ
    else none
    else none
def fX5_nextOrder_L7  : Nat → Int32 → kS → Option (Int32 × kS)
  | 0, _, _ => none
  | n + 1, a1, σ =>
    if a1 < 0 then
      if 0 ≤ a1 then
        klet ((σ 0 1) - 1) fun v4 =>
        fX5_nextOrder_L47 1000 a1 v4 σ
      else
        some (0, σ)
    else
      if inb a1 6 then
      if inb (a1 + 1) 6 then
      if (σ 12 (Int32.toNatClampNeg a1)) ≤ (σ 12 (Int32.toNatClampNeg (a1 + 1))) then
        if 0 ≤ a1 then
          klet ((σ 0 1) - 1) fun v9 =>
          fX5_nextOrder_L47 1000 a1 v9 σ
        else
          some (0, σ)
      else
        klet (a1 + (-1)) fun v10 =>
        fX5_nextOrder_L7 n v10 σ
      else none
      else none
def fX5_nextOrder  (σ : kS) : Option (Int32 × kS) :=
  klet ((σ 0 1) - 2) fun v1 =>
  fX5_nextOrder_L7 1000 v1 σ
def fX5_comeInOrder_L4  : Nat → Int32 → Int32 → kS → Option (Int32 × kS)
  | 0, _, _, _ => none
  | n + 1, a1, a2, σ =>
    if (σ 0 1) ≤ a2 then
      kbv (fX5_bringBack σ) fun σ3 =>
      some (a1, σ3)
    else
      if inb a2 6 then
      kbi (fX5_sent (σ 12 (Int32.toNatClampNeg a2)) σ) fun r7 σ6 =>
      if inb a2 6 then
      if r7 = (σ6 12 (Int32.toNatClampNeg a2)) then
        klet (a1 + 1) fun v12 =>
        klet (a2 + 1) fun v13 =>
        fX5_comeInOrder_L4 n v12 v13 σ6
      else
        klet (a1 + 0) fun v10 =>
        klet (a2 + 1) fun v11 =>
        fX5_comeInOrder_L4 n v10 v11 σ6
      else none
      else none
def fX5_comeInOrder  (σ : kS) : Option (Int32 × kS) :=
  fX5_comeInOrder_L4 1000 0 0 σ
def fX5_bestOrder_L44 (k32 : Int32 → Int32 → kS → Option (Int32 × kS)) : Nat → Int32 → Int32 → Int32 → kS → Option (Int32 × kS)
  | 0, _, _, _, _ => none
  | n + 1, a1, a3, a4, σ =>
    if (σ 0 1) ≤ a4 then
      if a3 ≤ a1 then
        kbi (fX5_nextOrder σ) fun r14 σ13 =>
        k32 a1 r14 σ13
      else
        kbi (fX5_nextOrder σ) fun r18 σ17 =>
        k32 a3 r18 σ17
    else
      if a3 ≤ a1 then
        if inb a4 6 then
        if inb a4 6 then
        klet (a4 + 1) fun v23 =>
        fX5_bestOrder_L44 k32 n a1 a3 v23 (kup σ 13 (Int32.toNatClampNeg a4) (σ 13 (Int32.toNatClampNeg a4)))
        else none
        else none
      else
        if inb a4 6 then
        if inb a4 6 then
        klet (a4 + 1) fun v26 =>
        fX5_bestOrder_L44 k32 n a1 a3 v26 (kup σ 13 (Int32.toNatClampNeg a4) (σ 12 (Int32.toNatClampNeg a4)))
        else none
        else none
def fX5_bestOrder_L32  : Nat → Int32 → Int32 → kS → Option (Int32 × kS)
  | 0, _, _, _ => none
  | n + 1, a1, a2, σ =>
    if a2 = 0 then
      some (a1, σ)
    else
      kbi (fX5_comeInOrder σ) fun r9 σ8 =>
      fX5_bestOrder_L44 (fX5_bestOrder_L32 n) 1000 a1 r9 0 σ8
def fX5_bestOrder_L6  : Nat → Int32 → kS → Option (Int32 × kS)
  | 0, _, _ => none
  | n + 1, a1, σ =>
    if (σ 0 1) ≤ a1 then
      fX5_bestOrder_L32 1000 (-9) 1 σ
    else
      if inb a1 6 then
      klet (a1 + 1) fun v5 =>
      fX5_bestOrder_L6 n v5 (kup σ 12 (Int32.toNatClampNeg a1) a1)
      else none
def fX5_bestOrder  (σ : kS) : Option (Int32 × kS) :=
  kbv (fX5_keepAll σ) fun σ2 =>
  fX5_bestOrder_L6 1000 0 σ2
def fX5_order (a1 : Int32) (σ : kS) : Option (Int32 × kS) :=
  if (σ 0 1) = 0 then
    some ((-3), σ)
  else
    kbi (fX5_in (Int32.toInt64 a1) ((-1) : Int64) (5 : Int64) σ) fun r4 σ3 =>
    if r4 = 0 then
      some ((-2), σ3)
    else
      kbi (fX5_bestOrder σ3) fun r9 σ8 =>
      if 0 ≤ a1 then
        if (σ8 0 1) ≤ a1 then
          some ((-9), σ8)
        else
          if inb a1 6 then
          some (σ8 13 (Int32.toNatClampNeg a1), σ8)
          else none
      else
        some (r9, σ8)
def fX5_asMet_L2  : Nat → Int32 → Int32 → kS → Option kS
  | 0, _, _, _ => none
  | n + 1, a1, a2, σ =>
    if (σ 0 1) ≤ a2 then
      some σ
    else
      kbi (fX5_isIn a1 a2 σ) fun r4 σ3 =>
      if r4 = 0 then
        if inb a2 6 then
        if inb a2 6 then
        klet (a2 + 1) fun v9 =>
        fX5_asMet_L2 n a1 v9 (kup σ3 3 (Int32.toNatClampNeg a2) (σ3 10 (Int32.toNatClampNeg a2)))
        else none
        else none
      else
        if inb a2 6 then
        if inb a2 6 then
        klet (a2 + 1) fun v12 =>
        fX5_asMet_L2 n a1 v12 (kup σ3 3 (Int32.toNatClampNeg a2) (σ3 9 (Int32.toNatClampNeg a2)))
        else none
        else none
def fX5_asMet (a1 : Int32) (σ : kS) : Option kS :=
  fX5_asMet_L2 1000 a1 0 σ
def fX5_spreads_J55 (k10 : Int32 → Int32 → Int32 → kS → Option kS) (a1 : Int32) (a2 : Int32) (a3 : Int32) (as0 : Int32) (σ : kS) : Option kS :=
    if inb as0 64 then
    if 0 ≤ (σ 14 (Int32.toNatClampNeg as0)) then
      if inb as0 64 then
      if inb as0 64 then
      klet (a3 + 1) fun v17 =>
      k10 a1 a2 v17 (kup σ 14 (Int32.toNatClampNeg as0) (σ 14 (Int32.toNatClampNeg as0)))
      else none
      else none
    else
      if inb as0 64 then
      klet (a3 + 1) fun v19 =>
      k10 a1 a2 v19 (kup σ 14 (Int32.toNatClampNeg as0) (a1 + 1))
      else none
    else none
def fX5_spreads_L10 (k2 : Int32 → Int32 → kS → Option kS) : Nat → Int32 → Int32 → Int32 → kS → Option kS
  | 0, _, _, _, _ => none
  | n + 1, a1, a2, a3, σ =>
    if (σ 0 1) ≤ a3 then
      klet (a2 + 1) fun v3 =>
      k2 a1 v3 σ
    else
      if inb a2 64 then
      if (σ 14 (Int32.toNatClampNeg a2)) = a1 then
        kbv (fX5_asMet a2 σ) fun σ8 =>
        kbi (fX5_goesTo a3 σ8) fun r11 σ10 =>
        if 0 ≤ r11 then
          fX5_spreads_J55 (fX5_spreads_L10 k2 n) a1 a2 a3 (a2 ||| ((1 : Int32) <<< (r11 &&& 31))) σ10
        else
          fX5_spreads_J55 (fX5_spreads_L10 k2 n) a1 a2 a3 a2 σ10
      else
        klet (a2 + 1) fun v6 =>
        k2 a1 v6 σ
      else none
def fX5_spreads_L2  : Nat → Int32 → Int32 → kS → Option kS
  | 0, _, _, _ => none
  | n + 1, a1, a2, σ =>
    if 64 ≤ a2 then
      some σ
    else
      fX5_spreads_L10 (fX5_spreads_L2 n) 1000 a1 a2 0 σ
def fX5_spreads (a1 : Int32) (σ : kS) : Option kS :=
  fX5_spreads_L2 1000 a1 0 σ
def fX5_ahead_J102 (k68 : Int32 → Int32 → Int32 → kS → Option (Int32 × kS)) (a1 : Int32) (a2 : Int32) (a3 : Int32) (as0 : Int32) (σ : kS) : Option (Int32 × kS) :=
    if as0 = 0 then
      klet (a3 + 1) fun v30 =>
      k68 a1 a2 v30 σ
    else
      if a2 < 0 then
        if inb a3 64 then
        klet (σ 14 (Int32.toNatClampNeg a3)) fun v33 =>
        klet (a3 + 1) fun v34 =>
        k68 a1 v33 v34 σ
        else none
      else
        if inb a3 64 then
        if a2 ≤ (σ 14 (Int32.toNatClampNeg a3)) then
          klet (a3 + 1) fun v37 =>
          k68 a1 a2 v37 σ
        else
          if inb a3 64 then
          klet (σ 14 (Int32.toNatClampNeg a3)) fun v39 =>
          klet (a3 + 1) fun v40 =>
          k68 a1 v39 v40 σ
          else none
        else none
def fX5_ahead_L68  : Nat → Int32 → Int32 → Int32 → kS → Option (Int32 × kS)
  | 0, _, _, _, _ => none
  | n + 1, a1, a2, a3, σ =>
    if 64 ≤ a3 then
      kbv (fX5_bringBack σ) fun σ20 =>
      some (a2, σ20)
    else
      kbv (fX5_asMet a3 σ) fun σ22 =>
      if inb a3 64 then
      if (σ22 14 (Int32.toNatClampNeg a3)) < 0 then
        fX5_ahead_J102 (fX5_ahead_L68 n) a1 a2 a3 0 σ22
      else
        kbi (fX5_goesTo a1 σ22) fun r27 σ26 =>
        if r27 = a1 then
          fX5_ahead_J102 (fX5_ahead_L68 n) a1 a2 a3 1 σ26
        else
          fX5_ahead_J102 (fX5_ahead_L68 n) a1 a2 a3 0 σ26
      else none
def fX5_ahead_L46  : Nat → Int32 → Int32 → kS → Option (Int32 × kS)
  | 0, _, _, _ => none
  | n + 1, a1, a2, σ =>
    if 7 ≤ a2 then
      fX5_ahead_L68 1000 a1 (-9) 0 σ
    else
      kbv (fX5_spreads a2 σ) fun σ16 =>
      klet (a2 + 1) fun v17 =>
      fX5_ahead_L46 n a1 v17 σ16
def fX5_ahead_L16  : Nat → Int32 → Int32 → kS → Option (Int32 × kS)
  | 0, _, _, _ => none
  | n + 1, a1, a2, σ =>
    if 64 ≤ a2 then
      fX5_ahead_L46 1000 a1 0 σ
    else
      if a2 = 0 then
        if inb a2 64 then
        klet (a2 + 1) fun v13 =>
        fX5_ahead_L16 n a1 v13 (kup σ 14 (Int32.toNatClampNeg a2) 0)
        else none
      else
        if inb a2 64 then
        klet (a2 + 1) fun v11 =>
        fX5_ahead_L16 n a1 v11 (kup σ 14 (Int32.toNatClampNeg a2) (-9))
        else none
def fX5_ahead (a1 : Int32) (σ : kS) : Option (Int32 × kS) :=
  kbi (fX5_noPerson a1 σ) fun r3 σ2 =>
  if r3 = 0 then
    kbv (fX5_keepAll σ2) fun σ7 =>
    fX5_ahead_L16 1000 a1 0 σ7
  else
    some ((-1), σ2)
def fX5_reading_J24  (a1 : Int32) (a2 : Int32) (σ : kS) : Option (Int32 × kS) :=
    if (σ 0 23) = 8 then
      some ((-4), σ)
    else
      if inb (σ 0 23) 8 then
      if inb ((kup σ 15 (Int32.toNatClampNeg (σ 0 23)) a1) 0 23) 8 then
      some (((kup (kup (kup σ 15 (Int32.toNatClampNeg (σ 0 23)) a1) 16 (Int32.toNatClampNeg ((kup σ 15 (Int32.toNatClampNeg (σ 0 23)) a1) 0 23)) a2) 0 23 (((kup (kup σ 15 (Int32.toNatClampNeg (σ 0 23)) a1) 16 (Int32.toNatClampNeg ((kup σ 15 (Int32.toNatClampNeg (σ 0 23)) a1) 0 23)) a2) 0 23) + 1)) 0 23) - 1, kup (kup (kup σ 15 (Int32.toNatClampNeg (σ 0 23)) a1) 16 (Int32.toNatClampNeg ((kup σ 15 (Int32.toNatClampNeg (σ 0 23)) a1) 0 23)) a2) 0 23 (((kup (kup σ 15 (Int32.toNatClampNeg (σ 0 23)) a1) 16 (Int32.toNatClampNeg ((kup σ 15 (Int32.toNatClampNeg (σ 0 23)) a1) 0 23)) a2) 0 23) + 1))
      else none
      else none
def fX5_reading (a1 : Int32) (a2 : Int32) (σ : kS) : Option (Int32 × kS) :=
  kbi (fX5_noPerson a1 σ) fun r3 σ2 =>
  if r3 = 0 then
    kbi (fX5_noPerson a2 σ2) fun r8 σ7 =>
    if r8 = 0 then
      fX5_reading_J24 a1 a2 σ7
    else
      if a2 = (-9) then
        fX5_reading_J24 a1 a2 σ7
      else
        some ((-1), σ7)
  else
    some ((-1), σ2)
def fX5_back (a1 : Int32) (σ : kS) : Option (Int32 × kS) :=
  kbi (fX5_in (Int32.toInt64 a1) (0 : Int64) (Int32.toInt64 (σ 0 23)) σ) fun r3 σ2 =>
  if r3 = 0 then
    some ((-2), σ2)
  else
    some ((kup σ2 0 23 ((σ2 0 23) - a1)) 0 23, kup σ2 0 23 ((σ2 0 23) - a1))
def fX5_areSo_L4  : Nat → Int32 → Int32 → kS → Option (Int32 × kS)
  | 0, _, _, _ => none
  | n + 1, a1, a2, σ =>
    if (σ 0 23) ≤ a2 then
      some (a1, σ)
    else
      if a1 = 0 then
        klet (a2 + 1) fun v3 =>
        fX5_areSo_L4 n 0 v3 σ
      else
        if inb a2 8 then
        kbi (fX5_goesTo (σ 15 (Int32.toNatClampNeg a2)) σ) fun r7 σ6 =>
        if inb a2 8 then
        if r7 = (σ6 16 (Int32.toNatClampNeg a2)) then
          klet (a2 + 1) fun v11 =>
          fX5_areSo_L4 n 1 v11 σ6
        else
          klet (a2 + 1) fun v10 =>
          fX5_areSo_L4 n 0 v10 σ6
        else none
        else none
def fX5_areSo  (σ : kS) : Option (Int32 × kS) :=
  fX5_areSo_L4 1000 1 0 σ
def fX5_smells_L22  : Nat → Int32 → Int32 → Int32 → Int32 → kS → Option (Int32 × kS)
  | 0, _, _, _, _, _ => none
  | n + 1, a1, a2, a3, a4, σ =>
    if 8 ≤ a4 then
      if inb a1 6 then
      some (a3, kup σ 2 (Int32.toNatClampNeg a1) a2)
      else none
    else
      if inb a1 6 then
      kbi (fX5_areSo (kup σ 2 (Int32.toNatClampNeg a1) a4)) fun r13 σ12 =>
      if r13 = 0 then
        klet (a3 ||| 0) fun v16 =>
        klet (a4 + 1) fun v17 =>
        fX5_smells_L22 n a1 a2 v16 v17 σ12
      else
        klet (a3 ||| ((1 : Int32) <<< (a4 &&& 31))) fun v18 =>
        klet (a4 + 1) fun v19 =>
        fX5_smells_L22 n a1 a2 v18 v19 σ12
      else none
def fX5_smells (a1 : Int32) (σ : kS) : Option (Int32 × kS) :=
  kbi (fX5_noPerson a1 σ) fun r3 σ2 =>
  if r3 = 0 then
    if inb a1 6 then
    klet (σ2 2 (Int32.toNatClampNeg a1)) fun v7 =>
    fX5_smells_L22 1000 a1 v7 0 0 σ2
    else none
  else
    some ((-1), σ2)
def fX5_pasts_L22  : Nat → Int32 → Int32 → Int32 → Int32 → kS → Option (Int32 × kS)
  | 0, _, _, _, _, _ => none
  | n + 1, a1, a2, a3, a4, σ =>
    if 8 ≤ a4 then
      if inb a1 6 then
      some (a3, kup σ 3 (Int32.toNatClampNeg a1) a2)
      else none
    else
      if inb a1 6 then
      kbi (fX5_areSo (kup σ 3 (Int32.toNatClampNeg a1) a4)) fun r13 σ12 =>
      if r13 = 0 then
        klet (a3 ||| 0) fun v16 =>
        klet (a4 + 1) fun v17 =>
        fX5_pasts_L22 n a1 a2 v16 v17 σ12
      else
        klet (a3 ||| ((1 : Int32) <<< (a4 &&& 31))) fun v18 =>
        klet (a4 + 1) fun v19 =>
        fX5_pasts_L22 n a1 a2 v18 v19 σ12
      else none
def fX5_pasts (a1 : Int32) (σ : kS) : Option (Int32 × kS) :=
  kbi (fX5_noPerson a1 σ) fun r3 σ2 =>
  if r3 = 0 then
    if inb a1 6 then
    klet (σ2 3 (Int32.toNatClampNeg a1)) fun v7 =>
    fX5_pasts_L22 1000 a1 v7 0 0 σ2
    else none
  else
    some ((-1), σ2)
def fX5_kinds_L22  : Nat → Int32 → Int32 → Int32 → Int32 → kS → Option (Int32 × kS)
  | 0, _, _, _, _, _ => none
  | n + 1, a1, a2, a3, a4, σ =>
    if 3 ≤ a4 then
      if inb a1 6 then
      some (a3, kup σ 1 (Int32.toNatClampNeg a1) a2)
      else none
    else
      if inb a1 6 then
      kbi (fX5_areSo (kup σ 1 (Int32.toNatClampNeg a1) a4)) fun r13 σ12 =>
      if r13 = 0 then
        klet (a3 ||| 0) fun v16 =>
        klet (a4 + 1) fun v17 =>
        fX5_kinds_L22 n a1 a2 v16 v17 σ12
      else
        klet (a3 ||| ((1 : Int32) <<< (a4 &&& 31))) fun v18 =>
        klet (a4 + 1) fun v19 =>
        fX5_kinds_L22 n a1 a2 v18 v19 σ12
      else none
def fX5_kinds (a1 : Int32) (σ : kS) : Option (Int32 × kS) :=
  kbi (fX5_noPerson a1 σ) fun r3 σ2 =>
  if r3 = 0 then
    if inb a1 6 then
    klet (σ2 1 (Int32.toNatClampNeg a1)) fun v7 =>
    fX5_kinds_L22 1000 a1 v7 0 0 σ2
    else none
  else
    some ((-1), σ2)
def fX5_odds_L35  : Nat → Int32 → Int32 → Int32 → Int64 → Int32 → kS → Option (Int64 × kS)
  | 0, _, _, _, _, _, _ => none
  | n + 1, a1, a2, a3, a4, a6, σ =>
    if 8 ≤ a6 then
      if inb a1 6 then
      kbl (fX5_share a4 (8 : Int64) a2 (kup σ 2 (Int32.toNatClampNeg a1) a3)) fun r23 σ22 =>
      some (r23, σ22)
      else none
    else
      if inb a1 6 then
      kbi (fX5_goesTo a1 (kup σ 2 (Int32.toNatClampNeg a1) a6)) fun r27 σ26 =>
      if r27 = a1 then
        klet (a4 + 1) fun v31 =>
        klet (a6 + 1) fun v32 =>
        fX5_odds_L35 n a1 a2 a3 v31 v32 σ26
      else
        klet (a4 + 0) fun v29 =>
        klet (a6 + 1) fun v30 =>
        fX5_odds_L35 n a1 a2 a3 v29 v30 σ26
      else none
def fX5_odds (a1 : Int32) (a2 : Int32) (σ : kS) : Option (Int64 × kS) :=
  kbi (fX5_noPerson a1 σ) fun r3 σ2 =>
  if r3 = 0 then
    kbi (fX5_in (Int32.toInt64 a2) (0 : Int64) (1 : Int64) σ2) fun r11 σ10 =>
    if r11 = 0 then
      kbl (fX5_lost σ10) fun r18 σ17 =>
      some (r18, σ17)
    else
      if inb a1 6 then
      klet (σ10 2 (Int32.toNatClampNeg a1)) fun v15 =>
      fX5_odds_L35 1000 a1 a2 v15 0 0 σ10
      else none
  else
    kbl (fX5_lost σ2) fun r8 σ7 =>
    some (r8, σ7)
def fX5_sheet_L65  : Nat → Int32 → Int32 → Int32 → kS → Option (Int32 × kS)
  | 0, _, _, _, _ => none
  | n + 1, a1, a3, a4, σ =>
    if a3 ≤ a4 then
      kbi (fX5_refused (1 : Int32) σ) fun r30 σ29 =>
      some (r30, σ29)
    else
      if inb ((60 * a1) + a4) 240 then
      klet (a4 + 1) fun v32 =>
      fX5_sheet_L65 n a1 a3 v32 (kup σ 19 (Int32.toNatClampNeg ((60 * a1) + a4)) 0)
      else none
def fX5_sheet (a1 : Int32) (a2 : Int32) (a3 : Int32) (σ : kS) : Option (Int32 × kS) :=
  kbi (fX5_noSheet a1 σ) fun r3 σ2 =>
  if r3 = 0 then
    kbi (fX5_in (Int32.toInt64 a2) (0 : Int64) (2 : Int64) σ2) fun r8 σ7 =>
    if r8 = 0 then
      kbi (fX5_refused ((-2) : Int32) σ7) fun r13 σ12 =>
      some (r13, σ12)
    else
      if a3 ≤ 60 then
        if 0 ≤ a3 then
          if inb a1 4 then
          if inb a1 4 then
          fX5_sheet_L65 1000 a1 a3 0 (kup (kup σ7 17 (Int32.toNatClampNeg a1) a3) 18 (Int32.toNatClampNeg a1) a2)
          else none
          else none
        else
          kbi (fX5_failed (4 : Int32) σ7) fun r20 σ19 =>
          some (r20, σ19)
      else
        kbi (fX5_refused ((-2) : Int32) σ7) fun r23 σ22 =>
        some (r23, σ22)
  else
    kbi (fX5_refused ((-1) : Int32) σ2) fun r26 σ25 =>
    some (r26, σ25)
def fX5_lose (a1 : Int32) (σ : kS) : Option (Int32 × kS) :=
  kbi (fX5_noSheet a1 σ) fun r3 σ2 =>
  if r3 = 0 then
    if inb a1 4 then
    if 0 ≤ (σ2 17 (Int32.toNatClampNeg a1)) then
      if inb a1 4 then
      some (1, kup σ2 17 (Int32.toNatClampNeg a1) (-1))
      else none
    else
      if inb a1 4 then
      some (0, kup σ2 17 (Int32.toNatClampNeg a1) (-1))
      else none
    else none
  else
    some ((-1), σ2)
def fX5_noCell (a1 : Int32) (a2 : Int32) (σ : kS) : Option (Int32 × kS) :=
  if inb a1 4 then
  if 0 ≤ (σ 17 (Int32.toNatClampNeg a1)) then
    if inb a1 4 then
    kbi (fX5_in (Int32.toInt64 a2) (0 : Int64) ((Int32.toInt64 (σ 17 (Int32.toNatClampNeg a1))) - 1) σ) fun r6 σ5 =>
    if r6 = 0 then
      some (3, σ5)
    else
      some (0, σ5)
    else none
  else
    some (1, σ)
  else none
def fX5_put (a1 : Int32) (a2 : Int32) (a3 : Int32) (σ : kS) : Option (Int32 × kS) :=
  kbi (fX5_noSheet a1 σ) fun r3 σ2 =>
  if r3 = 0 then
    kbi (fX5_noCell a1 a2 σ2) fun r8 σ7 =>
    if r8 ≤ 0 then
      if inb a1 4 then
      if (σ7 18 (Int32.toNatClampNeg a1)) = 0 then
        if inb ((60 * a1) + a2) 240 then
        kbi (fX5_refused (1 : Int32) (kup σ7 19 (Int32.toNatClampNeg ((60 * a1) + a2)) ((Int32.toInt8 a3).toInt32))) fun r25 σ24 =>
        some (r25, σ24)
        else none
      else
        if inb a1 4 then
        if (σ7 18 (Int32.toNatClampNeg a1)) = 1 then
          if inb ((60 * a1) + a2) 240 then
          kbi (fX5_refused (1 : Int32) (kup σ7 19 (Int32.toNatClampNeg ((60 * a1) + a2)) ((Int32.toInt16 a3).toInt32))) fun r21 σ20 =>
          some (r21, σ20)
          else none
        else
          if inb ((60 * a1) + a2) 240 then
          kbi (fX5_refused (1 : Int32) (kup σ7 19 (Int32.toNatClampNeg ((60 * a1) + a2)) a3)) fun r17 σ16 =>
          some (r17, σ16)
          else none
        else none
      else none
    else
      kbi (fX5_noCell a1 a2 σ7) fun r28 σ27 =>
      kbi (fX5_failed r28 σ27) fun r31 σ30 =>
      some (r31, σ30)
  else
    kbi (fX5_refused ((-1) : Int32) σ2) fun r34 σ33 =>
    some (r34, σ33)
def fX5_cell_J53  (a1 : Int32) (a2 : Int32) (σ : kS) : Option (Int64 × kS) :=
    kbi (fX5_noCell a1 a2 σ) fun r26 σ25 =>
    if r26 ≤ 0 then
      if inb ((60 * a1) + a2) 240 then
      some (Int32.toInt64 (σ25 19 (Int32.toNatClampNeg ((60 * a1) + a2))), σ25)
      else none
    else
      kbi (fX5_noCell a1 a2 σ25) fun r31 σ30 =>
      kbl (fX5_failedLong r31 σ30) fun r34 σ33 =>
      some (r34, σ33)
def fX5_cell (a1 : Int32) (a2 : Int32) (a3 : Int32) (σ : kS) : Option (Int64 × kS) :=
  kbi (fX5_noSheet a1 (kup σ 0 0 0)) fun r3 σ2 =>
  if r3 = 0 then
    kbi (fX5_in (Int32.toInt64 a3) (0 : Int64) (2 : Int64) σ2) fun r11 σ10 =>
    if r11 = 0 then
      kbl (fX5_lost σ10) fun r23 σ22 =>
      some (r23, σ22)
    else
      if inb a1 4 then
      if (σ10 17 (Int32.toNatClampNeg a1)) < 0 then
        fX5_cell_J53 a1 a2 σ10
      else
        if inb a1 4 then
        if (σ10 18 (Int32.toNatClampNeg a1)) = a3 then
          fX5_cell_J53 a1 a2 σ10
        else
          kbl (fX5_failedLong (2 : Int32) σ10) fun r20 σ19 =>
          some (r20, σ19)
        else none
      else none
  else
    kbl (fX5_lost σ2) fun r8 σ7 =>
    some (r8, σ7)
def fX5_copy_L144  : Nat → Int32 → Int32 → Int32 → Int32 → kS → Option (Int32 × kS)
  | 0, _, _, _, _, _ => none
  | n + 1, a3, a4, a5, a6, σ =>
    if a5 ≤ a6 then
      kbi (fX5_refused a5 σ) fun r58 σ57 =>
      some (r58, σ57)
    else
      if inb a6 60 then
      if inb (((60 * a3) + a4) + a6) 240 then
      klet (a6 + 1) fun v61 =>
      fX5_copy_L144 n a3 a4 a5 v61 (kup σ 19 (Int32.toNatClampNeg (((60 * a3) + a4) + a6)) (σ 20 (Int32.toNatClampNeg a6)))
      else none
      else none
def fX5_copy_L107  : Nat → Int32 → Int32 → Int32 → Int32 → Int32 → Int32 → kS → Option (Int32 × kS)
  | 0, _, _, _, _, _, _, _ => none
  | n + 1, a1, a2, a3, a4, a5, a6, σ =>
    if a5 ≤ a6 then
      fX5_copy_L144 1000 a3 a4 a5 0 σ
    else
      if inb (((60 * a1) + a2) + a6) 240 then
      if inb a6 60 then
      klet (a6 + 1) fun v54 =>
      fX5_copy_L107 n a1 a2 a3 a4 a5 v54 (kup σ 20 (Int32.toNatClampNeg a6) (σ 19 (Int32.toNatClampNeg (((60 * a1) + a2) + a6))))
      else none
      else none
def fX5_copy (a1 : Int32) (a2 : Int32) (a3 : Int32) (a4 : Int32) (a5 : Int32) (σ : kS) : Option (Int32 × kS) :=
  kbi (fX5_noSheet a1 σ) fun r3 σ2 =>
  if r3 = 0 then
    kbi (fX5_noSheet a3 σ2) fun r11 σ10 =>
    if r11 = 0 then
      if inb a1 4 then
      if (σ10 17 (Int32.toNatClampNeg a1)) < 0 then
        kbi (fX5_failed (1 : Int32) σ10) fun r18 σ17 =>
        some (r18, σ17)
      else
        if inb a3 4 then
        if 0 ≤ (σ10 17 (Int32.toNatClampNeg a3)) then
          if inb a1 4 then
          if inb a3 4 then
          if (σ10 18 (Int32.toNatClampNeg a1)) = (σ10 18 (Int32.toNatClampNeg a3)) then
            if inb a1 4 then
            kbi (fX5_isBeyond a2 (Int32.toInt64 a5) (σ10 17 (Int32.toNatClampNeg a1)) σ10) fun r27 σ26 =>
            if r27 = 0 then
              if inb a3 4 then
              kbi (fX5_isBeyond a4 (Int32.toInt64 a5) (σ26 17 (Int32.toNatClampNeg a3)) σ26) fun r36 σ35 =>
              if r36 = 0 then
                fX5_copy_L107 1000 a1 a2 a3 a4 a5 0 σ35
              else
                kbi (fX5_failed (3 : Int32) σ35) fun r41 σ40 =>
                some (r41, σ40)
              else none
            else
              kbi (fX5_failed (3 : Int32) σ26) fun r32 σ31 =>
              some (r32, σ31)
            else none
          else
            kbi (fX5_failed (2 : Int32) σ10) fun r44 σ43 =>
            some (r44, σ43)
          else none
          else none
        else
          kbi (fX5_failed (1 : Int32) σ10) fun r47 σ46 =>
          some (r47, σ46)
        else none
      else none
    else
      kbi (fX5_refused ((-1) : Int32) σ10) fun r50 σ49 =>
      some (r50, σ49)
  else
    kbi (fX5_refused ((-1) : Int32) σ2) fun r8 σ7 =>
    some (r8, σ7)
def fX5_traced (a1 : Int32) (σ : kS) : Option kS :=
  some (kup σ 0 30 ((31 * (σ 0 30)) + a1))
def fX5_tell_J51  (a1 : Int32) (a2 : Int32) (σ : kS) : Option (Int32 × kS) :=
    if inb a1 6 then
    klet (σ 2 (Int32.toNatClampNeg a1)) fun v25 =>
    if a2 = 0 then
      some (v25, σ)
    else
      if a2 = 1 then
        some (v25 + 100, σ)
      else
        some ((2 * v25) + 100, σ)
    else none
def fX5_tell_J27  (a1 : Int32) (a2 : Int32) (σ : kS) : Option (Int32 × kS) :=
    if a2 ≤ 0 then
      kbv (fX5_traced (1 : Int32) σ) fun σ13 =>
      if a2 = 2 then
        kbv (fX5_traced (1 : Int32) σ13) fun σ16 =>
        fX5_tell_J51 a1 a2 σ16
      else
        fX5_tell_J51 a1 a2 σ13
    else
      kbv (fX5_traced (2 : Int32) σ) fun σ18 =>
      kbv (fX5_traced (1 : Int32) σ18) fun σ20 =>
      if a2 = 2 then
        kbv (fX5_traced (1 : Int32) σ20) fun σ23 =>
        fX5_tell_J51 a1 a2 σ23
      else
        fX5_tell_J51 a1 a2 σ20
def fX5_tell (a1 : Int32) (σ : kS) : Option (Int32 × kS) :=
  kbi (fX5_noPerson a1 σ) fun r3 σ2 =>
  if r3 = 0 then
    if inb a1 6 then
    klet (σ2 1 (Int32.toNatClampNeg a1)) fun v7 =>
    if v7 = 2 then
      kbv (fX5_traced (3 : Int32) σ2) fun σ10 =>
      fX5_tell_J27 a1 v7 σ10
    else
      fX5_tell_J27 a1 v7 σ2
    else none
  else
    some ((-1), σ2)
def fX5_whistle (a1 : Int32) (σ : kS) : Option (Int32 × kS) :=
  kbi (fX5_noPerson a1 σ) fun r3 σ2 =>
  if r3 = 0 then
    if inb a1 6 then
    if (σ2 1 (Int32.toNatClampNeg a1)) = 2 then
      kbv (fX5_traced (5 : Int32) σ2) fun σ13 =>
      if inb a1 6 then
      if (σ13 1 (Int32.toNatClampNeg a1)) = 2 then
        some (70, σ13)
      else
        some (a1, σ13)
      else none
    else
      kbv (fX5_traced (4 : Int32) σ2) fun σ9 =>
      if inb a1 6 then
      if (σ9 1 (Int32.toNatClampNeg a1)) = 2 then
        some (70, σ9)
      else
        some (a1, σ9)
      else none
    else none
  else
    some ((-1), σ2)
def fX5_as (a1 : Int32) (a2 : Int32) (σ : kS) : Option (Int32 × kS) :=
  kbi (fX5_noPerson a1 σ) fun r3 σ2 =>
  if r3 = 0 then
    kbi (fX5_in (Int32.toInt64 a2) (0 : Int64) (2 : Int64) σ2) fun r8 σ7 =>
    if r8 = 0 then
      kbi (fX5_refused ((-2) : Int32) σ7) fun r21 σ20 =>
      some (r21, σ20)
    else
      if inb a1 6 then
      if (σ7 1 (Int32.toNatClampNeg a1)) < a2 then
        kbi (fX5_failed (2 : Int32) σ7) fun r15 σ14 =>
        some (r15, σ14)
      else
        kbi (fX5_refused (1 : Int32) σ7) fun r18 σ17 =>
        some (r18, σ17)
      else none
  else
    kbi (fX5_refused ((-1) : Int32) σ2) fun r24 σ23 =>
    some (r24, σ23)
def fX5_trace  (σ : kS) : Option (Int32 × kS) :=
  some (σ 0 30, σ)
def fX5_fault  (σ : kS) : Option (Int32 × kS) :=
  some (σ 0 0, σ)
def fX5_many (a1 : Int32) (σ : kS) : Option (Int32 × kS) :=
  if a1 = 0 then
    some (σ 0 1, σ)
  else
    if a1 = 1 then
      some (σ 0 2, σ)
    else
      if a1 = 2 then
        some (σ 0 3, σ)
      else
        if a1 = 3 then
          some (σ 0 4, σ)
        else
          if a1 = 4 then
            some (σ 0 23, σ)
          else
            some ((-2), σ)
end
section
set_option maxHeartbeats 4000000 in
set_option maxRecDepth 100000 in
theorem mX0_become {l : Launch} {E : kE} {ω σ σ1 : kS} {q0 : Nat} {q1 : Nat} (hq0 : isM q0) (hq1 : isM q1) (hF : fX0_become q0 q1 σ = some σ1) : kMetV l yX0_become cX0_become 2 1 E [.ref (ead E q0), .ref (ead E q1)] (cmb σ ω) (cmb σ1 ω) := by
  refine kMetV.of (by decide +kernel) (Nat.le_of_ble_eq_true rfl) ?_
  intro p e s m args below meth c Q ls S hR hw hl
  have hl : lv_has ls 2 [(0, .ref (ead E q0)), (1, .ref (ead E q1))] := hl
  unfold fX0_become at hF
  refine lv_aload_n S.1 S.2.1 dX0_become_0 rfl (lv_at hl 0 rfl) ?_
  refine lv_aload_n S.1 S.2.1 dX0_become_1 rfl (lv_at hl 1 rfl) ?_
  refine gf_X0_24 S hw hq1.1 hq1.2.1 rfl dX0_become_2 ?_
  refine pf_X0_24 S hw hq0.1 hq0.2.1 rfl dX0_become_5 (fun H locs hw => ?_)
  refine lv_aload_n S.1 S.2.1 dX0_become_8 rfl (lv_at hl 0 rfl) ?_
  refine lv_aload_n S.1 S.2.1 dX0_become_9 rfl (lv_at hl 1 rfl) ?_
  refine gf_X0_28 S hw hq1.1 hq1.2.1 rfl dX0_become_10 ?_
  refine pf_X0_28 S hw hq0.1 hq0.2.1 rfl dX0_become_13 (fun H locs hw => ?_)
  refine lv_aload_n S.1 S.2.1 dX0_become_16 rfl (lv_at hl 0 rfl) ?_
  refine lv_aload_n S.1 S.2.1 dX0_become_17 rfl (lv_at hl 1 rfl) ?_
  refine gf_X0_31 S hw hq1.1 hq1.2.1 rfl dX0_become_18 ?_
  refine pf_X0_31 S hw hq0.1 hq0.2.1 rfl dX0_become_21 (fun H locs hw => ?_)
  refine lv_aload_n S.1 S.2.1 dX0_become_24 rfl (lv_at hl 1 rfl) ?_
  refine gf_X0_9 S hw hq1.1 hq1.2.1 rfl dX0_become_25 ?_
  refine lv_iconst (v := 0) S.1 S.2.1 dX0_become_28 (by decide) ?_
  refine lv_aload_n S.1 S.2.1 dX0_become_29 rfl (lv_at hl 0 rfl) ?_
  refine gf_X0_9 S hw hq0.1 hq0.2.1 rfl dX0_become_30 ?_
  refine lv_iconst (v := 0) S.1 S.2.1 dX0_become_33 (by decide) ?_
  refine lv_bipush (v := 6) S.1 S.2.1 dX0_become_34 (by decide) ?_
  obtain ⟨hb1, hF⟩ := kin hF
  refine kx_copy S hw (S.2.2.1.trans hl.1.symm) q2_46 hq1.2.2.1 hq0.2.2.1 hb1 (Nat.le_of_ble_eq_true rfl) (Nat.le_of_ble_eq_true rfl) dX0_become_36 (fun H locs hw => ?_)
  refine lv_aload_n S.1 S.2.1 dX0_become_39 rfl (lv_at hl 1 rfl) ?_
  refine gf_X0_15 S hw hq1.1 hq1.2.1 rfl dX0_become_40 ?_
  refine lv_iconst (v := 0) S.1 S.2.1 dX0_become_43 (by decide) ?_
  refine lv_aload_n S.1 S.2.1 dX0_become_44 rfl (lv_at hl 0 rfl) ?_
  refine gf_X0_15 S hw hq0.1 hq0.2.1 rfl dX0_become_45 ?_
  refine lv_iconst (v := 0) S.1 S.2.1 dX0_become_48 (by decide) ?_
  refine lv_bipush (v := 6) S.1 S.2.1 dX0_become_49 (by decide) ?_
  obtain ⟨hb2, hF⟩ := kin hF
  refine kx_copy S hw (S.2.2.1.trans hl.1.symm) q2_46 hq1.2.2.2.1 hq0.2.2.2.1 hb2 (Nat.le_of_ble_eq_true rfl) (Nat.le_of_ble_eq_true rfl) dX0_become_51 (fun H locs hw => ?_)
  refine lv_aload_n S.1 S.2.1 dX0_become_54 rfl (lv_at hl 1 rfl) ?_
  refine gf_X0_18 S hw hq1.1 hq1.2.1 rfl dX0_become_55 ?_
  refine lv_iconst (v := 0) S.1 S.2.1 dX0_become_58 (by decide) ?_
  refine lv_aload_n S.1 S.2.1 dX0_become_59 rfl (lv_at hl 0 rfl) ?_
  refine gf_X0_18 S hw hq0.1 hq0.2.1 rfl dX0_become_60 ?_
  refine lv_iconst (v := 0) S.1 S.2.1 dX0_become_63 (by decide) ?_
  refine lv_bipush (v := 6) S.1 S.2.1 dX0_become_64 (by decide) ?_
  obtain ⟨hb3, hF⟩ := kin hF
  refine kx_copy S hw (S.2.2.1.trans hl.1.symm) q2_46 hq1.2.2.2.2.1 hq0.2.2.2.2.1 hb3 (Nat.le_of_ble_eq_true rfl) (Nat.le_of_ble_eq_true rfl) dX0_become_66 (fun H locs hw => ?_)
  refine lv_aload_n S.1 S.2.1 dX0_become_69 rfl (lv_at hl 1 rfl) ?_
  refine gf_X0_21 S hw hq1.1 hq1.2.1 rfl dX0_become_70 ?_
  refine lv_iconst (v := 0) S.1 S.2.1 dX0_become_73 (by decide) ?_
  refine lv_aload_n S.1 S.2.1 dX0_become_74 rfl (lv_at hl 0 rfl) ?_
  refine gf_X0_21 S hw hq0.1 hq0.2.1 rfl dX0_become_75 ?_
  refine lv_iconst (v := 0) S.1 S.2.1 dX0_become_78 (by decide) ?_
  refine lv_bipush (v := 6) S.1 S.2.1 dX0_become_79 (by decide) ?_
  obtain ⟨hb4, hF⟩ := kin hF
  refine kx_copy S hw (S.2.2.1.trans hl.1.symm) q2_46 hq1.2.2.2.2.2 hq0.2.2.2.2.2 hb4 (Nat.le_of_ble_eq_true rfl) (Nat.le_of_ble_eq_true rfl) dX0_become_81 (fun H locs hw => ?_)
  cases kre hF
  exact hR _ _ _ _ dX0_become_84 hw
set_option maxRecDepth 100000 in
theorem kcX0_become {p : Program} {l : Launch} {e : Env} {R : Room} {s : State} {m : MethodId} {args : Array Value} {below : List Frame} {meth : Method} {c : Code} {H : Heap} {locs : List Loc} {cells slots : Nat} {Q : State → Prop} {cc : ByteArray} {pc : Nat} {ls : Array Slot} {rest : List Value} {E : kE} {σ ω σ1 : kS} {nL index : Nat} {own : String} (S : CallFix p m c cc nL s args kBIG own) (hw : kWS E s (cmb σ ω) H locs) (cw : kV own RX0 index yX0_become cX0_become 2 none 1) (hR : 1 + 1 ≤ R.frames ∧ 8 + (2 + 11) + 30 * 1 ≤ R.locals) {q0 : Nat} {q1 : Nat} (hq0 : isM q0) (hq1 : isM q1) (hF : fX0_become q0 q1 σ = some σ1) (hls : ls.size = nL) (hW : (rest.map fun v => v.category).sum ≤ 8) (hdg : decode cc pc = .ok (.invokevirtual index, 3)) (kk : ∀ (H1 : Heap) (locs1 : List Loc), kWS E s (cmb σ1 ω) H1 locs1 → W p l e R s m args below meth c H1 locs1 cells slots Q (F0 m (pc + 3) ls rest)) (hf : cells ≤ R.cells ∧ slots ≤ R.slots := by exact ⟨Nat.le_of_ble_eq_true rfl, Nat.le_of_ble_eq_true rfl⟩) : W p l e R s m args below meth c H locs cells slots Q (F0 m pc ls (.ref (ead E q1) :: .ref (ead E q0) :: rest)) := kr_callv hw (kr_runV (As := [.ref (ead E q1)]) (q := q0) S hw ((mX0_become (l := l) (E := E) (ω := ω) hq0 hq1 hF) H.size) cw hR hq0.1 (Nat.lt_trans hq0.2.1 (by decide)) rfl rfl hls _ rfl hW hdg hf) kk
set_option maxHeartbeats 4000000 in
set_option maxRecDepth 100000 in
theorem mJ6_bitCount_0f7a4 {l : Launch} {E : kE} {ω σ σ1 : kS} {r : Int32} {a0 : Int32}  (hF : fJ6_bitCount_0f7a4 a0 σ = some (r, σ1)) : kMetI l yJ6_bitCount_0f7a4 cJ6_bitCount_0f7a4 1 (some .int) 0 E [.int a0] (cmb σ ω) r (cmb σ1 ω) := by
  refine kMetI.of (by decide +kernel) (Nat.le_of_ble_eq_true rfl) (Or.inl rfl) ?_
  intro p e s m args below meth c Q ls S hR hw hl
  have hl : lv_has ls 1 [(0, .int a0)] := hl
  unfold fJ6_bitCount_0f7a4 at hF
  refine lv_iload_n S.1 S.2.1 dJ6_bitCount_0f7a4_0 rfl (lv_at hl 0 rfl) ?_
  refine lv_iload_n S.1 S.2.1 dJ6_bitCount_0f7a4_1 rfl (lv_at hl 0 rfl) ?_
  refine lv_iconst (v := 1) S.1 S.2.1 dJ6_bitCount_0f7a4_2 (by decide) ?_
  refine lv_iushr S.1 S.2.1 dJ6_bitCount_0f7a4_3 rfl ?_
  refine lv_ldcw (v := 1431655765) S.1 S.2.1 S.2.2.2.1 (S.2.2.2.2 _ q1_200) dJ6_bitCount_0f7a4_4 ?_
  refine lv_iand S.1 S.2.1 dJ6_bitCount_0f7a4_7 ?_
  refine lv_isub S.1 S.2.1 dJ6_bitCount_0f7a4_8 ?_
  refine lv_topi (fun v1 ev1 => ?_)
  replace hF := klb hF ev1
  refine lv_istore_n (lv' := [(0, .int v1)]) S.1 S.2.1 dJ6_bitCount_0f7a4_9 rfl hl (by decide) rfl (fun ls hl => ?_)
  refine lv_iload_n S.1 S.2.1 dJ6_bitCount_0f7a4_10 rfl (lv_at hl 0 rfl) ?_
  refine lv_ldcw (v := 858993459) S.1 S.2.1 S.2.2.2.1 (S.2.2.2.2 _ q1_201) dJ6_bitCount_0f7a4_11 ?_
  refine lv_iand S.1 S.2.1 dJ6_bitCount_0f7a4_14 ?_
  refine lv_iload_n S.1 S.2.1 dJ6_bitCount_0f7a4_15 rfl (lv_at hl 0 rfl) ?_
  refine lv_iconst (v := 2) S.1 S.2.1 dJ6_bitCount_0f7a4_16 (by decide) ?_
  refine lv_iushr S.1 S.2.1 dJ6_bitCount_0f7a4_17 rfl ?_
  refine lv_ldcw (v := 858993459) S.1 S.2.1 S.2.2.2.1 (S.2.2.2.2 _ q1_201) dJ6_bitCount_0f7a4_18 ?_
  refine lv_iand S.1 S.2.1 dJ6_bitCount_0f7a4_21 ?_
  refine lv_iadd S.1 S.2.1 dJ6_bitCount_0f7a4_22 ?_
  refine lv_topi (fun v2 ev2 => ?_)
  replace hF := klb hF ev2
  refine lv_istore_n (lv' := [(0, .int v2)]) S.1 S.2.1 dJ6_bitCount_0f7a4_23 rfl hl (by decide) rfl (fun ls hl => ?_)
  refine lv_iload_n S.1 S.2.1 dJ6_bitCount_0f7a4_24 rfl (lv_at hl 0 rfl) ?_
  refine lv_iload_n S.1 S.2.1 dJ6_bitCount_0f7a4_25 rfl (lv_at hl 0 rfl) ?_
  refine lv_iconst (v := 4) S.1 S.2.1 dJ6_bitCount_0f7a4_26 (by decide) ?_
  refine lv_iushr S.1 S.2.1 dJ6_bitCount_0f7a4_27 rfl ?_
  refine lv_iadd S.1 S.2.1 dJ6_bitCount_0f7a4_28 ?_
  refine lv_ldcw (v := 252645135) S.1 S.2.1 S.2.2.2.1 (S.2.2.2.2 _ q1_202) dJ6_bitCount_0f7a4_29 ?_
  refine lv_iand S.1 S.2.1 dJ6_bitCount_0f7a4_32 ?_
  refine lv_topi (fun v3 ev3 => ?_)
  replace hF := klb hF ev3
  refine lv_istore_n (lv' := [(0, .int v3)]) S.1 S.2.1 dJ6_bitCount_0f7a4_33 rfl hl (by decide) rfl (fun ls hl => ?_)
  refine lv_iload_n S.1 S.2.1 dJ6_bitCount_0f7a4_34 rfl (lv_at hl 0 rfl) ?_
  refine lv_iload_n S.1 S.2.1 dJ6_bitCount_0f7a4_35 rfl (lv_at hl 0 rfl) ?_
  refine lv_bipush (v := 8) S.1 S.2.1 dJ6_bitCount_0f7a4_36 (by decide) ?_
  refine lv_iushr S.1 S.2.1 dJ6_bitCount_0f7a4_38 rfl ?_
  refine lv_iadd S.1 S.2.1 dJ6_bitCount_0f7a4_39 ?_
  refine lv_topi (fun v4 ev4 => ?_)
  replace hF := klb hF ev4
  refine lv_istore_n (lv' := [(0, .int v4)]) S.1 S.2.1 dJ6_bitCount_0f7a4_40 rfl hl (by decide) rfl (fun ls hl => ?_)
  refine lv_iload_n S.1 S.2.1 dJ6_bitCount_0f7a4_41 rfl (lv_at hl 0 rfl) ?_
  refine lv_iload_n S.1 S.2.1 dJ6_bitCount_0f7a4_42 rfl (lv_at hl 0 rfl) ?_
  refine lv_bipush (v := 16) S.1 S.2.1 dJ6_bitCount_0f7a4_43 (by decide) ?_
  refine lv_iushr S.1 S.2.1 dJ6_bitCount_0f7a4_45 rfl ?_
  refine lv_iadd S.1 S.2.1 dJ6_bitCount_0f7a4_46 ?_
  refine lv_topi (fun v5 ev5 => ?_)
  replace hF := klb hF ev5
  refine lv_istore_n (lv' := [(0, .int v5)]) S.1 S.2.1 dJ6_bitCount_0f7a4_47 rfl hl (by decide) rfl (fun ls hl => ?_)
  refine lv_iload_n S.1 S.2.1 dJ6_bitCount_0f7a4_48 rfl (lv_at hl 0 rfl) ?_
  refine lv_bipush (v := 63) S.1 S.2.1 dJ6_bitCount_0f7a4_49 (by decide) ?_
  refine lv_iand S.1 S.2.1 dJ6_bitCount_0f7a4_51 ?_
  obtain ⟨rfl, rfl⟩ := kret hF
  exact hR _ _ _ _ dJ6_bitCount_0f7a4_52 hw (fun h => nomatch h)
set_option maxRecDepth 100000 in
theorem kcJ6_bitCount_0f7a4 {p : Program} {l : Launch} {e : Env} {R : Room} {s : State} {m : MethodId} {args : Array Value} {below : List Frame} {meth : Method} {c : Code} {H : Heap} {locs : List Loc} {cells slots : Nat} {Q : State → Prop} {cc : ByteArray} {pc : Nat} {ls : Array Slot} {rest : List Value} {E : kE} {σ ω σ1 : kS} {nL index : Nat} {own : String} {r : Int32} (S : CallFix p m c cc nL s args kBIG own) (hw : kWS E s (cmb σ ω) H locs) (cw : kSt own index yJ6_bitCount_0f7a4 cJ6_bitCount_0f7a4 1 (some .int) 1) (hR : 0 + 1 ≤ R.frames ∧ 8 + (1 + 11) + 30 * 0 ≤ R.locals) {a0 : Int32}  (hF : fJ6_bitCount_0f7a4 a0 σ = some (r, σ1)) (hls : ls.size = nL) (hW : (rest.map fun v => v.category).sum ≤ 8) (hdg : decode cc pc = .ok (.invokestatic index, 3)) (kk : ∀ (H1 : Heap) (locs1 : List Loc), kWS E s (cmb σ1 ω) H1 locs1 → W p l e R s m args below meth c H1 locs1 cells slots Q (F0 m (pc + 3) ls (.int r :: rest))) (hf : cells ≤ R.cells ∧ slots ≤ R.slots := by exact ⟨Nat.le_of_ble_eq_true rfl, Nat.le_of_ble_eq_true rfl⟩) : W p l e R s m args below meth c H locs cells slots Q (F0 m pc ls (.int a0 :: rest)) := kr_calli (mc := 0) (y := yJ6_bitCount_0f7a4) (b := cJ6_bitCount_0f7a4) (n := 0) (lv := 0) (As := []) (ret := some .int) hw (kr_runS (As := [.int a0]) S hw ((mJ6_bitCount_0f7a4 (l := l) (E := E) (ω := ω) hF) H.size) cw hR rfl hls _ rfl hW hdg hf) (fun H1 locs1 h _ => kk H1 locs1 h)
set_option maxHeartbeats 4000000 in
set_option maxRecDepth 100000 in
theorem mX0_scentOf {l : Launch} {E : kE} {ω σ σ1 : kS} {r : Int32} {q0 : Nat} {a1 : Int32} (hq0 : isM q0) (hF : fX0_scentOf q0 a1 σ = some (r, σ1)) : kMetI l yX0_scentOf cX0_scentOf 3 (some .int) 1 E [.ref (ead E q0), .int a1] (cmb σ ω) r (cmb σ1 ω) := by
  refine kMetI.of (by decide +kernel) (Nat.le_of_ble_eq_true rfl) (Or.inl rfl) ?_
  intro p e s m args below meth c Q ls S hR hw hl
  have hl : lv_has ls 3 [(0, .ref (ead E q0)), (1, .int a1)] := hl
  unfold fX0_scentOf at hF
  refine lv_aload_n S.1 S.2.1 dX0_scentOf_0 rfl (lv_at hl 0 rfl) ?_
  refine gf_X0_15 S hw hq0.1 hq0.2.1 rfl dX0_scentOf_1 ?_
  refine lv_iload_n S.1 S.2.1 dX0_scentOf_4 rfl (lv_at hl 1 rfl) ?_
  obtain ⟨hb1, hF⟩ := kin hF
  refine kx_iald (q := q0 + 2) S hw hq0.2.2.2.1.1 hq0.2.2.2.1.2 hb1 dX0_scentOf_5 ?_
  obtain ⟨r4, σ3, e2, hF⟩ := kbi_e hF
  refine kcJ6_bitCount_0f7a4 S hw cv_X0_40 ⟨Nat.le_of_ble_eq_true rfl, Nat.le_of_ble_eq_true rfl⟩ e2 hl.1 (Nat.le_of_ble_eq_true rfl) dX0_scentOf_6 (fun H locs hw => ?_)
  refine lv_istore_n (lv' := [(2, .int r4), (0, .ref (ead E q0)), (1, .int a1)]) S.1 S.2.1 dX0_scentOf_9 rfl hl (by decide) rfl (fun ls hl => ?_)
  refine lv_aload_n S.1 S.2.1 dX0_scentOf_10 rfl (lv_at hl 1 rfl) ?_
  refine gf_X0_9 S hw hq0.1 hq0.2.1 rfl dX0_scentOf_11 ?_
  refine lv_iload_n S.1 S.2.1 dX0_scentOf_14 rfl (lv_at hl 2 rfl) ?_
  obtain ⟨hb5, hF⟩ := kin hF
  refine kx_iald (q := q0 + 1) S hw hq0.2.2.1.1 hq0.2.2.1.2 hb5 dX0_scentOf_15 ?_
  by_cases c6 : (σ3 (q0 + 1) (Int32.toNatClampNeg a1)) = 1
  · replace hF := kit hF c6
    refine lv_lookup (off := 34) (tgt := 50) S.1 S.2.1 dX0_scentOf_16 (by decide) (by rw [c6]; rfl) (by decide) ?_
    refine lv_iload_n S.1 S.2.1 dX0_scentOf_50 rfl (lv_at hl 0 rfl) ?_
    refine lv_iconst (v := 1) S.1 S.2.1 dX0_scentOf_51 (by decide) ?_
    refine lv_iadd S.1 S.2.1 dX0_scentOf_52 ?_
    obtain ⟨rfl, rfl⟩ := kret hF
    exact hR _ _ _ _ dX0_scentOf_53 hw (fun h => nomatch h)
  · replace hF := kif hF c6
    by_cases c7 : (σ3 (q0 + 1) (Int32.toNatClampNeg a1)) = 2
    · replace hF := kit hF c7
      refine lv_lookup (off := 28) (tgt := 44) S.1 S.2.1 dX0_scentOf_16 (by decide) (by rw [c7]; rfl) (by decide) ?_
      refine lv_iconst (v := 2) S.1 S.2.1 dX0_scentOf_44 (by decide) ?_
      refine lv_iload_n S.1 S.2.1 dX0_scentOf_45 rfl (lv_at hl 0 rfl) ?_
      refine lv_iconst (v := 1) S.1 S.2.1 dX0_scentOf_46 (by decide) ?_
      refine lv_iadd S.1 S.2.1 dX0_scentOf_47 ?_
      refine lv_imul S.1 S.2.1 dX0_scentOf_48 ?_
      obtain ⟨rfl, rfl⟩ := kret hF
      exact hR _ _ _ _ dX0_scentOf_49 hw (fun h => nomatch h)
    · replace hF := kif hF c7
      refine lv_lookup (off := 38) (tgt := 54) S.1 S.2.1 dX0_scentOf_16 (by decide) (klook2 (klk c6 rfl) (klk c7 rfl)) (by decide) ?_
      refine lv_iload_n S.1 S.2.1 dX0_scentOf_54 rfl (lv_at hl 0 rfl) ?_
      obtain ⟨rfl, rfl⟩ := kret hF
      exact hR _ _ _ _ dX0_scentOf_55 hw (fun h => nomatch h)
set_option maxRecDepth 100000 in
theorem kcX0_scentOf {p : Program} {l : Launch} {e : Env} {R : Room} {s : State} {m : MethodId} {args : Array Value} {below : List Frame} {meth : Method} {c : Code} {H : Heap} {locs : List Loc} {cells slots : Nat} {Q : State → Prop} {cc : ByteArray} {pc : Nat} {ls : Array Slot} {rest : List Value} {E : kE} {σ ω σ1 : kS} {nL index : Nat} {own : String} {r : Int32} (S : CallFix p m c cc nL s args kBIG own) (hw : kWS E s (cmb σ ω) H locs) (cw : kV own RX0 index yX0_scentOf cX0_scentOf 3 (some .int) 1) (hR : 1 + 1 ≤ R.frames ∧ 8 + (3 + 11) + 30 * 1 ≤ R.locals) {q0 : Nat} {a1 : Int32} (hq0 : isM q0) (hF : fX0_scentOf q0 a1 σ = some (r, σ1)) (hls : ls.size = nL) (hW : (rest.map fun v => v.category).sum ≤ 8) (hdg : decode cc pc = .ok (.invokevirtual index, 3)) (kk : ∀ (H1 : Heap) (locs1 : List Loc), kWS E s (cmb σ1 ω) H1 locs1 → W p l e R s m args below meth c H1 locs1 cells slots Q (F0 m (pc + 3) ls (.int r :: rest))) (hf : cells ≤ R.cells ∧ slots ≤ R.slots := by exact ⟨Nat.le_of_ble_eq_true rfl, Nat.le_of_ble_eq_true rfl⟩) : W p l e R s m args below meth c H locs cells slots Q (F0 m pc ls (.int a1 :: .ref (ead E q0) :: rest)) := kr_calli (mc := 0) (y := yX0_scentOf) (b := cX0_scentOf) (n := 0) (lv := 0) (As := []) (ret := some .int) hw (kr_runV (As := [.int a1]) (q := q0) S hw ((mX0_scentOf (l := l) (E := E) (ω := ω) hq0 hF) H.size) cw hR hq0.1 (Nat.lt_trans hq0.2.1 (by decide)) rfl rfl hls _ rfl hW hdg hf) (fun H1 locs1 h _ => kk H1 locs1 h)
set_option maxHeartbeats 4000000 in
set_option maxRecDepth 100000 in
theorem mX0_distanceOf {l : Launch} {E : kE} {ω σ σ1 : kS} {r : Int32} {q0 : Nat} {a1 : Int32} (hq0 : isM q0) (hF : fX0_distanceOf q0 a1 σ = some (r, σ1)) : kMetI l yX0_distanceOf cX0_distanceOf 2 (some .int) 1 E [.ref (ead E q0), .int a1] (cmb σ ω) r (cmb σ1 ω) := by
  refine kMetI.of (by decide +kernel) (Nat.le_of_ble_eq_true rfl) (Or.inl rfl) ?_
  intro p e s m args below meth c Q ls S hR hw hl
  have hl : lv_has ls 2 [(0, .ref (ead E q0)), (1, .int a1)] := hl
  unfold fX0_distanceOf at hF
  refine lv_aload_n S.1 S.2.1 dX0_distanceOf_0 rfl (lv_at hl 0 rfl) ?_
  refine gf_X0_21 S hw hq0.1 hq0.2.1 rfl dX0_distanceOf_1 ?_
  refine lv_iload_n S.1 S.2.1 dX0_distanceOf_4 rfl (lv_at hl 1 rfl) ?_
  obtain ⟨hb1, hF⟩ := kin hF
  refine kx_iald (q := q0 + 4) S hw hq0.2.2.2.2.2.1 hq0.2.2.2.2.2.2 hb1 dX0_distanceOf_5 ?_
  refine lv_aload_n S.1 S.2.1 dX0_distanceOf_6 rfl (lv_at hl 0 rfl) ?_
  refine gf_X0_24 S hw hq0.1 hq0.2.1 rfl dX0_distanceOf_7 ?_
  refine lv_isub S.1 S.2.1 dX0_distanceOf_10 ?_
  refine va_mabs S.1 S.2.1 (S.2.2.1.trans hl.1.symm) S.2.2.2.1 (S.2.2.2.2 _ q1_211) (S.2.2.2.2 _ q1_212) (S.2.2.2.2 _ q1_8) (S.2.2.2.2 _ q1_213) (Nat.le_of_ble_eq_true rfl) (Nat.le_of_ble_eq_true rfl) (Nat.le_of_ble_eq_true rfl) (Nat.le_of_ble_eq_true rfl) dX0_distanceOf_11 ?_
  obtain ⟨rfl, rfl⟩ := kret hF
  exact hR _ _ _ _ dX0_distanceOf_14 hw (fun h => nomatch h)
set_option maxRecDepth 100000 in
theorem kcX0_distanceOf {p : Program} {l : Launch} {e : Env} {R : Room} {s : State} {m : MethodId} {args : Array Value} {below : List Frame} {meth : Method} {c : Code} {H : Heap} {locs : List Loc} {cells slots : Nat} {Q : State → Prop} {cc : ByteArray} {pc : Nat} {ls : Array Slot} {rest : List Value} {E : kE} {σ ω σ1 : kS} {nL index : Nat} {own : String} {r : Int32} (S : CallFix p m c cc nL s args kBIG own) (hw : kWS E s (cmb σ ω) H locs) (cw : kV own RX0 index yX0_distanceOf cX0_distanceOf 2 (some .int) 1) (hR : 1 + 1 ≤ R.frames ∧ 8 + (2 + 11) + 30 * 1 ≤ R.locals) {q0 : Nat} {a1 : Int32} (hq0 : isM q0) (hF : fX0_distanceOf q0 a1 σ = some (r, σ1)) (hls : ls.size = nL) (hW : (rest.map fun v => v.category).sum ≤ 8) (hdg : decode cc pc = .ok (.invokevirtual index, 3)) (kk : ∀ (H1 : Heap) (locs1 : List Loc), kWS E s (cmb σ1 ω) H1 locs1 → W p l e R s m args below meth c H1 locs1 cells slots Q (F0 m (pc + 3) ls (.int r :: rest))) (hf : cells ≤ R.cells ∧ slots ≤ R.slots := by exact ⟨Nat.le_of_ble_eq_true rfl, Nat.le_of_ble_eq_true rfl⟩) : W p l e R s m args below meth c H locs cells slots Q (F0 m pc ls (.int a1 :: .ref (ead E q0) :: rest)) := kr_calli (mc := 0) (y := yX0_distanceOf) (b := cX0_distanceOf) (n := 0) (lv := 0) (As := []) (ret := some .int) hw (kr_runV (As := [.int a1]) (q := q0) S hw ((mX0_distanceOf (l := l) (E := E) (ω := ω) hq0 hF) H.size) cw hR hq0.1 (Nat.lt_trans hq0.2.1 (by decide)) rfl rfl hls _ rfl hW hdg hf) (fun H1 locs1 h _ => kk H1 locs1 h)
set_option maxHeartbeats 4000000 in
set_option maxRecDepth 100000 in
theorem mX0_isSmelt {l : Launch} {E : kE} {ω σ σ1 : kS} {r : Int32} {q0 : Nat} {a1 : Int32} (hq0 : isM q0) (hF : fX0_isSmelt q0 a1 σ = some (r, σ1)) : kMetI l yX0_isSmelt cX0_isSmelt 2 (some .boolean) 2 E [.ref (ead E q0), .int a1] (cmb σ ω) r (cmb σ1 ω) := by
  refine kMetI.of (by decide +kernel) (Nat.le_of_ble_eq_true rfl) (Or.inr rfl) ?_
  intro p e s m args below meth c Q ls S hR hw hl
  have hl : lv_has ls 2 [(0, .ref (ead E q0)), (1, .int a1)] := hl
  unfold fX0_isSmelt at hF
  refine lv_aload_n S.1 S.2.1 dX0_isSmelt_0 rfl (lv_at hl 0 rfl) ?_
  refine lv_iload_n S.1 S.2.1 dX0_isSmelt_1 rfl (lv_at hl 1 rfl) ?_
  obtain ⟨r3, σ2, e1, hF⟩ := kbi_e hF
  refine kcX0_distanceOf S hw cv_X0_51 ⟨Nat.le_of_ble_eq_true rfl, Nat.le_of_ble_eq_true rfl⟩ hq0 e1 hl.1 (Nat.le_of_ble_eq_true rfl) dX0_isSmelt_2 (fun H locs hw => ?_)
  refine lv_aload_n S.1 S.2.1 dX0_isSmelt_5 rfl (lv_at hl 0 rfl) ?_
  refine lv_iload_n S.1 S.2.1 dX0_isSmelt_6 rfl (lv_at hl 1 rfl) ?_
  obtain ⟨r6, σ5, e4, hF⟩ := kbi_e hF
  refine kcX0_scentOf S hw cv_X0_54 ⟨Nat.le_of_ble_eq_true rfl, Nat.le_of_ble_eq_true rfl⟩ hq0 e4 hl.1 (Nat.le_of_ble_eq_true rfl) dX0_isSmelt_7 (fun H locs hw => ?_)
  refine lv_icmp_gt (tgt := 17) S.1 S.2.1 dX0_isSmelt_10 (by decide) (fun c7 => ?_) (fun c7 => ?_)
  · replace hF := kit hF c7
    refine lv_iconst (v := 0) S.1 S.2.1 dX0_isSmelt_17 (by decide) ?_
    obtain ⟨rfl, rfl⟩ := kret hF
    exact hR _ _ _ _ dX0_isSmelt_18 hw (fun _ => (Or.inl rfl))
  · replace hF := kif hF c7
    refine lv_iconst (v := 1) S.1 S.2.1 dX0_isSmelt_13 (by decide) ?_
    obtain ⟨rfl, rfl⟩ := kret hF
    exact hR _ _ _ _ dX0_isSmelt_18 hw (fun _ => (Or.inr rfl))
set_option maxRecDepth 100000 in
theorem kcX0_isSmelt {p : Program} {l : Launch} {e : Env} {R : Room} {s : State} {m : MethodId} {args : Array Value} {below : List Frame} {meth : Method} {c : Code} {H : Heap} {locs : List Loc} {cells slots : Nat} {Q : State → Prop} {cc : ByteArray} {pc : Nat} {ls : Array Slot} {rest : List Value} {E : kE} {σ ω σ1 : kS} {nL index : Nat} {own : String} {r : Int32} (S : CallFix p m c cc nL s args kBIG own) (hw : kWS E s (cmb σ ω) H locs) (cw : kV own RX0 index yX0_isSmelt cX0_isSmelt 2 (some .boolean) 1) (hR : 2 + 1 ≤ R.frames ∧ 8 + (2 + 11) + 30 * 2 ≤ R.locals) {q0 : Nat} {a1 : Int32} (hq0 : isM q0) (hF : fX0_isSmelt q0 a1 σ = some (r, σ1)) (hls : ls.size = nL) (hW : (rest.map fun v => v.category).sum ≤ 8) (hdg : decode cc pc = .ok (.invokevirtual index, 3)) (kk : ∀ (H1 : Heap) (locs1 : List Loc), kWS E s (cmb σ1 ω) H1 locs1 → ((some .boolean) = some .boolean → r = 0 ∨ r = 1) → W p l e R s m args below meth c H1 locs1 cells slots Q (F0 m (pc + 3) ls (.int r :: rest))) (hf : cells ≤ R.cells ∧ slots ≤ R.slots := by exact ⟨Nat.le_of_ble_eq_true rfl, Nat.le_of_ble_eq_true rfl⟩) : W p l e R s m args below meth c H locs cells slots Q (F0 m pc ls (.int a1 :: .ref (ead E q0) :: rest)) := kr_calli (mc := 0) (y := yX0_isSmelt) (b := cX0_isSmelt) (n := 0) (lv := 0) (As := []) hw (kr_runV (As := [.int a1]) (q := q0) S hw ((mX0_isSmelt (l := l) (E := E) (ω := ω) hq0 hF) H.size) cw hR hq0.1 (Nat.lt_trans hq0.2.1 (by decide)) rfl rfl hls _ rfl hW hdg hf) kk
set_option maxHeartbeats 4000000 in
set_option maxRecDepth 100000 in
theorem wX0_goesTo_L11 {p : Program} {l : Launch} {e : Env} {s : State} {m : MethodId} {args : Array Value} {below : List Frame} {meth : Method} {c : Code} {Q : State → Prop} {E : kE} {ω σ1 : kS} {r : Int32} (S : CallFix p m c cX0_goesTo 8 s args kBIG RX0) (hR : kRetI p l e (rml 2) s m args below meth c cX0_goesTo E Q (some .int) r (cmb σ1 ω))  : ∀ (n : Nat), ∀ (q0 : Nat) (a1 : Int32) (a2 : Int32) (a3 : Int32) (a4 : Int32) (a5 : Int32) (hq0 : isM q0) (σ : kS) (H : Heap) (locs : List Loc) (ls : Array Slot), fX0_goesTo_L11 n q0 a1 a2 a3 a4 a5 σ = some (r, σ1) → kWS E s (cmb σ ω) H locs → lv_has ls 8 [(0, .ref (ead E q0)), (1, .int a1), (2, .int a2), (3, .int a3), (4, .int a4), (5, .int a5)] → W p l e (rml 2) s m args below meth c H locs 0 0 Q (F0 m 11 ls []) := by
  intro n
  induction n with
  | zero =>
    intro q0 a1 a2 a3 a4 a5 hq0 σ H locs ls hF hw hl
    exact absurd hF (fun h => nomatch h)
  | succ n ih =>
    intro q0 a1 a2 a3 a4 a5 hq0 σ H locs ls hF hw hl
    rw [fX0_goesTo_L11] at hF
    refine lv_iload S.1 S.2.1 dX0_goesTo_11 (lv_at hl 5 rfl) ?_
    refine lv_aload_n S.1 S.2.1 dX0_goesTo_13 rfl (lv_at hl 0 rfl) ?_
    refine gf_X0_31 S hw hq0.1 hq0.2.1 rfl dX0_goesTo_14 ?_
    refine lv_icmp_ge (tgt := 111) S.1 S.2.1 dX0_goesTo_17 (by decide) (fun c1 => ?_) (fun c1 => ?_)
    · replace hF := kit hF c1
      refine lv_iload_n S.1 S.2.1 dX0_goesTo_111 rfl (lv_at hl 2 rfl) ?_
      obtain ⟨rfl, rfl⟩ := kret hF
      exact hR _ _ _ _ dX0_goesTo_112 hw (fun h => nomatch h)
    · replace hF := kif hF c1
      refine lv_aload_n S.1 S.2.1 dX0_goesTo_20 rfl (lv_at hl 0 rfl) ?_
      refine gf_X0_15 S hw hq0.1 hq0.2.1 rfl dX0_goesTo_21 ?_
      refine lv_iload S.1 S.2.1 dX0_goesTo_24 (lv_at hl 5 rfl) ?_
      obtain ⟨hb2, hF⟩ := kin hF
      refine kx_iald (q := q0 + 2) S hw hq0.2.2.2.1.1 hq0.2.2.2.1.2 hb2 dX0_goesTo_26 ?_
      refine lv_aload_n S.1 S.2.1 dX0_goesTo_27 rfl (lv_at hl 0 rfl) ?_
      refine gf_X0_18 S hw hq0.1 hq0.2.1 rfl dX0_goesTo_28 ?_
      refine lv_iload_n S.1 S.2.1 dX0_goesTo_31 rfl (lv_at hl 1 rfl) ?_
      obtain ⟨hb3, hF⟩ := kin hF
      refine kx_iald (q := q0 + 3) S hw hq0.2.2.2.2.1.1 hq0.2.2.2.2.1.2 hb3 dX0_goesTo_32 ?_
      refine lv_ixor S.1 S.2.1 dX0_goesTo_33 ?_
      obtain ⟨r6, σ5, e4, hF⟩ := kbi_e hF
      refine kcJ6_bitCount_0f7a4 S hw cv_X0_40 ⟨Nat.le_of_ble_eq_true rfl, Nat.le_of_ble_eq_true rfl⟩ e4 hl.1 (Nat.le_of_ble_eq_true rfl) dX0_goesTo_34 (fun H locs hw => ?_)
      refine lv_istore (lv' := [(6, .int r6), (0, .ref (ead E q0)), (1, .int a1), (2, .int a2), (3, .int a3), (4, .int a4), (5, .int a5)]) S.1 S.2.1 dX0_goesTo_37 hl (by decide) rfl (fun ls hl => ?_)
      refine lv_aload_n S.1 S.2.1 dX0_goesTo_39 rfl (lv_at hl 1 rfl) ?_
      refine lv_iload S.1 S.2.1 dX0_goesTo_40 (lv_at hl 6 rfl) ?_
      obtain ⟨r9, σ8, e7, hF⟩ := kbi_e hF
      refine kcX0_distanceOf S hw cv_X0_51 ⟨Nat.le_of_ble_eq_true rfl, Nat.le_of_ble_eq_true rfl⟩ hq0 e7 hl.1 (Nat.le_of_ble_eq_true rfl) dX0_goesTo_42 (fun H locs hw => ?_)
      refine lv_istore (lv' := [(7, .int r9), (6, .int r6), (0, .ref (ead E q0)), (1, .int a1), (2, .int a2), (3, .int a3), (4, .int a4), (5, .int a5)]) S.1 S.2.1 dX0_goesTo_45 hl (by decide) rfl (fun ls hl => ?_)
      refine lv_iload S.1 S.2.1 dX0_goesTo_47 (lv_at hl 1 rfl) ?_
      refine lv_aload_n S.1 S.2.1 dX0_goesTo_49 rfl (lv_at hl 2 rfl) ?_
      refine gf_X0_28 S hw hq0.1 hq0.2.1 rfl dX0_goesTo_50 ?_
      refine lv_icmp_gt (tgt := 105) S.1 S.2.1 dX0_goesTo_53 (by decide) (fun c10 => ?_) (fun c10 => ?_)
      · replace hF := kit hF c10
        obtain ⟨v11, ev11⟩ : ∃ y : Int32, y = a5 + 1 := ⟨_, rfl⟩
        replace hF := klb hF ev11
        refine lv_iinc (v := v11) (lv' := [(5, .int v11), (7, .int r9), (6, .int r6), (0, .ref (ead E q0)), (1, .int a1), (2, .int a2), (3, .int a3), (4, .int a4)]) S.1 S.2.1 dX0_goesTo_105 hl (k := 7) rfl (by rw [ev11]; rfl) (by decide) rfl (fun ls hl => ?_)
        exact ih q0 a1 a2 a3 a4 v11 hq0 _ _ _ _ hF hw (lv_sub hl [3, 4, 5, 6, 7, 0] rfl)
      · replace hF := kif hF c10
        refine lv_iload S.1 S.2.1 dX0_goesTo_56 (lv_at hl 0 rfl) ?_
        refine lv_aload_n S.1 S.2.1 dX0_goesTo_58 rfl (lv_at hl 2 rfl) ?_
        refine lv_iload S.1 S.2.1 dX0_goesTo_59 (lv_at hl 7 rfl) ?_
        obtain ⟨r14, σ13, e12, hF⟩ := kbi_e hF
        refine kcX0_scentOf S hw cv_X0_54 ⟨Nat.le_of_ble_eq_true rfl, Nat.le_of_ble_eq_true rfl⟩ hq0 e12 hl.1 (Nat.le_of_ble_eq_true rfl) dX0_goesTo_61 (fun H locs hw => ?_)
        refine lv_icmp_le (tgt := 70) S.1 S.2.1 dX0_goesTo_64 (by decide) (fun c15 => ?_) (fun c15 => ?_)
        · replace hF := kit hF c15
          refine lv_iload_n S.1 S.2.1 dX0_goesTo_70 rfl (lv_at hl 4 rfl) ?_
          refine lv_bipush (v := (-9)) S.1 S.2.1 dX0_goesTo_71 (by decide) ?_
          refine lv_icmp_eq (tgt := 95) S.1 S.2.1 dX0_goesTo_73 (by decide) (fun c16 => ?_) (fun c16 => ?_)
          · replace hF := kit hF c16
            refine lv_iload S.1 S.2.1 dX0_goesTo_95 (lv_at hl 7 rfl) ?_
            refine lv_istore_n (lv' := [(2, .int a5), (7, .int r9), (6, .int r6), (0, .ref (ead E q0)), (1, .int a1), (3, .int a3), (4, .int a4), (5, .int a5)]) S.1 S.2.1 dX0_goesTo_97 rfl hl (by decide) rfl (fun ls hl => ?_)
            refine lv_iload S.1 S.2.1 dX0_goesTo_98 (lv_at hl 2 rfl) ?_
            refine lv_istore_n (lv' := [(3, .int r6), (2, .int a5), (7, .int r9), (6, .int r6), (0, .ref (ead E q0)), (1, .int a1), (4, .int a4), (5, .int a5)]) S.1 S.2.1 dX0_goesTo_100 rfl hl (by decide) rfl (fun ls hl => ?_)
            refine lv_iload S.1 S.2.1 dX0_goesTo_101 (lv_at hl 2 rfl) ?_
            refine lv_istore (lv' := [(4, .int r9), (3, .int r6), (2, .int a5), (7, .int r9), (6, .int r6), (0, .ref (ead E q0)), (1, .int a1), (5, .int a5)]) S.1 S.2.1 dX0_goesTo_103 hl (by decide) rfl (fun ls hl => ?_)
            obtain ⟨v17, ev17⟩ : ∃ y : Int32, y = a5 + 1 := ⟨_, rfl⟩
            replace hF := klb hF ev17
            refine lv_iinc (v := v17) (lv' := [(5, .int v17), (4, .int r9), (3, .int r6), (2, .int a5), (7, .int r9), (6, .int r6), (0, .ref (ead E q0)), (1, .int a1)]) S.1 S.2.1 dX0_goesTo_105 hl (k := 7) rfl (by rw [ev17]; rfl) (by decide) rfl (fun ls hl => ?_)
            exact ih q0 a1 a5 r6 r9 v17 hq0 _ _ _ _ hF hw (lv_sub hl [6, 7, 3, 2, 1, 0] rfl)
          · replace hF := kif hF c16
            refine lv_iload S.1 S.2.1 dX0_goesTo_76 (lv_at hl 1 rfl) ?_
            refine lv_iload_n S.1 S.2.1 dX0_goesTo_78 rfl (lv_at hl 5 rfl) ?_
            refine lv_icmp_lt (tgt := 95) S.1 S.2.1 dX0_goesTo_79 (by decide) (fun c18 => ?_) (fun c18 => ?_)
            · replace hF := kit hF c18
              refine lv_iload S.1 S.2.1 dX0_goesTo_95 (lv_at hl 7 rfl) ?_
              refine lv_istore_n (lv' := [(2, .int a5), (7, .int r9), (6, .int r6), (0, .ref (ead E q0)), (1, .int a1), (3, .int a3), (4, .int a4), (5, .int a5)]) S.1 S.2.1 dX0_goesTo_97 rfl hl (by decide) rfl (fun ls hl => ?_)
              refine lv_iload S.1 S.2.1 dX0_goesTo_98 (lv_at hl 2 rfl) ?_
              refine lv_istore_n (lv' := [(3, .int r6), (2, .int a5), (7, .int r9), (6, .int r6), (0, .ref (ead E q0)), (1, .int a1), (4, .int a4), (5, .int a5)]) S.1 S.2.1 dX0_goesTo_100 rfl hl (by decide) rfl (fun ls hl => ?_)
              refine lv_iload S.1 S.2.1 dX0_goesTo_101 (lv_at hl 2 rfl) ?_
              refine lv_istore (lv' := [(4, .int r9), (3, .int r6), (2, .int a5), (7, .int r9), (6, .int r6), (0, .ref (ead E q0)), (1, .int a1), (5, .int a5)]) S.1 S.2.1 dX0_goesTo_103 hl (by decide) rfl (fun ls hl => ?_)
              obtain ⟨v19, ev19⟩ : ∃ y : Int32, y = a5 + 1 := ⟨_, rfl⟩
              replace hF := klb hF ev19
              refine lv_iinc (v := v19) (lv' := [(5, .int v19), (4, .int r9), (3, .int r6), (2, .int a5), (7, .int r9), (6, .int r6), (0, .ref (ead E q0)), (1, .int a1)]) S.1 S.2.1 dX0_goesTo_105 hl (k := 7) rfl (by rw [ev19]; rfl) (by decide) rfl (fun ls hl => ?_)
              exact ih q0 a1 a5 r6 r9 v19 hq0 _ _ _ _ hF hw (lv_sub hl [6, 7, 3, 2, 1, 0] rfl)
            · replace hF := kif hF c18
              refine lv_iload S.1 S.2.1 dX0_goesTo_82 (lv_at hl 1 rfl) ?_
              refine lv_iload_n S.1 S.2.1 dX0_goesTo_84 rfl (lv_at hl 5 rfl) ?_
              refine lv_icmp_ne (tgt := 105) S.1 S.2.1 dX0_goesTo_85 (by decide) (fun c20 => ?_) (fun c20 => ?_)
              · replace hF := kif hF c20
                obtain ⟨v21, ev21⟩ : ∃ y : Int32, y = a5 + 1 := ⟨_, rfl⟩
                replace hF := klb hF ev21
                refine lv_iinc (v := v21) (lv' := [(5, .int v21), (7, .int r9), (6, .int r6), (0, .ref (ead E q0)), (1, .int a1), (2, .int a2), (3, .int a3), (4, .int a4)]) S.1 S.2.1 dX0_goesTo_105 hl (k := 7) rfl (by rw [ev21]; rfl) (by decide) rfl (fun ls hl => ?_)
                exact ih q0 a1 a2 a3 a4 v21 hq0 _ _ _ _ hF hw (lv_sub hl [3, 4, 5, 6, 7, 0] rfl)
              · replace hF := kit hF c20
                refine lv_iload S.1 S.2.1 dX0_goesTo_88 (lv_at hl 0 rfl) ?_
                refine lv_iload S.1 S.2.1 dX0_goesTo_90 (lv_at hl 6 rfl) ?_
                refine lv_icmp_ge (tgt := 105) S.1 S.2.1 dX0_goesTo_92 (by decide) (fun c22 => ?_) (fun c22 => ?_)
                · replace hF := kit hF c22
                  obtain ⟨v23, ev23⟩ : ∃ y : Int32, y = a5 + 1 := ⟨_, rfl⟩
                  replace hF := klb hF ev23
                  refine lv_iinc (v := v23) (lv' := [(5, .int v23), (7, .int r9), (6, .int r6), (0, .ref (ead E q0)), (1, .int a1), (2, .int a2), (3, .int a3), (4, .int a4)]) S.1 S.2.1 dX0_goesTo_105 hl (k := 7) rfl (by rw [ev23]; rfl) (by decide) rfl (fun ls hl => ?_)
                  exact ih q0 a1 a2 a3 a4 v23 hq0 _ _ _ _ hF hw (lv_sub hl [3, 4, 5, 6, 7, 0] rfl)
                · replace hF := kif hF c22
                  refine lv_iload S.1 S.2.1 dX0_goesTo_95 (lv_at hl 7 rfl) ?_
                  refine lv_istore_n (lv' := [(2, .int a5), (7, .int r9), (6, .int r6), (0, .ref (ead E q0)), (1, .int a1), (3, .int a3), (4, .int a4), (5, .int a5)]) S.1 S.2.1 dX0_goesTo_97 rfl hl (by decide) rfl (fun ls hl => ?_)
                  refine lv_iload S.1 S.2.1 dX0_goesTo_98 (lv_at hl 2 rfl) ?_
                  refine lv_istore_n (lv' := [(3, .int r6), (2, .int a5), (7, .int r9), (6, .int r6), (0, .ref (ead E q0)), (1, .int a1), (4, .int a4), (5, .int a5)]) S.1 S.2.1 dX0_goesTo_100 rfl hl (by decide) rfl (fun ls hl => ?_)
                  refine lv_iload S.1 S.2.1 dX0_goesTo_101 (lv_at hl 2 rfl) ?_
                  refine lv_istore (lv' := [(4, .int r9), (3, .int r6), (2, .int a5), (7, .int r9), (6, .int r6), (0, .ref (ead E q0)), (1, .int a1), (5, .int a5)]) S.1 S.2.1 dX0_goesTo_103 hl (by decide) rfl (fun ls hl => ?_)
                  obtain ⟨v24, ev24⟩ : ∃ y : Int32, y = a5 + 1 := ⟨_, rfl⟩
                  replace hF := klb hF ev24
                  refine lv_iinc (v := v24) (lv' := [(5, .int v24), (4, .int r9), (3, .int r6), (2, .int a5), (7, .int r9), (6, .int r6), (0, .ref (ead E q0)), (1, .int a1)]) S.1 S.2.1 dX0_goesTo_105 hl (k := 7) rfl (by rw [ev24]; rfl) (by decide) rfl (fun ls hl => ?_)
                  exact ih q0 a1 a5 r6 r9 v24 hq0 _ _ _ _ hF hw (lv_sub hl [6, 7, 3, 2, 1, 0] rfl)
        · replace hF := kif hF c15
          obtain ⟨v25, ev25⟩ : ∃ y : Int32, y = a5 + 1 := ⟨_, rfl⟩
          replace hF := klb hF ev25
          refine lv_iinc (v := v25) (lv' := [(5, .int v25), (7, .int r9), (6, .int r6), (0, .ref (ead E q0)), (1, .int a1), (2, .int a2), (3, .int a3), (4, .int a4)]) S.1 S.2.1 dX0_goesTo_105 hl (k := 7) rfl (by rw [ev25]; rfl) (by decide) rfl (fun ls hl => ?_)
          exact ih q0 a1 a2 a3 a4 v25 hq0 _ _ _ _ hF hw (lv_sub hl [3, 4, 5, 6, 7, 0] rfl)
set_option maxHeartbeats 4000000 in
set_option maxRecDepth 100000 in
theorem mX0_goesTo {l : Launch} {E : kE} {ω σ σ1 : kS} {r : Int32} {q0 : Nat} {a1 : Int32} (hq0 : isM q0) (hF : fX0_goesTo q0 a1 σ = some (r, σ1)) : kMetI l yX0_goesTo cX0_goesTo 8 (some .int) 2 E [.ref (ead E q0), .int a1] (cmb σ ω) r (cmb σ1 ω) := by
  refine kMetI.of (by decide +kernel) (Nat.le_of_ble_eq_true rfl) (Or.inl rfl) ?_
  intro p e s m args below meth c Q ls S hR hw hl
  have hl : lv_has ls 8 [(0, .ref (ead E q0)), (1, .int a1)] := hl
  unfold fX0_goesTo at hF
  refine lv_bipush (v := (-9)) S.1 S.2.1 dX0_goesTo_0 (by decide) ?_
  refine lv_istore_n (lv' := [(2, .int (-9)), (0, .ref (ead E q0)), (1, .int a1)]) S.1 S.2.1 dX0_goesTo_2 rfl hl (by decide) rfl (fun ls hl => ?_)
  refine lv_iconst (v := 0) S.1 S.2.1 dX0_goesTo_3 (by decide) ?_
  refine lv_istore_n (lv' := [(3, .int 0), (2, .int (-9)), (0, .ref (ead E q0)), (1, .int a1)]) S.1 S.2.1 dX0_goesTo_4 rfl hl (by decide) rfl (fun ls hl => ?_)
  refine lv_iconst (v := 0) S.1 S.2.1 dX0_goesTo_5 (by decide) ?_
  refine lv_istore (lv' := [(4, .int 0), (3, .int 0), (2, .int (-9)), (0, .ref (ead E q0)), (1, .int a1)]) S.1 S.2.1 dX0_goesTo_6 hl (by decide) rfl (fun ls hl => ?_)
  refine lv_iconst (v := 0) S.1 S.2.1 dX0_goesTo_8 (by decide) ?_
  refine lv_istore (lv' := [(5, .int 0), (4, .int 0), (3, .int 0), (2, .int (-9)), (0, .ref (ead E q0)), (1, .int a1)]) S.1 S.2.1 dX0_goesTo_9 hl (by decide) rfl (fun ls hl => ?_)
  exact wX0_goesTo_L11 S hR 1000 q0 a1 (-9) 0 0 0 hq0 _ _ _ _ hF hw (lv_sub hl [4, 5, 3, 2, 1, 0] rfl)
set_option maxRecDepth 100000 in
theorem kcX0_goesTo {p : Program} {l : Launch} {e : Env} {R : Room} {s : State} {m : MethodId} {args : Array Value} {below : List Frame} {meth : Method} {c : Code} {H : Heap} {locs : List Loc} {cells slots : Nat} {Q : State → Prop} {cc : ByteArray} {pc : Nat} {ls : Array Slot} {rest : List Value} {E : kE} {σ ω σ1 : kS} {nL index : Nat} {own : String} {r : Int32} (S : CallFix p m c cc nL s args kBIG own) (hw : kWS E s (cmb σ ω) H locs) (cw : kV own RX0 index yX0_goesTo cX0_goesTo 8 (some .int) 1) (hR : 2 + 1 ≤ R.frames ∧ 8 + (8 + 11) + 30 * 2 ≤ R.locals) {q0 : Nat} {a1 : Int32} (hq0 : isM q0) (hF : fX0_goesTo q0 a1 σ = some (r, σ1)) (hls : ls.size = nL) (hW : (rest.map fun v => v.category).sum ≤ 8) (hdg : decode cc pc = .ok (.invokevirtual index, 3)) (kk : ∀ (H1 : Heap) (locs1 : List Loc), kWS E s (cmb σ1 ω) H1 locs1 → W p l e R s m args below meth c H1 locs1 cells slots Q (F0 m (pc + 3) ls (.int r :: rest))) (hf : cells ≤ R.cells ∧ slots ≤ R.slots := by exact ⟨Nat.le_of_ble_eq_true rfl, Nat.le_of_ble_eq_true rfl⟩) : W p l e R s m args below meth c H locs cells slots Q (F0 m pc ls (.int a1 :: .ref (ead E q0) :: rest)) := kr_calli (mc := 0) (y := yX0_goesTo) (b := cX0_goesTo) (n := 0) (lv := 0) (As := []) (ret := some .int) hw (kr_runV (As := [.int a1]) (q := q0) S hw ((mX0_goesTo (l := l) (E := E) (ω := ω) hq0 hF) H.size) cw hR hq0.1 (Nat.lt_trans hq0.2.1 (by decide)) rfl rfl hls _ rfl hW hdg hf) (fun H1 locs1 h _ => kk H1 locs1 h)
set_option maxHeartbeats 4000000 in
set_option maxRecDepth 100000 in
theorem mX0_deliver {l : Launch} {E : kE} {ω σ σ1 : kS} {r : Int32} {q0 : Nat} {a1 : Int32} (hq0 : isM q0) (hF : fX0_deliver q0 a1 σ = some (r, σ1)) : kMetI l yX0_deliver cX0_deliver 3 (some .int) 3 E [.ref (ead E q0), .int a1] (cmb σ ω) r (cmb σ1 ω) := by
  refine kMetI.of (by decide +kernel) (Nat.le_of_ble_eq_true rfl) (Or.inl rfl) ?_
  intro p e s m args below meth c Q ls S hR hw hl
  have hl : lv_has ls 3 [(0, .ref (ead E q0)), (1, .int a1)] := hl
  unfold fX0_deliver at hF
  refine lv_aload_n S.1 S.2.1 dX0_deliver_0 rfl (lv_at hl 0 rfl) ?_
  refine lv_iload_n S.1 S.2.1 dX0_deliver_1 rfl (lv_at hl 1 rfl) ?_
  obtain ⟨r3, σ2, e1, hF⟩ := kbi_e hF
  refine kcX0_goesTo S hw cv_X0_57 ⟨Nat.le_of_ble_eq_true rfl, Nat.le_of_ble_eq_true rfl⟩ hq0 e1 hl.1 (Nat.le_of_ble_eq_true rfl) dX0_deliver_2 (fun H locs hw => ?_)
  refine lv_istore_n (lv' := [(2, .int r3), (0, .ref (ead E q0)), (1, .int a1)]) S.1 S.2.1 dX0_deliver_5 rfl hl (by decide) rfl (fun ls hl => ?_)
  refine lv_iload_n S.1 S.2.1 dX0_deliver_6 rfl (lv_at hl 0 rfl) ?_
  refine lv_bipush (v := (-9)) S.1 S.2.1 dX0_deliver_7 (by decide) ?_
  refine lv_icmp_eq (tgt := 24) S.1 S.2.1 dX0_deliver_9 (by decide) (fun c4 => ?_) (fun c4 => ?_)
  · replace hF := kit hF c4
    refine lv_iload_n S.1 S.2.1 dX0_deliver_24 rfl (lv_at hl 0 rfl) ?_
    obtain ⟨rfl, rfl⟩ := kret hF
    exact hR _ _ _ _ dX0_deliver_25 hw (fun h => nomatch h)
  · replace hF := kif hF c4
    refine lv_aload_n S.1 S.2.1 dX0_deliver_12 rfl (lv_at hl 1 rfl) ?_
    refine gf_X0_18 S hw hq0.1 hq0.2.1 rfl dX0_deliver_13 ?_
    refine lv_iload_n S.1 S.2.1 dX0_deliver_16 rfl (lv_at hl 0 rfl) ?_
    refine lv_aload_n S.1 S.2.1 dX0_deliver_17 rfl (lv_at hl 1 rfl) ?_
    refine gf_X0_15 S hw hq0.1 hq0.2.1 rfl dX0_deliver_18 ?_
    refine lv_iload_n S.1 S.2.1 dX0_deliver_21 rfl (lv_at hl 0 rfl) ?_
    obtain ⟨hb5, hF⟩ := kin hF
    refine kx_iald (q := q0 + 2) S hw hq0.2.2.2.1.1 hq0.2.2.2.1.2 hb5 dX0_deliver_22 ?_
    obtain ⟨hb6, hF⟩ := kin hF
    refine kx_iast (q := q0 + 3) S hw hq0.2.2.2.2.1.1 hq0.2.2.2.2.1.2 hb6 dX0_deliver_23 (fun H locs hw => ?_)
    refine lv_iload_n S.1 S.2.1 dX0_deliver_24 rfl (lv_at hl 0 rfl) ?_
    obtain ⟨rfl, rfl⟩ := kret hF
    exact hR _ _ _ _ dX0_deliver_25 hw (fun h => nomatch h)
set_option maxRecDepth 100000 in
theorem kcX0_deliver {p : Program} {l : Launch} {e : Env} {R : Room} {s : State} {m : MethodId} {args : Array Value} {below : List Frame} {meth : Method} {c : Code} {H : Heap} {locs : List Loc} {cells slots : Nat} {Q : State → Prop} {cc : ByteArray} {pc : Nat} {ls : Array Slot} {rest : List Value} {E : kE} {σ ω σ1 : kS} {nL index : Nat} {own : String} {r : Int32} (S : CallFix p m c cc nL s args kBIG own) (hw : kWS E s (cmb σ ω) H locs) (cw : kV own RX0 index yX0_deliver cX0_deliver 3 (some .int) 1) (hR : 3 + 1 ≤ R.frames ∧ 8 + (3 + 11) + 30 * 3 ≤ R.locals) {q0 : Nat} {a1 : Int32} (hq0 : isM q0) (hF : fX0_deliver q0 a1 σ = some (r, σ1)) (hls : ls.size = nL) (hW : (rest.map fun v => v.category).sum ≤ 8) (hdg : decode cc pc = .ok (.invokevirtual index, 3)) (kk : ∀ (H1 : Heap) (locs1 : List Loc), kWS E s (cmb σ1 ω) H1 locs1 → W p l e R s m args below meth c H1 locs1 cells slots Q (F0 m (pc + 3) ls (.int r :: rest))) (hf : cells ≤ R.cells ∧ slots ≤ R.slots := by exact ⟨Nat.le_of_ble_eq_true rfl, Nat.le_of_ble_eq_true rfl⟩) : W p l e R s m args below meth c H locs cells slots Q (F0 m pc ls (.int a1 :: .ref (ead E q0) :: rest)) := kr_calli (mc := 0) (y := yX0_deliver) (b := cX0_deliver) (n := 0) (lv := 0) (As := []) (ret := some .int) hw (kr_runV (As := [.int a1]) (q := q0) S hw ((mX0_deliver (l := l) (E := E) (ω := ω) hq0 hF) H.size) cw hR hq0.1 (Nat.lt_trans hq0.2.1 (by decide)) rfl rfl hls _ rfl hW hdg hf) (fun H1 locs1 h _ => kk H1 locs1 h)
set_option maxHeartbeats 4000000 in
set_option maxRecDepth 100000 in
theorem wX0_whoseCome_L4 {p : Program} {l : Launch} {e : Env} {s : State} {m : MethodId} {args : Array Value} {below : List Frame} {meth : Method} {c : Code} {Q : State → Prop} {E : kE} {ω σ1 : kS} {r : Int32} (S : CallFix p m c cX0_whoseCome 3 s args kBIG RX0) (hR : kRetI p l e (rml 3) s m args below meth c cX0_whoseCome E Q (some .int) r (cmb σ1 ω))  : ∀ (n : Nat), ∀ (q0 : Nat) (a1 : Int32) (a2 : Int32) (hq0 : isM q0) (σ : kS) (H : Heap) (locs : List Loc) (ls : Array Slot), fX0_whoseCome_L4 n q0 a1 a2 σ = some (r, σ1) → kWS E s (cmb σ ω) H locs → lv_has ls 3 [(0, .ref (ead E q0)), (1, .int a1), (2, .int a2)] → W p l e (rml 3) s m args below meth c H locs 0 0 Q (F0 m 4 ls []) := by
  intro n
  induction n with
  | zero =>
    intro q0 a1 a2 hq0 σ H locs ls hF hw hl
    exact absurd hF (fun h => nomatch h)
  | succ n ih =>
    intro q0 a1 a2 hq0 σ H locs ls hF hw hl
    rw [fX0_whoseCome_L4] at hF
    refine lv_iload_n S.1 S.2.1 dX0_whoseCome_4 rfl (lv_at hl 2 rfl) ?_
    refine lv_aload_n S.1 S.2.1 dX0_whoseCome_5 rfl (lv_at hl 0 rfl) ?_
    refine gf_X0_31 S hw hq0.1 hq0.2.1 rfl dX0_whoseCome_6 ?_
    refine lv_icmp_ge (tgt := 33) S.1 S.2.1 dX0_whoseCome_9 (by decide) (fun c1 => ?_) (fun c1 => ?_)
    · replace hF := kit hF c1
      refine lv_iload_n S.1 S.2.1 dX0_whoseCome_33 rfl (lv_at hl 1 rfl) ?_
      obtain ⟨rfl, rfl⟩ := kret hF
      exact hR _ _ _ _ dX0_whoseCome_34 hw (fun h => nomatch h)
    · replace hF := kif hF c1
      refine lv_aload_n S.1 S.2.1 dX0_whoseCome_12 rfl (lv_at hl 0 rfl) ?_
      refine lv_iload_n S.1 S.2.1 dX0_whoseCome_13 rfl (lv_at hl 2 rfl) ?_
      obtain ⟨r4, σ3, e2, hF⟩ := kbi_e hF
      refine kcX0_goesTo S hw cv_X0_57 ⟨Nat.le_of_ble_eq_true rfl, Nat.le_of_ble_eq_true rfl⟩ hq0 e2 hl.1 (Nat.le_of_ble_eq_true rfl) dX0_whoseCome_14 (fun H locs hw => ?_)
      refine lv_iload_n S.1 S.2.1 dX0_whoseCome_17 rfl (lv_at hl 2 rfl) ?_
      refine lv_icmp_ne (tgt := 27) S.1 S.2.1 dX0_whoseCome_18 (by decide) (fun c5 => ?_) (fun c5 => ?_)
      · replace hF := kif hF c5
        obtain ⟨v6, ev6⟩ : ∃ y : Int32, y = a2 + 1 := ⟨_, rfl⟩
        replace hF := klb hF ev6
        refine lv_iinc (v := v6) (lv' := [(2, .int v6), (0, .ref (ead E q0)), (1, .int a1)]) S.1 S.2.1 dX0_whoseCome_27 hl (k := 2) rfl (by rw [ev6]; rfl) (by decide) rfl (fun ls hl => ?_)
        exact ih q0 a1 v6 hq0 _ _ _ _ hF hw (lv_sub hl [1, 2, 0] rfl)
      · replace hF := kit hF c5
        refine lv_iload_n S.1 S.2.1 dX0_whoseCome_21 rfl (lv_at hl 1 rfl) ?_
        refine lv_iconst (v := 1) S.1 S.2.1 dX0_whoseCome_22 (by decide) ?_
        refine lv_iload_n S.1 S.2.1 dX0_whoseCome_23 rfl (lv_at hl 2 rfl) ?_
        refine lv_ishl S.1 S.2.1 dX0_whoseCome_24 ?_
        refine lv_ior S.1 S.2.1 dX0_whoseCome_25 ?_
        refine lv_topi (fun v7 ev7 => ?_)
        replace hF := klb hF ev7
        refine lv_istore_n (lv' := [(1, .int v7), (0, .ref (ead E q0)), (2, .int a2)]) S.1 S.2.1 dX0_whoseCome_26 rfl hl (by decide) rfl (fun ls hl => ?_)
        obtain ⟨v8, ev8⟩ : ∃ y : Int32, y = a2 + 1 := ⟨_, rfl⟩
        replace hF := klb hF ev8
        refine lv_iinc (v := v8) (lv' := [(2, .int v8), (1, .int v7), (0, .ref (ead E q0))]) S.1 S.2.1 dX0_whoseCome_27 hl (k := 2) rfl (by rw [ev8]; rfl) (by decide) rfl (fun ls hl => ?_)
        exact ih q0 v7 v8 hq0 _ _ _ _ hF hw (lv_sub hl [2, 1, 0] rfl)
set_option maxHeartbeats 4000000 in
set_option maxRecDepth 100000 in
theorem mX0_whoseCome {l : Launch} {E : kE} {ω σ σ1 : kS} {r : Int32} {q0 : Nat} (hq0 : isM q0) (hF : fX0_whoseCome q0 σ = some (r, σ1)) : kMetI l yX0_whoseCome cX0_whoseCome 3 (some .int) 3 E [.ref (ead E q0)] (cmb σ ω) r (cmb σ1 ω) := by
  refine kMetI.of (by decide +kernel) (Nat.le_of_ble_eq_true rfl) (Or.inl rfl) ?_
  intro p e s m args below meth c Q ls S hR hw hl
  have hl : lv_has ls 3 [(0, .ref (ead E q0))] := hl
  unfold fX0_whoseCome at hF
  refine lv_iconst (v := 0) S.1 S.2.1 dX0_whoseCome_0 (by decide) ?_
  refine lv_istore_n (lv' := [(1, .int 0), (0, .ref (ead E q0))]) S.1 S.2.1 dX0_whoseCome_1 rfl hl (by decide) rfl (fun ls hl => ?_)
  refine lv_iconst (v := 0) S.1 S.2.1 dX0_whoseCome_2 (by decide) ?_
  refine lv_istore_n (lv' := [(2, .int 0), (1, .int 0), (0, .ref (ead E q0))]) S.1 S.2.1 dX0_whoseCome_3 rfl hl (by decide) rfl (fun ls hl => ?_)
  exact wX0_whoseCome_L4 S hR 1000 q0 0 0 hq0 _ _ _ _ hF hw (lv_sub hl [2, 1, 0] rfl)
set_option maxRecDepth 100000 in
theorem kcX0_whoseCome {p : Program} {l : Launch} {e : Env} {R : Room} {s : State} {m : MethodId} {args : Array Value} {below : List Frame} {meth : Method} {c : Code} {H : Heap} {locs : List Loc} {cells slots : Nat} {Q : State → Prop} {cc : ByteArray} {pc : Nat} {ls : Array Slot} {rest : List Value} {E : kE} {σ ω σ1 : kS} {nL index : Nat} {own : String} {r : Int32} (S : CallFix p m c cc nL s args kBIG own) (hw : kWS E s (cmb σ ω) H locs) (cw : kV own RX0 index yX0_whoseCome cX0_whoseCome 3 (some .int) 0) (hR : 3 + 1 ≤ R.frames ∧ 8 + (3 + 11) + 30 * 3 ≤ R.locals) {q0 : Nat} (hq0 : isM q0) (hF : fX0_whoseCome q0 σ = some (r, σ1)) (hls : ls.size = nL) (hW : (rest.map fun v => v.category).sum ≤ 8) (hdg : decode cc pc = .ok (.invokevirtual index, 3)) (kk : ∀ (H1 : Heap) (locs1 : List Loc), kWS E s (cmb σ1 ω) H1 locs1 → W p l e R s m args below meth c H1 locs1 cells slots Q (F0 m (pc + 3) ls (.int r :: rest))) (hf : cells ≤ R.cells ∧ slots ≤ R.slots := by exact ⟨Nat.le_of_ble_eq_true rfl, Nat.le_of_ble_eq_true rfl⟩) : W p l e R s m args below meth c H locs cells slots Q (F0 m pc ls (.ref (ead E q0) :: rest)) := kr_calli (mc := 0) (y := yX0_whoseCome) (b := cX0_whoseCome) (n := 0) (lv := 0) (As := []) (ret := some .int) hw (kr_runV (As := []) (q := q0) S hw ((mX0_whoseCome (l := l) (E := E) (ω := ω) hq0 hF) H.size) cw hR hq0.1 (Nat.lt_trans hq0.2.1 (by decide)) rfl rfl hls _ rfl hW hdg hf) (fun H1 locs1 h _ => kk H1 locs1 h)
set_option maxHeartbeats 4000000 in
set_option maxRecDepth 100000 in
theorem mX4_withOne {l : Launch} {E : kE} {ω σ σ1 : kS} {r : Int32} {a0 : Int32} {a1 : Int32}  (hF : fX4_withOne a0 a1 σ = some (r, σ1)) : kMetI l yX4_withOne cX4_withOne 2 (some .int) 0 E [.int a0, .int a1] (cmb σ ω) r (cmb σ1 ω) := by
  refine kMetI.of (by decide +kernel) (Nat.le_of_ble_eq_true rfl) (Or.inl rfl) ?_
  intro p e s m args below meth c Q ls S hR hw hl
  have hl : lv_has ls 2 [(0, .int a0), (1, .int a1)] := hl
  unfold fX4_withOne at hF
  refine lv_iload_n S.1 S.2.1 dX4_withOne_0 rfl (lv_at hl 1 rfl) ?_
  refine lv_bipush (v := (-9)) S.1 S.2.1 dX4_withOne_1 (by decide) ?_
  refine lv_icmp_ne (tgt := 10) S.1 S.2.1 dX4_withOne_3 (by decide) (fun c1 => ?_) (fun c1 => ?_)
  · replace hF := kif hF c1
    refine lv_iload_n S.1 S.2.1 dX4_withOne_10 rfl (lv_at hl 0 rfl) ?_
    refine lv_iconst (v := 1) S.1 S.2.1 dX4_withOne_11 (by decide) ?_
    refine lv_iload_n S.1 S.2.1 dX4_withOne_12 rfl (lv_at hl 1 rfl) ?_
    refine lv_ishl S.1 S.2.1 dX4_withOne_13 ?_
    refine lv_ior S.1 S.2.1 dX4_withOne_14 ?_
    obtain ⟨rfl, rfl⟩ := kret hF
    exact hR _ _ _ _ dX4_withOne_15 hw (fun h => nomatch h)
  · replace hF := kit hF c1
    refine lv_iload_n S.1 S.2.1 dX4_withOne_6 rfl (lv_at hl 0 rfl) ?_
    obtain ⟨rfl, rfl⟩ := kret hF
    exact hR _ _ _ _ dX4_withOne_15 hw (fun h => nomatch h)
set_option maxRecDepth 100000 in
theorem kcX4_withOne {p : Program} {l : Launch} {e : Env} {R : Room} {s : State} {m : MethodId} {args : Array Value} {below : List Frame} {meth : Method} {c : Code} {H : Heap} {locs : List Loc} {cells slots : Nat} {Q : State → Prop} {cc : ByteArray} {pc : Nat} {ls : Array Slot} {rest : List Value} {E : kE} {σ ω σ1 : kS} {nL index : Nat} {own : String} {r : Int32} (S : CallFix p m c cc nL s args kBIG own) (hw : kWS E s (cmb σ ω) H locs) (cw : kSt own index yX4_withOne cX4_withOne 2 (some .int) 2) (hR : 0 + 1 ≤ R.frames ∧ 8 + (2 + 11) + 30 * 0 ≤ R.locals) {a0 : Int32} {a1 : Int32}  (hF : fX4_withOne a0 a1 σ = some (r, σ1)) (hls : ls.size = nL) (hW : (rest.map fun v => v.category).sum ≤ 8) (hdg : decode cc pc = .ok (.invokestatic index, 3)) (kk : ∀ (H1 : Heap) (locs1 : List Loc), kWS E s (cmb σ1 ω) H1 locs1 → W p l e R s m args below meth c H1 locs1 cells slots Q (F0 m (pc + 3) ls (.int r :: rest))) (hf : cells ≤ R.cells ∧ slots ≤ R.slots := by exact ⟨Nat.le_of_ble_eq_true rfl, Nat.le_of_ble_eq_true rfl⟩) : W p l e R s m args below meth c H locs cells slots Q (F0 m pc ls (.int a1 :: .int a0 :: rest)) := kr_calli (mc := 0) (y := yX4_withOne) (b := cX4_withOne) (n := 0) (lv := 0) (As := []) (ret := some .int) hw (kr_runS (As := [.int a0, .int a1]) S hw ((mX4_withOne (l := l) (E := E) (ω := ω) hF) H.size) cw hR rfl hls _ rfl hW hdg hf) (fun H1 locs1 h _ => kk H1 locs1 h)
set_option maxRecDepth 100000 in
theorem kcNX4_withOne {p : Program} {l : Launch} {e : Env} {R : Room} {s : State} {m : MethodId} {args : Array Value} {below : List Frame} {meth : Method} {c : Code} {H : Heap} {locs : List Loc} {cells slots : Nat} {Q : State → Prop} {cc : ByteArray} {pc : Nat} {ls : Array Slot} {rest : List Value} {E : kE} {σ ω σ1 : kS} {nL index : Nat} {own : String} {r : Int32} (S : CallFix p m c cc nL s args kBIG own) (hw : kWS E s (cmb σ ω) H locs) {host : String} (hn : va_Nw (.methodLinkNest own index yX4_withOne host) s) (cw : kNs yX4_withOne cX4_withOne 2 (some .int) 2) (hR : 0 + 1 ≤ R.frames ∧ 8 + (2 + 11) + 30 * 0 ≤ R.locals) {a0 : Int32} {a1 : Int32}  (hF : fX4_withOne a0 a1 σ = some (r, σ1)) (hls : ls.size = nL) (hW : (rest.map fun v => v.category).sum ≤ 8) (hdg : decode cc pc = .ok (.invokestatic index, 3)) (kk : ∀ (H1 : Heap) (locs1 : List Loc), kWS E s (cmb σ1 ω) H1 locs1 → W p l e R s m args below meth c H1 locs1 cells slots Q (F0 m (pc + 3) ls (.int r :: rest))) (hf : cells ≤ R.cells ∧ slots ≤ R.slots := by exact ⟨Nat.le_of_ble_eq_true rfl, Nat.le_of_ble_eq_true rfl⟩) : W p l e R s m args below meth c H locs cells slots Q (F0 m pc ls (.int a1 :: .int a0 :: rest)) := kr_calli (mc := 0) (y := yX4_withOne) (b := cX4_withOne) (n := 0) (lv := 0) (As := []) (ret := some .int) hw (kr_runN (As := [.int a0, .int a1]) S hw hn ((mX4_withOne (l := l) (E := E) (ω := ω) hF) H.size) cw hR rfl hls _ rfl hW hdg hf) (fun H1 locs1 h _ => kk H1 locs1 h)
set_option maxHeartbeats 4000000 in
set_option maxRecDepth 100000 in
theorem wX0_whoGetOne_L4 {p : Program} {l : Launch} {e : Env} {s : State} {m : MethodId} {args : Array Value} {below : List Frame} {meth : Method} {c : Code} {Q : State → Prop} {E : kE} {ω σ1 : kS} {r : Int32} (S : CallFix p m c cX0_whoGetOne 3 s args kBIG RX0) (hR : kRetI p l e (rml 3) s m args below meth c cX0_whoGetOne E Q (some .int) r (cmb σ1 ω))  : ∀ (n : Nat), ∀ (q0 : Nat) (a1 : Int32) (a2 : Int32) (hq0 : isM q0) (σ : kS) (H : Heap) (locs : List Loc) (ls : Array Slot), fX0_whoGetOne_L4 n q0 a1 a2 σ = some (r, σ1) → kWS E s (cmb σ ω) H locs → lv_has ls 3 [(0, .ref (ead E q0)), (1, .int a1), (2, .int a2)] → W p l e (rml 3) s m args below meth c H locs 0 0 Q (F0 m 4 ls []) := by
  intro n
  induction n with
  | zero =>
    intro q0 a1 a2 hq0 σ H locs ls hF hw hl
    exact absurd hF (fun h => nomatch h)
  | succ n ih =>
    intro q0 a1 a2 hq0 σ H locs ls hF hw hl
    rw [fX0_whoGetOne_L4] at hF
    refine lv_iload_n S.1 S.2.1 dX0_whoGetOne_4 rfl (lv_at hl 2 rfl) ?_
    refine lv_aload_n S.1 S.2.1 dX0_whoGetOne_5 rfl (lv_at hl 0 rfl) ?_
    refine gf_X0_31 S hw hq0.1 hq0.2.1 rfl dX0_whoGetOne_6 ?_
    refine lv_icmp_ge (tgt := 28) S.1 S.2.1 dX0_whoGetOne_9 (by decide) (fun c1 => ?_) (fun c1 => ?_)
    · replace hF := kit hF c1
      refine lv_iload_n S.1 S.2.1 dX0_whoGetOne_28 rfl (lv_at hl 1 rfl) ?_
      obtain ⟨rfl, rfl⟩ := kret hF
      exact hR _ _ _ _ dX0_whoGetOne_29 hw (fun h => nomatch h)
    · replace hF := kif hF c1
      refine lv_iload_n S.1 S.2.1 dX0_whoGetOne_12 rfl (lv_at hl 1 rfl) ?_
      refine lv_aload_n S.1 S.2.1 dX0_whoGetOne_13 rfl (lv_at hl 0 rfl) ?_
      refine lv_iload_n S.1 S.2.1 dX0_whoGetOne_14 rfl (lv_at hl 2 rfl) ?_
      obtain ⟨r4, σ3, e2, hF⟩ := kbi_e hF
      refine kcX0_goesTo S hw cv_X0_57 ⟨Nat.le_of_ble_eq_true rfl, Nat.le_of_ble_eq_true rfl⟩ hq0 e2 hl.1 (Nat.le_of_ble_eq_true rfl) dX0_whoGetOne_15 (fun H locs hw => ?_)
      obtain ⟨r7, σ6, e5, hF⟩ := kbi_e hF
      refine kcNX4_withOne S hw hw.2.2.2.2.1 cv_X0_60 ⟨Nat.le_of_ble_eq_true rfl, Nat.le_of_ble_eq_true rfl⟩ e5 hl.1 (Nat.le_of_ble_eq_true rfl) dX0_whoGetOne_18 (fun H locs hw => ?_)
      refine lv_istore_n (lv' := [(1, .int r7), (0, .ref (ead E q0)), (2, .int a2)]) S.1 S.2.1 dX0_whoGetOne_21 rfl hl (by decide) rfl (fun ls hl => ?_)
      obtain ⟨v8, ev8⟩ : ∃ y : Int32, y = a2 + 1 := ⟨_, rfl⟩
      replace hF := klb hF ev8
      refine lv_iinc (v := v8) (lv' := [(2, .int v8), (1, .int r7), (0, .ref (ead E q0))]) S.1 S.2.1 dX0_whoGetOne_22 hl (k := 2) rfl (by rw [ev8]; rfl) (by decide) rfl (fun ls hl => ?_)
      exact ih q0 r7 v8 hq0 _ _ _ _ hF hw (lv_sub hl [2, 1, 0] rfl)
set_option maxHeartbeats 4000000 in
set_option maxRecDepth 100000 in
theorem mX0_whoGetOne {l : Launch} {E : kE} {ω σ σ1 : kS} {r : Int32} {q0 : Nat} (hq0 : isM q0) (hF : fX0_whoGetOne q0 σ = some (r, σ1)) : kMetI l yX0_whoGetOne cX0_whoGetOne 3 (some .int) 3 E [.ref (ead E q0)] (cmb σ ω) r (cmb σ1 ω) := by
  refine kMetI.of (by decide +kernel) (Nat.le_of_ble_eq_true rfl) (Or.inl rfl) ?_
  intro p e s m args below meth c Q ls S hR hw hl
  have hl : lv_has ls 3 [(0, .ref (ead E q0))] := hl
  unfold fX0_whoGetOne at hF
  refine lv_iconst (v := 0) S.1 S.2.1 dX0_whoGetOne_0 (by decide) ?_
  refine lv_istore_n (lv' := [(1, .int 0), (0, .ref (ead E q0))]) S.1 S.2.1 dX0_whoGetOne_1 rfl hl (by decide) rfl (fun ls hl => ?_)
  refine lv_iconst (v := 0) S.1 S.2.1 dX0_whoGetOne_2 (by decide) ?_
  refine lv_istore_n (lv' := [(2, .int 0), (1, .int 0), (0, .ref (ead E q0))]) S.1 S.2.1 dX0_whoGetOne_3 rfl hl (by decide) rfl (fun ls hl => ?_)
  exact wX0_whoGetOne_L4 S hR 1000 q0 0 0 hq0 _ _ _ _ hF hw (lv_sub hl [2, 1, 0] rfl)
set_option maxRecDepth 100000 in
theorem kcX0_whoGetOne {p : Program} {l : Launch} {e : Env} {R : Room} {s : State} {m : MethodId} {args : Array Value} {below : List Frame} {meth : Method} {c : Code} {H : Heap} {locs : List Loc} {cells slots : Nat} {Q : State → Prop} {cc : ByteArray} {pc : Nat} {ls : Array Slot} {rest : List Value} {E : kE} {σ ω σ1 : kS} {nL index : Nat} {own : String} {r : Int32} (S : CallFix p m c cc nL s args kBIG own) (hw : kWS E s (cmb σ ω) H locs) (cw : kV own RX0 index yX0_whoGetOne cX0_whoGetOne 3 (some .int) 0) (hR : 3 + 1 ≤ R.frames ∧ 8 + (3 + 11) + 30 * 3 ≤ R.locals) {q0 : Nat} (hq0 : isM q0) (hF : fX0_whoGetOne q0 σ = some (r, σ1)) (hls : ls.size = nL) (hW : (rest.map fun v => v.category).sum ≤ 8) (hdg : decode cc pc = .ok (.invokevirtual index, 3)) (kk : ∀ (H1 : Heap) (locs1 : List Loc), kWS E s (cmb σ1 ω) H1 locs1 → W p l e R s m args below meth c H1 locs1 cells slots Q (F0 m (pc + 3) ls (.int r :: rest))) (hf : cells ≤ R.cells ∧ slots ≤ R.slots := by exact ⟨Nat.le_of_ble_eq_true rfl, Nat.le_of_ble_eq_true rfl⟩) : W p l e R s m args below meth c H locs cells slots Q (F0 m pc ls (.ref (ead E q0) :: rest)) := kr_calli (mc := 0) (y := yX0_whoGetOne) (b := cX0_whoGetOne) (n := 0) (lv := 0) (As := []) (ret := some .int) hw (kr_runV (As := []) (q := q0) S hw ((mX0_whoGetOne (l := l) (E := E) (ω := ω) hq0 hF) H.size) cw hR hq0.1 (Nat.lt_trans hq0.2.1 (by decide)) rfl rfl hls _ rfl hW hdg hf) (fun H1 locs1 h _ => kk H1 locs1 h)
set_option maxHeartbeats 4000000 in
set_option maxRecDepth 100000 in
theorem wX1_begin_L17 {p : Program} {l : Launch} {e : Env} {s : State} {m : MethodId} {args : Array Value} {below : List Frame} {meth : Method} {c : Code} {Q : State → Prop} {E : kE} {ω σ1 : kS} (S : CallFix p m c cX1_begin 4 s args kBIG RX1) (hR : kRetV p l e (rml 0) s m args below meth c cX1_begin E Q (cmb σ1 ω))  : ∀ (n : Nat), ∀ (q0 : Nat) (a3 : Int32) (hq0 : isSh q0) (σ : kS) (H : Heap) (locs : List Loc) (ls : Array Slot), fX1_begin_L17 n q0 a3 σ = some σ1 → kWS E s (cmb σ ω) H locs → lv_has ls 4 [(0, .ref (ead E q0)), (3, .int a3)] → W p l e (rml 0) s m args below meth c H locs 0 0 Q (F0 m 17 ls []) := by
  intro n
  induction n with
  | zero =>
    intro q0 a3 hq0 σ H locs ls hF hw hl
    exact absurd hF (fun h => nomatch h)
  | succ n ih =>
    intro q0 a3 hq0 σ H locs ls hF hw hl
    rw [fX1_begin_L17] at hF
    refine lv_iload_n S.1 S.2.1 dX1_begin_17 rfl (lv_at hl 1 rfl) ?_
    refine lv_bipush (v := 60) S.1 S.2.1 dX1_begin_18 (by decide) ?_
    refine lv_icmp_ge (tgt := 36) S.1 S.2.1 dX1_begin_20 (by decide) (fun c1 => ?_) (fun c1 => ?_)
    · replace hF := kit hF c1
      cases kre hF
      exact hR _ _ _ _ dX1_begin_36 hw
    · replace hF := kif hF c1
      refine lv_aload_n S.1 S.2.1 dX1_begin_23 rfl (lv_at hl 0 rfl) ?_
      refine gf_X1_9 S hw hq0.1 hq0.2.1 rfl dX1_begin_24 ?_
      refine lv_iload_n S.1 S.2.1 dX1_begin_27 rfl (lv_at hl 1 rfl) ?_
      refine lv_iconst (v := 0) S.1 S.2.1 dX1_begin_28 (by decide) ?_
      obtain ⟨hb2, hF⟩ := kin hF
      refine kx_iast (q := q0 + 4) S hw hq0.2.2.1 hq0.2.2.2 hb2 dX1_begin_29 (fun H locs hw => ?_)
      obtain ⟨v3, ev3⟩ : ∃ y : Int32, y = a3 + 1 := ⟨_, rfl⟩
      replace hF := klb hF ev3
      refine lv_iinc (v := v3) (lv' := [(3, .int v3), (0, .ref (ead E q0))]) S.1 S.2.1 dX1_begin_30 hl (k := 1) rfl (by rw [ev3]; rfl) (by decide) rfl (fun ls hl => ?_)
      exact ih q0 v3 hq0 _ _ _ _ hF hw (lv_sub hl [1, 0] rfl)
set_option maxHeartbeats 4000000 in
set_option maxRecDepth 100000 in
theorem mX1_begin {l : Launch} {E : kE} {ω σ σ1 : kS} {q0 : Nat} {a1 : Int32} {a2 : Int32} (hq0 : isSh q0) (hF : fX1_begin q0 a1 a2 σ = some σ1) : kMetV l yX1_begin cX1_begin 4 0 E [.ref (ead E q0), .int a1, .int a2] (cmb σ ω) (cmb σ1 ω) := by
  refine kMetV.of (by decide +kernel) (Nat.le_of_ble_eq_true rfl) ?_
  intro p e s m args below meth c Q ls S hR hw hl
  have hl : lv_has ls 4 [(0, .ref (ead E q0)), (1, .int a1), (2, .int a2)] := hl
  unfold fX1_begin at hF
  refine lv_aload_n S.1 S.2.1 dX1_begin_0 rfl (lv_at hl 0 rfl) ?_
  refine lv_iconst (v := 1) S.1 S.2.1 dX1_begin_1 (by decide) ?_
  refine pf_X1_15 S hw hq0.1 hq0.2.1 rfl rfl rfl dX1_begin_2 (fun H locs hw => ?_)
  refine lv_aload_n S.1 S.2.1 dX1_begin_5 rfl (lv_at hl 0 rfl) ?_
  refine lv_iload_n S.1 S.2.1 dX1_begin_6 rfl (lv_at hl 1 rfl) ?_
  refine pf_X1_19 S hw hq0.1 hq0.2.1 rfl dX1_begin_7 (fun H locs hw => ?_)
  refine lv_aload_n S.1 S.2.1 dX1_begin_10 rfl (lv_at hl 0 rfl) ?_
  refine lv_iload_n S.1 S.2.1 dX1_begin_11 rfl (lv_at hl 2 rfl) ?_
  refine pf_X1_23 S hw hq0.1 hq0.2.1 rfl dX1_begin_12 (fun H locs hw => ?_)
  refine lv_iconst (v := 0) S.1 S.2.1 dX1_begin_15 (by decide) ?_
  refine lv_istore_n (lv' := [(3, .int 0), (0, .ref (ead E q0)), (1, .int a1), (2, .int a2)]) S.1 S.2.1 dX1_begin_16 rfl hl (by decide) rfl (fun ls hl => ?_)
  exact wX1_begin_L17 S hR 1000 q0 0 hq0 _ _ _ _ hF hw (lv_sub hl [1, 0] rfl)
set_option maxRecDepth 100000 in
theorem kcX1_begin {p : Program} {l : Launch} {e : Env} {R : Room} {s : State} {m : MethodId} {args : Array Value} {below : List Frame} {meth : Method} {c : Code} {H : Heap} {locs : List Loc} {cells slots : Nat} {Q : State → Prop} {cc : ByteArray} {pc : Nat} {ls : Array Slot} {rest : List Value} {E : kE} {σ ω σ1 : kS} {nL index : Nat} {own : String} (S : CallFix p m c cc nL s args kBIG own) (hw : kWS E s (cmb σ ω) H locs) (cw : kV own RX1 index yX1_begin cX1_begin 4 none 2) (hR : 0 + 1 ≤ R.frames ∧ 8 + (4 + 11) + 30 * 0 ≤ R.locals) {q0 : Nat} {a1 : Int32} {a2 : Int32} (hq0 : isSh q0) (hF : fX1_begin q0 a1 a2 σ = some σ1) (hls : ls.size = nL) (hW : (rest.map fun v => v.category).sum ≤ 8) (hdg : decode cc pc = .ok (.invokevirtual index, 3)) (kk : ∀ (H1 : Heap) (locs1 : List Loc), kWS E s (cmb σ1 ω) H1 locs1 → W p l e R s m args below meth c H1 locs1 cells slots Q (F0 m (pc + 3) ls rest)) (hf : cells ≤ R.cells ∧ slots ≤ R.slots := by exact ⟨Nat.le_of_ble_eq_true rfl, Nat.le_of_ble_eq_true rfl⟩) : W p l e R s m args below meth c H locs cells slots Q (F0 m pc ls (.int a2 :: .int a1 :: .ref (ead E q0) :: rest)) := kr_callv hw (kr_runV (As := [.int a1, .int a2]) (q := q0) S hw ((mX1_begin (l := l) (E := E) (ω := ω) hq0 hF) H.size) cw hR hq0.1 (Nat.lt_trans hq0.2.1 (by decide)) rfl rfl hls _ rfl hW hdg hf) kk
set_option maxHeartbeats 4000000 in
set_option maxRecDepth 100000 in
theorem mX1_faultAs {l : Launch} {E : kE} {ω σ σ1 : kS} {r : Int32} {q0 : Nat} {a1 : Int32} (hq0 : isSh q0) (hF : fX1_faultAs q0 a1 σ = some (r, σ1)) : kMetI l yX1_faultAs cX1_faultAs 2 (some .int) 0 E [.ref (ead E q0), .int a1] (cmb σ ω) r (cmb σ1 ω) := by
  refine kMetI.of (by decide +kernel) (Nat.le_of_ble_eq_true rfl) (Or.inl rfl) ?_
  intro p e s m args below meth c Q ls S hR hw hl
  have hl : lv_has ls 2 [(0, .ref (ead E q0)), (1, .int a1)] := hl
  unfold fX1_faultAs at hF
  refine lv_aload_n S.1 S.2.1 dX1_faultAs_0 rfl (lv_at hl 0 rfl) ?_
  refine gf_X1_15 S hw hq0.1 hq0.2.1 rfl dX1_faultAs_1 ?_
  refine lv_if_ne (tgt := 9) S.1 S.2.1 dX1_faultAs_4 (by decide) (fun c1 => ?_) (fun c1 => ?_)
  · replace hF := kif hF c1
    refine lv_aload_n S.1 S.2.1 dX1_faultAs_9 rfl (lv_at hl 0 rfl) ?_
    refine gf_X1_19 S hw hq0.1 hq0.2.1 rfl dX1_faultAs_10 ?_
    refine lv_iload_n S.1 S.2.1 dX1_faultAs_13 rfl (lv_at hl 1 rfl) ?_
    refine lv_icmp_ne (tgt := 21) S.1 S.2.1 dX1_faultAs_14 (by decide) (fun c2 => ?_) (fun c2 => ?_)
    · replace hF := kif hF c2
      refine lv_iconst (v := 2) S.1 S.2.1 dX1_faultAs_21 (by decide) ?_
      obtain ⟨rfl, rfl⟩ := kret hF
      exact hR _ _ _ _ dX1_faultAs_22 hw (fun h => nomatch h)
    · replace hF := kit hF c2
      refine lv_iconst (v := 0) S.1 S.2.1 dX1_faultAs_17 (by decide) ?_
      obtain ⟨rfl, rfl⟩ := kret hF
      exact hR _ _ _ _ dX1_faultAs_22 hw (fun h => nomatch h)
  · replace hF := kit hF c1
    refine lv_iconst (v := 1) S.1 S.2.1 dX1_faultAs_7 (by decide) ?_
    obtain ⟨rfl, rfl⟩ := kret hF
    exact hR _ _ _ _ dX1_faultAs_8 hw (fun h => nomatch h)
set_option maxRecDepth 100000 in
theorem kcX1_faultAs {p : Program} {l : Launch} {e : Env} {R : Room} {s : State} {m : MethodId} {args : Array Value} {below : List Frame} {meth : Method} {c : Code} {H : Heap} {locs : List Loc} {cells slots : Nat} {Q : State → Prop} {cc : ByteArray} {pc : Nat} {ls : Array Slot} {rest : List Value} {E : kE} {σ ω σ1 : kS} {nL index : Nat} {own : String} {r : Int32} (S : CallFix p m c cc nL s args kBIG own) (hw : kWS E s (cmb σ ω) H locs) (cw : kV own RX1 index yX1_faultAs cX1_faultAs 2 (some .int) 1) (hR : 0 + 1 ≤ R.frames ∧ 8 + (2 + 11) + 30 * 0 ≤ R.locals) {q0 : Nat} {a1 : Int32} (hq0 : isSh q0) (hF : fX1_faultAs q0 a1 σ = some (r, σ1)) (hls : ls.size = nL) (hW : (rest.map fun v => v.category).sum ≤ 8) (hdg : decode cc pc = .ok (.invokevirtual index, 3)) (kk : ∀ (H1 : Heap) (locs1 : List Loc), kWS E s (cmb σ1 ω) H1 locs1 → W p l e R s m args below meth c H1 locs1 cells slots Q (F0 m (pc + 3) ls (.int r :: rest))) (hf : cells ≤ R.cells ∧ slots ≤ R.slots := by exact ⟨Nat.le_of_ble_eq_true rfl, Nat.le_of_ble_eq_true rfl⟩) : W p l e R s m args below meth c H locs cells slots Q (F0 m pc ls (.int a1 :: .ref (ead E q0) :: rest)) := kr_calli (mc := 0) (y := yX1_faultAs) (b := cX1_faultAs) (n := 0) (lv := 0) (As := []) (ret := some .int) hw (kr_runV (As := [.int a1]) (q := q0) S hw ((mX1_faultAs (l := l) (E := E) (ω := ω) hq0 hF) H.size) cw hR hq0.1 (Nat.lt_trans hq0.2.1 (by decide)) rfl rfl hls _ rfl hW hdg hf) (fun H1 locs1 h _ => kk H1 locs1 h)
set_option maxHeartbeats 4000000 in
set_option maxRecDepth 100000 in
theorem mX1_hasCell {l : Launch} {E : kE} {ω σ σ1 : kS} {r : Int32} {q0 : Nat} {a1 : Int32} (hq0 : isSh q0) (hF : fX1_hasCell q0 a1 σ = some (r, σ1)) : kMetI l yX1_hasCell cX1_hasCell 2 (some .boolean) 0 E [.ref (ead E q0), .int a1] (cmb σ ω) r (cmb σ1 ω) := by
  refine kMetI.of (by decide +kernel) (Nat.le_of_ble_eq_true rfl) (Or.inr rfl) ?_
  intro p e s m args below meth c Q ls S hR hw hl
  have hl : lv_has ls 2 [(0, .ref (ead E q0)), (1, .int a1)] := hl
  unfold fX1_hasCell at hF
  refine lv_iload_n S.1 S.2.1 dX1_hasCell_0 rfl (lv_at hl 1 rfl) ?_
  refine lv_if_lt (tgt := 16) S.1 S.2.1 dX1_hasCell_1 (by decide) (fun c1 => ?_) (fun c1 => ?_)
  · replace hF := kit hF c1
    refine lv_iconst (v := 0) S.1 S.2.1 dX1_hasCell_16 (by decide) ?_
    obtain ⟨rfl, rfl⟩ := kret hF
    exact hR _ _ _ _ dX1_hasCell_17 hw (fun _ => (Or.inl rfl))
  · replace hF := kif hF c1
    refine lv_iload_n S.1 S.2.1 dX1_hasCell_4 rfl (lv_at hl 1 rfl) ?_
    refine lv_aload_n S.1 S.2.1 dX1_hasCell_5 rfl (lv_at hl 0 rfl) ?_
    refine gf_X1_23 S hw hq0.1 hq0.2.1 rfl dX1_hasCell_6 ?_
    refine lv_icmp_ge (tgt := 16) S.1 S.2.1 dX1_hasCell_9 (by decide) (fun c2 => ?_) (fun c2 => ?_)
    · replace hF := kit hF c2
      refine lv_iconst (v := 0) S.1 S.2.1 dX1_hasCell_16 (by decide) ?_
      obtain ⟨rfl, rfl⟩ := kret hF
      exact hR _ _ _ _ dX1_hasCell_17 hw (fun _ => (Or.inl rfl))
    · replace hF := kif hF c2
      refine lv_iconst (v := 1) S.1 S.2.1 dX1_hasCell_12 (by decide) ?_
      obtain ⟨rfl, rfl⟩ := kret hF
      exact hR _ _ _ _ dX1_hasCell_17 hw (fun _ => (Or.inr rfl))
set_option maxRecDepth 100000 in
theorem kcX1_hasCell {p : Program} {l : Launch} {e : Env} {R : Room} {s : State} {m : MethodId} {args : Array Value} {below : List Frame} {meth : Method} {c : Code} {H : Heap} {locs : List Loc} {cells slots : Nat} {Q : State → Prop} {cc : ByteArray} {pc : Nat} {ls : Array Slot} {rest : List Value} {E : kE} {σ ω σ1 : kS} {nL index : Nat} {own : String} {r : Int32} (S : CallFix p m c cc nL s args kBIG own) (hw : kWS E s (cmb σ ω) H locs) (cw : kV own RX1 index yX1_hasCell cX1_hasCell 2 (some .boolean) 1) (hR : 0 + 1 ≤ R.frames ∧ 8 + (2 + 11) + 30 * 0 ≤ R.locals) {q0 : Nat} {a1 : Int32} (hq0 : isSh q0) (hF : fX1_hasCell q0 a1 σ = some (r, σ1)) (hls : ls.size = nL) (hW : (rest.map fun v => v.category).sum ≤ 8) (hdg : decode cc pc = .ok (.invokevirtual index, 3)) (kk : ∀ (H1 : Heap) (locs1 : List Loc), kWS E s (cmb σ1 ω) H1 locs1 → ((some .boolean) = some .boolean → r = 0 ∨ r = 1) → W p l e R s m args below meth c H1 locs1 cells slots Q (F0 m (pc + 3) ls (.int r :: rest))) (hf : cells ≤ R.cells ∧ slots ≤ R.slots := by exact ⟨Nat.le_of_ble_eq_true rfl, Nat.le_of_ble_eq_true rfl⟩) : W p l e R s m args below meth c H locs cells slots Q (F0 m pc ls (.int a1 :: .ref (ead E q0) :: rest)) := kr_calli (mc := 0) (y := yX1_hasCell) (b := cX1_hasCell) (n := 0) (lv := 0) (As := []) hw (kr_runV (As := [.int a1]) (q := q0) S hw ((mX1_hasCell (l := l) (E := E) (ω := ω) hq0 hF) H.size) cw hR hq0.1 (Nat.lt_trans hq0.2.1 (by decide)) rfl rfl hls _ rfl hW hdg hf) kk
set_option maxHeartbeats 4000000 in
set_option maxRecDepth 100000 in
theorem mX1_spans {l : Launch} {E : kE} {ω σ σ1 : kS} {r : Int32} {q0 : Nat} {a1 : Int32} {a2 : Int32} (hq0 : isSh q0) (hF : fX1_spans q0 a1 a2 σ = some (r, σ1)) : kMetI l yX1_spans cX1_spans 3 (some .boolean) 0 E [.ref (ead E q0), .int a1, .int a2] (cmb σ ω) r (cmb σ1 ω) := by
  refine kMetI.of (by decide +kernel) (Nat.le_of_ble_eq_true rfl) (Or.inr rfl) ?_
  intro p e s m args below meth c Q ls S hR hw hl
  have hl : lv_has ls 3 [(0, .ref (ead E q0)), (1, .int a1), (2, .int a2)] := hl
  unfold fX1_spans at hF
  refine lv_iload_n S.1 S.2.1 dX1_spans_0 rfl (lv_at hl 1 rfl) ?_
  refine lv_if_lt (tgt := 30) S.1 S.2.1 dX1_spans_1 (by decide) (fun c1 => ?_) (fun c1 => ?_)
  · replace hF := kit hF c1
    refine lv_iconst (v := 0) S.1 S.2.1 dX1_spans_30 (by decide) ?_
    obtain ⟨rfl, rfl⟩ := kret hF
    exact hR _ _ _ _ dX1_spans_31 hw (fun _ => (Or.inl rfl))
  · replace hF := kif hF c1
    refine lv_iload_n S.1 S.2.1 dX1_spans_4 rfl (lv_at hl 1 rfl) ?_
    refine lv_aload_n S.1 S.2.1 dX1_spans_5 rfl (lv_at hl 0 rfl) ?_
    refine gf_X1_23 S hw hq0.1 hq0.2.1 rfl dX1_spans_6 ?_
    refine lv_icmp_gt (tgt := 30) S.1 S.2.1 dX1_spans_9 (by decide) (fun c2 => ?_) (fun c2 => ?_)
    · replace hF := kit hF c2
      refine lv_iconst (v := 0) S.1 S.2.1 dX1_spans_30 (by decide) ?_
      obtain ⟨rfl, rfl⟩ := kret hF
      exact hR _ _ _ _ dX1_spans_31 hw (fun _ => (Or.inl rfl))
    · replace hF := kif hF c2
      refine lv_iload_n S.1 S.2.1 dX1_spans_12 rfl (lv_at hl 2 rfl) ?_
      refine lv_if_lt (tgt := 30) S.1 S.2.1 dX1_spans_13 (by decide) (fun c3 => ?_) (fun c3 => ?_)
      · replace hF := kit hF c3
        refine lv_iconst (v := 0) S.1 S.2.1 dX1_spans_30 (by decide) ?_
        obtain ⟨rfl, rfl⟩ := kret hF
        exact hR _ _ _ _ dX1_spans_31 hw (fun _ => (Or.inl rfl))
      · replace hF := kif hF c3
        refine lv_iload_n S.1 S.2.1 dX1_spans_16 rfl (lv_at hl 2 rfl) ?_
        refine lv_aload_n S.1 S.2.1 dX1_spans_17 rfl (lv_at hl 0 rfl) ?_
        refine gf_X1_23 S hw hq0.1 hq0.2.1 rfl dX1_spans_18 ?_
        refine lv_iload_n S.1 S.2.1 dX1_spans_21 rfl (lv_at hl 1 rfl) ?_
        refine lv_isub S.1 S.2.1 dX1_spans_22 ?_
        refine lv_icmp_gt (tgt := 30) S.1 S.2.1 dX1_spans_23 (by decide) (fun c4 => ?_) (fun c4 => ?_)
        · replace hF := kit hF c4
          refine lv_iconst (v := 0) S.1 S.2.1 dX1_spans_30 (by decide) ?_
          obtain ⟨rfl, rfl⟩ := kret hF
          exact hR _ _ _ _ dX1_spans_31 hw (fun _ => (Or.inl rfl))
        · replace hF := kif hF c4
          refine lv_iconst (v := 1) S.1 S.2.1 dX1_spans_26 (by decide) ?_
          obtain ⟨rfl, rfl⟩ := kret hF
          exact hR _ _ _ _ dX1_spans_31 hw (fun _ => (Or.inr rfl))
set_option maxRecDepth 100000 in
theorem kcX1_spans {p : Program} {l : Launch} {e : Env} {R : Room} {s : State} {m : MethodId} {args : Array Value} {below : List Frame} {meth : Method} {c : Code} {H : Heap} {locs : List Loc} {cells slots : Nat} {Q : State → Prop} {cc : ByteArray} {pc : Nat} {ls : Array Slot} {rest : List Value} {E : kE} {σ ω σ1 : kS} {nL index : Nat} {own : String} {r : Int32} (S : CallFix p m c cc nL s args kBIG own) (hw : kWS E s (cmb σ ω) H locs) (cw : kV own RX1 index yX1_spans cX1_spans 3 (some .boolean) 2) (hR : 0 + 1 ≤ R.frames ∧ 8 + (3 + 11) + 30 * 0 ≤ R.locals) {q0 : Nat} {a1 : Int32} {a2 : Int32} (hq0 : isSh q0) (hF : fX1_spans q0 a1 a2 σ = some (r, σ1)) (hls : ls.size = nL) (hW : (rest.map fun v => v.category).sum ≤ 8) (hdg : decode cc pc = .ok (.invokevirtual index, 3)) (kk : ∀ (H1 : Heap) (locs1 : List Loc), kWS E s (cmb σ1 ω) H1 locs1 → ((some .boolean) = some .boolean → r = 0 ∨ r = 1) → W p l e R s m args below meth c H1 locs1 cells slots Q (F0 m (pc + 3) ls (.int r :: rest))) (hf : cells ≤ R.cells ∧ slots ≤ R.slots := by exact ⟨Nat.le_of_ble_eq_true rfl, Nat.le_of_ble_eq_true rfl⟩) : W p l e R s m args below meth c H locs cells slots Q (F0 m pc ls (.int a2 :: .int a1 :: .ref (ead E q0) :: rest)) := kr_calli (mc := 0) (y := yX1_spans) (b := cX1_spans) (n := 0) (lv := 0) (As := []) hw (kr_runV (As := [.int a1, .int a2]) (q := q0) S hw ((mX1_spans (l := l) (E := E) (ω := ω) hq0 hF) H.size) cw hR hq0.1 (Nat.lt_trans hq0.2.1 (by decide)) rfl rfl hls _ rfl hW hdg hf) kk
set_option maxHeartbeats 4000000 in
set_option maxRecDepth 100000 in
theorem mX1_write {l : Launch} {E : kE} {ω σ σ1 : kS} {q0 : Nat} {a1 : Int32} {a2 : Int32} (hq0 : isSh q0) (hF : fX1_write q0 a1 a2 σ = some σ1) : kMetV l yX1_write cX1_write 3 0 E [.ref (ead E q0), .int a1, .int a2] (cmb σ ω) (cmb σ1 ω) := by
  refine kMetV.of (by decide +kernel) (Nat.le_of_ble_eq_true rfl) ?_
  intro p e s m args below meth c Q ls S hR hw hl
  have hl : lv_has ls 3 [(0, .ref (ead E q0)), (1, .int a1), (2, .int a2)] := hl
  unfold fX1_write at hF
  refine lv_aload_n S.1 S.2.1 dX1_write_0 rfl (lv_at hl 0 rfl) ?_
  refine gf_X1_19 S hw hq0.1 hq0.2.1 rfl dX1_write_1 ?_
  refine lv_if_ne (tgt := 18) S.1 S.2.1 dX1_write_4 (by decide) (fun c1 => ?_) (fun c1 => ?_)
  · replace hF := kif hF c1
    refine lv_aload_n S.1 S.2.1 dX1_write_18 rfl (lv_at hl 0 rfl) ?_
    refine gf_X1_19 S hw hq0.1 hq0.2.1 rfl dX1_write_19 ?_
    refine lv_iconst (v := 1) S.1 S.2.1 dX1_write_22 (by decide) ?_
    refine lv_icmp_ne (tgt := 37) S.1 S.2.1 dX1_write_23 (by decide) (fun c2 => ?_) (fun c2 => ?_)
    · replace hF := kif hF c2
      refine lv_aload_n S.1 S.2.1 dX1_write_37 rfl (lv_at hl 0 rfl) ?_
      refine gf_X1_9 S hw hq0.1 hq0.2.1 rfl dX1_write_38 ?_
      refine lv_iload_n S.1 S.2.1 dX1_write_41 rfl (lv_at hl 1 rfl) ?_
      refine lv_iload_n S.1 S.2.1 dX1_write_42 rfl (lv_at hl 2 rfl) ?_
      obtain ⟨hb3, hF⟩ := kin hF
      refine kx_iast (q := q0 + 4) S hw hq0.2.2.1 hq0.2.2.2 hb3 dX1_write_43 (fun H locs hw => ?_)
      cases kre hF
      exact hR _ _ _ _ dX1_write_44 hw
    · replace hF := kit hF c2
      refine lv_aload_n S.1 S.2.1 dX1_write_26 rfl (lv_at hl 0 rfl) ?_
      refine gf_X1_9 S hw hq0.1 hq0.2.1 rfl dX1_write_27 ?_
      refine lv_iload_n S.1 S.2.1 dX1_write_30 rfl (lv_at hl 1 rfl) ?_
      refine lv_iload_n S.1 S.2.1 dX1_write_31 rfl (lv_at hl 2 rfl) ?_
      refine lv_i2s S.1 S.2.1 dX1_write_32 rfl ?_
      obtain ⟨hb4, hF⟩ := kin hF
      refine kx_iast (q := q0 + 4) S hw hq0.2.2.1 hq0.2.2.2 hb4 dX1_write_33 (fun H locs hw => ?_)
      cases kre hF
      exact hR _ _ _ _ dX1_write_44 hw
  · replace hF := kit hF c1
    refine lv_aload_n S.1 S.2.1 dX1_write_7 rfl (lv_at hl 0 rfl) ?_
    refine gf_X1_9 S hw hq0.1 hq0.2.1 rfl dX1_write_8 ?_
    refine lv_iload_n S.1 S.2.1 dX1_write_11 rfl (lv_at hl 1 rfl) ?_
    refine lv_iload_n S.1 S.2.1 dX1_write_12 rfl (lv_at hl 2 rfl) ?_
    refine lv_i2b S.1 S.2.1 dX1_write_13 rfl ?_
    obtain ⟨hb5, hF⟩ := kin hF
    refine kx_iast (q := q0 + 4) S hw hq0.2.2.1 hq0.2.2.2 hb5 dX1_write_14 (fun H locs hw => ?_)
    cases kre hF
    exact hR _ _ _ _ dX1_write_44 hw
set_option maxRecDepth 100000 in
theorem kcX1_write {p : Program} {l : Launch} {e : Env} {R : Room} {s : State} {m : MethodId} {args : Array Value} {below : List Frame} {meth : Method} {c : Code} {H : Heap} {locs : List Loc} {cells slots : Nat} {Q : State → Prop} {cc : ByteArray} {pc : Nat} {ls : Array Slot} {rest : List Value} {E : kE} {σ ω σ1 : kS} {nL index : Nat} {own : String} (S : CallFix p m c cc nL s args kBIG own) (hw : kWS E s (cmb σ ω) H locs) (cw : kV own RX1 index yX1_write cX1_write 3 none 2) (hR : 0 + 1 ≤ R.frames ∧ 8 + (3 + 11) + 30 * 0 ≤ R.locals) {q0 : Nat} {a1 : Int32} {a2 : Int32} (hq0 : isSh q0) (hF : fX1_write q0 a1 a2 σ = some σ1) (hls : ls.size = nL) (hW : (rest.map fun v => v.category).sum ≤ 8) (hdg : decode cc pc = .ok (.invokevirtual index, 3)) (kk : ∀ (H1 : Heap) (locs1 : List Loc), kWS E s (cmb σ1 ω) H1 locs1 → W p l e R s m args below meth c H1 locs1 cells slots Q (F0 m (pc + 3) ls rest)) (hf : cells ≤ R.cells ∧ slots ≤ R.slots := by exact ⟨Nat.le_of_ble_eq_true rfl, Nat.le_of_ble_eq_true rfl⟩) : W p l e R s m args below meth c H locs cells slots Q (F0 m pc ls (.int a2 :: .int a1 :: .ref (ead E q0) :: rest)) := kr_callv hw (kr_runV (As := [.int a1, .int a2]) (q := q0) S hw ((mX1_write (l := l) (E := E) (ω := ω) hq0 hF) H.size) cw hR hq0.1 (Nat.lt_trans hq0.2.1 (by decide)) rfl rfl hls _ rfl hW hdg hf) kk
set_option maxHeartbeats 4000000 in
set_option maxRecDepth 100000 in
theorem mX2_clear {l : Launch} {E : kE} {ω σ σ1 : kS}   (hF : fX2_clear σ = some σ1) : kMetV l yX2_clear cX2_clear 1 0 E [.ref (ead E 20)] (cmb σ ω) (cmb σ1 ω) := by
  refine kMetV.of (by decide +kernel) (Nat.le_of_ble_eq_true rfl) ?_
  intro p e s m args below meth c Q ls S hR hw hl
  have hl : lv_has ls 1 [(0, .ref (ead E 20))] := hl
  unfold fX2_clear at hF
  refine lv_aload_n S.1 S.2.1 dX2_clear_0 rfl (lv_at hl 0 rfl) ?_
  refine lv_iconst (v := 0) S.1 S.2.1 dX2_clear_1 (by decide) ?_
  refine pf_X2_9 (q := 20) S hw rfl (Nat.le_of_ble_eq_true rfl) rfl dX2_clear_2 (fun H locs hw => ?_)
  refine lv_aload_n S.1 S.2.1 dX2_clear_5 rfl (lv_at hl 0 rfl) ?_
  refine lv_bipush (v := (-9)) S.1 S.2.1 dX2_clear_6 (by decide) ?_
  refine pf_X2_15 (q := 20) S hw rfl (Nat.le_of_ble_eq_true rfl) rfl dX2_clear_8 (fun H locs hw => ?_)
  refine lv_aload_n S.1 S.2.1 dX2_clear_11 rfl (lv_at hl 0 rfl) ?_
  refine lv_iconst (v := 0) S.1 S.2.1 dX2_clear_12 (by decide) ?_
  refine pf_X2_18 (q := 20) S hw rfl (Nat.le_of_ble_eq_true rfl) rfl dX2_clear_13 (fun H locs hw => ?_)
  refine lv_aload_n S.1 S.2.1 dX2_clear_16 rfl (lv_at hl 0 rfl) ?_
  refine lv_iconst (v := 0) S.1 S.2.1 dX2_clear_17 (by decide) ?_
  refine pf_X2_21 (q := 20) S hw rfl (Nat.le_of_ble_eq_true rfl) rfl dX2_clear_18 (fun H locs hw => ?_)
  cases kre hF
  exact hR _ _ _ _ dX2_clear_21 hw
set_option maxRecDepth 100000 in
theorem kcX2_clear {p : Program} {l : Launch} {e : Env} {R : Room} {s : State} {m : MethodId} {args : Array Value} {below : List Frame} {meth : Method} {c : Code} {H : Heap} {locs : List Loc} {cells slots : Nat} {Q : State → Prop} {cc : ByteArray} {pc : Nat} {ls : Array Slot} {rest : List Value} {E : kE} {σ ω σ1 : kS} {nL index : Nat} {own : String} (S : CallFix p m c cc nL s args kBIG own) (hw : kWS E s (cmb σ ω) H locs) (cw : kV own RX2 index yX2_clear cX2_clear 1 none 0) (hR : 0 + 1 ≤ R.frames ∧ 8 + (1 + 11) + 30 * 0 ≤ R.locals)   (hF : fX2_clear σ = some σ1) (hls : ls.size = nL) (hW : (rest.map fun v => v.category).sum ≤ 8) (hdg : decode cc pc = .ok (.invokevirtual index, 3)) (kk : ∀ (H1 : Heap) (locs1 : List Loc), kWS E s (cmb σ1 ω) H1 locs1 → W p l e R s m args below meth c H1 locs1 cells slots Q (F0 m (pc + 3) ls rest)) (hf : cells ≤ R.cells ∧ slots ≤ R.slots := by exact ⟨Nat.le_of_ble_eq_true rfl, Nat.le_of_ble_eq_true rfl⟩) : W p l e R s m args below meth c H locs cells slots Q (F0 m pc ls (.ref (ead E 20) :: rest)) := kr_callv hw (kr_runV (As := []) (q := 20) S hw ((mX2_clear (l := l) (E := E) (ω := ω) hF) H.size) cw hR rfl (by decide) rfl rfl hls _ rfl hW hdg hf) kk
set_option maxHeartbeats 4000000 in
set_option maxRecDepth 100000 in
theorem wX2_add_J32 {p : Program} {l : Launch} {e : Env} {s : State} {m : MethodId} {args : Array Value} {below : List Frame} {meth : Method} {c : Code} {Q : State → Prop} {E : kE} {ω σ1 : kS} (S : CallFix p m c cX2_add 4 s args kBIG RX2) (hR : kRetV p l e (rml 1) s m args below meth c cX2_add E Q (cmb σ1 ω))  : ∀ (a3 : Int32) (σ : kS) (H : Heap) (locs : List Loc) (ls : Array Slot), fX2_add_J32 a3 σ = some σ1 → kWS E s (cmb σ ω) H locs → lv_has ls 4 [(0, .ref (ead E 20)), (3, .int a3)] → W p l e (rml 1) s m args below meth c H locs 0 0 Q (F0 m 32 ls []) := by
  intro a3 σ H locs ls hF hw hl
  unfold fX2_add_J32 at hF
  refine lv_iload_n S.1 S.2.1 dX2_add_32 rfl (lv_at hl 1 rfl) ?_
  refine lv_bipush (v := (-9)) S.1 S.2.1 dX2_add_33 (by decide) ?_
  refine lv_icmp_ne (tgt := 48) S.1 S.2.1 dX2_add_35 (by decide) (fun c3 => ?_) (fun c3 => ?_)
  · replace hF := kif hF c3
    refine lv_aload_n S.1 S.2.1 dX2_add_48 rfl (lv_at hl 0 rfl) ?_
    refine lv_aload_n S.1 S.2.1 dX2_add_49 rfl (lv_at hl 0 rfl) ?_
    refine gf_X2_18 (q := 20) S hw rfl (Nat.le_of_ble_eq_true rfl) rfl dX2_add_50 ?_
    refine lv_iload_n S.1 S.2.1 dX2_add_53 rfl (lv_at hl 1 rfl) ?_
    obtain ⟨r6, σ5, e4, hF⟩ := kbi_e hF
    refine kcNX4_withOne S hw hw.2.2.2.2.2.1 cv_X2_24 ⟨Nat.le_of_ble_eq_true rfl, Nat.le_of_ble_eq_true rfl⟩ e4 hl.1 (Nat.le_of_ble_eq_true rfl) dX2_add_54 (fun H locs hw => ?_)
    refine pf_X2_18 (q := 20) S hw rfl (Nat.le_of_ble_eq_true rfl) rfl dX2_add_57 (fun H locs hw => ?_)
    cases kre hF
    exact hR _ _ _ _ dX2_add_60 hw
  · replace hF := kit hF c3
    refine lv_aload_n S.1 S.2.1 dX2_add_38 rfl (lv_at hl 0 rfl) ?_
    refine lv_dup S.1 S.2.1 dX2_add_39 rfl ?_
    refine gf_X2_21 (q := 20) S hw rfl (Nat.le_of_ble_eq_true rfl) rfl dX2_add_40 ?_
    refine lv_iconst (v := 1) S.1 S.2.1 dX2_add_43 (by decide) ?_
    refine lv_iadd S.1 S.2.1 dX2_add_44 ?_
    refine pf_X2_21 (q := 20) S hw rfl (Nat.le_of_ble_eq_true rfl) rfl dX2_add_45 (fun H locs hw => ?_)
    refine lv_aload_n S.1 S.2.1 dX2_add_48 rfl (lv_at hl 0 rfl) ?_
    refine lv_aload_n S.1 S.2.1 dX2_add_49 rfl (lv_at hl 0 rfl) ?_
    refine gf_X2_18 (q := 20) S hw rfl (Nat.le_of_ble_eq_true rfl) rfl dX2_add_50 ?_
    refine lv_iload_n S.1 S.2.1 dX2_add_53 rfl (lv_at hl 1 rfl) ?_
    obtain ⟨r9, σ8, e7, hF⟩ := kbi_e hF
    refine kcNX4_withOne S hw hw.2.2.2.2.2.1 cv_X2_24 ⟨Nat.le_of_ble_eq_true rfl, Nat.le_of_ble_eq_true rfl⟩ e7 hl.1 (Nat.le_of_ble_eq_true rfl) dX2_add_54 (fun H locs hw => ?_)
    refine pf_X2_18 (q := 20) S hw rfl (Nat.le_of_ble_eq_true rfl) rfl dX2_add_57 (fun H locs hw => ?_)
    cases kre hF
    exact hR _ _ _ _ dX2_add_60 hw
set_option maxHeartbeats 4000000 in
set_option maxRecDepth 100000 in
theorem mX2_add {l : Launch} {E : kE} {ω σ σ1 : kS} {a1 : Int32} {a2 : Int32} {a3 : Int32}  (hF : fX2_add a1 a2 a3 σ = some σ1) : kMetV l yX2_add cX2_add 4 1 E [.ref (ead E 20), .int a1, .int a2, .int a3] (cmb σ ω) (cmb σ1 ω) := by
  refine kMetV.of (by decide +kernel) (Nat.le_of_ble_eq_true rfl) ?_
  intro p e s m args below meth c Q ls S hR hw hl
  have hl : lv_has ls 4 [(0, .ref (ead E 20)), (1, .int a1), (2, .int a2), (3, .int a3)] := hl
  unfold fX2_add at hF
  refine lv_iload_n S.1 S.2.1 dX2_add_0 rfl (lv_at hl 3 rfl) ?_
  refine lv_iload_n S.1 S.2.1 dX2_add_1 rfl (lv_at hl 2 rfl) ?_
  refine lv_icmp_ne (tgt := 18) S.1 S.2.1 dX2_add_2 (by decide) (fun c1 => ?_) (fun c1 => ?_)
  · replace hF := kif hF c1
    refine lv_aload_n S.1 S.2.1 dX2_add_18 rfl (lv_at hl 0 rfl) ?_
    refine gf_X2_15 (q := 20) S hw rfl (Nat.le_of_ble_eq_true rfl) rfl dX2_add_19 ?_
    refine lv_bipush (v := (-9)) S.1 S.2.1 dX2_add_22 (by decide) ?_
    refine lv_icmp_ne (tgt := 32) S.1 S.2.1 dX2_add_24 (by decide) (fun c2 => ?_) (fun c2 => ?_)
    · replace hF := kif hF c2
      exact wX2_add_J32 S hR a3 _ _ _ _ hF hw (lv_sub hl [0, 3] rfl)
    · replace hF := kit hF c2
      refine lv_aload_n S.1 S.2.1 dX2_add_27 rfl (lv_at hl 0 rfl) ?_
      refine lv_iload_n S.1 S.2.1 dX2_add_28 rfl (lv_at hl 1 rfl) ?_
      refine pf_X2_15 (q := 20) S hw rfl (Nat.le_of_ble_eq_true rfl) rfl dX2_add_29 (fun H locs hw => ?_)
      exact wX2_add_J32 S hR a3 _ _ _ _ hF hw (lv_sub hl [0, 3] rfl)
  · replace hF := kit hF c1
    refine lv_aload_n S.1 S.2.1 dX2_add_5 rfl (lv_at hl 0 rfl) ?_
    refine lv_dup S.1 S.2.1 dX2_add_6 rfl ?_
    refine gf_X2_9 (q := 20) S hw rfl (Nat.le_of_ble_eq_true rfl) rfl dX2_add_7 ?_
    refine lv_iconst (v := 1) S.1 S.2.1 dX2_add_10 (by decide) ?_
    refine lv_iadd S.1 S.2.1 dX2_add_11 ?_
    refine pf_X2_9 (q := 20) S hw rfl (Nat.le_of_ble_eq_true rfl) rfl dX2_add_12 (fun H locs hw => ?_)
    exact wX2_add_J32 S hR a3 _ _ _ _ hF hw (lv_sub hl [0, 3] rfl)
set_option maxRecDepth 100000 in
theorem kcX2_add {p : Program} {l : Launch} {e : Env} {R : Room} {s : State} {m : MethodId} {args : Array Value} {below : List Frame} {meth : Method} {c : Code} {H : Heap} {locs : List Loc} {cells slots : Nat} {Q : State → Prop} {cc : ByteArray} {pc : Nat} {ls : Array Slot} {rest : List Value} {E : kE} {σ ω σ1 : kS} {nL index : Nat} {own : String} (S : CallFix p m c cc nL s args kBIG own) (hw : kWS E s (cmb σ ω) H locs) (cw : kV own RX2 index yX2_add cX2_add 4 none 3) (hR : 1 + 1 ≤ R.frames ∧ 8 + (4 + 11) + 30 * 1 ≤ R.locals) {a1 : Int32} {a2 : Int32} {a3 : Int32}  (hF : fX2_add a1 a2 a3 σ = some σ1) (hls : ls.size = nL) (hW : (rest.map fun v => v.category).sum ≤ 8) (hdg : decode cc pc = .ok (.invokevirtual index, 3)) (kk : ∀ (H1 : Heap) (locs1 : List Loc), kWS E s (cmb σ1 ω) H1 locs1 → W p l e R s m args below meth c H1 locs1 cells slots Q (F0 m (pc + 3) ls rest)) (hf : cells ≤ R.cells ∧ slots ≤ R.slots := by exact ⟨Nat.le_of_ble_eq_true rfl, Nat.le_of_ble_eq_true rfl⟩) : W p l e R s m args below meth c H locs cells slots Q (F0 m pc ls (.int a3 :: .int a2 :: .int a1 :: .ref (ead E 20) :: rest)) := kr_callv hw (kr_runV (As := [.int a1, .int a2, .int a3]) (q := 20) S hw ((mX2_add (l := l) (E := E) (ω := ω) hF) H.size) cw hR rfl (by decide) rfl rfl hls _ rfl hW hdg hf) kk
set_option maxHeartbeats 4000000 in
set_option maxRecDepth 100000 in
theorem mX4_isBelow {l : Launch} {E : kE} {ω σ σ1 : kS} {r : Int32} {a0 : Int32} {a1 : Int32}  (hF : fX4_isBelow a0 a1 σ = some (r, σ1)) : kMetI l yX4_isBelow cX4_isBelow 2 (some .boolean) 0 E [.int a0, .int a1] (cmb σ ω) r (cmb σ1 ω) := by
  refine kMetI.of (by decide +kernel) (Nat.le_of_ble_eq_true rfl) (Or.inr rfl) ?_
  intro p e s m args below meth c Q ls S hR hw hl
  have hl : lv_has ls 2 [(0, .int a0), (1, .int a1)] := hl
  unfold fX4_isBelow at hF
  refine lv_iload_n S.1 S.2.1 dX4_isBelow_0 rfl (lv_at hl 0 rfl) ?_
  refine lv_if_lt (tgt := 13) S.1 S.2.1 dX4_isBelow_1 (by decide) (fun c1 => ?_) (fun c1 => ?_)
  · replace hF := kit hF c1
    refine lv_iconst (v := 0) S.1 S.2.1 dX4_isBelow_13 (by decide) ?_
    obtain ⟨rfl, rfl⟩ := kret hF
    exact hR _ _ _ _ dX4_isBelow_14 hw (fun _ => (Or.inl rfl))
  · replace hF := kif hF c1
    refine lv_iload_n S.1 S.2.1 dX4_isBelow_4 rfl (lv_at hl 0 rfl) ?_
    refine lv_iload_n S.1 S.2.1 dX4_isBelow_5 rfl (lv_at hl 1 rfl) ?_
    refine lv_icmp_ge (tgt := 13) S.1 S.2.1 dX4_isBelow_6 (by decide) (fun c2 => ?_) (fun c2 => ?_)
    · replace hF := kit hF c2
      refine lv_iconst (v := 0) S.1 S.2.1 dX4_isBelow_13 (by decide) ?_
      obtain ⟨rfl, rfl⟩ := kret hF
      exact hR _ _ _ _ dX4_isBelow_14 hw (fun _ => (Or.inl rfl))
    · replace hF := kif hF c2
      refine lv_iconst (v := 1) S.1 S.2.1 dX4_isBelow_9 (by decide) ?_
      obtain ⟨rfl, rfl⟩ := kret hF
      exact hR _ _ _ _ dX4_isBelow_14 hw (fun _ => (Or.inr rfl))
set_option maxRecDepth 100000 in
theorem kcX4_isBelow {p : Program} {l : Launch} {e : Env} {R : Room} {s : State} {m : MethodId} {args : Array Value} {below : List Frame} {meth : Method} {c : Code} {H : Heap} {locs : List Loc} {cells slots : Nat} {Q : State → Prop} {cc : ByteArray} {pc : Nat} {ls : Array Slot} {rest : List Value} {E : kE} {σ ω σ1 : kS} {nL index : Nat} {own : String} {r : Int32} (S : CallFix p m c cc nL s args kBIG own) (hw : kWS E s (cmb σ ω) H locs) (cw : kSt own index yX4_isBelow cX4_isBelow 2 (some .boolean) 2) (hR : 0 + 1 ≤ R.frames ∧ 8 + (2 + 11) + 30 * 0 ≤ R.locals) {a0 : Int32} {a1 : Int32}  (hF : fX4_isBelow a0 a1 σ = some (r, σ1)) (hls : ls.size = nL) (hW : (rest.map fun v => v.category).sum ≤ 8) (hdg : decode cc pc = .ok (.invokestatic index, 3)) (kk : ∀ (H1 : Heap) (locs1 : List Loc), kWS E s (cmb σ1 ω) H1 locs1 → ((some .boolean) = some .boolean → r = 0 ∨ r = 1) → W p l e R s m args below meth c H1 locs1 cells slots Q (F0 m (pc + 3) ls (.int r :: rest))) (hf : cells ≤ R.cells ∧ slots ≤ R.slots := by exact ⟨Nat.le_of_ble_eq_true rfl, Nat.le_of_ble_eq_true rfl⟩) : W p l e R s m args below meth c H locs cells slots Q (F0 m pc ls (.int a1 :: .int a0 :: rest)) := kr_calli (mc := 0) (y := yX4_isBelow) (b := cX4_isBelow) (n := 0) (lv := 0) (As := []) hw (kr_runS (As := [.int a0, .int a1]) S hw ((mX4_isBelow (l := l) (E := E) (ω := ω) hF) H.size) cw hR rfl hls _ rfl hW hdg hf) kk
set_option maxRecDepth 100000 in
theorem kcNX4_isBelow {p : Program} {l : Launch} {e : Env} {R : Room} {s : State} {m : MethodId} {args : Array Value} {below : List Frame} {meth : Method} {c : Code} {H : Heap} {locs : List Loc} {cells slots : Nat} {Q : State → Prop} {cc : ByteArray} {pc : Nat} {ls : Array Slot} {rest : List Value} {E : kE} {σ ω σ1 : kS} {nL index : Nat} {own : String} {r : Int32} (S : CallFix p m c cc nL s args kBIG own) (hw : kWS E s (cmb σ ω) H locs) {host : String} (hn : va_Nw (.methodLinkNest own index yX4_isBelow host) s) (cw : kNs yX4_isBelow cX4_isBelow 2 (some .boolean) 2) (hR : 0 + 1 ≤ R.frames ∧ 8 + (2 + 11) + 30 * 0 ≤ R.locals) {a0 : Int32} {a1 : Int32}  (hF : fX4_isBelow a0 a1 σ = some (r, σ1)) (hls : ls.size = nL) (hW : (rest.map fun v => v.category).sum ≤ 8) (hdg : decode cc pc = .ok (.invokestatic index, 3)) (kk : ∀ (H1 : Heap) (locs1 : List Loc), kWS E s (cmb σ1 ω) H1 locs1 → ((some .boolean) = some .boolean → r = 0 ∨ r = 1) → W p l e R s m args below meth c H1 locs1 cells slots Q (F0 m (pc + 3) ls (.int r :: rest))) (hf : cells ≤ R.cells ∧ slots ≤ R.slots := by exact ⟨Nat.le_of_ble_eq_true rfl, Nat.le_of_ble_eq_true rfl⟩) : W p l e R s m args below meth c H locs cells slots Q (F0 m pc ls (.int a1 :: .int a0 :: rest)) := kr_calli (mc := 0) (y := yX4_isBelow) (b := cX4_isBelow) (n := 0) (lv := 0) (As := []) hw (kr_runN (As := [.int a0, .int a1]) S hw hn ((mX4_isBelow (l := l) (E := E) (ω := ω) hF) H.size) cw hR rfl hls _ rfl hW hdg hf) kk
set_option maxHeartbeats 4000000 in
set_option maxRecDepth 100000 in
theorem mX3_isDigitBelow {l : Launch} {E : kE} {ω σ σ1 : kS} {r : Int32} {a0 : Int32} {a1 : Int32}  (hF : fX3_isDigitBelow a0 a1 σ = some (r, σ1)) : kMetI l yX3_isDigitBelow cX3_isDigitBelow 2 (some .boolean) 1 E [.int a0, .int a1] (cmb σ ω) r (cmb σ1 ω) := by
  refine kMetI.of (by decide +kernel) (Nat.le_of_ble_eq_true rfl) (Or.inr rfl) ?_
  intro p e s m args below meth c Q ls S hR hw hl
  have hl : lv_has ls 2 [(0, .int a0), (1, .int a1)] := hl
  unfold fX3_isDigitBelow at hF
  refine lv_iload_n S.1 S.2.1 dX3_isDigitBelow_0 rfl (lv_at hl 0 rfl) ?_
  refine lv_bipush (v := 48) S.1 S.2.1 dX3_isDigitBelow_1 (by decide) ?_
  refine lv_isub S.1 S.2.1 dX3_isDigitBelow_3 ?_
  refine lv_iload_n S.1 S.2.1 dX3_isDigitBelow_4 rfl (lv_at hl 1 rfl) ?_
  obtain ⟨r3, σ2, e1, hF⟩ := kbi_e hF
  refine kcNX4_isBelow S hw hw.2.2.2.2.2.2 cv_X3_18 ⟨Nat.le_of_ble_eq_true rfl, Nat.le_of_ble_eq_true rfl⟩ e1 hl.1 (Nat.le_of_ble_eq_true rfl) dX3_isDigitBelow_5 (fun H locs hw hz4 => ?_)
  obtain ⟨rfl, rfl⟩ := kret hF
  exact hR _ _ _ _ dX3_isDigitBelow_8 hw (fun _ => (hz4 rfl))
set_option maxRecDepth 100000 in
theorem kcX3_isDigitBelow {p : Program} {l : Launch} {e : Env} {R : Room} {s : State} {m : MethodId} {args : Array Value} {below : List Frame} {meth : Method} {c : Code} {H : Heap} {locs : List Loc} {cells slots : Nat} {Q : State → Prop} {cc : ByteArray} {pc : Nat} {ls : Array Slot} {rest : List Value} {E : kE} {σ ω σ1 : kS} {nL index : Nat} {own : String} {r : Int32} (S : CallFix p m c cc nL s args kBIG own) (hw : kWS E s (cmb σ ω) H locs) (cw : kSt own index yX3_isDigitBelow cX3_isDigitBelow 2 (some .boolean) 2) (hR : 1 + 1 ≤ R.frames ∧ 8 + (2 + 11) + 30 * 1 ≤ R.locals) {a0 : Int32} {a1 : Int32}  (hF : fX3_isDigitBelow a0 a1 σ = some (r, σ1)) (hls : ls.size = nL) (hW : (rest.map fun v => v.category).sum ≤ 8) (hdg : decode cc pc = .ok (.invokestatic index, 3)) (kk : ∀ (H1 : Heap) (locs1 : List Loc), kWS E s (cmb σ1 ω) H1 locs1 → ((some .boolean) = some .boolean → r = 0 ∨ r = 1) → W p l e R s m args below meth c H1 locs1 cells slots Q (F0 m (pc + 3) ls (.int r :: rest))) (hf : cells ≤ R.cells ∧ slots ≤ R.slots := by exact ⟨Nat.le_of_ble_eq_true rfl, Nat.le_of_ble_eq_true rfl⟩) : W p l e R s m args below meth c H locs cells slots Q (F0 m pc ls (.int a1 :: .int a0 :: rest)) := kr_calli (mc := 0) (y := yX3_isDigitBelow) (b := cX3_isDigitBelow) (n := 0) (lv := 0) (As := []) hw (kr_runS (As := [.int a0, .int a1]) S hw ((mX3_isDigitBelow (l := l) (E := E) (ω := ω) hF) H.size) cw hR rfl hls _ rfl hW hdg hf) kk
set_option maxHeartbeats 4000000 in
set_option maxRecDepth 100000 in
theorem mX3_goesOnWith {l : Launch} {E : kE} {ω σ σ1 : kS} {r : Int32} {a0 : Int32} {a1 : Int32}  (hF : fX3_goesOnWith a0 a1 σ = some (r, σ1)) : kMetI l yX3_goesOnWith cX3_goesOnWith 2 (some .boolean) 2 E [.int a0, .int a1] (cmb σ ω) r (cmb σ1 ω) := by
  refine kMetI.of (by decide +kernel) (Nat.le_of_ble_eq_true rfl) (Or.inr rfl) ?_
  intro p e s m args below meth c Q ls S hR hw hl
  have hl : lv_has ls 2 [(0, .int a0), (1, .int a1)] := hl
  unfold fX3_goesOnWith at hF
  refine lv_iload_n S.1 S.2.1 dX3_goesOnWith_0 rfl (lv_at hl 0 rfl) ?_
  refine lv_bipush (v := 33) S.1 S.2.1 dX3_goesOnWith_1 (by decide) ?_
  refine lv_icmp_lt (tgt := 8) S.1 S.2.1 dX3_goesOnWith_3 (by decide) (fun c1 => ?_) (fun c1 => ?_)
  · replace hF := kit hF c1
    refine lv_iload_n S.1 S.2.1 dX3_goesOnWith_8 rfl (lv_at hl 0 rfl) ?_
    refine lv_iconst (v := 3) S.1 S.2.1 dX3_goesOnWith_9 (by decide) ?_
    refine lv_icmp_ge (tgt := 47) S.1 S.2.1 dX3_goesOnWith_10 (by decide) (fun c2 => ?_) (fun c2 => ?_)
    · replace hF := kit hF c2
      refine lv_iload_n S.1 S.2.1 dX3_goesOnWith_47 rfl (lv_at hl 0 rfl) ?_
      refine lv_iconst (v := 3) S.1 S.2.1 dX3_goesOnWith_48 (by decide) ?_
      refine lv_isub S.1 S.2.1 dX3_goesOnWith_49 ?_
      refine lv_iconst (v := 5) S.1 S.2.1 dX3_goesOnWith_50 (by decide) ?_
      refine lv_irem S.1 S.2.1 dX3_goesOnWith_51 (by decide) ?_
      by_cases c3 : ((a0 - 3) - (a0 - 3) / 5 * 5) = 0
      · replace hF := kit hF c3
        refine lv_tableIn (tgt := 88) S.1 S.2.1 dX3_goesOnWith_52 (by rw [c3]; decide) (by rw [c3]; decide) (by rw [c3]; rfl) (by decide) ?_
        refine lv_iload_n S.1 S.2.1 dX3_goesOnWith_88 rfl (lv_at hl 1 rfl) ?_
        refine lv_bipush (v := 59) S.1 S.2.1 dX3_goesOnWith_89 (by decide) ?_
        refine lv_icmp_ne (tgt := 98) S.1 S.2.1 dX3_goesOnWith_91 (by decide) (fun c4 => ?_) (fun c4 => ?_)
        · replace hF := kif hF c4
          refine lv_iconst (v := 0) S.1 S.2.1 dX3_goesOnWith_98 (by decide) ?_
          obtain ⟨rfl, rfl⟩ := kret hF
          exact hR _ _ _ _ dX3_goesOnWith_99 hw (fun _ => (Or.inl rfl))
        · replace hF := kit hF c4
          refine lv_iconst (v := 1) S.1 S.2.1 dX3_goesOnWith_94 (by decide) ?_
          obtain ⟨rfl, rfl⟩ := kret hF
          exact hR _ _ _ _ dX3_goesOnWith_99 hw (fun _ => (Or.inr rfl))
      · replace hF := kif hF c3
        by_cases c5 : ((a0 - 3) - (a0 - 3) / 5 * 5) = 1
        · replace hF := kit hF c5
          refine lv_tableIn (tgt := 100) S.1 S.2.1 dX3_goesOnWith_52 (by rw [c5]; decide) (by rw [c5]; decide) (by rw [c5]; rfl) (by decide) ?_
          refine lv_iload_n S.1 S.2.1 dX3_goesOnWith_100 rfl (lv_at hl 1 rfl) ?_
          refine lv_bipush (v := 112) S.1 S.2.1 dX3_goesOnWith_101 (by decide) ?_
          refine lv_icmp_eq (tgt := 118) S.1 S.2.1 dX3_goesOnWith_103 (by decide) (fun c6 => ?_) (fun c6 => ?_)
          · replace hF := kit hF c6
            refine lv_iconst (v := 1) S.1 S.2.1 dX3_goesOnWith_118 (by decide) ?_
            obtain ⟨rfl, rfl⟩ := kret hF
            exact hR _ _ _ _ dX3_goesOnWith_123 hw (fun _ => (Or.inr rfl))
          · replace hF := kif hF c6
            refine lv_iload_n S.1 S.2.1 dX3_goesOnWith_106 rfl (lv_at hl 1 rfl) ?_
            refine lv_bipush (v := 114) S.1 S.2.1 dX3_goesOnWith_107 (by decide) ?_
            refine lv_icmp_eq (tgt := 118) S.1 S.2.1 dX3_goesOnWith_109 (by decide) (fun c7 => ?_) (fun c7 => ?_)
            · replace hF := kit hF c7
              refine lv_iconst (v := 1) S.1 S.2.1 dX3_goesOnWith_118 (by decide) ?_
              obtain ⟨rfl, rfl⟩ := kret hF
              exact hR _ _ _ _ dX3_goesOnWith_123 hw (fun _ => (Or.inr rfl))
            · replace hF := kif hF c7
              refine lv_iload_n S.1 S.2.1 dX3_goesOnWith_112 rfl (lv_at hl 1 rfl) ?_
              refine lv_bipush (v := 107) S.1 S.2.1 dX3_goesOnWith_113 (by decide) ?_
              refine lv_icmp_ne (tgt := 122) S.1 S.2.1 dX3_goesOnWith_115 (by decide) (fun c8 => ?_) (fun c8 => ?_)
              · replace hF := kif hF c8
                refine lv_iconst (v := 0) S.1 S.2.1 dX3_goesOnWith_122 (by decide) ?_
                obtain ⟨rfl, rfl⟩ := kret hF
                exact hR _ _ _ _ dX3_goesOnWith_123 hw (fun _ => (Or.inl rfl))
              · replace hF := kit hF c8
                refine lv_iconst (v := 1) S.1 S.2.1 dX3_goesOnWith_118 (by decide) ?_
                obtain ⟨rfl, rfl⟩ := kret hF
                exact hR _ _ _ _ dX3_goesOnWith_123 hw (fun _ => (Or.inr rfl))
        · replace hF := kif hF c5
          by_cases c9 : ((a0 - 3) - (a0 - 3) / 5 * 5) = 2
          · replace hF := kit hF c9
            refine lv_tableIn (tgt := 131) S.1 S.2.1 dX3_goesOnWith_52 (by rw [c9]; decide) (by rw [c9]; decide) (by rw [c9]; rfl) (by decide) ?_
            refine lv_iload_n S.1 S.2.1 dX3_goesOnWith_131 rfl (lv_at hl 1 rfl) ?_
            refine lv_bipush (v := 8) S.1 S.2.1 dX3_goesOnWith_132 (by decide) ?_
            obtain ⟨r12, σ11, e10, hF⟩ := kbi_e hF
            refine kcX3_isDigitBelow S hw cv_X3_15 ⟨Nat.le_of_ble_eq_true rfl, Nat.le_of_ble_eq_true rfl⟩ e10 hl.1 (Nat.le_of_ble_eq_true rfl) dX3_goesOnWith_134 (fun H locs hw hz13 => ?_)
            obtain ⟨rfl, rfl⟩ := kret hF
            exact hR _ _ _ _ dX3_goesOnWith_137 hw (fun _ => (hz13 rfl))
          · replace hF := kif hF c9
            by_cases c14 : ((a0 - 3) - (a0 - 3) / 5 * 5) = 3
            · replace hF := kit hF c14
              refine lv_tableIn (tgt := 131) S.1 S.2.1 dX3_goesOnWith_52 (by rw [c14]; decide) (by rw [c14]; decide) (by rw [c14]; rfl) (by decide) ?_
              refine lv_iload_n S.1 S.2.1 dX3_goesOnWith_131 rfl (lv_at hl 1 rfl) ?_
              refine lv_bipush (v := 8) S.1 S.2.1 dX3_goesOnWith_132 (by decide) ?_
              obtain ⟨r17, σ16, e15, hF⟩ := kbi_e hF
              refine kcX3_isDigitBelow S hw cv_X3_15 ⟨Nat.le_of_ble_eq_true rfl, Nat.le_of_ble_eq_true rfl⟩ e15 hl.1 (Nat.le_of_ble_eq_true rfl) dX3_goesOnWith_134 (fun H locs hw hz18 => ?_)
              obtain ⟨rfl, rfl⟩ := kret hF
              exact hR _ _ _ _ dX3_goesOnWith_137 hw (fun _ => (hz18 rfl))
            · replace hF := kif hF c14
              by_cases c19 : ((a0 - 3) - (a0 - 3) / 5 * 5) = 4
              · replace hF := kit hF c19
                refine lv_tableIn (tgt := 124) S.1 S.2.1 dX3_goesOnWith_52 (by rw [c19]; decide) (by rw [c19]; decide) (by rw [c19]; rfl) (by decide) ?_
                refine lv_iload_n S.1 S.2.1 dX3_goesOnWith_124 rfl (lv_at hl 1 rfl) ?_
                refine lv_bipush (v := 10) S.1 S.2.1 dX3_goesOnWith_125 (by decide) ?_
                obtain ⟨r22, σ21, e20, hF⟩ := kbi_e hF
                refine kcX3_isDigitBelow S hw cv_X3_15 ⟨Nat.le_of_ble_eq_true rfl, Nat.le_of_ble_eq_true rfl⟩ e20 hl.1 (Nat.le_of_ble_eq_true rfl) dX3_goesOnWith_127 (fun H locs hw hz23 => ?_)
                obtain ⟨rfl, rfl⟩ := kret hF
                exact hR _ _ _ _ dX3_goesOnWith_130 hw (fun _ => (hz23 rfl))
              · replace hF := kif hF c19
                refine lv_tableOut (tgt := 131) S.1 S.2.1 dX3_goesOnWith_52 (ktab5 c3 c5 c9 c14 c19) (by decide) ?_
                refine lv_iload_n S.1 S.2.1 dX3_goesOnWith_131 rfl (lv_at hl 1 rfl) ?_
                refine lv_bipush (v := 8) S.1 S.2.1 dX3_goesOnWith_132 (by decide) ?_
                obtain ⟨r26, σ25, e24, hF⟩ := kbi_e hF
                refine kcX3_isDigitBelow S hw cv_X3_15 ⟨Nat.le_of_ble_eq_true rfl, Nat.le_of_ble_eq_true rfl⟩ e24 hl.1 (Nat.le_of_ble_eq_true rfl) dX3_goesOnWith_134 (fun H locs hw hz27 => ?_)
                obtain ⟨rfl, rfl⟩ := kret hF
                exact hR _ _ _ _ dX3_goesOnWith_137 hw (fun _ => (hz27 rfl))
    · replace hF := kif hF c2
      refine lv_iload_n S.1 S.2.1 dX3_goesOnWith_13 rfl (lv_at hl 0 rfl) ?_
      refine lv_if_ne (tgt := 31) S.1 S.2.1 dX3_goesOnWith_14 (by decide) (fun c28 => ?_) (fun c28 => ?_)
      · replace hF := kif hF c28
        refine lv_iload_n S.1 S.2.1 dX3_goesOnWith_31 rfl (lv_at hl 1 rfl) ?_
        refine lv_iload_n S.1 S.2.1 dX3_goesOnWith_32 rfl (lv_at hl 0 rfl) ?_
        refine lv_iconst (v := 1) S.1 S.2.1 dX3_goesOnWith_33 (by decide) ?_
        refine lv_icmp_ne (tgt := 42) S.1 S.2.1 dX3_goesOnWith_34 (by decide) (fun c29 => ?_) (fun c29 => ?_)
        · replace hF := kif hF c29
          refine lv_iconst (v := 4) S.1 S.2.1 dX3_goesOnWith_42 (by decide) ?_
          obtain ⟨r32, σ31, e30, hF⟩ := kbi_e hF
          refine kcX3_isDigitBelow S hw cv_X3_15 ⟨Nat.le_of_ble_eq_true rfl, Nat.le_of_ble_eq_true rfl⟩ e30 hl.1 (Nat.le_of_ble_eq_true rfl) dX3_goesOnWith_43 (fun H locs hw hz33 => ?_)
          obtain ⟨rfl, rfl⟩ := kret hF
          exact hR _ _ _ _ dX3_goesOnWith_46 hw (fun _ => (hz33 rfl))
        · replace hF := kit hF c29
          refine lv_bipush (v := 10) S.1 S.2.1 dX3_goesOnWith_37 (by decide) ?_
          obtain ⟨r36, σ35, e34, hF⟩ := kbi_e hF
          refine kcX3_isDigitBelow S hw cv_X3_15 ⟨Nat.le_of_ble_eq_true rfl, Nat.le_of_ble_eq_true rfl⟩ e34 hl.1 (Nat.le_of_ble_eq_true rfl) dX3_goesOnWith_43 (fun H locs hw hz37 => ?_)
          obtain ⟨rfl, rfl⟩ := kret hF
          exact hR _ _ _ _ dX3_goesOnWith_46 hw (fun _ => (hz37 rfl))
      · replace hF := kit hF c28
        refine lv_iload_n S.1 S.2.1 dX3_goesOnWith_17 rfl (lv_at hl 1 rfl) ?_
        refine lv_bipush (v := 100) S.1 S.2.1 dX3_goesOnWith_18 (by decide) ?_
        refine lv_icmp_ne (tgt := 27) S.1 S.2.1 dX3_goesOnWith_20 (by decide) (fun c38 => ?_) (fun c38 => ?_)
        · replace hF := kif hF c38
          refine lv_iconst (v := 0) S.1 S.2.1 dX3_goesOnWith_27 (by decide) ?_
          obtain ⟨rfl, rfl⟩ := kret hF
          exact hR _ _ _ _ dX3_goesOnWith_46 hw (fun _ => (Or.inl rfl))
        · replace hF := kit hF c38
          refine lv_iconst (v := 1) S.1 S.2.1 dX3_goesOnWith_23 (by decide) ?_
          obtain ⟨rfl, rfl⟩ := kret hF
          exact hR _ _ _ _ dX3_goesOnWith_46 hw (fun _ => (Or.inr rfl))
  · replace hF := kif hF c1
    refine lv_iconst (v := 0) S.1 S.2.1 dX3_goesOnWith_6 (by decide) ?_
    obtain ⟨rfl, rfl⟩ := kret hF
    exact hR _ _ _ _ dX3_goesOnWith_7 hw (fun _ => (Or.inl rfl))
set_option maxRecDepth 100000 in
theorem kcX3_goesOnWith {p : Program} {l : Launch} {e : Env} {R : Room} {s : State} {m : MethodId} {args : Array Value} {below : List Frame} {meth : Method} {c : Code} {H : Heap} {locs : List Loc} {cells slots : Nat} {Q : State → Prop} {cc : ByteArray} {pc : Nat} {ls : Array Slot} {rest : List Value} {E : kE} {σ ω σ1 : kS} {nL index : Nat} {own : String} {r : Int32} (S : CallFix p m c cc nL s args kBIG own) (hw : kWS E s (cmb σ ω) H locs) (cw : kSt own index yX3_goesOnWith cX3_goesOnWith 2 (some .boolean) 2) (hR : 2 + 1 ≤ R.frames ∧ 8 + (2 + 11) + 30 * 2 ≤ R.locals) {a0 : Int32} {a1 : Int32}  (hF : fX3_goesOnWith a0 a1 σ = some (r, σ1)) (hls : ls.size = nL) (hW : (rest.map fun v => v.category).sum ≤ 8) (hdg : decode cc pc = .ok (.invokestatic index, 3)) (kk : ∀ (H1 : Heap) (locs1 : List Loc), kWS E s (cmb σ1 ω) H1 locs1 → ((some .boolean) = some .boolean → r = 0 ∨ r = 1) → W p l e R s m args below meth c H1 locs1 cells slots Q (F0 m (pc + 3) ls (.int r :: rest))) (hf : cells ≤ R.cells ∧ slots ≤ R.slots := by exact ⟨Nat.le_of_ble_eq_true rfl, Nat.le_of_ble_eq_true rfl⟩) : W p l e R s m args below meth c H locs cells slots Q (F0 m pc ls (.int a1 :: .int a0 :: rest)) := kr_calli (mc := 0) (y := yX3_goesOnWith) (b := cX3_goesOnWith) (n := 0) (lv := 0) (As := []) hw (kr_runS (As := [.int a0, .int a1]) S hw ((mX3_goesOnWith (l := l) (E := E) (ω := ω) hF) H.size) cw hR rfl hls _ rfl hW hdg hf) kk
set_option maxHeartbeats 4000000 in
set_option maxRecDepth 100000 in
theorem wX3_firstFault_L2 {p : Program} {l : Launch} {e : Env} {s : State} {m : MethodId} {args : Array Value} {below : List Frame} {meth : Method} {c : Code} {Q : State → Prop} {E : kE} {ω σ1 : kS} {r : Int32} (S : CallFix p m c cX3_firstFault 4 s args kBIG RX3) (hR : kRetI p l e (rml 3) s m args below meth c cX3_firstFault E Q (some .int) r (cmb σ1 ω))  : ∀ (n : Nat), ∀ (q0 : Nat) (a1 : Int32) (a2 : Int32) (a3 : Int32) (hq0 : xA q0 60) (σ : kS) (H : Heap) (locs : List Loc) (ls : Array Slot), fX3_firstFault_L2 n q0 a1 a2 a3 σ = some (r, σ1) → kWS E s (cmb σ ω) H locs → lv_has ls 4 [(0, .ref (ead E q0)), (1, .int a1), (2, .int a2), (3, .int a3)] → W p l e (rml 3) s m args below meth c H locs 0 0 Q (F0 m 2 ls []) := by
  intro n
  induction n with
  | zero =>
    intro q0 a1 a2 a3 hq0 σ H locs ls hF hw hl
    exact absurd hF (fun h => nomatch h)
  | succ n ih =>
    intro q0 a1 a2 a3 hq0 σ H locs ls hF hw hl
    rw [fX3_firstFault_L2] at hF
    refine lv_iload_n S.1 S.2.1 dX3_firstFault_2 rfl (lv_at hl 3 rfl) ?_
    refine lv_iload_n S.1 S.2.1 dX3_firstFault_3 rfl (lv_at hl 2 rfl) ?_
    refine lv_icmp_ge (tgt := 27) S.1 S.2.1 dX3_firstFault_4 (by decide) (fun c1 => ?_) (fun c1 => ?_)
    · replace hF := kit hF c1
      refine lv_iload_n S.1 S.2.1 dX3_firstFault_27 rfl (lv_at hl 2 rfl) ?_
      refine lv_bipush (v := 13) S.1 S.2.1 dX3_firstFault_28 (by decide) ?_
      refine lv_icmp_lt (tgt := 46) S.1 S.2.1 dX3_firstFault_30 (by decide) (fun c2 => ?_) (fun c2 => ?_)
      · replace hF := kit hF c2
        refine lv_iload_n S.1 S.2.1 dX3_firstFault_46 rfl (lv_at hl 2 rfl) ?_
        obtain ⟨rfl, rfl⟩ := kret hF
        exact hR _ _ _ _ dX3_firstFault_47 hw (fun h => nomatch h)
      · replace hF := kif hF c2
        refine lv_iload_n S.1 S.2.1 dX3_firstFault_33 rfl (lv_at hl 2 rfl) ?_
        refine lv_iconst (v := 3) S.1 S.2.1 dX3_firstFault_34 (by decide) ?_
        refine lv_isub S.1 S.2.1 dX3_firstFault_35 ?_
        refine lv_iconst (v := 5) S.1 S.2.1 dX3_firstFault_36 (by decide) ?_
        refine lv_irem S.1 S.2.1 dX3_firstFault_37 (by decide) ?_
        refine lv_if_ne (tgt := 46) S.1 S.2.1 dX3_firstFault_38 (by decide) (fun c3 => ?_) (fun c3 => ?_)
        · replace hF := kif hF c3
          refine lv_iload_n S.1 S.2.1 dX3_firstFault_46 rfl (lv_at hl 2 rfl) ?_
          obtain ⟨rfl, rfl⟩ := kret hF
          exact hR _ _ _ _ dX3_firstFault_47 hw (fun h => nomatch h)
        · replace hF := kit hF c3
          refine lv_bipush (v := (-9)) S.1 S.2.1 dX3_firstFault_41 (by decide) ?_
          obtain ⟨rfl, rfl⟩ := kret hF
          exact hR _ _ _ _ dX3_firstFault_47 hw (fun h => nomatch h)
    · replace hF := kif hF c1
      refine lv_iload_n S.1 S.2.1 dX3_firstFault_7 rfl (lv_at hl 3 rfl) ?_
      refine lv_aload_n S.1 S.2.1 dX3_firstFault_8 rfl (lv_at hl 0 rfl) ?_
      refine lv_iload_n S.1 S.2.1 dX3_firstFault_9 rfl (lv_at hl 1 rfl) ?_
      refine lv_iload_n S.1 S.2.1 dX3_firstFault_10 rfl (lv_at hl 3 rfl) ?_
      refine lv_iadd S.1 S.2.1 dX3_firstFault_11 ?_
      obtain ⟨hb4, hF⟩ := kin hF
      refine kx_iald (q := q0) S hw hq0.1 hq0.2 hb4 dX3_firstFault_12 ?_
      obtain ⟨r7, σ6, e5, hF⟩ := kbi_e hF
      refine kcX3_goesOnWith S hw cv_X3_11 ⟨Nat.le_of_ble_eq_true rfl, Nat.le_of_ble_eq_true rfl⟩ e5 hl.1 (Nat.le_of_ble_eq_true rfl) dX3_firstFault_13 (fun H locs hw hz8 => ?_)
      refine lv_if_ne (tgt := 21) S.1 S.2.1 dX3_firstFault_16 (by decide) (fun c9 => ?_) (fun c9 => ?_)
      · replace hF := kif hF c9
        obtain ⟨v10, ev10⟩ : ∃ y : Int32, y = a3 + 1 := ⟨_, rfl⟩
        replace hF := klb hF ev10
        refine lv_iinc (v := v10) (lv' := [(3, .int v10), (0, .ref (ead E q0)), (1, .int a1), (2, .int a2)]) S.1 S.2.1 dX3_firstFault_21 hl (k := 3) rfl (by rw [ev10]; rfl) (by decide) rfl (fun ls hl => ?_)
        exact ih q0 a1 a2 v10 hq0 _ _ _ _ hF hw (lv_sub hl [1, 2, 3, 0] rfl)
      · replace hF := kit hF c9
        refine lv_iload_n S.1 S.2.1 dX3_firstFault_19 rfl (lv_at hl 3 rfl) ?_
        obtain ⟨rfl, rfl⟩ := kret hF
        exact hR _ _ _ _ dX3_firstFault_20 hw (fun h => nomatch h)
set_option maxHeartbeats 4000000 in
set_option maxRecDepth 100000 in
theorem mX3_firstFault {l : Launch} {E : kE} {ω σ σ1 : kS} {r : Int32} {q0 : Nat} {a1 : Int32} {a2 : Int32} (hq0 : xA q0 60) (hF : fX3_firstFault q0 a1 a2 σ = some (r, σ1)) : kMetI l yX3_firstFault cX3_firstFault 4 (some .int) 3 E [.ref (ead E q0), .int a1, .int a2] (cmb σ ω) r (cmb σ1 ω) := by
  refine kMetI.of (by decide +kernel) (Nat.le_of_ble_eq_true rfl) (Or.inl rfl) ?_
  intro p e s m args below meth c Q ls S hR hw hl
  have hl : lv_has ls 4 [(0, .ref (ead E q0)), (1, .int a1), (2, .int a2)] := hl
  unfold fX3_firstFault at hF
  refine lv_iconst (v := 0) S.1 S.2.1 dX3_firstFault_0 (by decide) ?_
  refine lv_istore_n (lv' := [(3, .int 0), (0, .ref (ead E q0)), (1, .int a1), (2, .int a2)]) S.1 S.2.1 dX3_firstFault_1 rfl hl (by decide) rfl (fun ls hl => ?_)
  exact wX3_firstFault_L2 S hR 1000 q0 a1 a2 0 hq0 _ _ _ _ hF hw (lv_sub hl [1, 2, 3, 0] rfl)
set_option maxRecDepth 100000 in
theorem kcX3_firstFault {p : Program} {l : Launch} {e : Env} {R : Room} {s : State} {m : MethodId} {args : Array Value} {below : List Frame} {meth : Method} {c : Code} {H : Heap} {locs : List Loc} {cells slots : Nat} {Q : State → Prop} {cc : ByteArray} {pc : Nat} {ls : Array Slot} {rest : List Value} {E : kE} {σ ω σ1 : kS} {nL index : Nat} {own : String} {r : Int32} (S : CallFix p m c cc nL s args kBIG own) (hw : kWS E s (cmb σ ω) H locs) (cw : kSt own index yX3_firstFault cX3_firstFault 4 (some .int) 3) (hR : 3 + 1 ≤ R.frames ∧ 8 + (4 + 11) + 30 * 3 ≤ R.locals) {q0 : Nat} {a1 : Int32} {a2 : Int32} (hq0 : xA q0 60) (hF : fX3_firstFault q0 a1 a2 σ = some (r, σ1)) (hls : ls.size = nL) (hW : (rest.map fun v => v.category).sum ≤ 8) (hdg : decode cc pc = .ok (.invokestatic index, 3)) (kk : ∀ (H1 : Heap) (locs1 : List Loc), kWS E s (cmb σ1 ω) H1 locs1 → W p l e R s m args below meth c H1 locs1 cells slots Q (F0 m (pc + 3) ls (.int r :: rest))) (hf : cells ≤ R.cells ∧ slots ≤ R.slots := by exact ⟨Nat.le_of_ble_eq_true rfl, Nat.le_of_ble_eq_true rfl⟩) : W p l e R s m args below meth c H locs cells slots Q (F0 m pc ls (.int a2 :: .int a1 :: .ref (ead E q0) :: rest)) := kr_calli (mc := 0) (y := yX3_firstFault) (b := cX3_firstFault) (n := 0) (lv := 0) (As := []) (ret := some .int) hw (kr_runS (As := [.ref (ead E q0), .int a1, .int a2]) S hw ((mX3_firstFault (l := l) (E := E) (ω := ω) hq0 hF) H.size) cw hR rfl hls _ rfl hW hdg hf) (fun H1 locs1 h _ => kk H1 locs1 h)
set_option maxHeartbeats 4000000 in
set_option maxRecDepth 100000 in
theorem mX3_kindOf {l : Launch} {E : kE} {ω σ σ1 : kS} {r : Int32} {a0 : Int32}  (hF : fX3_kindOf a0 σ = some (r, σ1)) : kMetI l yX3_kindOf cX3_kindOf 1 (some .int) 0 E [.int a0] (cmb σ ω) r (cmb σ1 ω) := by
  refine kMetI.of (by decide +kernel) (Nat.le_of_ble_eq_true rfl) (Or.inl rfl) ?_
  intro p e s m args below meth c Q ls S hR hw hl
  have hl : lv_has ls 1 [(0, .int a0)] := hl
  unfold fX3_kindOf at hF
  refine lv_iload_n S.1 S.2.1 dX3_kindOf_0 rfl (lv_at hl 0 rfl) ?_
  refine lv_bipush (v := 107) S.1 S.2.1 dX3_kindOf_1 (by decide) ?_
  refine lv_icmp_ne (tgt := 8) S.1 S.2.1 dX3_kindOf_3 (by decide) (fun c1 => ?_) (fun c1 => ?_)
  · replace hF := kif hF c1
    refine lv_iload_n S.1 S.2.1 dX3_kindOf_8 rfl (lv_at hl 0 rfl) ?_
    refine lv_bipush (v := 114) S.1 S.2.1 dX3_kindOf_9 (by decide) ?_
    refine lv_icmp_ne (tgt := 18) S.1 S.2.1 dX3_kindOf_11 (by decide) (fun c2 => ?_) (fun c2 => ?_)
    · replace hF := kif hF c2
      refine lv_iconst (v := 0) S.1 S.2.1 dX3_kindOf_18 (by decide) ?_
      obtain ⟨rfl, rfl⟩ := kret hF
      exact hR _ _ _ _ dX3_kindOf_19 hw (fun h => nomatch h)
    · replace hF := kit hF c2
      refine lv_iconst (v := 1) S.1 S.2.1 dX3_kindOf_14 (by decide) ?_
      obtain ⟨rfl, rfl⟩ := kret hF
      exact hR _ _ _ _ dX3_kindOf_19 hw (fun h => nomatch h)
  · replace hF := kit hF c1
    refine lv_iconst (v := 2) S.1 S.2.1 dX3_kindOf_6 (by decide) ?_
    obtain ⟨rfl, rfl⟩ := kret hF
    exact hR _ _ _ _ dX3_kindOf_7 hw (fun h => nomatch h)
set_option maxRecDepth 100000 in
theorem kcX3_kindOf {p : Program} {l : Launch} {e : Env} {R : Room} {s : State} {m : MethodId} {args : Array Value} {below : List Frame} {meth : Method} {c : Code} {H : Heap} {locs : List Loc} {cells slots : Nat} {Q : State → Prop} {cc : ByteArray} {pc : Nat} {ls : Array Slot} {rest : List Value} {E : kE} {σ ω σ1 : kS} {nL index : Nat} {own : String} {r : Int32} (S : CallFix p m c cc nL s args kBIG own) (hw : kWS E s (cmb σ ω) H locs) (cw : kSt own index yX3_kindOf cX3_kindOf 1 (some .int) 1) (hR : 0 + 1 ≤ R.frames ∧ 8 + (1 + 11) + 30 * 0 ≤ R.locals) {a0 : Int32}  (hF : fX3_kindOf a0 σ = some (r, σ1)) (hls : ls.size = nL) (hW : (rest.map fun v => v.category).sum ≤ 8) (hdg : decode cc pc = .ok (.invokestatic index, 3)) (kk : ∀ (H1 : Heap) (locs1 : List Loc), kWS E s (cmb σ1 ω) H1 locs1 → W p l e R s m args below meth c H1 locs1 cells slots Q (F0 m (pc + 3) ls (.int r :: rest))) (hf : cells ≤ R.cells ∧ slots ≤ R.slots := by exact ⟨Nat.le_of_ble_eq_true rfl, Nat.le_of_ble_eq_true rfl⟩) : W p l e R s m args below meth c H locs cells slots Q (F0 m pc ls (.int a0 :: rest)) := kr_calli (mc := 0) (y := yX3_kindOf) (b := cX3_kindOf) (n := 0) (lv := 0) (As := []) (ret := some .int) hw (kr_runS (As := [.int a0]) S hw ((mX3_kindOf (l := l) (E := E) (ω := ω) hF) H.size) cw hR rfl hls _ rfl hW hdg hf) (fun H1 locs1 h _ => kk H1 locs1 h)
set_option maxHeartbeats 4000000 in
set_option maxRecDepth 100000 in
theorem wX3_fill_L36 {p : Program} {l : Launch} {e : Env} {s : State} {m : MethodId} {args : Array Value} {below : List Frame} {meth : Method} {c : Code} {Q : State → Prop} {E : kE} {ω σ1 : kS} (S : CallFix p m c cX3_fill 6 s args kBIG RX3) (hR : kRetV p l e (rml 1) s m args below meth c cX3_fill E Q (cmb σ1 ω))  : ∀ (n : Nat), ∀ (q0 : Nat) (q1 : Nat) (a2 : Int32) (a4 : Int32) (hq0 : isM q0) (hq1 : xA q1 60) (σ : kS) (H : Heap) (locs : List Loc) (ls : Array Slot), fX3_fill_L36 n q0 q1 a2 a4 σ = some σ1 → kWS E s (cmb σ ω) H locs → lv_has ls 6 [(0, .ref (ead E q0)), (1, .ref (ead E q1)), (2, .int a2), (4, .int a4)] → W p l e (rml 1) s m args below meth c H locs 0 0 Q (F0 m 36 ls []) := by
  intro n
  induction n with
  | zero =>
    intro q0 q1 a2 a4 hq0 hq1 σ H locs ls hF hw hl
    exact absurd hF (fun h => nomatch h)
  | succ n ih =>
    intro q0 q1 a2 a4 hq0 hq1 σ H locs ls hF hw hl
    rw [fX3_fill_L36] at hF
    refine lv_iload S.1 S.2.1 dX3_fill_36 (lv_at hl 3 rfl) ?_
    refine lv_aload_n S.1 S.2.1 dX3_fill_38 rfl (lv_at hl 0 rfl) ?_
    refine gf_X3_30 S hw hq0.1 hq0.2.1 rfl dX3_fill_39 ?_
    refine lv_icmp_ge (tgt := 125) S.1 S.2.1 dX3_fill_42 (by decide) (fun c3 => ?_) (fun c3 => ?_)
    · replace hF := kit hF c3
      cases kre hF
      exact hR _ _ _ _ dX3_fill_125 hw
    · replace hF := kif hF c3
      refine lv_iload_n S.1 S.2.1 dX3_fill_45 rfl (lv_at hl 2 rfl) ?_
      refine lv_iconst (v := 3) S.1 S.2.1 dX3_fill_46 (by decide) ?_
      refine lv_iadd S.1 S.2.1 dX3_fill_47 ?_
      refine lv_iconst (v := 5) S.1 S.2.1 dX3_fill_48 (by decide) ?_
      refine lv_iload S.1 S.2.1 dX3_fill_49 (lv_at hl 3 rfl) ?_
      refine lv_imul S.1 S.2.1 dX3_fill_51 ?_
      refine lv_iadd S.1 S.2.1 dX3_fill_52 ?_
      refine lv_topi (fun v4 ev4 => ?_)
      replace hF := klb hF ev4
      refine lv_istore (lv' := [(5, .int v4), (0, .ref (ead E q0)), (1, .ref (ead E q1)), (2, .int a2), (4, .int a4)]) S.1 S.2.1 dX3_fill_53 hl (by decide) rfl (fun ls hl => ?_)
      refine lv_aload_n S.1 S.2.1 dX3_fill_55 rfl (lv_at hl 1 rfl) ?_
      refine gf_X3_33 S hw hq0.1 hq0.2.1 rfl dX3_fill_56 ?_
      refine lv_iload S.1 S.2.1 dX3_fill_59 (lv_at hl 4 rfl) ?_
      refine lv_aload_n S.1 S.2.1 dX3_fill_61 rfl (lv_at hl 2 rfl) ?_
      refine lv_iload S.1 S.2.1 dX3_fill_62 (lv_at hl 0 rfl) ?_
      refine lv_iconst (v := 1) S.1 S.2.1 dX3_fill_64 (by decide) ?_
      refine lv_iadd S.1 S.2.1 dX3_fill_65 ?_
      obtain ⟨hb5, hF⟩ := kin hF
      refine kx_iald (q := q1) S hw hq1.1 hq1.2 hb5 dX3_fill_66 ?_
      obtain ⟨r8, σ7, e6, hF⟩ := kbi_e hF
      refine kcX3_kindOf S hw cv_X3_37 ⟨Nat.le_of_ble_eq_true rfl, Nat.le_of_ble_eq_true rfl⟩ e6 hl.1 (Nat.le_of_ble_eq_true rfl) dX3_fill_67 (fun H locs hw => ?_)
      obtain ⟨hb9, hF⟩ := kin hF
      refine kx_iast (q := q0 + 1) S hw hq0.2.2.1.1 hq0.2.2.1.2 hb9 dX3_fill_70 (fun H locs hw => ?_)
      refine lv_aload_n S.1 S.2.1 dX3_fill_71 rfl (lv_at hl 1 rfl) ?_
      refine gf_X3_41 S hw hq0.1 hq0.2.1 rfl dX3_fill_72 ?_
      refine lv_iload S.1 S.2.1 dX3_fill_75 (lv_at hl 4 rfl) ?_
      refine lv_aload_n S.1 S.2.1 dX3_fill_77 rfl (lv_at hl 2 rfl) ?_
      refine lv_iload S.1 S.2.1 dX3_fill_78 (lv_at hl 0 rfl) ?_
      refine lv_iconst (v := 2) S.1 S.2.1 dX3_fill_80 (by decide) ?_
      refine lv_iadd S.1 S.2.1 dX3_fill_81 ?_
      obtain ⟨hb10, hF⟩ := kin hF
      refine kx_iald (q := q1) S hw hq1.1 hq1.2 hb10 dX3_fill_82 ?_
      refine lv_bipush (v := 48) S.1 S.2.1 dX3_fill_83 (by decide) ?_
      refine lv_isub S.1 S.2.1 dX3_fill_85 ?_
      obtain ⟨hb11, hF⟩ := kin hF
      refine kx_iast (q := q0 + 2) S hw hq0.2.2.2.1.1 hq0.2.2.2.1.2 hb11 dX3_fill_86 (fun H locs hw => ?_)
      refine lv_aload_n S.1 S.2.1 dX3_fill_87 rfl (lv_at hl 1 rfl) ?_
      refine gf_X3_44 S hw hq0.1 hq0.2.1 rfl dX3_fill_88 ?_
      refine lv_iload S.1 S.2.1 dX3_fill_91 (lv_at hl 4 rfl) ?_
      refine lv_aload_n S.1 S.2.1 dX3_fill_93 rfl (lv_at hl 2 rfl) ?_
      refine lv_iload S.1 S.2.1 dX3_fill_94 (lv_at hl 0 rfl) ?_
      refine lv_iconst (v := 3) S.1 S.2.1 dX3_fill_96 (by decide) ?_
      refine lv_iadd S.1 S.2.1 dX3_fill_97 ?_
      obtain ⟨hb12, hF⟩ := kin hF
      refine kx_iald (q := q1) S hw hq1.1 hq1.2 hb12 dX3_fill_98 ?_
      refine lv_bipush (v := 48) S.1 S.2.1 dX3_fill_99 (by decide) ?_
      refine lv_isub S.1 S.2.1 dX3_fill_101 ?_
      obtain ⟨hb13, hF⟩ := kin hF
      refine kx_iast (q := q0 + 3) S hw hq0.2.2.2.2.1.1 hq0.2.2.2.2.1.2 hb13 dX3_fill_102 (fun H locs hw => ?_)
      refine lv_aload_n S.1 S.2.1 dX3_fill_103 rfl (lv_at hl 1 rfl) ?_
      refine gf_X3_47 S hw hq0.1 hq0.2.1 rfl dX3_fill_104 ?_
      refine lv_iload S.1 S.2.1 dX3_fill_107 (lv_at hl 4 rfl) ?_
      refine lv_aload_n S.1 S.2.1 dX3_fill_109 rfl (lv_at hl 2 rfl) ?_
      refine lv_iload S.1 S.2.1 dX3_fill_110 (lv_at hl 0 rfl) ?_
      refine lv_iconst (v := 4) S.1 S.2.1 dX3_fill_112 (by decide) ?_
      refine lv_iadd S.1 S.2.1 dX3_fill_113 ?_
      obtain ⟨hb14, hF⟩ := kin hF
      refine kx_iald (q := q1) S hw hq1.1 hq1.2 hb14 dX3_fill_114 ?_
      refine lv_bipush (v := 48) S.1 S.2.1 dX3_fill_115 (by decide) ?_
      refine lv_isub S.1 S.2.1 dX3_fill_117 ?_
      obtain ⟨hb15, hF⟩ := kin hF
      refine kx_iast (q := q0 + 4) S hw hq0.2.2.2.2.2.1 hq0.2.2.2.2.2.2 hb15 dX3_fill_118 (fun H locs hw => ?_)
      obtain ⟨v16, ev16⟩ : ∃ y : Int32, y = a4 + 1 := ⟨_, rfl⟩
      replace hF := klb hF ev16
      refine lv_iinc (v := v16) (lv' := [(4, .int v16), (5, .int v4), (0, .ref (ead E q0)), (1, .ref (ead E q1)), (2, .int a2)]) S.1 S.2.1 dX3_fill_119 hl (k := 4) rfl (by rw [ev16]; rfl) (by decide) rfl (fun ls hl => ?_)
      exact ih q0 q1 a2 v16 hq0 hq1 _ _ _ _ hF hw (lv_sub hl [2, 3, 4, 0] rfl)
set_option maxHeartbeats 4000000 in
set_option maxRecDepth 100000 in
theorem mX3_fill {l : Launch} {E : kE} {ω σ σ1 : kS} {q0 : Nat} {q1 : Nat} {a2 : Int32} {a3 : Int32} (hq0 : isM q0) (hq1 : xA q1 60) (hF : fX3_fill q0 q1 a2 a3 σ = some σ1) : kMetV l yX3_fill cX3_fill 6 1 E [.ref (ead E q0), .ref (ead E q1), .int a2, .int a3] (cmb σ ω) (cmb σ1 ω) := by
  refine kMetV.of (by decide +kernel) (Nat.le_of_ble_eq_true rfl) ?_
  intro p e s m args below meth c Q ls S hR hw hl
  have hl : lv_has ls 6 [(0, .ref (ead E q0)), (1, .ref (ead E q1)), (2, .int a2), (3, .int a3)] := hl
  unfold fX3_fill at hF
  refine lv_aload_n S.1 S.2.1 dX3_fill_0 rfl (lv_at hl 0 rfl) ?_
  refine lv_aload_n S.1 S.2.1 dX3_fill_1 rfl (lv_at hl 1 rfl) ?_
  refine lv_iload_n S.1 S.2.1 dX3_fill_2 rfl (lv_at hl 2 rfl) ?_
  refine lv_iconst (v := 1) S.1 S.2.1 dX3_fill_3 (by decide) ?_
  refine lv_iadd S.1 S.2.1 dX3_fill_4 ?_
  obtain ⟨hb1, hF⟩ := kin hF
  refine kx_iald (q := q1) S hw hq1.1 hq1.2 hb1 dX3_fill_5 ?_
  refine lv_bipush (v := 48) S.1 S.2.1 dX3_fill_6 (by decide) ?_
  refine lv_isub S.1 S.2.1 dX3_fill_8 ?_
  refine pf_X3_21 S hw hq0.1 hq0.2.1 rfl dX3_fill_9 (fun H locs hw => ?_)
  refine lv_aload_n S.1 S.2.1 dX3_fill_12 rfl (lv_at hl 0 rfl) ?_
  refine lv_aload_n S.1 S.2.1 dX3_fill_13 rfl (lv_at hl 1 rfl) ?_
  refine lv_iload_n S.1 S.2.1 dX3_fill_14 rfl (lv_at hl 2 rfl) ?_
  refine lv_iconst (v := 2) S.1 S.2.1 dX3_fill_15 (by decide) ?_
  refine lv_iadd S.1 S.2.1 dX3_fill_16 ?_
  obtain ⟨hb2, hF⟩ := kin hF
  refine kx_iald (q := q1) S hw hq1.1 hq1.2 hb2 dX3_fill_17 ?_
  refine lv_bipush (v := 48) S.1 S.2.1 dX3_fill_18 (by decide) ?_
  refine lv_isub S.1 S.2.1 dX3_fill_20 ?_
  refine pf_X3_27 S hw hq0.1 hq0.2.1 rfl dX3_fill_21 (fun H locs hw => ?_)
  refine lv_aload_n S.1 S.2.1 dX3_fill_24 rfl (lv_at hl 0 rfl) ?_
  refine lv_iload_n S.1 S.2.1 dX3_fill_25 rfl (lv_at hl 3 rfl) ?_
  refine lv_iconst (v := 3) S.1 S.2.1 dX3_fill_26 (by decide) ?_
  refine lv_isub S.1 S.2.1 dX3_fill_27 ?_
  refine lv_iconst (v := 5) S.1 S.2.1 dX3_fill_28 (by decide) ?_
  refine lv_idiv S.1 S.2.1 dX3_fill_29 (by decide) ?_
  refine pf_X3_30 S hw hq0.1 hq0.2.1 rfl dX3_fill_30 (fun H locs hw => ?_)
  refine lv_iconst (v := 0) S.1 S.2.1 dX3_fill_33 (by decide) ?_
  refine lv_istore (lv' := [(4, .int 0), (0, .ref (ead E q0)), (1, .ref (ead E q1)), (2, .int a2), (3, .int a3)]) S.1 S.2.1 dX3_fill_34 hl (by decide) rfl (fun ls hl => ?_)
  exact wX3_fill_L36 S hR 1000 q0 q1 a2 0 hq0 hq1 _ _ _ _ hF hw (lv_sub hl [1, 2, 3, 0] rfl)
set_option maxRecDepth 100000 in
theorem kcX3_fill {p : Program} {l : Launch} {e : Env} {R : Room} {s : State} {m : MethodId} {args : Array Value} {below : List Frame} {meth : Method} {c : Code} {H : Heap} {locs : List Loc} {cells slots : Nat} {Q : State → Prop} {cc : ByteArray} {pc : Nat} {ls : Array Slot} {rest : List Value} {E : kE} {σ ω σ1 : kS} {nL index : Nat} {own : String} (S : CallFix p m c cc nL s args kBIG own) (hw : kWS E s (cmb σ ω) H locs) (cw : kSt own index yX3_fill cX3_fill 6 none 4) (hR : 1 + 1 ≤ R.frames ∧ 8 + (6 + 11) + 30 * 1 ≤ R.locals) {q0 : Nat} {q1 : Nat} {a2 : Int32} {a3 : Int32} (hq0 : isM q0) (hq1 : xA q1 60) (hF : fX3_fill q0 q1 a2 a3 σ = some σ1) (hls : ls.size = nL) (hW : (rest.map fun v => v.category).sum ≤ 8) (hdg : decode cc pc = .ok (.invokestatic index, 3)) (kk : ∀ (H1 : Heap) (locs1 : List Loc), kWS E s (cmb σ1 ω) H1 locs1 → W p l e R s m args below meth c H1 locs1 cells slots Q (F0 m (pc + 3) ls rest)) (hf : cells ≤ R.cells ∧ slots ≤ R.slots := by exact ⟨Nat.le_of_ble_eq_true rfl, Nat.le_of_ble_eq_true rfl⟩) : W p l e R s m args below meth c H locs cells slots Q (F0 m pc ls (.int a3 :: .int a2 :: .ref (ead E q1) :: .ref (ead E q0) :: rest)) := kr_callv hw (kr_runS (As := [.ref (ead E q0), .ref (ead E q1), .int a2, .int a3]) S hw ((mX3_fill (l := l) (E := E) (ω := ω) hq0 hq1 hF) H.size) cw hR rfl hls _ rfl hW hdg hf) kk
set_option maxHeartbeats 4000000 in
set_option maxRecDepth 100000 in
theorem mX4_isSheet {l : Launch} {E : kE} {ω σ σ1 : kS} {r : Int32} {a0 : Int32}  (hF : fX4_isSheet a0 σ = some (r, σ1)) : kMetI l yX4_isSheet cX4_isSheet 1 (some .boolean) 1 E [.int a0] (cmb σ ω) r (cmb σ1 ω) := by
  refine kMetI.of (by decide +kernel) (Nat.le_of_ble_eq_true rfl) (Or.inr rfl) ?_
  intro p e s m args below meth c Q ls S hR hw hl
  have hl : lv_has ls 1 [(0, .int a0)] := hl
  unfold fX4_isSheet at hF
  refine lv_iload_n S.1 S.2.1 dX4_isSheet_0 rfl (lv_at hl 0 rfl) ?_
  refine lv_iconst (v := 4) S.1 S.2.1 dX4_isSheet_1 (by decide) ?_
  obtain ⟨r3, σ2, e1, hF⟩ := kbi_e hF
  refine kcX4_isBelow S hw cv_X4_59 ⟨Nat.le_of_ble_eq_true rfl, Nat.le_of_ble_eq_true rfl⟩ e1 hl.1 (Nat.le_of_ble_eq_true rfl) dX4_isSheet_2 (fun H locs hw hz4 => ?_)
  obtain ⟨rfl, rfl⟩ := kret hF
  exact hR _ _ _ _ dX4_isSheet_5 hw (fun _ => (hz4 rfl))
set_option maxRecDepth 100000 in
theorem kcX4_isSheet {p : Program} {l : Launch} {e : Env} {R : Room} {s : State} {m : MethodId} {args : Array Value} {below : List Frame} {meth : Method} {c : Code} {H : Heap} {locs : List Loc} {cells slots : Nat} {Q : State → Prop} {cc : ByteArray} {pc : Nat} {ls : Array Slot} {rest : List Value} {E : kE} {σ ω σ1 : kS} {nL index : Nat} {own : String} {r : Int32} (S : CallFix p m c cc nL s args kBIG own) (hw : kWS E s (cmb σ ω) H locs) (cw : kSt own index yX4_isSheet cX4_isSheet 1 (some .boolean) 1) (hR : 1 + 1 ≤ R.frames ∧ 8 + (1 + 11) + 30 * 1 ≤ R.locals) {a0 : Int32}  (hF : fX4_isSheet a0 σ = some (r, σ1)) (hls : ls.size = nL) (hW : (rest.map fun v => v.category).sum ≤ 8) (hdg : decode cc pc = .ok (.invokestatic index, 3)) (kk : ∀ (H1 : Heap) (locs1 : List Loc), kWS E s (cmb σ1 ω) H1 locs1 → ((some .boolean) = some .boolean → r = 0 ∨ r = 1) → W p l e R s m args below meth c H1 locs1 cells slots Q (F0 m (pc + 3) ls (.int r :: rest))) (hf : cells ≤ R.cells ∧ slots ≤ R.slots := by exact ⟨Nat.le_of_ble_eq_true rfl, Nat.le_of_ble_eq_true rfl⟩) : W p l e R s m args below meth c H locs cells slots Q (F0 m pc ls (.int a0 :: rest)) := kr_calli (mc := 0) (y := yX4_isSheet) (b := cX4_isSheet) (n := 0) (lv := 0) (As := []) hw (kr_runS (As := [.int a0]) S hw ((mX4_isSheet (l := l) (E := E) (ω := ω) hF) H.size) cw hR rfl hls _ rfl hW hdg hf) kk
set_option maxHeartbeats 4000000 in
set_option maxRecDepth 100000 in
theorem mX4_faulted {l : Launch} {E : kE} {ω σ σ1 : kS} {r : Int32} {a1 : Int32}  (hF : fX4_faulted a1 σ = some (r, σ1)) : kMetI l yX4_faulted cX4_faulted 2 (some .int) 0 E [.ref (ead E 0), .int a1] (cmb σ ω) r (cmb σ1 ω) := by
  refine kMetI.of (by decide +kernel) (Nat.le_of_ble_eq_true rfl) (Or.inl rfl) ?_
  intro p e s m args below meth c Q ls S hR hw hl
  have hl : lv_has ls 2 [(0, .ref (ead E 0)), (1, .int a1)] := hl
  unfold fX4_faulted at hF
  refine lv_aload_n S.1 S.2.1 dX4_faulted_0 rfl (lv_at hl 0 rfl) ?_
  refine lv_iload_n S.1 S.2.1 dX4_faulted_1 rfl (lv_at hl 1 rfl) ?_
  refine pf_X4_51 (q := 0) S hw rfl (Nat.le_of_ble_eq_true rfl) rfl dX4_faulted_2 (fun H locs hw => ?_)
  refine lv_bipush (v := (-10)) S.1 S.2.1 dX4_faulted_5 (by decide) ?_
  refine lv_iload_n S.1 S.2.1 dX4_faulted_7 rfl (lv_at hl 1 rfl) ?_
  refine lv_isub S.1 S.2.1 dX4_faulted_8 ?_
  obtain ⟨rfl, rfl⟩ := kret hF
  exact hR _ _ _ _ dX4_faulted_9 hw (fun h => nomatch h)
set_option maxRecDepth 100000 in
theorem kcX4_faulted {p : Program} {l : Launch} {e : Env} {R : Room} {s : State} {m : MethodId} {args : Array Value} {below : List Frame} {meth : Method} {c : Code} {H : Heap} {locs : List Loc} {cells slots : Nat} {Q : State → Prop} {cc : ByteArray} {pc : Nat} {ls : Array Slot} {rest : List Value} {E : kE} {σ ω σ1 : kS} {nL index : Nat} {own : String} {r : Int32} (S : CallFix p m c cc nL s args kBIG own) (hw : kWS E s (cmb σ ω) H locs) (cw : kV own RX4 index yX4_faulted cX4_faulted 2 (some .int) 1) (hR : 0 + 1 ≤ R.frames ∧ 8 + (2 + 11) + 30 * 0 ≤ R.locals) {a1 : Int32}  (hF : fX4_faulted a1 σ = some (r, σ1)) (hls : ls.size = nL) (hW : (rest.map fun v => v.category).sum ≤ 8) (hdg : decode cc pc = .ok (.invokevirtual index, 3)) (kk : ∀ (H1 : Heap) (locs1 : List Loc), kWS E s (cmb σ1 ω) H1 locs1 → W p l e R s m args below meth c H1 locs1 cells slots Q (F0 m (pc + 3) ls (.int r :: rest))) (hf : cells ≤ R.cells ∧ slots ≤ R.slots := by exact ⟨Nat.le_of_ble_eq_true rfl, Nat.le_of_ble_eq_true rfl⟩) : W p l e R s m args below meth c H locs cells slots Q (F0 m pc ls (.int a1 :: .ref (ead E 0) :: rest)) := kr_calli (mc := 0) (y := yX4_faulted) (b := cX4_faulted) (n := 0) (lv := 0) (As := []) (ret := some .int) hw (kr_runV (As := [.int a1]) (q := 0) S hw ((mX4_faulted (l := l) (E := E) (ω := ω) hF) H.size) cw hR rfl (by decide) rfl rfl hls _ rfl hW hdg hf) (fun H1 locs1 h _ => kk H1 locs1 h)
end
section
theorem zz_last : True := trivial
end
